def LX10_wiresAt_4 (wires : Int32) (frm : Nat → Int32) (too : Nat → Int32) (isThere : Nat → Int32) (a1 : Int32) : Nat → (Int32) → (Int32) → Option (Int32)
  | 0, _, _ => none
  | n + 1, v2_1, v3_2 =>
    if wires ≤ v3_2 then
    some v2_1
    else
    if jok v3_2 12 then
    jlet (if (isThere v3_2.toNatClampNeg) = 0 then
    (0 : Int32)
    else
    if (frm v3_2.toNatClampNeg) = a1 then
    (1 : Int32)
    else
    (0 : Int32)) (fun o_10 => 
    jlet (v2_1 + o_10) (fun x_15 => 
    jlet (if (isThere v3_2.toNatClampNeg) = 0 then
    (0 : Int32)
    else
    if (too v3_2.toNatClampNeg) = a1 then
    (1 : Int32)
    else
    (0 : Int32)) (fun o_16 => 
    jlet (x_15 + o_16) (fun x_21 => 
    jlet (v3_2 + (1 : Int32)) (fun x_22 => 
    LX10_wiresAt_4 wires frm too isThere a1 n x_21 x_22)))))
    else none
def fX10_wiresAt (a1 : Int32) (wires : Int32) (frm : Nat → Int32) (too : Nat → Int32) (isThere : Nat → Int32) : Option (Int32) :=
  (LX10_wiresAt_4 wires frm too isThere a1 5000 (0 : Int32) (0 : Int32)).bind (fun o_3 => 
  some o_3)
abbrev rmX10_wiresAt : Room := { frames := 0, cells := 0, slots := 0, locals := 0 }
set_option maxHeartbeats 4000000 in
set_option maxRecDepth 100000 in
theorem tX10_wiresAt (l : Launch) (D : va_G) (ad : Nat → Nat) (cI cJ cZ cW cS cO cG : ClassId) (thrown : Int32) (trace : Int64) (upper : Nat → Int32) (lower : Nat → Int32) (begins : Nat → Int32) (size : Int32) (hasShares : Int32) (wires : Int32) (kind : Nat → Int32) (first : Nat → Int32) (second : Nat → Int32) (times : Nat → Int32) (byy : Nat → Int32) (group : Nat → Int32) (whole : Nat → Int32) (frm : Nat → Int32) (too : Nat → Int32) (isThere : Nat → Int32) (way : Nat → Int32) (sorts : Int32) (ohms : Nat → Int32) (price : Nat → Int32) (above : Int64) (belo : Int64) (a1 : Int32) {o : Int32} (hE : fX10_wiresAt a1 wires frm too isThere = some o) : JMi l yX10_wiresAt wsX10_wiresAt rmX10_wiresAt D vwCl (TY cI cJ cZ cW cS cO cG) [.ref (ad 0), .int a1] (MW ad cI cZ thrown trace upper lower begins size hasShares wires kind first second times byy group whole frm too isThere way sorts ohms price above belo) (MW ad cI cZ thrown trace upper lower begins size hasShares wires kind first second times byy group whole frm too isThere way sorts ohms price above belo) o := by
  refine JMi.of (cc := cX10_wiresAt) (maxL := 4) (by decide) rfl (Nat.le_of_ble_eq_true rfl) ?_
  intro p e s m args below meth c A ls Q C hK hA ret hS hl
  obtain ⟨⟨hx, hb, hml, hown, hts⟩, -⟩ := id C
  have hl : lv_has ls 4 [(0, .ref (ad 0)), (1, .int a1)] := hl
  have inX10 : ∀ w ∈ u_ws RX10 TX10 24, w ∈ wsX10_wiresAt := by decide +kernel
  have k0 := hts (.fieldLink RX10 119 "OhmNetsModel" "wires" "I") (by decide +kernel)
  have k1 := hts (.fieldLink RX10 46 "OhmNetsModel" "isThere" "[Z") (by decide +kernel)
  have k2 := hts (.fieldLink RX10 40 "OhmNetsModel" "from" "[I") (by decide +kernel)
  have k3 := hts (.fieldLink RX10 43 "OhmNetsModel" "to" "[I") (by decide +kernel)
  refine lv_iconst (v := (0 : Int32)) hx hb dX10_wiresAt_0 (by decide) ?_
  refine lv_istore_n (lv' := [(2, .int (0 : Int32)), (0, .ref (ad 0)), (1, .int a1)]) hx hb dX10_wiresAt_1 rfl hl (by decide) rfl (fun ls hl => ?_)
  refine lv_iconst (v := (0 : Int32)) hx hb dX10_wiresAt_2 (by decide) ?_
  refine lv_istore_n (lv' := [(3, .int (0 : Int32)), (2, .int (0 : Int32)), (0, .ref (ad 0)), (1, .int a1)]) hx hb dX10_wiresAt_3 rfl hl (by decide) rfl (fun ls hl => ?_)
  obtain ⟨o_3, L_4, hE⟩ := jbd hE
  have K_5 : jW p l e rmX10_wiresAt s m args below meth c 0 0 Q D vwCl A (MW ad cI cZ thrown trace upper lower begins size hasShares wires kind first second times byy group whole frm too isThere way sorts ohms price above belo) 4 [(2, .int o_3)] 72 [] := by
    intro H locs ls hS hl
    refine lv_iload_n hx hb dX10_wiresAt_72 rfl (lv_at hl 0 rfl) ?_
    obtain rfl := jsm hE
    exact ret hS rfl dX10_wiresAt_73
  have loop_7 : ∀ (n : Nat) (v2_1 : Int32) (v3_2 : Int32), LX10_wiresAt_4 wires frm too isThere a1 n v2_1 v3_2 = some o_3 → jW p l e rmX10_wiresAt s m args below meth c 0 0 Q D vwCl A (MW ad cI cZ thrown trace upper lower begins size hasShares wires kind first second times byy group whole frm too isThere way sorts ohms price above belo) 4 [(0, .ref (ad 0)), (1, .int a1), (2, .int v2_1), (3, .int v3_2)] 4 [] := by
    intro n
    induction n with
    | zero =>
      intro v2_1 v3_2 q_6
      have q_6 : none = some o_3 := q_6
      cases q_6
    | succ n ih =>
      intro v2_1 v3_2 q_6 H locs ls hS hl
      rw [LX10_wiresAt_4] at q_6
      refine lv_iload_n hx hb dX10_wiresAt_4 rfl (lv_at hl 3 rfl) ?_
      refine lv_aload_n hx hb dX10_wiresAt_5 rfl (lv_at hl 0 rfl) ?_
      refine va_get (D := D) (ci := 11) (v := .int wires) (C := RX10) (T := TX10) (N := 24) hx hb hts inX10 hown hK hS.1 0 rfl rfl 7 (by decide) k0 (fun _ h => h) rfl dX10_wiresAt_6 ?_
      refine lv_icmp_ge (tgt := 72) hx hb dX10_wiresAt_9 (by decide) (fun c_8 => ?_) (fun c_8 => ?_)
      · have q_6 := jt q_6 c_8
        obtain rfl := jsm q_6
        exact K_5 _ _ _ hS (lv_sub hl [2] rfl)
      · have q_6 := jf q_6 c_8
        refine lv_iload_n hx hb dX10_wiresAt_12 rfl (lv_at hl 2 rfl) ?_
        refine lv_aload_n hx hb dX10_wiresAt_13 rfl (lv_at hl 0 rfl) ?_
        refine va_get (D := D) (ci := 11) (v := .ref (ad 13)) (C := RX10) (T := TX10) (N := 24) hx hb hts inX10 hown hK hS.1 0 rfl rfl 17 (by decide) k1 (fun _ h => h) rfl dX10_wiresAt_14 ?_
        refine lv_iload_n hx hb dX10_wiresAt_17 rfl (lv_at hl 3 rfl) ?_
        obtain ⟨b_9, q_6⟩ := jgd q_6
        refine va_zald hx hb hK hS.1 13 2 rfl rfl (jin.mpr b_9) dX10_wiresAt_18 ?_
        obtain ⟨o_10, r_12⟩ : ∃ y : Int32, y = (if (isThere v3_2.toNatClampNeg) = 0 then (0 : Int32) else if (frm v3_2.toNatClampNeg) = a1 then (1 : Int32) else (0 : Int32)) := ⟨_, rfl⟩
        have q_6 := jlv q_6 r_12
        have K_11 : jW p l e rmX10_wiresAt s m args below meth c 0 0 Q D vwCl A (MW ad cI cZ thrown trace upper lower begins size hasShares wires kind first second times byy group whole frm too isThere way sorts ohms price above belo) 4 [(0, .ref (ad 0)), (1, .int a1), (3, .int v3_2)] 37 [.int o_10, .int v2_1] := by
          intro H locs ls hS hl
          refine lv_iadd hx hb dX10_wiresAt_37 ?_
          refine lv_topi (fun x_15 ex_15 => ?_)
          have q_6 := jlv q_6 ex_15
          refine lv_istore_n (lv' := [(2, .int x_15), (0, .ref (ad 0)), (1, .int a1), (3, .int v3_2)]) hx hb dX10_wiresAt_38 rfl hl (by decide) rfl (fun ls hl => ?_)
          refine lv_iload_n hx hb dX10_wiresAt_39 rfl (lv_at hl 0 rfl) ?_
          refine lv_aload_n hx hb dX10_wiresAt_40 rfl (lv_at hl 1 rfl) ?_
          refine va_get (D := D) (ci := 11) (v := .ref (ad 13)) (C := RX10) (T := TX10) (N := 24) hx hb hts inX10 hown hK hS.1 0 rfl rfl 17 (by decide) k1 (fun _ h => h) rfl dX10_wiresAt_41 ?_
          refine lv_iload_n hx hb dX10_wiresAt_44 rfl (lv_at hl 3 rfl) ?_
          refine va_zald hx hb hK hS.1 13 2 rfl rfl (jin.mpr b_9) dX10_wiresAt_45 ?_
          obtain ⟨o_16, r_18⟩ : ∃ y : Int32, y = (if (isThere v3_2.toNatClampNeg) = 0 then (0 : Int32) else if (too v3_2.toNatClampNeg) = a1 then (1 : Int32) else (0 : Int32)) := ⟨_, rfl⟩
          have q_6 := jlv q_6 r_18
          have K_17 : jW p l e rmX10_wiresAt s m args below meth c 0 0 Q D vwCl A (MW ad cI cZ thrown trace upper lower begins size hasShares wires kind first second times byy group whole frm too isThere way sorts ohms price above belo) 4 [(0, .ref (ad 0)), (1, .int a1), (3, .int v3_2)] 64 [.int o_16, .int x_15] := by
            intro H locs ls hS hl
            refine lv_iadd hx hb dX10_wiresAt_64 ?_
            refine lv_topi (fun x_21 ex_21 => ?_)
            have q_6 := jlv q_6 ex_21
            refine lv_istore_n (lv' := [(2, .int x_21), (0, .ref (ad 0)), (1, .int a1), (3, .int v3_2)]) hx hb dX10_wiresAt_65 rfl hl (by decide) rfl (fun ls hl => ?_)
            obtain ⟨x_22, ex_22⟩ : ∃ y : Int32, y = v3_2 + (1 : Int32) := ⟨_, rfl⟩
            have q_6 := jlv q_6 ex_22
            refine lv_iinc (v := x_22) (lv' := [(3, .int x_22), (2, .int x_21), (0, .ref (ad 0)), (1, .int a1)]) hx hb dX10_wiresAt_66 hl (k := 3) rfl (by rw [ex_22]; rfl) (by decide) rfl (fun ls hl => ?_)
            refine lv_goto (tgt := 4) hx hb dX10_wiresAt_69 (by decide) ?_
            exact ih x_21 x_22 q_6 _ _ _ hS (lv_sub hl [2, 3, 1, 0] rfl)
          refine lv_if_eq (tgt := 63) hx hb dX10_wiresAt_46 (by decide) (fun c_19 => ?_) (fun c_19 => ?_)
          · have r_18 := r_18.trans (if_pos c_19)
            refine lv_iconst (v := (0 : Int32)) hx hb dX10_wiresAt_63 (by decide) ?_
            subst r_18
            exact K_17 _ _ _ hS (lv_sub hl [1, 2, 3] rfl)
          · have r_18 := r_18.trans (if_neg c_19)
            refine lv_aload_n hx hb dX10_wiresAt_49 rfl (lv_at hl 1 rfl) ?_
            refine va_get (D := D) (ci := 11) (v := .ref (ad 12)) (C := RX10) (T := TX10) (N := 24) hx hb hts inX10 hown hK hS.1 0 rfl rfl 16 (by decide) k3 (fun _ h => h) rfl dX10_wiresAt_50 ?_
            refine lv_iload_n hx hb dX10_wiresAt_53 rfl (lv_at hl 3 rfl) ?_
            refine va_iald hx hb hK hS.1 12 0 rfl rfl (jin.mpr b_9) dX10_wiresAt_54 ?_
            refine lv_iload_n hx hb dX10_wiresAt_55 rfl (lv_at hl 2 rfl) ?_
            refine lv_icmp_ne (tgt := 63) hx hb dX10_wiresAt_56 (by decide) (fun c_20 => ?_) (fun c_20 => ?_)
            · have r_18 := r_18.trans (if_neg c_20)
              refine lv_iconst (v := (0 : Int32)) hx hb dX10_wiresAt_63 (by decide) ?_
              subst r_18
              exact K_17 _ _ _ hS (lv_sub hl [1, 2, 3] rfl)
            · have r_18 := r_18.trans (if_pos c_20)
              refine lv_iconst (v := (1 : Int32)) hx hb dX10_wiresAt_59 (by decide) ?_
              refine lv_goto (tgt := 64) hx hb dX10_wiresAt_60 (by decide) ?_
              subst r_18
              exact K_17 _ _ _ hS (lv_sub hl [1, 2, 3] rfl)
        refine lv_if_eq (tgt := 36) hx hb dX10_wiresAt_19 (by decide) (fun c_13 => ?_) (fun c_13 => ?_)
        · have r_12 := r_12.trans (if_pos c_13)
          refine lv_iconst (v := (0 : Int32)) hx hb dX10_wiresAt_36 (by decide) ?_
          subst r_12
          exact K_11 _ _ _ hS (lv_sub hl [0, 1, 3] rfl)
        · have r_12 := r_12.trans (if_neg c_13)
          refine lv_aload_n hx hb dX10_wiresAt_22 rfl (lv_at hl 0 rfl) ?_
          refine va_get (D := D) (ci := 11) (v := .ref (ad 11)) (C := RX10) (T := TX10) (N := 24) hx hb hts inX10 hown hK hS.1 0 rfl rfl 15 (by decide) k2 (fun _ h => h) rfl dX10_wiresAt_23 ?_
          refine lv_iload_n hx hb dX10_wiresAt_26 rfl (lv_at hl 3 rfl) ?_
          refine va_iald hx hb hK hS.1 11 0 rfl rfl (jin.mpr b_9) dX10_wiresAt_27 ?_
          refine lv_iload_n hx hb dX10_wiresAt_28 rfl (lv_at hl 1 rfl) ?_
          refine lv_icmp_ne (tgt := 36) hx hb dX10_wiresAt_29 (by decide) (fun c_14 => ?_) (fun c_14 => ?_)
          · have r_12 := r_12.trans (if_neg c_14)
            refine lv_iconst (v := (0 : Int32)) hx hb dX10_wiresAt_36 (by decide) ?_
            subst r_12
            exact K_11 _ _ _ hS (lv_sub hl [0, 1, 3] rfl)
          · have r_12 := r_12.trans (if_pos c_14)
            refine lv_iconst (v := (1 : Int32)) hx hb dX10_wiresAt_32 (by decide) ?_
            refine lv_goto (tgt := 37) hx hb dX10_wiresAt_33 (by decide) ?_
            subst r_12
            exact K_11 _ _ _ hS (lv_sub hl [0, 1, 3] rfl)
  exact loop_7 5000 (0 : Int32) (0 : Int32) L_4 _ _ _ hS (lv_sub hl [2, 3, 1, 0] rfl)
def LX10_links_5 (wires : Int32) (a1 : Int32) : Nat → (Int32) → (Int32) → (Nat → Int32) → (Nat → Int32) → (Nat → Int32) → Option ((Nat → Int32) × (Nat → Int32) × (Nat → Int32))
  | 0, _, _, _, _, _ => none
  | n + 1, v2_1, v3_2, frm_3, too_4, isThere_5 =>
    if wires ≤ v3_2 then
    some (frm_3, too_4, isThere_5)
    else
    if jok v3_2 12 then
    (if (isThere_5 v3_2.toNatClampNeg) = 0 then
    some (v2_1, frm_3, too_4, isThere_5)
    else
    if (frm_3 v3_2.toNatClampNeg) = a1 then
    jlet (if (frm_3 v3_2.toNatClampNeg) = a1 then
    (too_4 v3_2.toNatClampNeg)
    else
    (frm_3 v3_2.toNatClampNeg)) (fun o_18 => 
    if v2_1 = (-9 : Int32) then
    jlet (upd frm_3 v3_2.toNatClampNeg o_18) (fun frm_26 => 
    jlet (upd too_4 v3_2.toNatClampNeg a1) (fun too_27 => 
    some (v3_2, frm_26, too_27, isThere_5)))
    else
    if jok v2_1 12 then
    jlet (upd too_4 v2_1.toNatClampNeg o_18) (fun too_24 => 
    jlet (upd isThere_5 v3_2.toNatClampNeg (vp_nar .boolean (0 : Int32))) (fun isThere_25 => 
    some (v2_1, frm_3, too_24, isThere_25)))
    else none)
    else
    if (too_4 v3_2.toNatClampNeg) = a1 then
    jlet (if (frm_3 v3_2.toNatClampNeg) = a1 then
    (too_4 v3_2.toNatClampNeg)
    else
    (frm_3 v3_2.toNatClampNeg)) (fun o_29 => 
    if v2_1 = (-9 : Int32) then
    jlet (upd frm_3 v3_2.toNatClampNeg o_29) (fun frm_37 => 
    jlet (upd too_4 v3_2.toNatClampNeg a1) (fun too_38 => 
    some (v3_2, frm_37, too_38, isThere_5)))
    else
    if jok v2_1 12 then
    jlet (upd too_4 v2_1.toNatClampNeg o_29) (fun too_35 => 
    jlet (upd isThere_5 v3_2.toNatClampNeg (vp_nar .boolean (0 : Int32))) (fun isThere_36 => 
    some (v2_1, frm_3, too_35, isThere_36)))
    else none)
    else
    some (v2_1, frm_3, too_4, isThere_5)).bind (fun o_13 => 
    jlet (v3_2 + (1 : Int32)) (fun x_39 => 
    LX10_links_5 wires a1 n o_13.1 x_39 o_13.2.1 o_13.2.2.1 o_13.2.2.2))
    else none
def fX10_links (a1 : Int32) (wires : Int32) (frm : Nat → Int32) (too : Nat → Int32) (isThere : Nat → Int32) : Option ((Nat → Int32) × (Nat → Int32) × (Nat → Int32)) :=
  (LX10_links_5 wires a1 5000 (-9 : Int32) (0 : Int32) frm too isThere).bind (fun o_6 => 
  some (o_6.1, o_6.2.1, o_6.2.2))
abbrev rmX10_links : Room := { frames := 0, cells := 0, slots := 0, locals := 0 }
set_option maxHeartbeats 4000000 in
set_option maxRecDepth 100000 in
theorem tX10_links (l : Launch) (D : va_G) (ad : Nat → Nat) (cI cJ cZ cW cS cO cG : ClassId) (thrown : Int32) (trace : Int64) (upper : Nat → Int32) (lower : Nat → Int32) (begins : Nat → Int32) (size : Int32) (hasShares : Int32) (wires : Int32) (kind : Nat → Int32) (first : Nat → Int32) (second : Nat → Int32) (times : Nat → Int32) (byy : Nat → Int32) (group : Nat → Int32) (whole : Nat → Int32) (frm : Nat → Int32) (too : Nat → Int32) (isThere : Nat → Int32) (way : Nat → Int32) (sorts : Int32) (ohms : Nat → Int32) (price : Nat → Int32) (above : Int64) (belo : Int64) (a1 : Int32) {o : (Nat → Int32) × (Nat → Int32) × (Nat → Int32)} (hE : fX10_links a1 wires frm too isThere = some o) : JMv l yX10_links wsX10_links rmX10_links D vwCl (TY cI cJ cZ cW cS cO cG) [.ref (ad 0), .int a1] (MW ad cI cZ thrown trace upper lower begins size hasShares wires kind first second times byy group whole frm too isThere way sorts ohms price above belo) (MW ad cI cZ thrown trace upper lower begins size hasShares wires kind first second times byy group whole o.1 o.2.1 o.2.2 way sorts ohms price above belo) := by
  refine JMv.of (cc := cX10_links) (maxL := 5) (by decide) rfl (Nat.le_of_ble_eq_true rfl) ?_
  intro p e s m args below meth c A ls Q C hK hA ret hS hl
  obtain ⟨⟨hx, hb, hml, hown, hts⟩, -⟩ := id C
  have hl : lv_has ls 5 [(0, .ref (ad 0)), (1, .int a1)] := hl
  have inX10 : ∀ w ∈ u_ws RX10 TX10 24, w ∈ wsX10_links := by decide +kernel
  have k0 := hts (.fieldLink RX10 119 "OhmNetsModel" "wires" "I") (by decide +kernel)
  have k1 := hts (.fieldLink RX10 46 "OhmNetsModel" "isThere" "[Z") (by decide +kernel)
  have k2 := hts (.fieldLink RX10 40 "OhmNetsModel" "from" "[I") (by decide +kernel)
  have k3 := hts (.fieldLink RX10 43 "OhmNetsModel" "to" "[I") (by decide +kernel)
  refine lv_bipush (v := (-9 : Int32)) hx hb dX10_links_0 (by decide) ?_
  refine lv_istore_n (lv' := [(2, .int (-9 : Int32)), (0, .ref (ad 0)), (1, .int a1)]) hx hb dX10_links_2 rfl hl (by decide) rfl (fun ls hl => ?_)
  refine lv_iconst (v := (0 : Int32)) hx hb dX10_links_3 (by decide) ?_
  refine lv_istore_n (lv' := [(3, .int (0 : Int32)), (2, .int (-9 : Int32)), (0, .ref (ad 0)), (1, .int a1)]) hx hb dX10_links_4 rfl hl (by decide) rfl (fun ls hl => ?_)
  obtain ⟨o_6, L_7, hE⟩ := jbd hE
  have K_8 : jW p l e rmX10_links s m args below meth c 0 0 Q D vwCl A (MW ad cI cZ thrown trace upper lower begins size hasShares wires kind first second times byy group whole o_6.1 o_6.2.1 o_6.2.2 way sorts ohms price above belo) 5 [] 116 [] := by
    intro H locs ls hS hl
    obtain rfl := jsm hE
    exact ret hS dX10_links_116
  have loop_10 : ∀ (n : Nat) (v2_1 : Int32) (v3_2 : Int32) (frm_3 : Nat → Int32) (too_4 : Nat → Int32) (isThere_5 : Nat → Int32), LX10_links_5 wires a1 n v2_1 v3_2 frm_3 too_4 isThere_5 = some o_6 → jW p l e rmX10_links s m args below meth c 0 0 Q D vwCl A (MW ad cI cZ thrown trace upper lower begins size hasShares wires kind first second times byy group whole frm_3 too_4 isThere_5 way sorts ohms price above belo) 5 [(0, .ref (ad 0)), (1, .int a1), (2, .int v2_1), (3, .int v3_2)] 5 [] := by
    intro n
    induction n with
    | zero =>
      intro v2_1 v3_2 frm_3 too_4 isThere_5 q_9
      have q_9 : none = some o_6 := q_9
      cases q_9
    | succ n ih =>
      intro v2_1 v3_2 frm_3 too_4 isThere_5 q_9 H locs ls hS hl
      rw [LX10_links_5] at q_9
      refine lv_iload_n hx hb dX10_links_5 rfl (lv_at hl 3 rfl) ?_
      refine lv_aload_n hx hb dX10_links_6 rfl (lv_at hl 0 rfl) ?_
      refine va_get (D := D) (ci := 11) (v := .int wires) (C := RX10) (T := TX10) (N := 24) hx hb hts inX10 hown hK hS.1 0 rfl rfl 7 (by decide) k0 (fun _ h => h) rfl dX10_links_7 ?_
      refine lv_icmp_ge (tgt := 116) hx hb dX10_links_10 (by decide) (fun c_11 => ?_) (fun c_11 => ?_)
      · have q_9 := jt q_9 c_11
        obtain rfl := jsm q_9
        exact K_8 _ _ _ hS (lv_sub hl [] rfl)
      · have q_9 := jf q_9 c_11
        refine lv_aload_n hx hb dX10_links_13 rfl (lv_at hl 0 rfl) ?_
        refine va_get (D := D) (ci := 11) (v := .ref (ad 13)) (C := RX10) (T := TX10) (N := 24) hx hb hts inX10 hown hK hS.1 0 rfl rfl 17 (by decide) k1 (fun _ h => h) rfl dX10_links_14 ?_
        refine lv_iload_n hx hb dX10_links_17 rfl (lv_at hl 3 rfl) ?_
        obtain ⟨b_12, q_9⟩ := jgd q_9
        refine va_zald hx hb hK hS.1 13 2 rfl rfl (jin.mpr b_12) dX10_links_18 ?_
        obtain ⟨o_13, r_15, q_9⟩ := jbd q_9
        have K_14 : jW p l e rmX10_links s m args below meth c 0 0 Q D vwCl A (MW ad cI cZ thrown trace upper lower begins size hasShares wires kind first second times byy group whole o_13.2.1 o_13.2.2.1 o_13.2.2.2 way sorts ohms price above belo) 5 [(0, .ref (ad 0)), (1, .int a1), (2, .int o_13.1), (3, .int v3_2)] 110 [] := by
          intro H locs ls hS hl
          obtain ⟨x_39, ex_39⟩ : ∃ y : Int32, y = v3_2 + (1 : Int32) := ⟨_, rfl⟩
          have q_9 := jlv q_9 ex_39
          refine lv_iinc (v := x_39) (lv' := [(3, .int x_39), (0, .ref (ad 0)), (1, .int a1), (2, .int o_13.1)]) hx hb dX10_links_110 hl (k := 3) rfl (by rw [ex_39]; rfl) (by decide) rfl (fun ls hl => ?_)
          refine lv_goto (tgt := 5) hx hb dX10_links_113 (by decide) ?_
          exact ih o_13.1 x_39 o_13.2.1 o_13.2.2.1 o_13.2.2.2 q_9 _ _ _ hS (lv_sub hl [1, 2, 3, 0] rfl)
        refine lv_if_eq (tgt := 110) hx hb dX10_links_19 (by decide) (fun c_16 => ?_) (fun c_16 => ?_)
        · have r_15 := jt r_15 c_16
          obtain rfl := jsm r_15
          exact K_14 _ _ _ hS (lv_sub hl [0, 1, 2, 3] rfl)
        · have r_15 := jf r_15 c_16
          refine lv_aload_n hx hb dX10_links_22 rfl (lv_at hl 0 rfl) ?_
          refine va_get (D := D) (ci := 11) (v := .ref (ad 11)) (C := RX10) (T := TX10) (N := 24) hx hb hts inX10 hown hK hS.1 0 rfl rfl 15 (by decide) k2 (fun _ h => h) rfl dX10_links_23 ?_
          refine lv_iload_n hx hb dX10_links_26 rfl (lv_at hl 3 rfl) ?_
          refine va_iald hx hb hK hS.1 11 0 rfl rfl (jin.mpr b_12) dX10_links_27 ?_
          refine lv_iload_n hx hb dX10_links_28 rfl (lv_at hl 1 rfl) ?_
          refine lv_icmp_eq (tgt := 42) hx hb dX10_links_29 (by decide) (fun c_17 => ?_) (fun c_17 => ?_)
          · have r_15 := jt r_15 c_17
            refine lv_aload_n hx hb dX10_links_42 rfl (lv_at hl 0 rfl) ?_
            refine va_get (D := D) (ci := 11) (v := .ref (ad 11)) (C := RX10) (T := TX10) (N := 24) hx hb hts inX10 hown hK hS.1 0 rfl rfl 15 (by decide) k2 (fun _ h => h) rfl dX10_links_43 ?_
            refine lv_iload_n hx hb dX10_links_46 rfl (lv_at hl 3 rfl) ?_
            refine va_iald hx hb hK hS.1 11 0 rfl rfl (jin.mpr b_12) dX10_links_47 ?_
            refine lv_iload_n hx hb dX10_links_48 rfl (lv_at hl 1 rfl) ?_
            obtain ⟨o_18, r_20⟩ : ∃ y : Int32, y = (if (frm_3 v3_2.toNatClampNeg) = a1 then (too_4 v3_2.toNatClampNeg) else (frm_3 v3_2.toNatClampNeg)) := ⟨_, rfl⟩
            have r_15 := jlv r_15 r_20
            have K_19 : jW p l e rmX10_links s m args below meth c 0 0 Q D vwCl A (MW ad cI cZ thrown trace upper lower begins size hasShares wires kind first second times byy group whole frm_3 too_4 isThere_5 way sorts ohms price above belo) 5 [(0, .ref (ad 0)), (1, .int a1), (2, .int v2_1), (3, .int v3_2)] 67 [.int o_18] := by
              intro H locs ls hS hl
              refine lv_istore (lv' := [(4, .int o_18), (0, .ref (ad 0)), (1, .int a1), (2, .int v2_1), (3, .int v3_2)]) hx hb dX10_links_67 hl (by decide) rfl (fun ls hl => ?_)
              refine lv_iload_n hx hb dX10_links_69 rfl (lv_at hl 3 rfl) ?_
              refine lv_bipush (v := (-9 : Int32)) hx hb dX10_links_70 (by decide) ?_
              refine lv_icmp_ne (tgt := 95) hx hb dX10_links_72 (by decide) (fun c_22 => ?_) (fun c_22 => ?_)
              · have r_15 := jf r_15 c_22
                refine lv_aload_n hx hb dX10_links_95 rfl (lv_at hl 1 rfl) ?_
                refine va_get (D := D) (ci := 11) (v := .ref (ad 12)) (C := RX10) (T := TX10) (N := 24) hx hb hts inX10 hown hK hS.1 0 rfl rfl 16 (by decide) k3 (fun _ h => h) rfl dX10_links_96 ?_
                refine lv_iload_n hx hb dX10_links_99 rfl (lv_at hl 3 rfl) ?_
                refine lv_iload hx hb dX10_links_100 (lv_at hl 0 rfl) ?_
                obtain ⟨b_23, r_15⟩ := jgd r_15
                obtain ⟨too_24, etoo_24⟩ : ∃ y : Nat → Int32, y = upd too_4 v2_1.toNatClampNeg o_18 := ⟨_, rfl⟩
                have r_15 := jlv r_15 etoo_24
                refine j_iast (w' := MW ad cI cZ thrown trace upper lower begins size hasShares wires kind first second times byy group whole frm_3 too_24 isThere_5 way sorts ohms price above belo) hx hb hK hS 12 0 rfl rfl (jin.mpr b_23) (by rw [etoo_24]; rfl) dX10_links_102 (fun H locs hS => ?_)
                refine lv_aload_n hx hb dX10_links_103 rfl (lv_at hl 1 rfl) ?_
                refine va_get (D := D) (ci := 11) (v := .ref (ad 13)) (C := RX10) (T := TX10) (N := 24) hx hb hts inX10 hown hK hS.1 0 rfl rfl 17 (by decide) k1 (fun _ h => h) rfl dX10_links_104 ?_
                refine lv_iload_n hx hb dX10_links_107 rfl (lv_at hl 4 rfl) ?_
                refine lv_iconst (v := (0 : Int32)) hx hb dX10_links_108 (by decide) ?_
                obtain ⟨isThere_25, eisThere_25⟩ : ∃ y : Nat → Int32, y = upd isThere_5 v3_2.toNatClampNeg (vp_nar .boolean (0 : Int32)) := ⟨_, rfl⟩
                have r_15 := jlv r_15 eisThere_25
                refine j_zast (w' := MW ad cI cZ thrown trace upper lower begins size hasShares wires kind first second times byy group whole frm_3 too_24 isThere_25 way sorts ohms price above belo) hx hb hK hS 13 2 rfl rfl (jin.mpr b_12) (by rw [eisThere_25]; rfl) dX10_links_109 (fun H locs hS => ?_)
                obtain rfl := jsm r_15
                exact K_14 _ _ _ hS (lv_sub hl [1, 2, 3, 4] rfl)
              · have r_15 := jt r_15 c_22
                refine lv_iload_n hx hb dX10_links_75 rfl (lv_at hl 4 rfl) ?_
                refine lv_istore_n (lv' := [(2, .int v3_2), (4, .int o_18), (0, .ref (ad 0)), (1, .int a1), (3, .int v3_2)]) hx hb dX10_links_76 rfl hl (by decide) rfl (fun ls hl => ?_)
                refine lv_aload_n hx hb dX10_links_77 rfl (lv_at hl 2 rfl) ?_
                refine va_get (D := D) (ci := 11) (v := .ref (ad 11)) (C := RX10) (T := TX10) (N := 24) hx hb hts inX10 hown hK hS.1 0 rfl rfl 15 (by decide) k2 (fun _ h => h) rfl dX10_links_78 ?_
                refine lv_iload_n hx hb dX10_links_81 rfl (lv_at hl 4 rfl) ?_
                refine lv_iload hx hb dX10_links_82 (lv_at hl 1 rfl) ?_
                obtain ⟨frm_26, efrm_26⟩ : ∃ y : Nat → Int32, y = upd frm_3 v3_2.toNatClampNeg o_18 := ⟨_, rfl⟩
                have r_15 := jlv r_15 efrm_26
                refine j_iast (w' := MW ad cI cZ thrown trace upper lower begins size hasShares wires kind first second times byy group whole frm_26 too_4 isThere_5 way sorts ohms price above belo) hx hb hK hS 11 0 rfl rfl (jin.mpr b_12) (by rw [efrm_26]; rfl) dX10_links_84 (fun H locs hS => ?_)
                refine lv_aload_n hx hb dX10_links_85 rfl (lv_at hl 2 rfl) ?_
                refine va_get (D := D) (ci := 11) (v := .ref (ad 12)) (C := RX10) (T := TX10) (N := 24) hx hb hts inX10 hown hK hS.1 0 rfl rfl 16 (by decide) k3 (fun _ h => h) rfl dX10_links_86 ?_
                refine lv_iload_n hx hb dX10_links_89 rfl (lv_at hl 4 rfl) ?_
                refine lv_iload_n hx hb dX10_links_90 rfl (lv_at hl 3 rfl) ?_
                obtain ⟨too_27, etoo_27⟩ : ∃ y : Nat → Int32, y = upd too_4 v3_2.toNatClampNeg a1 := ⟨_, rfl⟩
                have r_15 := jlv r_15 etoo_27
                refine j_iast (w' := MW ad cI cZ thrown trace upper lower begins size hasShares wires kind first second times byy group whole frm_26 too_27 isThere_5 way sorts ohms price above belo) hx hb hK hS 12 0 rfl rfl (jin.mpr b_12) (by rw [etoo_27]; rfl) dX10_links_91 (fun H locs hS => ?_)
                refine lv_goto (tgt := 110) hx hb dX10_links_92 (by decide) ?_
                obtain rfl := jsm r_15
                exact K_14 _ _ _ hS (lv_sub hl [2, 3, 0, 4] rfl)
            refine lv_icmp_ne (tgt := 61) hx hb dX10_links_49 (by decide) (fun c_21 => ?_) (fun c_21 => ?_)
            · have r_20 := r_20.trans (if_neg c_21)
              refine lv_aload_n hx hb dX10_links_61 rfl (lv_at hl 0 rfl) ?_
              refine va_get (D := D) (ci := 11) (v := .ref (ad 11)) (C := RX10) (T := TX10) (N := 24) hx hb hts inX10 hown hK hS.1 0 rfl rfl 15 (by decide) k2 (fun _ h => h) rfl dX10_links_62 ?_
              refine lv_iload_n hx hb dX10_links_65 rfl (lv_at hl 3 rfl) ?_
              refine va_iald hx hb hK hS.1 11 0 rfl rfl (jin.mpr b_12) dX10_links_66 ?_
              subst r_20
              exact K_19 _ _ _ hS (lv_sub hl [0, 1, 2, 3] rfl)
            · have r_20 := r_20.trans (if_pos c_21)
              refine lv_aload_n hx hb dX10_links_52 rfl (lv_at hl 0 rfl) ?_
              refine va_get (D := D) (ci := 11) (v := .ref (ad 12)) (C := RX10) (T := TX10) (N := 24) hx hb hts inX10 hown hK hS.1 0 rfl rfl 16 (by decide) k3 (fun _ h => h) rfl dX10_links_53 ?_
              refine lv_iload_n hx hb dX10_links_56 rfl (lv_at hl 3 rfl) ?_
              refine va_iald hx hb hK hS.1 12 0 rfl rfl (jin.mpr b_12) dX10_links_57 ?_
              refine lv_goto (tgt := 67) hx hb dX10_links_58 (by decide) ?_
              subst r_20
              exact K_19 _ _ _ hS (lv_sub hl [0, 1, 2, 3] rfl)
          · have r_15 := jf r_15 c_17
            refine lv_aload_n hx hb dX10_links_32 rfl (lv_at hl 0 rfl) ?_
            refine va_get (D := D) (ci := 11) (v := .ref (ad 12)) (C := RX10) (T := TX10) (N := 24) hx hb hts inX10 hown hK hS.1 0 rfl rfl 16 (by decide) k3 (fun _ h => h) rfl dX10_links_33 ?_
            refine lv_iload_n hx hb dX10_links_36 rfl (lv_at hl 3 rfl) ?_
            refine va_iald hx hb hK hS.1 12 0 rfl rfl (jin.mpr b_12) dX10_links_37 ?_
            refine lv_iload_n hx hb dX10_links_38 rfl (lv_at hl 1 rfl) ?_
            refine lv_icmp_ne (tgt := 110) hx hb dX10_links_39 (by decide) (fun c_28 => ?_) (fun c_28 => ?_)
            · have r_15 := jf r_15 c_28
              obtain rfl := jsm r_15
              exact K_14 _ _ _ hS (lv_sub hl [0, 1, 2, 3] rfl)
            · have r_15 := jt r_15 c_28
              refine lv_aload_n hx hb dX10_links_42 rfl (lv_at hl 0 rfl) ?_
              refine va_get (D := D) (ci := 11) (v := .ref (ad 11)) (C := RX10) (T := TX10) (N := 24) hx hb hts inX10 hown hK hS.1 0 rfl rfl 15 (by decide) k2 (fun _ h => h) rfl dX10_links_43 ?_
              refine lv_iload_n hx hb dX10_links_46 rfl (lv_at hl 3 rfl) ?_
              refine va_iald hx hb hK hS.1 11 0 rfl rfl (jin.mpr b_12) dX10_links_47 ?_
              refine lv_iload_n hx hb dX10_links_48 rfl (lv_at hl 1 rfl) ?_
              obtain ⟨o_29, r_31⟩ : ∃ y : Int32, y = (if (frm_3 v3_2.toNatClampNeg) = a1 then (too_4 v3_2.toNatClampNeg) else (frm_3 v3_2.toNatClampNeg)) := ⟨_, rfl⟩
              have r_15 := jlv r_15 r_31
              have K_30 : jW p l e rmX10_links s m args below meth c 0 0 Q D vwCl A (MW ad cI cZ thrown trace upper lower begins size hasShares wires kind first second times byy group whole frm_3 too_4 isThere_5 way sorts ohms price above belo) 5 [(0, .ref (ad 0)), (1, .int a1), (2, .int v2_1), (3, .int v3_2)] 67 [.int o_29] := by
                intro H locs ls hS hl
                refine lv_istore (lv' := [(4, .int o_29), (0, .ref (ad 0)), (1, .int a1), (2, .int v2_1), (3, .int v3_2)]) hx hb dX10_links_67 hl (by decide) rfl (fun ls hl => ?_)
                refine lv_iload_n hx hb dX10_links_69 rfl (lv_at hl 3 rfl) ?_
                refine lv_bipush (v := (-9 : Int32)) hx hb dX10_links_70 (by decide) ?_
                refine lv_icmp_ne (tgt := 95) hx hb dX10_links_72 (by decide) (fun c_33 => ?_) (fun c_33 => ?_)
                · have r_15 := jf r_15 c_33
                  refine lv_aload_n hx hb dX10_links_95 rfl (lv_at hl 1 rfl) ?_
                  refine va_get (D := D) (ci := 11) (v := .ref (ad 12)) (C := RX10) (T := TX10) (N := 24) hx hb hts inX10 hown hK hS.1 0 rfl rfl 16 (by decide) k3 (fun _ h => h) rfl dX10_links_96 ?_
                  refine lv_iload_n hx hb dX10_links_99 rfl (lv_at hl 3 rfl) ?_
                  refine lv_iload hx hb dX10_links_100 (lv_at hl 0 rfl) ?_
                  obtain ⟨b_34, r_15⟩ := jgd r_15
                  obtain ⟨too_35, etoo_35⟩ : ∃ y : Nat → Int32, y = upd too_4 v2_1.toNatClampNeg o_29 := ⟨_, rfl⟩
                  have r_15 := jlv r_15 etoo_35
                  refine j_iast (w' := MW ad cI cZ thrown trace upper lower begins size hasShares wires kind first second times byy group whole frm_3 too_35 isThere_5 way sorts ohms price above belo) hx hb hK hS 12 0 rfl rfl (jin.mpr b_34) (by rw [etoo_35]; rfl) dX10_links_102 (fun H locs hS => ?_)
                  refine lv_aload_n hx hb dX10_links_103 rfl (lv_at hl 1 rfl) ?_
                  refine va_get (D := D) (ci := 11) (v := .ref (ad 13)) (C := RX10) (T := TX10) (N := 24) hx hb hts inX10 hown hK hS.1 0 rfl rfl 17 (by decide) k1 (fun _ h => h) rfl dX10_links_104 ?_
                  refine lv_iload_n hx hb dX10_links_107 rfl (lv_at hl 4 rfl) ?_
                  refine lv_iconst (v := (0 : Int32)) hx hb dX10_links_108 (by decide) ?_
                  obtain ⟨isThere_36, eisThere_36⟩ : ∃ y : Nat → Int32, y = upd isThere_5 v3_2.toNatClampNeg (vp_nar .boolean (0 : Int32)) := ⟨_, rfl⟩
                  have r_15 := jlv r_15 eisThere_36
                  refine j_zast (w' := MW ad cI cZ thrown trace upper lower begins size hasShares wires kind first second times byy group whole frm_3 too_35 isThere_36 way sorts ohms price above belo) hx hb hK hS 13 2 rfl rfl (jin.mpr b_12) (by rw [eisThere_36]; rfl) dX10_links_109 (fun H locs hS => ?_)
                  obtain rfl := jsm r_15
                  exact K_14 _ _ _ hS (lv_sub hl [1, 2, 3, 4] rfl)
                · have r_15 := jt r_15 c_33
                  refine lv_iload_n hx hb dX10_links_75 rfl (lv_at hl 4 rfl) ?_
                  refine lv_istore_n (lv' := [(2, .int v3_2), (4, .int o_29), (0, .ref (ad 0)), (1, .int a1), (3, .int v3_2)]) hx hb dX10_links_76 rfl hl (by decide) rfl (fun ls hl => ?_)
                  refine lv_aload_n hx hb dX10_links_77 rfl (lv_at hl 2 rfl) ?_
                  refine va_get (D := D) (ci := 11) (v := .ref (ad 11)) (C := RX10) (T := TX10) (N := 24) hx hb hts inX10 hown hK hS.1 0 rfl rfl 15 (by decide) k2 (fun _ h => h) rfl dX10_links_78 ?_
                  refine lv_iload_n hx hb dX10_links_81 rfl (lv_at hl 4 rfl) ?_
                  refine lv_iload hx hb dX10_links_82 (lv_at hl 1 rfl) ?_
                  obtain ⟨frm_37, efrm_37⟩ : ∃ y : Nat → Int32, y = upd frm_3 v3_2.toNatClampNeg o_29 := ⟨_, rfl⟩
                  have r_15 := jlv r_15 efrm_37
                  refine j_iast (w' := MW ad cI cZ thrown trace upper lower begins size hasShares wires kind first second times byy group whole frm_37 too_4 isThere_5 way sorts ohms price above belo) hx hb hK hS 11 0 rfl rfl (jin.mpr b_12) (by rw [efrm_37]; rfl) dX10_links_84 (fun H locs hS => ?_)
                  refine lv_aload_n hx hb dX10_links_85 rfl (lv_at hl 2 rfl) ?_
                  refine va_get (D := D) (ci := 11) (v := .ref (ad 12)) (C := RX10) (T := TX10) (N := 24) hx hb hts inX10 hown hK hS.1 0 rfl rfl 16 (by decide) k3 (fun _ h => h) rfl dX10_links_86 ?_
                  refine lv_iload_n hx hb dX10_links_89 rfl (lv_at hl 4 rfl) ?_
                  refine lv_iload_n hx hb dX10_links_90 rfl (lv_at hl 3 rfl) ?_
                  obtain ⟨too_38, etoo_38⟩ : ∃ y : Nat → Int32, y = upd too_4 v3_2.toNatClampNeg a1 := ⟨_, rfl⟩
                  have r_15 := jlv r_15 etoo_38
                  refine j_iast (w' := MW ad cI cZ thrown trace upper lower begins size hasShares wires kind first second times byy group whole frm_37 too_38 isThere_5 way sorts ohms price above belo) hx hb hK hS 12 0 rfl rfl (jin.mpr b_12) (by rw [etoo_38]; rfl) dX10_links_91 (fun H locs hS => ?_)
                  refine lv_goto (tgt := 110) hx hb dX10_links_92 (by decide) ?_
                  obtain rfl := jsm r_15
                  exact K_14 _ _ _ hS (lv_sub hl [2, 3, 0, 4] rfl)
              refine lv_icmp_ne (tgt := 61) hx hb dX10_links_49 (by decide) (fun c_32 => ?_) (fun c_32 => ?_)
              · have r_31 := r_31.trans (if_neg c_32)
                refine lv_aload_n hx hb dX10_links_61 rfl (lv_at hl 0 rfl) ?_
                refine va_get (D := D) (ci := 11) (v := .ref (ad 11)) (C := RX10) (T := TX10) (N := 24) hx hb hts inX10 hown hK hS.1 0 rfl rfl 15 (by decide) k2 (fun _ h => h) rfl dX10_links_62 ?_
                refine lv_iload_n hx hb dX10_links_65 rfl (lv_at hl 3 rfl) ?_
                refine va_iald hx hb hK hS.1 11 0 rfl rfl (jin.mpr b_12) dX10_links_66 ?_
                subst r_31
                exact K_30 _ _ _ hS (lv_sub hl [0, 1, 2, 3] rfl)
              · have r_31 := r_31.trans (if_pos c_32)
                refine lv_aload_n hx hb dX10_links_52 rfl (lv_at hl 0 rfl) ?_
                refine va_get (D := D) (ci := 11) (v := .ref (ad 12)) (C := RX10) (T := TX10) (N := 24) hx hb hts inX10 hown hK hS.1 0 rfl rfl 16 (by decide) k3 (fun _ h => h) rfl dX10_links_53 ?_
                refine lv_iload_n hx hb dX10_links_56 rfl (lv_at hl 3 rfl) ?_
                refine va_iald hx hb hK hS.1 12 0 rfl rfl (jin.mpr b_12) dX10_links_57 ?_
                refine lv_goto (tgt := 67) hx hb dX10_links_58 (by decide) ?_
                subst r_31
                exact K_30 _ _ _ hS (lv_sub hl [0, 1, 2, 3] rfl)
  exact loop_10 5000 (-9 : Int32) (0 : Int32) frm too isThere L_7 _ _ _ hS (lv_sub hl [2, 3, 1, 0] rfl)
def LX10_lessens_49 (frm : Nat → Int32) (too : Nat → Int32) (isThere : Nat → Int32) (v3_1 : Int32) : Nat → (Int32) → (Int32) → Option (Int32)
  | 0, _, _ => none
  | n + 1, v4_17, v5_18 =>
    if v3_1 ≤ v5_18 then
    some v4_17
    else
    if jok v5_18 12 then
    jlet (if (isThere v5_18.toNatClampNeg) = 0 then
    (0 : Int32)
    else
    if (frm v5_18.toNatClampNeg) = (frm v3_1.toNatClampNeg) then
    if (too v5_18.toNatClampNeg) = (too v3_1.toNatClampNeg) then
    (1 : Int32)
    else
    if (frm v5_18.toNatClampNeg) = (too v3_1.toNatClampNeg) then
    if (too v5_18.toNatClampNeg) = (frm v3_1.toNatClampNeg) then
    (1 : Int32)
    else
    (0 : Int32)
    else
    (0 : Int32)
    else
    if (frm v5_18.toNatClampNeg) = (too v3_1.toNatClampNeg) then
    if (too v5_18.toNatClampNeg) = (frm v3_1.toNatClampNeg) then
    (1 : Int32)
    else
    (0 : Int32)
    else
    (0 : Int32)) (fun o_26 => 
    jlet (v4_17 ||| o_26) (fun x_36 => 
    jlet (v5_18 + (1 : Int32)) (fun x_37 => 
    LX10_lessens_49 frm too isThere v3_1 n x_36 x_37)))
    else none
def LX10_lessens_2 (wires : Int32) (frm : Nat → Int32) (too : Nat → Int32) (isThere : Nat → Int32) (a1 : Int32) (a2 : Int32) : Nat → (Int32) → Option ((Unit) ⊕ (Int32 × (Nat → Int32) × (Nat → Int32) × (Nat → Int32)))
  | 0, _ => none
  | n + 1, v3_1 =>
    if wires ≤ v3_1 then
    some (.inl ())
    else
    if jok v3_1 12 then
    (if (isThere v3_1.toNatClampNeg) = 0 then
    some (.inl ())
    else
    if (frm v3_1.toNatClampNeg) = (too v3_1.toNatClampNeg) then
    jlet (upd isThere v3_1.toNatClampNeg (vp_nar .boolean (0 : Int32))) (fun isThere_16 => 
    some (.inr ((1 : Int32), frm, too, isThere_16)))
    else
    some (.inl ()) : Option ((Unit) ⊕ (Int32 × (Nat → Int32) × (Nat → Int32) × (Nat → Int32)))).bind (fun o_10 => jex o_10 (fun x_13 => 
    (LX10_lessens_49 frm too isThere v3_1 5000 (0 : Int32) (0 : Int32)).bind (fun o_19 => 
    (if (isThere v3_1.toNatClampNeg) = 0 then
    some (.inl ())
    else
    if o_19 = 0 then
    some (.inl ())
    else
    jlet (upd isThere v3_1.toNatClampNeg (vp_nar .boolean (0 : Int32))) (fun isThere_44 => 
    some (.inr ((1 : Int32), frm, too, isThere_44))) : Option ((Unit) ⊕ (Int32 × (Nat → Int32) × (Nat → Int32) × (Nat → Int32)))).bind (fun o_38 => jex o_38 (fun x_41 => 
    (if (isThere v3_1.toNatClampNeg) = 0 then
    some (.inl ())
    else
    (if (frm v3_1.toNatClampNeg) = a1 then
    some (.inl ())
    else
    if (frm v3_1.toNatClampNeg) = a2 then
    some (.inl ())
    else
    (fX10_wiresAt (frm v3_1.toNatClampNeg) wires frm too isThere).bind (fun o_56 => 
    if o_56 = (1 : Int32) then
    jlet (upd isThere v3_1.toNatClampNeg (vp_nar .boolean (0 : Int32))) (fun isThere_59 => 
    some (.inr ((1 : Int32), frm, too, isThere_59)))
    else
    some (.inl ())) : Option ((Unit) ⊕ (Int32 × (Nat → Int32) × (Nat → Int32) × (Nat → Int32)))).bind (fun o_50 => jex o_50 (fun x_53 => 
    if (too v3_1.toNatClampNeg) = a1 then
    some (.inl ())
    else
    if (too v3_1.toNatClampNeg) = a2 then
    some (.inl ())
    else
    (fX10_wiresAt (too v3_1.toNatClampNeg) wires frm too isThere).bind (fun o_62 => 
    if o_62 = (1 : Int32) then
    jlet (upd isThere v3_1.toNatClampNeg (vp_nar .boolean (0 : Int32))) (fun isThere_65 => 
    some (.inr ((1 : Int32), frm, too, isThere_65)))
    else
    some (.inl ()))) (fun r => some (.inr r))) : Option ((Unit) ⊕ (Int32 × (Nat → Int32) × (Nat → Int32) × (Nat → Int32)))).bind (fun o_45 => jex o_45 (fun x_48 => 
    jlet (v3_1 + (1 : Int32)) (fun x_66 => 
    LX10_lessens_2 wires frm too isThere a1 a2 n x_66)) (fun r => some (.inr r)))) (fun r => some (.inr r))))) (fun r => some (.inr r)))
    else none
def LX10_lessens_262 (wires : Int32) (frm : Nat → Int32) (too : Nat → Int32) (isThere : Nat → Int32) (a1 : Int32) (a2 : Int32) : Nat → (Int32) → Option ((Unit) ⊕ (Int32 × (Nat → Int32) × (Nat → Int32) × (Nat → Int32)))
  | 0, _ => none
  | n + 1, v3_67 =>
    if (6 : Int32) ≤ v3_67 then
    some (.inl ())
    else
    (if v3_67 = a1 then
    some (.inl ())
    else
    if v3_67 = a2 then
    some (.inl ())
    else
    (fX10_wiresAt v3_67 wires frm too isThere).bind (fun o_81 => 
    if o_81 = (2 : Int32) then
    (fX10_links v3_67 wires frm too isThere).bind (fun o_84 => 
    some (.inr ((1 : Int32), o_84.1, o_84.2.1, o_84.2.2)))
    else
    some (.inl ())) : Option ((Unit) ⊕ (Int32 × (Nat → Int32) × (Nat → Int32) × (Nat → Int32)))).bind (fun o_75 => jex o_75 (fun x_78 => 
    jlet (v3_67 + (1 : Int32)) (fun x_86 => 
    LX10_lessens_262 wires frm too isThere a1 a2 n x_86)) (fun r => some (.inr r)))
def fX10_lessens (a1 : Int32) (a2 : Int32) (wires : Int32) (frm : Nat → Int32) (too : Nat → Int32) (isThere : Nat → Int32) : Option (Int32 × (Nat → Int32) × (Nat → Int32) × (Nat → Int32)) :=
  (LX10_lessens_2 wires frm too isThere a1 a2 5000 (0 : Int32)).bind (fun o_2 => jex o_2 (fun x_7 => 
  (LX10_lessens_262 wires frm too isThere a1 a2 5000 (0 : Int32)).bind (fun o_68 => jex o_68 (fun x_73 => 
  some ((0 : Int32), frm, too, isThere)) some)) some)
abbrev rmX10_lessens : Room := { frames := 1, cells := 0, slots := 0, locals := 24 }
set_option maxHeartbeats 4000000 in
set_option maxRecDepth 100000 in
theorem tX10_lessens (l : Launch) (D : va_G) (ad : Nat → Nat) (cI cJ cZ cW cS cO cG : ClassId) (thrown : Int32) (trace : Int64) (upper : Nat → Int32) (lower : Nat → Int32) (begins : Nat → Int32) (size : Int32) (hasShares : Int32) (wires : Int32) (kind : Nat → Int32) (first : Nat → Int32) (second : Nat → Int32) (times : Nat → Int32) (byy : Nat → Int32) (group : Nat → Int32) (whole : Nat → Int32) (frm : Nat → Int32) (too : Nat → Int32) (isThere : Nat → Int32) (way : Nat → Int32) (sorts : Int32) (ohms : Nat → Int32) (price : Nat → Int32) (above : Int64) (belo : Int64) (a1 : Int32) (a2 : Int32) {o : Int32 × (Nat → Int32) × (Nat → Int32) × (Nat → Int32)} (hE : fX10_lessens a1 a2 wires frm too isThere = some o) : JMi l yX10_lessens wsX10_lessens rmX10_lessens D vwCl (TY cI cJ cZ cW cS cO cG) [.ref (ad 0), .int a1, .int a2] (MW ad cI cZ thrown trace upper lower begins size hasShares wires kind first second times byy group whole frm too isThere way sorts ohms price above belo) (MW ad cI cZ thrown trace upper lower begins size hasShares wires kind first second times byy group whole o.2.1 o.2.2.1 o.2.2.2 way sorts ohms price above belo) o.1 := by
  refine JMi.of (cc := cX10_lessens) (maxL := 6) (by decide) rfl (Nat.le_of_ble_eq_true rfl) ?_
  intro p e s m args below meth c A ls Q C hK hA ret hS hl
  obtain ⟨⟨hx, hb, hml, hown, hts⟩, -⟩ := id C
  have hl : lv_has ls 6 [(0, .ref (ad 0)), (1, .int a1), (2, .int a2)] := hl
  have inX10 : ∀ w ∈ u_ws RX10 TX10 24, w ∈ wsX10_lessens := by decide +kernel
  have k0 := hts (.fieldLink RX10 119 "OhmNetsModel" "wires" "I") (by decide +kernel)
  have k1 := hts (.fieldLink RX10 46 "OhmNetsModel" "isThere" "[Z") (by decide +kernel)
  have k2 := hts (.fieldLink RX10 40 "OhmNetsModel" "from" "[I") (by decide +kernel)
  have k3 := hts (.fieldLink RX10 43 "OhmNetsModel" "to" "[I") (by decide +kernel)
  refine lv_iconst (v := (0 : Int32)) hx hb dX10_lessens_0 (by decide) ?_
  refine lv_istore_n (lv' := [(3, .int (0 : Int32)), (0, .ref (ad 0)), (1, .int a1), (2, .int a2)]) hx hb dX10_lessens_1 rfl hl (by decide) rfl (fun ls hl => ?_)
  obtain ⟨o_2, L_3, hE⟩ := jbd hE
  have K_4 : ∀ x_7, o_2 = .inl x_7 → jW p l e rmX10_lessens s m args below meth c 0 0 Q D vwCl A (MW ad cI cZ thrown trace upper lower begins size hasShares wires kind first second times byy group whole frm too isThere way sorts ohms price above belo) 6 [(0, .ref (ad 0)), (1, .int a1), (2, .int a2)] 260 [] := by
    intro x_7 ho H locs ls hS hl
    subst ho
    have hE := jexl hE
    refine lv_iconst (v := (0 : Int32)) hx hb dX10_lessens_260 (by decide) ?_
    refine lv_istore_n (lv' := [(3, .int (0 : Int32)), (0, .ref (ad 0)), (1, .int a1), (2, .int a2)]) hx hb dX10_lessens_261 rfl hl (by decide) rfl (fun ls hl => ?_)
    obtain ⟨o_68, L_69, hE⟩ := jbd hE
    have K_70 : ∀ x_73, o_68 = .inl x_73 → jW p l e rmX10_lessens s m args below meth c 0 0 Q D vwCl A (MW ad cI cZ thrown trace upper lower begins size hasShares wires kind first second times byy group whole frm too isThere way sorts ohms price above belo) 6 [] 300 [] := by
      intro x_73 ho H locs ls hS hl
      subst ho
      have hE := jexl hE
      refine lv_iconst (v := (0 : Int32)) hx hb dX10_lessens_300 (by decide) ?_
      obtain rfl := jsm hE
      exact ret hS jb0 dX10_lessens_301
    have loop_72 : ∀ (n : Nat) (v3_67 : Int32), LX10_lessens_262 wires frm too isThere a1 a2 n v3_67 = some o_68 → jW p l e rmX10_lessens s m args below meth c 0 0 Q D vwCl A (MW ad cI cZ thrown trace upper lower begins size hasShares wires kind first second times byy group whole frm too isThere way sorts ohms price above belo) 6 [(0, .ref (ad 0)), (1, .int a1), (2, .int a2), (3, .int v3_67)] 262 [] := by
      intro n
      induction n with
      | zero =>
        intro v3_67 q_71
        have q_71 : none = some o_68 := q_71
        cases q_71
      | succ n ih =>
        intro v3_67 q_71 H locs ls hS hl
        rw [LX10_lessens_262] at q_71
        refine lv_iload_n hx hb dX10_lessens_262 rfl (lv_at hl 3 rfl) ?_
        refine lv_bipush (v := (6 : Int32)) hx hb dX10_lessens_263 (by decide) ?_
        refine lv_icmp_ge (tgt := 300) hx hb dX10_lessens_265 (by decide) (fun c_74 => ?_) (fun c_74 => ?_)
        · have q_71 := jt q_71 c_74
          obtain rfl := jsm q_71
          exact K_70 _ rfl _ _ _ hS (lv_sub hl [] rfl)
        · have q_71 := jf q_71 c_74
          refine lv_iload_n hx hb dX10_lessens_268 rfl (lv_at hl 3 rfl) ?_
          refine lv_iload_n hx hb dX10_lessens_269 rfl (lv_at hl 1 rfl) ?_
          obtain ⟨o_75, r_77, q_71⟩ := jbd q_71
          have K_76 : ∀ x_78, o_75 = .inl x_78 → jW p l e rmX10_lessens s m args below meth c 0 0 Q D vwCl A (MW ad cI cZ thrown trace upper lower begins size hasShares wires kind first second times byy group whole frm too isThere way sorts ohms price above belo) 6 [(0, .ref (ad 0)), (1, .int a1), (2, .int a2), (3, .int v3_67)] 294 [] := by
            intro x_78 ho H locs ls hS hl
            subst ho
            have q_71 := jexl q_71
            obtain ⟨x_86, ex_86⟩ : ∃ y : Int32, y = v3_67 + (1 : Int32) := ⟨_, rfl⟩
            have q_71 := jlv q_71 ex_86
            refine lv_iinc (v := x_86) (lv' := [(3, .int x_86), (0, .ref (ad 0)), (1, .int a1), (2, .int a2)]) hx hb dX10_lessens_294 hl (k := 3) rfl (by rw [ex_86]; rfl) (by decide) rfl (fun ls hl => ?_)
            refine lv_goto (tgt := 262) hx hb dX10_lessens_297 (by decide) ?_
            exact ih x_86 q_71 _ _ _ hS (lv_sub hl [1, 2, 3, 0] rfl)
          refine lv_icmp_eq (tgt := 294) hx hb dX10_lessens_270 (by decide) (fun c_79 => ?_) (fun c_79 => ?_)
          · have r_77 := jt r_77 c_79
            obtain rfl := jsm r_77
            exact K_76 _ rfl _ _ _ hS (lv_sub hl [0, 1, 2, 3] rfl)
          · have r_77 := jf r_77 c_79
            refine lv_iload_n hx hb dX10_lessens_273 rfl (lv_at hl 3 rfl) ?_
            refine lv_iload_n hx hb dX10_lessens_274 rfl (lv_at hl 2 rfl) ?_
            refine lv_icmp_eq (tgt := 294) hx hb dX10_lessens_275 (by decide) (fun c_80 => ?_) (fun c_80 => ?_)
            · have r_77 := jt r_77 c_80
              obtain rfl := jsm r_77
              exact K_76 _ rfl _ _ _ hS (lv_sub hl [0, 1, 2, 3] rfl)
            · have r_77 := jf r_77 c_80
              refine lv_aload_n hx hb dX10_lessens_278 rfl (lv_at hl 0 rfl) ?_
              refine lv_iload_n hx hb dX10_lessens_279 rfl (lv_at hl 3 rfl) ?_
              obtain ⟨o_81, h_82, r_77⟩ := jbd r_77
              refine j_Vi (As := [.int v3_67]) (rest := []) (wf := MW ad cI cZ thrown trace upper lower begins size hasShares wires kind first second times byy group whole frm too isThere way sorts ohms price above belo) (vc := (RX10, TX10, 24)) C hK hS (jcut_all hA hS) (tX10_wiresAt l D ad cI cJ cZ cW cS cO cG thrown trace upper lower begins size hasShares wires kind first second times byy group whole frm too isThere way sorts ohms price above belo v3_67 h_82) (cwV 1 hts gX10_lessens_X10_wiresAt rfl rfl rfl (by decide +kernel) ⟨Nat.le_of_ble_eq_true rfl, Nat.le_of_ble_eq_true rfl⟩) (q0 := 0) rfl (ci := 11) rfl rfl hl.1 rfl (Nat.le_of_ble_eq_true rfl) dX10_lessens_280 ⟨Nat.zero_le _, Nat.zero_le _⟩ (fun H locs hS => ?_)
              refine lv_iconst (v := (2 : Int32)) hx hb dX10_lessens_283 (by decide) ?_
              refine lv_icmp_ne (tgt := 294) hx hb dX10_lessens_284 (by decide) (fun c_83 => ?_) (fun c_83 => ?_)
              · have r_77 := jf r_77 c_83
                obtain rfl := jsm r_77
                exact K_76 _ rfl _ _ _ hS (lv_sub hl [0, 1, 2, 3] rfl)
              · have r_77 := jt r_77 c_83
                refine lv_aload_n hx hb dX10_lessens_287 rfl (lv_at hl 0 rfl) ?_
                refine lv_iload_n hx hb dX10_lessens_288 rfl (lv_at hl 3 rfl) ?_
                obtain ⟨o_84, h_85, r_77⟩ := jbd r_77
                refine j_Vv (As := [.int v3_67]) (rest := []) (wf := MW ad cI cZ thrown trace upper lower begins size hasShares wires kind first second times byy group whole o_84.1 o_84.2.1 o_84.2.2 way sorts ohms price above belo) (vc := (RX10, TX10, 24)) C hK hS (jcut_all hA hS) (tX10_links l D ad cI cJ cZ cW cS cO cG thrown trace upper lower begins size hasShares wires kind first second times byy group whole frm too isThere way sorts ohms price above belo v3_67 h_85) (cwV 1 hts gX10_lessens_X10_links rfl rfl rfl (by decide +kernel) ⟨Nat.le_of_ble_eq_true rfl, Nat.le_of_ble_eq_true rfl⟩) (q0 := 0) rfl (ci := 11) rfl rfl hl.1 rfl (Nat.le_of_ble_eq_true rfl) dX10_lessens_289 ⟨Nat.zero_le _, Nat.zero_le _⟩ (fun H locs hS => ?_)
                refine lv_iconst (v := (1 : Int32)) hx hb dX10_lessens_292 (by decide) ?_
                obtain rfl := jsm r_77
                have q_71 := jexr q_71
                obtain rfl := jsm q_71
                have hE := jexr hE
                obtain rfl := jsm hE
                exact ret hS jb1 dX10_lessens_293
    exact loop_72 5000 (0 : Int32) L_69 _ _ _ hS (lv_sub hl [1, 2, 3, 0] rfl)
  have loop_6 : ∀ (n : Nat) (v3_1 : Int32), LX10_lessens_2 wires frm too isThere a1 a2 n v3_1 = some o_2 → jW p l e rmX10_lessens s m args below meth c 0 0 Q D vwCl A (MW ad cI cZ thrown trace upper lower begins size hasShares wires kind first second times byy group whole frm too isThere way sorts ohms price above belo) 6 [(0, .ref (ad 0)), (1, .int a1), (2, .int a2), (3, .int v3_1)] 2 [] := by
    intro n
    induction n with
    | zero =>
      intro v3_1 q_5
      have q_5 : none = some o_2 := q_5
      cases q_5
    | succ n ih =>
      intro v3_1 q_5 H locs ls hS hl
      rw [LX10_lessens_2] at q_5
      refine lv_iload_n hx hb dX10_lessens_2 rfl (lv_at hl 3 rfl) ?_
      refine lv_aload_n hx hb dX10_lessens_3 rfl (lv_at hl 0 rfl) ?_
      refine va_get (D := D) (ci := 11) (v := .int wires) (C := RX10) (T := TX10) (N := 24) hx hb hts inX10 hown hK hS.1 0 rfl rfl 7 (by decide) k0 (fun _ h => h) rfl dX10_lessens_4 ?_
      refine lv_icmp_ge (tgt := 260) hx hb dX10_lessens_7 (by decide) (fun c_8 => ?_) (fun c_8 => ?_)
      · have q_5 := jt q_5 c_8
        obtain rfl := jsm q_5
        exact K_4 _ rfl _ _ _ hS (lv_sub hl [0, 1, 2] rfl)
      · have q_5 := jf q_5 c_8
        refine lv_aload_n hx hb dX10_lessens_10 rfl (lv_at hl 0 rfl) ?_
        refine va_get (D := D) (ci := 11) (v := .ref (ad 13)) (C := RX10) (T := TX10) (N := 24) hx hb hts inX10 hown hK hS.1 0 rfl rfl 17 (by decide) k1 (fun _ h => h) rfl dX10_lessens_11 ?_
        refine lv_iload_n hx hb dX10_lessens_14 rfl (lv_at hl 3 rfl) ?_
        obtain ⟨b_9, q_5⟩ := jgd q_5
        refine va_zald hx hb hK hS.1 13 2 rfl rfl (jin.mpr b_9) dX10_lessens_15 ?_
        obtain ⟨o_10, r_12, q_5⟩ := jbd q_5
        have K_11 : ∀ x_13, o_10 = .inl x_13 → jW p l e rmX10_lessens s m args below meth c 0 0 Q D vwCl A (MW ad cI cZ thrown trace upper lower begins size hasShares wires kind first second times byy group whole frm too isThere way sorts ohms price above belo) 6 [(0, .ref (ad 0)), (1, .int a1), (2, .int a2), (3, .int v3_1)] 43 [] := by
          intro x_13 ho H locs ls hS hl
          subst ho
          have q_5 := jexl q_5
          refine lv_iconst (v := (0 : Int32)) hx hb dX10_lessens_43 (by decide) ?_
          refine lv_istore (lv' := [(4, .int (0 : Int32)), (0, .ref (ad 0)), (1, .int a1), (2, .int a2), (3, .int v3_1)]) hx hb dX10_lessens_44 hl (by decide) rfl (fun ls hl => ?_)
          refine lv_iconst (v := (0 : Int32)) hx hb dX10_lessens_46 (by decide) ?_
          refine lv_istore (lv' := [(5, .int (0 : Int32)), (4, .int (0 : Int32)), (0, .ref (ad 0)), (1, .int a1), (2, .int a2), (3, .int v3_1)]) hx hb dX10_lessens_47 hl (by decide) rfl (fun ls hl => ?_)
          obtain ⟨o_19, L_20, q_5⟩ := jbd q_5
          have K_21 : jW p l e rmX10_lessens s m args below meth c 0 0 Q D vwCl A (MW ad cI cZ thrown trace upper lower begins size hasShares wires kind first second times byy group whole frm too isThere way sorts ohms price above belo) 6 [(0, .ref (ad 0)), (1, .int a1), (2, .int a2), (3, .int v3_1), (4, .int o_19)] 145 [] := by
            intro H locs ls hS hl
            refine lv_aload_n hx hb dX10_lessens_145 rfl (lv_at hl 0 rfl) ?_
            refine va_get (D := D) (ci := 11) (v := .ref (ad 13)) (C := RX10) (T := TX10) (N := 24) hx hb hts inX10 hown hK hS.1 0 rfl rfl 17 (by decide) k1 (fun _ h => h) rfl dX10_lessens_146 ?_
            refine lv_iload_n hx hb dX10_lessens_149 rfl (lv_at hl 3 rfl) ?_
            refine va_zald hx hb hK hS.1 13 2 rfl rfl (jin.mpr b_9) dX10_lessens_150 ?_
            obtain ⟨o_38, r_40, q_5⟩ := jbd q_5
            have K_39 : ∀ x_41, o_38 = .inl x_41 → jW p l e rmX10_lessens s m args below meth c 0 0 Q D vwCl A (MW ad cI cZ thrown trace upper lower begins size hasShares wires kind first second times byy group whole frm too isThere way sorts ohms price above belo) 6 [(0, .ref (ad 0)), (1, .int a1), (2, .int a2), (3, .int v3_1)] 168 [] := by
              intro x_41 ho H locs ls hS hl
              subst ho
              have q_5 := jexl q_5
              refine lv_aload_n hx hb dX10_lessens_168 rfl (lv_at hl 0 rfl) ?_
              refine va_get (D := D) (ci := 11) (v := .ref (ad 13)) (C := RX10) (T := TX10) (N := 24) hx hb hts inX10 hown hK hS.1 0 rfl rfl 17 (by decide) k1 (fun _ h => h) rfl dX10_lessens_169 ?_
              refine lv_iload_n hx hb dX10_lessens_172 rfl (lv_at hl 3 rfl) ?_
              refine va_zald hx hb hK hS.1 13 2 rfl rfl (jin.mpr b_9) dX10_lessens_173 ?_
              obtain ⟨o_45, r_47, q_5⟩ := jbd q_5
              have K_46 : ∀ x_48, o_45 = .inl x_48 → jW p l e rmX10_lessens s m args below meth c 0 0 Q D vwCl A (MW ad cI cZ thrown trace upper lower begins size hasShares wires kind first second times byy group whole frm too isThere way sorts ohms price above belo) 6 [(0, .ref (ad 0)), (1, .int a1), (2, .int a2), (3, .int v3_1)] 254 [] := by
                intro x_48 ho H locs ls hS hl
                subst ho
                have q_5 := jexl q_5
                obtain ⟨x_66, ex_66⟩ : ∃ y : Int32, y = v3_1 + (1 : Int32) := ⟨_, rfl⟩
                have q_5 := jlv q_5 ex_66
                refine lv_iinc (v := x_66) (lv' := [(3, .int x_66), (0, .ref (ad 0)), (1, .int a1), (2, .int a2)]) hx hb dX10_lessens_254 hl (k := 3) rfl (by rw [ex_66]; rfl) (by decide) rfl (fun ls hl => ?_)
                refine lv_goto (tgt := 2) hx hb dX10_lessens_257 (by decide) ?_
                exact ih x_66 q_5 _ _ _ hS (lv_sub hl [1, 2, 3, 0] rfl)
              refine lv_if_eq (tgt := 254) hx hb dX10_lessens_174 (by decide) (fun c_49 => ?_) (fun c_49 => ?_)
              · have r_47 := jt r_47 c_49
                obtain rfl := jsm r_47
                exact K_46 _ rfl _ _ _ hS (lv_sub hl [0, 1, 2, 3] rfl)
              · have r_47 := jf r_47 c_49
                refine lv_aload_n hx hb dX10_lessens_177 rfl (lv_at hl 0 rfl) ?_
                refine va_get (D := D) (ci := 11) (v := .ref (ad 11)) (C := RX10) (T := TX10) (N := 24) hx hb hts inX10 hown hK hS.1 0 rfl rfl 15 (by decide) k2 (fun _ h => h) rfl dX10_lessens_178 ?_
                refine lv_iload_n hx hb dX10_lessens_181 rfl (lv_at hl 3 rfl) ?_
                refine va_iald hx hb hK hS.1 11 0 rfl rfl (jin.mpr b_9) dX10_lessens_182 ?_
                refine lv_iload_n hx hb dX10_lessens_183 rfl (lv_at hl 1 rfl) ?_
                obtain ⟨o_50, r_52, r_47⟩ := jbd r_47
                have K_51 : ∀ x_53, o_50 = .inl x_53 → jW p l e rmX10_lessens s m args below meth c 0 0 Q D vwCl A (MW ad cI cZ thrown trace upper lower begins size hasShares wires kind first second times byy group whole frm too isThere way sorts ohms price above belo) 6 [(0, .ref (ad 0)), (1, .int a1), (2, .int a2), (3, .int v3_1)] 211 [] := by
                  intro x_53 ho H locs ls hS hl
                  subst ho
                  have r_47 := jexl r_47
                  refine lv_aload_n hx hb dX10_lessens_211 rfl (lv_at hl 0 rfl) ?_
                  refine va_get (D := D) (ci := 11) (v := .ref (ad 12)) (C := RX10) (T := TX10) (N := 24) hx hb hts inX10 hown hK hS.1 0 rfl rfl 16 (by decide) k3 (fun _ h => h) rfl dX10_lessens_212 ?_
                  refine lv_iload_n hx hb dX10_lessens_215 rfl (lv_at hl 3 rfl) ?_
                  refine va_iald hx hb hK hS.1 12 0 rfl rfl (jin.mpr b_9) dX10_lessens_216 ?_
                  refine lv_iload_n hx hb dX10_lessens_217 rfl (lv_at hl 1 rfl) ?_
                  refine lv_icmp_eq (tgt := 254) hx hb dX10_lessens_218 (by decide) (fun c_60 => ?_) (fun c_60 => ?_)
                  · have r_47 := jt r_47 c_60
                    obtain rfl := jsm r_47
                    exact K_46 _ rfl _ _ _ hS (lv_sub hl [0, 1, 2, 3] rfl)
                  · have r_47 := jf r_47 c_60
                    refine lv_aload_n hx hb dX10_lessens_221 rfl (lv_at hl 0 rfl) ?_
                    refine va_get (D := D) (ci := 11) (v := .ref (ad 12)) (C := RX10) (T := TX10) (N := 24) hx hb hts inX10 hown hK hS.1 0 rfl rfl 16 (by decide) k3 (fun _ h => h) rfl dX10_lessens_222 ?_
                    refine lv_iload_n hx hb dX10_lessens_225 rfl (lv_at hl 3 rfl) ?_
                    refine va_iald hx hb hK hS.1 12 0 rfl rfl (jin.mpr b_9) dX10_lessens_226 ?_
                    refine lv_iload_n hx hb dX10_lessens_227 rfl (lv_at hl 2 rfl) ?_
                    refine lv_icmp_eq (tgt := 254) hx hb dX10_lessens_228 (by decide) (fun c_61 => ?_) (fun c_61 => ?_)
                    · have r_47 := jt r_47 c_61
                      obtain rfl := jsm r_47
                      exact K_46 _ rfl _ _ _ hS (lv_sub hl [0, 1, 2, 3] rfl)
                    · have r_47 := jf r_47 c_61
                      refine lv_aload_n hx hb dX10_lessens_231 rfl (lv_at hl 0 rfl) ?_
                      refine lv_aload_n hx hb dX10_lessens_232 rfl (lv_at hl 0 rfl) ?_
                      refine va_get (D := D) (ci := 11) (v := .ref (ad 12)) (C := RX10) (T := TX10) (N := 24) hx hb hts inX10 hown hK hS.1 0 rfl rfl 16 (by decide) k3 (fun _ h => h) rfl dX10_lessens_233 ?_
                      refine lv_iload_n hx hb dX10_lessens_236 rfl (lv_at hl 3 rfl) ?_
                      refine va_iald hx hb hK hS.1 12 0 rfl rfl (jin.mpr b_9) dX10_lessens_237 ?_
                      obtain ⟨o_62, h_63, r_47⟩ := jbd r_47
                      refine j_Vi (As := [.int (too v3_1.toNatClampNeg)]) (rest := []) (wf := MW ad cI cZ thrown trace upper lower begins size hasShares wires kind first second times byy group whole frm too isThere way sorts ohms price above belo) (vc := (RX10, TX10, 24)) C hK hS (jcut_all hA hS) (tX10_wiresAt l D ad cI cJ cZ cW cS cO cG thrown trace upper lower begins size hasShares wires kind first second times byy group whole frm too isThere way sorts ohms price above belo (too v3_1.toNatClampNeg) h_63) (cwV 1 hts gX10_lessens_X10_wiresAt rfl rfl rfl (by decide +kernel) ⟨Nat.le_of_ble_eq_true rfl, Nat.le_of_ble_eq_true rfl⟩) (q0 := 0) rfl (ci := 11) rfl rfl hl.1 rfl (Nat.le_of_ble_eq_true rfl) dX10_lessens_238 ⟨Nat.zero_le _, Nat.zero_le _⟩ (fun H locs hS => ?_)
                      refine lv_iconst (v := (1 : Int32)) hx hb dX10_lessens_241 (by decide) ?_
                      refine lv_icmp_ne (tgt := 254) hx hb dX10_lessens_242 (by decide) (fun c_64 => ?_) (fun c_64 => ?_)
                      · have r_47 := jf r_47 c_64
                        obtain rfl := jsm r_47
                        exact K_46 _ rfl _ _ _ hS (lv_sub hl [0, 1, 2, 3] rfl)
                      · have r_47 := jt r_47 c_64
                        refine lv_aload_n hx hb dX10_lessens_245 rfl (lv_at hl 0 rfl) ?_
                        refine va_get (D := D) (ci := 11) (v := .ref (ad 13)) (C := RX10) (T := TX10) (N := 24) hx hb hts inX10 hown hK hS.1 0 rfl rfl 17 (by decide) k1 (fun _ h => h) rfl dX10_lessens_246 ?_
                        refine lv_iload_n hx hb dX10_lessens_249 rfl (lv_at hl 3 rfl) ?_
                        refine lv_iconst (v := (0 : Int32)) hx hb dX10_lessens_250 (by decide) ?_
                        obtain ⟨isThere_65, eisThere_65⟩ : ∃ y : Nat → Int32, y = upd isThere v3_1.toNatClampNeg (vp_nar .boolean (0 : Int32)) := ⟨_, rfl⟩
                        have r_47 := jlv r_47 eisThere_65
                        refine j_zast (w' := MW ad cI cZ thrown trace upper lower begins size hasShares wires kind first second times byy group whole frm too isThere_65 way sorts ohms price above belo) hx hb hK hS 13 2 rfl rfl (jin.mpr b_9) (by rw [eisThere_65]; rfl) dX10_lessens_251 (fun H locs hS => ?_)
                        refine lv_iconst (v := (1 : Int32)) hx hb dX10_lessens_252 (by decide) ?_
                        obtain rfl := jsm r_47
                        have q_5 := jexr q_5
                        obtain rfl := jsm q_5
                        have hE := jexr hE
                        obtain rfl := jsm hE
                        exact ret hS jb1 dX10_lessens_253
                refine lv_icmp_eq (tgt := 211) hx hb dX10_lessens_184 (by decide) (fun c_54 => ?_) (fun c_54 => ?_)
                · have r_52 := jt r_52 c_54
                  obtain rfl := jsm r_52
                  exact K_51 _ rfl _ _ _ hS (lv_sub hl [0, 1, 2, 3] rfl)
                · have r_52 := jf r_52 c_54
                  refine lv_aload_n hx hb dX10_lessens_187 rfl (lv_at hl 0 rfl) ?_
                  refine va_get (D := D) (ci := 11) (v := .ref (ad 11)) (C := RX10) (T := TX10) (N := 24) hx hb hts inX10 hown hK hS.1 0 rfl rfl 15 (by decide) k2 (fun _ h => h) rfl dX10_lessens_188 ?_
                  refine lv_iload_n hx hb dX10_lessens_191 rfl (lv_at hl 3 rfl) ?_
                  refine va_iald hx hb hK hS.1 11 0 rfl rfl (jin.mpr b_9) dX10_lessens_192 ?_
                  refine lv_iload_n hx hb dX10_lessens_193 rfl (lv_at hl 2 rfl) ?_
                  refine lv_icmp_eq (tgt := 211) hx hb dX10_lessens_194 (by decide) (fun c_55 => ?_) (fun c_55 => ?_)
                  · have r_52 := jt r_52 c_55
                    obtain rfl := jsm r_52
                    exact K_51 _ rfl _ _ _ hS (lv_sub hl [0, 1, 2, 3] rfl)
                  · have r_52 := jf r_52 c_55
                    refine lv_aload_n hx hb dX10_lessens_197 rfl (lv_at hl 0 rfl) ?_
                    refine lv_aload_n hx hb dX10_lessens_198 rfl (lv_at hl 0 rfl) ?_
                    refine va_get (D := D) (ci := 11) (v := .ref (ad 11)) (C := RX10) (T := TX10) (N := 24) hx hb hts inX10 hown hK hS.1 0 rfl rfl 15 (by decide) k2 (fun _ h => h) rfl dX10_lessens_199 ?_
                    refine lv_iload_n hx hb dX10_lessens_202 rfl (lv_at hl 3 rfl) ?_
                    refine va_iald hx hb hK hS.1 11 0 rfl rfl (jin.mpr b_9) dX10_lessens_203 ?_
                    obtain ⟨o_56, h_57, r_52⟩ := jbd r_52
                    refine j_Vi (As := [.int (frm v3_1.toNatClampNeg)]) (rest := []) (wf := MW ad cI cZ thrown trace upper lower begins size hasShares wires kind first second times byy group whole frm too isThere way sorts ohms price above belo) (vc := (RX10, TX10, 24)) C hK hS (jcut_all hA hS) (tX10_wiresAt l D ad cI cJ cZ cW cS cO cG thrown trace upper lower begins size hasShares wires kind first second times byy group whole frm too isThere way sorts ohms price above belo (frm v3_1.toNatClampNeg) h_57) (cwV 1 hts gX10_lessens_X10_wiresAt rfl rfl rfl (by decide +kernel) ⟨Nat.le_of_ble_eq_true rfl, Nat.le_of_ble_eq_true rfl⟩) (q0 := 0) rfl (ci := 11) rfl rfl hl.1 rfl (Nat.le_of_ble_eq_true rfl) dX10_lessens_204 ⟨Nat.zero_le _, Nat.zero_le _⟩ (fun H locs hS => ?_)
                    refine lv_iconst (v := (1 : Int32)) hx hb dX10_lessens_207 (by decide) ?_
                    refine lv_icmp_eq (tgt := 245) hx hb dX10_lessens_208 (by decide) (fun c_58 => ?_) (fun c_58 => ?_)
                    · have r_52 := jt r_52 c_58
                      refine lv_aload_n hx hb dX10_lessens_245 rfl (lv_at hl 0 rfl) ?_
                      refine va_get (D := D) (ci := 11) (v := .ref (ad 13)) (C := RX10) (T := TX10) (N := 24) hx hb hts inX10 hown hK hS.1 0 rfl rfl 17 (by decide) k1 (fun _ h => h) rfl dX10_lessens_246 ?_
                      refine lv_iload_n hx hb dX10_lessens_249 rfl (lv_at hl 3 rfl) ?_
                      refine lv_iconst (v := (0 : Int32)) hx hb dX10_lessens_250 (by decide) ?_
                      obtain ⟨isThere_59, eisThere_59⟩ : ∃ y : Nat → Int32, y = upd isThere v3_1.toNatClampNeg (vp_nar .boolean (0 : Int32)) := ⟨_, rfl⟩
                      have r_52 := jlv r_52 eisThere_59
                      refine j_zast (w' := MW ad cI cZ thrown trace upper lower begins size hasShares wires kind first second times byy group whole frm too isThere_59 way sorts ohms price above belo) hx hb hK hS 13 2 rfl rfl (jin.mpr b_9) (by rw [eisThere_59]; rfl) dX10_lessens_251 (fun H locs hS => ?_)
                      refine lv_iconst (v := (1 : Int32)) hx hb dX10_lessens_252 (by decide) ?_
                      obtain rfl := jsm r_52
                      have r_47 := jexr r_47
                      obtain rfl := jsm r_47
                      have q_5 := jexr q_5
                      obtain rfl := jsm q_5
                      have hE := jexr hE
                      obtain rfl := jsm hE
                      exact ret hS jb1 dX10_lessens_253
                    · have r_52 := jf r_52 c_58
                      obtain rfl := jsm r_52
                      exact K_51 _ rfl _ _ _ hS (lv_sub hl [0, 1, 2, 3] rfl)
            refine lv_if_eq (tgt := 168) hx hb dX10_lessens_151 (by decide) (fun c_42 => ?_) (fun c_42 => ?_)
            · have r_40 := jt r_40 c_42
              obtain rfl := jsm r_40
              exact K_39 _ rfl _ _ _ hS (lv_sub hl [0, 1, 2, 3] rfl)
            · have r_40 := jf r_40 c_42
              refine lv_iload hx hb dX10_lessens_154 (lv_at hl 4 rfl) ?_
              refine lv_if_eq (tgt := 168) hx hb dX10_lessens_156 (by decide) (fun c_43 => ?_) (fun c_43 => ?_)
              · have r_40 := jt r_40 c_43
                obtain rfl := jsm r_40
                exact K_39 _ rfl _ _ _ hS (lv_sub hl [0, 1, 2, 3] rfl)
              · have r_40 := jf r_40 c_43
                refine lv_aload_n hx hb dX10_lessens_159 rfl (lv_at hl 0 rfl) ?_
                refine va_get (D := D) (ci := 11) (v := .ref (ad 13)) (C := RX10) (T := TX10) (N := 24) hx hb hts inX10 hown hK hS.1 0 rfl rfl 17 (by decide) k1 (fun _ h => h) rfl dX10_lessens_160 ?_
                refine lv_iload_n hx hb dX10_lessens_163 rfl (lv_at hl 3 rfl) ?_
                refine lv_iconst (v := (0 : Int32)) hx hb dX10_lessens_164 (by decide) ?_
                obtain ⟨isThere_44, eisThere_44⟩ : ∃ y : Nat → Int32, y = upd isThere v3_1.toNatClampNeg (vp_nar .boolean (0 : Int32)) := ⟨_, rfl⟩
                have r_40 := jlv r_40 eisThere_44
                refine j_zast (w' := MW ad cI cZ thrown trace upper lower begins size hasShares wires kind first second times byy group whole frm too isThere_44 way sorts ohms price above belo) hx hb hK hS 13 2 rfl rfl (jin.mpr b_9) (by rw [eisThere_44]; rfl) dX10_lessens_165 (fun H locs hS => ?_)
                refine lv_iconst (v := (1 : Int32)) hx hb dX10_lessens_166 (by decide) ?_
                obtain rfl := jsm r_40
                have q_5 := jexr q_5
                obtain rfl := jsm q_5
                have hE := jexr hE
                obtain rfl := jsm hE
                exact ret hS jb1 dX10_lessens_167
          have loop_23 : ∀ (n : Nat) (v4_17 : Int32) (v5_18 : Int32), LX10_lessens_49 frm too isThere v3_1 n v4_17 v5_18 = some o_19 → jW p l e rmX10_lessens s m args below meth c 0 0 Q D vwCl A (MW ad cI cZ thrown trace upper lower begins size hasShares wires kind first second times byy group whole frm too isThere way sorts ohms price above belo) 6 [(0, .ref (ad 0)), (1, .int a1), (2, .int a2), (3, .int v3_1), (4, .int v4_17), (5, .int v5_18)] 49 [] := by
            intro n
            induction n with
            | zero =>
              intro v4_17 v5_18 q_22
              have q_22 : none = some o_19 := q_22
              cases q_22
            | succ n ih =>
              intro v4_17 v5_18 q_22 H locs ls hS hl
              rw [LX10_lessens_49] at q_22
              refine lv_iload hx hb dX10_lessens_49 (lv_at hl 5 rfl) ?_
              refine lv_iload_n hx hb dX10_lessens_51 rfl (lv_at hl 3 rfl) ?_
              refine lv_icmp_ge (tgt := 145) hx hb dX10_lessens_52 (by decide) (fun c_24 => ?_) (fun c_24 => ?_)
              · have q_22 := jt q_22 c_24
                obtain rfl := jsm q_22
                exact K_21 _ _ _ hS (lv_sub hl [0, 1, 2, 3, 4] rfl)
              · have q_22 := jf q_22 c_24
                refine lv_iload hx hb dX10_lessens_55 (lv_at hl 4 rfl) ?_
                refine lv_aload_n hx hb dX10_lessens_57 rfl (lv_at hl 0 rfl) ?_
                refine va_get (D := D) (ci := 11) (v := .ref (ad 13)) (C := RX10) (T := TX10) (N := 24) hx hb hts inX10 hown hK hS.1 0 rfl rfl 17 (by decide) k1 (fun _ h => h) rfl dX10_lessens_58 ?_
                refine lv_iload hx hb dX10_lessens_61 (lv_at hl 5 rfl) ?_
                obtain ⟨b_25, q_22⟩ := jgd q_22
                refine va_zald hx hb hK hS.1 13 2 rfl rfl (jin.mpr b_25) dX10_lessens_63 ?_
                obtain ⟨o_26, r_28⟩ : ∃ y : Int32, y = (if (isThere v5_18.toNatClampNeg) = 0 then (0 : Int32) else if (frm v5_18.toNatClampNeg) = (frm v3_1.toNatClampNeg) then if (too v5_18.toNatClampNeg) = (too v3_1.toNatClampNeg) then (1 : Int32) else if (frm v5_18.toNatClampNeg) = (too v3_1.toNatClampNeg) then if (too v5_18.toNatClampNeg) = (frm v3_1.toNatClampNeg) then (1 : Int32) else (0 : Int32) else (0 : Int32) else if (frm v5_18.toNatClampNeg) = (too v3_1.toNatClampNeg) then if (too v5_18.toNatClampNeg) = (frm v3_1.toNatClampNeg) then (1 : Int32) else (0 : Int32) else (0 : Int32)) := ⟨_, rfl⟩
                have q_22 := jlv q_22 r_28
                have K_27 : jW p l e rmX10_lessens s m args below meth c 0 0 Q D vwCl A (MW ad cI cZ thrown trace upper lower begins size hasShares wires kind first second times byy group whole frm too isThere way sorts ohms price above belo) 6 [(0, .ref (ad 0)), (1, .int a1), (2, .int a2), (3, .int v3_1), (5, .int v5_18)] 136 [.int o_26, .int v4_17] := by
                  intro H locs ls hS hl
                  refine lv_ior hx hb dX10_lessens_136 ?_
                  refine lv_topi (fun x_36 ex_36 => ?_)
                  have q_22 := jlv q_22 ex_36
                  refine lv_istore (lv' := [(4, .int x_36), (0, .ref (ad 0)), (1, .int a1), (2, .int a2), (3, .int v3_1), (5, .int v5_18)]) hx hb dX10_lessens_137 hl (by decide) rfl (fun ls hl => ?_)
                  obtain ⟨x_37, ex_37⟩ : ∃ y : Int32, y = v5_18 + (1 : Int32) := ⟨_, rfl⟩
                  have q_22 := jlv q_22 ex_37
                  refine lv_iinc (v := x_37) (lv' := [(5, .int x_37), (4, .int x_36), (0, .ref (ad 0)), (1, .int a1), (2, .int a2), (3, .int v3_1)]) hx hb dX10_lessens_139 hl (k := 5) rfl (by rw [ex_37]; rfl) (by decide) rfl (fun ls hl => ?_)
                  refine lv_goto (tgt := 49) hx hb dX10_lessens_142 (by decide) ?_
                  exact ih x_36 x_37 q_22 _ _ _ hS (lv_sub hl [2, 3, 4, 5, 1, 0] rfl)
                refine lv_if_eq (tgt := 135) hx hb dX10_lessens_64 (by decide) (fun c_29 => ?_) (fun c_29 => ?_)
                · have r_28 := r_28.trans (if_pos c_29)
                  refine lv_iconst (v := (0 : Int32)) hx hb dX10_lessens_135 (by decide) ?_
                  subst r_28
                  exact K_27 _ _ _ hS (lv_sub hl [0, 1, 2, 3, 5] rfl)
                · have r_28 := r_28.trans (if_neg c_29)
                  refine lv_aload_n hx hb dX10_lessens_67 rfl (lv_at hl 0 rfl) ?_
                  refine va_get (D := D) (ci := 11) (v := .ref (ad 11)) (C := RX10) (T := TX10) (N := 24) hx hb hts inX10 hown hK hS.1 0 rfl rfl 15 (by decide) k2 (fun _ h => h) rfl dX10_lessens_68 ?_
                  refine lv_iload hx hb dX10_lessens_71 (lv_at hl 5 rfl) ?_
                  refine va_iald hx hb hK hS.1 11 0 rfl rfl (jin.mpr b_25) dX10_lessens_73 ?_
                  refine lv_aload_n hx hb dX10_lessens_74 rfl (lv_at hl 0 rfl) ?_
                  refine va_get (D := D) (ci := 11) (v := .ref (ad 11)) (C := RX10) (T := TX10) (N := 24) hx hb hts inX10 hown hK hS.1 0 rfl rfl 15 (by decide) k2 (fun _ h => h) rfl dX10_lessens_75 ?_
                  refine lv_iload_n hx hb dX10_lessens_78 rfl (lv_at hl 3 rfl) ?_
                  refine va_iald hx hb hK hS.1 11 0 rfl rfl (jin.mpr b_9) dX10_lessens_79 ?_
                  refine lv_icmp_ne (tgt := 99) hx hb dX10_lessens_80 (by decide) (fun c_30 => ?_) (fun c_30 => ?_)
                  · have r_28 := r_28.trans (if_neg c_30)
                    refine lv_aload_n hx hb dX10_lessens_99 rfl (lv_at hl 0 rfl) ?_
                    refine va_get (D := D) (ci := 11) (v := .ref (ad 11)) (C := RX10) (T := TX10) (N := 24) hx hb hts inX10 hown hK hS.1 0 rfl rfl 15 (by decide) k2 (fun _ h => h) rfl dX10_lessens_100 ?_
                    refine lv_iload hx hb dX10_lessens_103 (lv_at hl 5 rfl) ?_
                    refine va_iald hx hb hK hS.1 11 0 rfl rfl (jin.mpr b_25) dX10_lessens_105 ?_
                    refine lv_aload_n hx hb dX10_lessens_106 rfl (lv_at hl 0 rfl) ?_
                    refine va_get (D := D) (ci := 11) (v := .ref (ad 12)) (C := RX10) (T := TX10) (N := 24) hx hb hts inX10 hown hK hS.1 0 rfl rfl 16 (by decide) k3 (fun _ h => h) rfl dX10_lessens_107 ?_
                    refine lv_iload_n hx hb dX10_lessens_110 rfl (lv_at hl 3 rfl) ?_
                    refine va_iald hx hb hK hS.1 12 0 rfl rfl (jin.mpr b_9) dX10_lessens_111 ?_
                    refine lv_icmp_ne (tgt := 135) hx hb dX10_lessens_112 (by decide) (fun c_31 => ?_) (fun c_31 => ?_)
                    · have r_28 := r_28.trans (if_neg c_31)
                      refine lv_iconst (v := (0 : Int32)) hx hb dX10_lessens_135 (by decide) ?_
                      subst r_28
                      exact K_27 _ _ _ hS (lv_sub hl [0, 1, 2, 3, 5] rfl)
                    · have r_28 := r_28.trans (if_pos c_31)
                      refine lv_aload_n hx hb dX10_lessens_115 rfl (lv_at hl 0 rfl) ?_
                      refine va_get (D := D) (ci := 11) (v := .ref (ad 12)) (C := RX10) (T := TX10) (N := 24) hx hb hts inX10 hown hK hS.1 0 rfl rfl 16 (by decide) k3 (fun _ h => h) rfl dX10_lessens_116 ?_
                      refine lv_iload hx hb dX10_lessens_119 (lv_at hl 5 rfl) ?_
                      refine va_iald hx hb hK hS.1 12 0 rfl rfl (jin.mpr b_25) dX10_lessens_121 ?_
                      refine lv_aload_n hx hb dX10_lessens_122 rfl (lv_at hl 0 rfl) ?_
                      refine va_get (D := D) (ci := 11) (v := .ref (ad 11)) (C := RX10) (T := TX10) (N := 24) hx hb hts inX10 hown hK hS.1 0 rfl rfl 15 (by decide) k2 (fun _ h => h) rfl dX10_lessens_123 ?_
                      refine lv_iload_n hx hb dX10_lessens_126 rfl (lv_at hl 3 rfl) ?_
                      refine va_iald hx hb hK hS.1 11 0 rfl rfl (jin.mpr b_9) dX10_lessens_127 ?_
                      refine lv_icmp_ne (tgt := 135) hx hb dX10_lessens_128 (by decide) (fun c_32 => ?_) (fun c_32 => ?_)
                      · have r_28 := r_28.trans (if_neg c_32)
                        refine lv_iconst (v := (0 : Int32)) hx hb dX10_lessens_135 (by decide) ?_
                        subst r_28
                        exact K_27 _ _ _ hS (lv_sub hl [0, 1, 2, 3, 5] rfl)
                      · have r_28 := r_28.trans (if_pos c_32)
                        refine lv_iconst (v := (1 : Int32)) hx hb dX10_lessens_131 (by decide) ?_
                        refine lv_goto (tgt := 136) hx hb dX10_lessens_132 (by decide) ?_
                        subst r_28
                        exact K_27 _ _ _ hS (lv_sub hl [0, 1, 2, 3, 5] rfl)
                  · have r_28 := r_28.trans (if_pos c_30)
                    refine lv_aload_n hx hb dX10_lessens_83 rfl (lv_at hl 0 rfl) ?_
                    refine va_get (D := D) (ci := 11) (v := .ref (ad 12)) (C := RX10) (T := TX10) (N := 24) hx hb hts inX10 hown hK hS.1 0 rfl rfl 16 (by decide) k3 (fun _ h => h) rfl dX10_lessens_84 ?_
                    refine lv_iload hx hb dX10_lessens_87 (lv_at hl 5 rfl) ?_
                    refine va_iald hx hb hK hS.1 12 0 rfl rfl (jin.mpr b_25) dX10_lessens_89 ?_
                    refine lv_aload_n hx hb dX10_lessens_90 rfl (lv_at hl 0 rfl) ?_
                    refine va_get (D := D) (ci := 11) (v := .ref (ad 12)) (C := RX10) (T := TX10) (N := 24) hx hb hts inX10 hown hK hS.1 0 rfl rfl 16 (by decide) k3 (fun _ h => h) rfl dX10_lessens_91 ?_
                    refine lv_iload_n hx hb dX10_lessens_94 rfl (lv_at hl 3 rfl) ?_
                    refine va_iald hx hb hK hS.1 12 0 rfl rfl (jin.mpr b_9) dX10_lessens_95 ?_
                    refine lv_icmp_eq (tgt := 131) hx hb dX10_lessens_96 (by decide) (fun c_33 => ?_) (fun c_33 => ?_)
                    · have r_28 := r_28.trans (if_pos c_33)
                      refine lv_iconst (v := (1 : Int32)) hx hb dX10_lessens_131 (by decide) ?_
                      refine lv_goto (tgt := 136) hx hb dX10_lessens_132 (by decide) ?_
                      subst r_28
                      exact K_27 _ _ _ hS (lv_sub hl [0, 1, 2, 3, 5] rfl)
                    · have r_28 := r_28.trans (if_neg c_33)
                      refine lv_aload_n hx hb dX10_lessens_99 rfl (lv_at hl 0 rfl) ?_
                      refine va_get (D := D) (ci := 11) (v := .ref (ad 11)) (C := RX10) (T := TX10) (N := 24) hx hb hts inX10 hown hK hS.1 0 rfl rfl 15 (by decide) k2 (fun _ h => h) rfl dX10_lessens_100 ?_
                      refine lv_iload hx hb dX10_lessens_103 (lv_at hl 5 rfl) ?_
                      refine va_iald hx hb hK hS.1 11 0 rfl rfl (jin.mpr b_25) dX10_lessens_105 ?_
                      refine lv_aload_n hx hb dX10_lessens_106 rfl (lv_at hl 0 rfl) ?_
                      refine va_get (D := D) (ci := 11) (v := .ref (ad 12)) (C := RX10) (T := TX10) (N := 24) hx hb hts inX10 hown hK hS.1 0 rfl rfl 16 (by decide) k3 (fun _ h => h) rfl dX10_lessens_107 ?_
                      refine lv_iload_n hx hb dX10_lessens_110 rfl (lv_at hl 3 rfl) ?_
                      refine va_iald hx hb hK hS.1 12 0 rfl rfl (jin.mpr b_9) dX10_lessens_111 ?_
                      refine lv_icmp_ne (tgt := 135) hx hb dX10_lessens_112 (by decide) (fun c_34 => ?_) (fun c_34 => ?_)
                      · have r_28 := r_28.trans (if_neg c_34)
                        refine lv_iconst (v := (0 : Int32)) hx hb dX10_lessens_135 (by decide) ?_
                        subst r_28
                        exact K_27 _ _ _ hS (lv_sub hl [0, 1, 2, 3, 5] rfl)
                      · have r_28 := r_28.trans (if_pos c_34)
                        refine lv_aload_n hx hb dX10_lessens_115 rfl (lv_at hl 0 rfl) ?_
                        refine va_get (D := D) (ci := 11) (v := .ref (ad 12)) (C := RX10) (T := TX10) (N := 24) hx hb hts inX10 hown hK hS.1 0 rfl rfl 16 (by decide) k3 (fun _ h => h) rfl dX10_lessens_116 ?_
                        refine lv_iload hx hb dX10_lessens_119 (lv_at hl 5 rfl) ?_
                        refine va_iald hx hb hK hS.1 12 0 rfl rfl (jin.mpr b_25) dX10_lessens_121 ?_
                        refine lv_aload_n hx hb dX10_lessens_122 rfl (lv_at hl 0 rfl) ?_
                        refine va_get (D := D) (ci := 11) (v := .ref (ad 11)) (C := RX10) (T := TX10) (N := 24) hx hb hts inX10 hown hK hS.1 0 rfl rfl 15 (by decide) k2 (fun _ h => h) rfl dX10_lessens_123 ?_
                        refine lv_iload_n hx hb dX10_lessens_126 rfl (lv_at hl 3 rfl) ?_
                        refine va_iald hx hb hK hS.1 11 0 rfl rfl (jin.mpr b_9) dX10_lessens_127 ?_
                        refine lv_icmp_ne (tgt := 135) hx hb dX10_lessens_128 (by decide) (fun c_35 => ?_) (fun c_35 => ?_)
                        · have r_28 := r_28.trans (if_neg c_35)
                          refine lv_iconst (v := (0 : Int32)) hx hb dX10_lessens_135 (by decide) ?_
                          subst r_28
                          exact K_27 _ _ _ hS (lv_sub hl [0, 1, 2, 3, 5] rfl)
                        · have r_28 := r_28.trans (if_pos c_35)
                          refine lv_iconst (v := (1 : Int32)) hx hb dX10_lessens_131 (by decide) ?_
                          refine lv_goto (tgt := 136) hx hb dX10_lessens_132 (by decide) ?_
                          subst r_28
                          exact K_27 _ _ _ hS (lv_sub hl [0, 1, 2, 3, 5] rfl)
          exact loop_23 5000 (0 : Int32) (0 : Int32) L_20 _ _ _ hS (lv_sub hl [2, 3, 4, 5, 1, 0] rfl)
        refine lv_if_eq (tgt := 43) hx hb dX10_lessens_16 (by decide) (fun c_14 => ?_) (fun c_14 => ?_)
        · have r_12 := jt r_12 c_14
          obtain rfl := jsm r_12
          exact K_11 _ rfl _ _ _ hS (lv_sub hl [0, 1, 2, 3] rfl)
        · have r_12 := jf r_12 c_14
          refine lv_aload_n hx hb dX10_lessens_19 rfl (lv_at hl 0 rfl) ?_
          refine va_get (D := D) (ci := 11) (v := .ref (ad 11)) (C := RX10) (T := TX10) (N := 24) hx hb hts inX10 hown hK hS.1 0 rfl rfl 15 (by decide) k2 (fun _ h => h) rfl dX10_lessens_20 ?_
          refine lv_iload_n hx hb dX10_lessens_23 rfl (lv_at hl 3 rfl) ?_
          refine va_iald hx hb hK hS.1 11 0 rfl rfl (jin.mpr b_9) dX10_lessens_24 ?_
          refine lv_aload_n hx hb dX10_lessens_25 rfl (lv_at hl 0 rfl) ?_
          refine va_get (D := D) (ci := 11) (v := .ref (ad 12)) (C := RX10) (T := TX10) (N := 24) hx hb hts inX10 hown hK hS.1 0 rfl rfl 16 (by decide) k3 (fun _ h => h) rfl dX10_lessens_26 ?_
          refine lv_iload_n hx hb dX10_lessens_29 rfl (lv_at hl 3 rfl) ?_
          refine va_iald hx hb hK hS.1 12 0 rfl rfl (jin.mpr b_9) dX10_lessens_30 ?_
          refine lv_icmp_ne (tgt := 43) hx hb dX10_lessens_31 (by decide) (fun c_15 => ?_) (fun c_15 => ?_)
          · have r_12 := jf r_12 c_15
            obtain rfl := jsm r_12
            exact K_11 _ rfl _ _ _ hS (lv_sub hl [0, 1, 2, 3] rfl)
          · have r_12 := jt r_12 c_15
            refine lv_aload_n hx hb dX10_lessens_34 rfl (lv_at hl 0 rfl) ?_
            refine va_get (D := D) (ci := 11) (v := .ref (ad 13)) (C := RX10) (T := TX10) (N := 24) hx hb hts inX10 hown hK hS.1 0 rfl rfl 17 (by decide) k1 (fun _ h => h) rfl dX10_lessens_35 ?_
            refine lv_iload_n hx hb dX10_lessens_38 rfl (lv_at hl 3 rfl) ?_
            refine lv_iconst (v := (0 : Int32)) hx hb dX10_lessens_39 (by decide) ?_
            obtain ⟨isThere_16, eisThere_16⟩ : ∃ y : Nat → Int32, y = upd isThere v3_1.toNatClampNeg (vp_nar .boolean (0 : Int32)) := ⟨_, rfl⟩
            have r_12 := jlv r_12 eisThere_16
            refine j_zast (w' := MW ad cI cZ thrown trace upper lower begins size hasShares wires kind first second times byy group whole frm too isThere_16 way sorts ohms price above belo) hx hb hK hS 13 2 rfl rfl (jin.mpr b_9) (by rw [eisThere_16]; rfl) dX10_lessens_40 (fun H locs hS => ?_)
            refine lv_iconst (v := (1 : Int32)) hx hb dX10_lessens_41 (by decide) ?_
            obtain rfl := jsm r_12
            have q_5 := jexr q_5
            obtain rfl := jsm q_5
            have hE := jexr hE
            obtain rfl := jsm hE
            exact ret hS jb1 dX10_lessens_42
  exact loop_6 5000 (0 : Int32) L_3 _ _ _ hS (lv_sub hl [1, 2, 3, 0] rfl)
def LX10_falls_40 (wires : Int32) (first : Nat → Int32) (second : Nat → Int32) (a1 : Int32) (o_8 : Int32 × (Nat → Int32) × (Nat → Int32)) : Nat → (Int32) → (Nat → Int32) → (Nat → Int32) → (Nat → Int32) → Option ((Nat → Int32) × (Nat → Int32) × (Nat → Int32))
  | 0, _, _, _, _ => none
  | n + 1, v3_11, frm_12, too_13, isThere_14 =>
    if wires ≤ v3_11 then
    some (frm_12, too_13, isThere_14)
    else
    if jok v3_11 12 then
    jlet (upd frm_12 v3_11.toNatClampNeg (first v3_11.toNatClampNeg)) (fun frm_22 => 
    jlet (upd too_13 v3_11.toNatClampNeg (second v3_11.toNatClampNeg)) (fun too_23 => 
    if jok (first v3_11.toNatClampNeg) 6 then
    if jok a1 6 then
    jlet (if (o_8.2.2 (first v3_11.toNatClampNeg).toNatClampNeg) = (o_8.2.2 a1.toNatClampNeg) then
    (1 : Int32)
    else
    (0 : Int32)) (fun o_26 => 
    jlet (upd isThere_14 v3_11.toNatClampNeg (vp_nar .boolean o_26)) (fun isThere_30 => 
    jlet (v3_11 + (1 : Int32)) (fun x_31 => 
    LX10_falls_40 wires first second a1 o_8 n x_31 frm_22 too_23 isThere_30)))
    else none
    else none))
    else none
def LX10_falls_111 (wires : Int32) (a1 : Int32) (a2 : Int32) : Nat → (Int32) → (Nat → Int32) → (Nat → Int32) → (Nat → Int32) → Option ((Nat → Int32) × (Nat → Int32) × (Nat → Int32))
  | 0, _, _, _, _ => none
  | n + 1, v3_32, frm_33, too_34, isThere_35 =>
    if v3_32 = 0 then
    some (frm_33, too_34, isThere_35)
    else
    (fX10_lessens a1 a2 wires frm_33 too_34 isThere_35).bind (fun o_42 => 
    jlet o_42.1 (fun x_44 => 
    LX10_falls_111 wires a1 a2 n x_44 o_42.2.1 o_42.2.2.1 o_42.2.2.2))
def LX10_falls_134 (wires : Int32) (a1 : Int32) (a2 : Int32) (o_36 : (Nat → Int32) × (Nat → Int32) × (Nat → Int32)) : Nat → (Int32) → (Int32) → (Int32) → Option (Int32 × Int32)
  | 0, _, _, _ => none
  | n + 1, v4_45, v5_46, v6_47 =>
    if wires ≤ v6_47 then
    some (v4_45, v5_46)
    else
    if jok v6_47 12 then
    jlet (if (o_36.2.2 v6_47.toNatClampNeg) = 0 then
    (0 : Int32)
    else
    (1 : Int32)) (fun o_55 => 
    jlet (v4_45 + o_55) (fun x_59 => 
    jlet (if (o_36.2.2 v6_47.toNatClampNeg) = 0 then
    (0 : Int32)
    else
    if (o_36.1 v6_47.toNatClampNeg) = a1 then
    if (o_36.2.1 v6_47.toNatClampNeg) = a2 then
    (1 : Int32)
    else
    if (o_36.1 v6_47.toNatClampNeg) = a2 then
    if (o_36.2.1 v6_47.toNatClampNeg) = a1 then
    (1 : Int32)
    else
    (0 : Int32)
    else
    (0 : Int32)
    else
    if (o_36.1 v6_47.toNatClampNeg) = a2 then
    if (o_36.2.1 v6_47.toNatClampNeg) = a1 then
    (1 : Int32)
    else
    (0 : Int32)
    else
    (0 : Int32)) (fun o_60 => 
    jlet (v5_46 ||| o_60) (fun x_70 => 
    jlet (v6_47 + (1 : Int32)) (fun x_71 => 
    LX10_falls_134 wires a1 a2 o_36 n x_59 x_70 x_71)))))
    else none
def fX10_falls (a1 : Int32) (a2 : Int32) (wires : Int32) (first : Nat → Int32) (second : Nat → Int32) (group : Nat → Int32) (whole : Nat → Int32) (frm : Nat → Int32) (too : Nat → Int32) (isThere : Nat → Int32) : Option (Int32 × Int32 × (Nat → Int32) × (Nat → Int32) × (Nat → Int32) × (Nat → Int32) × (Nat → Int32)) :=
  (fX10_isKnot a1).bind (fun o_1 => 
  if o_1 = 0 then
  some ((-1 : Int32), (0 : Int32), group, whole, frm, too, isThere)
  else
  (fX10_isKnot a2).bind (fun o_4 => 
  if o_4 = 0 then
  some ((-1 : Int32), (0 : Int32), group, whole, frm, too, isThere)
  else
  if a1 = a2 then
  some ((-1 : Int32), (0 : Int32), group, whole, frm, too, isThere)
  else
  (fX10_hang a1 a2 wires first second group whole).bind (fun o_8 => 
  if o_8.1 = 0 then
  some ((-2 : Int32), (0 : Int32), o_8.2.1, o_8.2.2, frm, too, isThere)
  else
  (LX10_falls_40 wires first second a1 o_8 5000 (0 : Int32) frm too isThere).bind (fun o_15 => 
  (LX10_falls_111 wires a1 a2 5000 (1 : Int32) o_15.1 o_15.2.1 o_15.2.2).bind (fun o_36 => 
  (LX10_falls_134 wires a1 a2 o_36 5000 (0 : Int32) (0 : Int32) (0 : Int32)).bind (fun o_48 => 
  if o_48.1 = (1 : Int32) then
  if o_48.2 = 0 then
  some ((0 : Int32), (0 : Int32), o_8.2.1, o_8.2.2, o_36.1, o_36.2.1, o_36.2.2)
  else
  some ((1 : Int32), (0 : Int32), o_8.2.1, o_8.2.2, o_36.1, o_36.2.1, o_36.2.2)
  else
  some ((0 : Int32), (0 : Int32), o_8.2.1, o_8.2.2, o_36.1, o_36.2.1, o_36.2.2)))))))
abbrev rmX10_falls : Room := { frames := 2, cells := 0, slots := 0, locals := 49 }
set_option maxHeartbeats 4000000 in
set_option maxRecDepth 100000 in
theorem tX10_falls (l : Launch) (D : va_G) (ad : Nat → Nat) (cI cJ cZ cW cS cO cG : ClassId) (thrown : Int32) (trace : Int64) (upper : Nat → Int32) (lower : Nat → Int32) (begins : Nat → Int32) (size : Int32) (hasShares : Int32) (wires : Int32) (kind : Nat → Int32) (first : Nat → Int32) (second : Nat → Int32) (times : Nat → Int32) (byy : Nat → Int32) (group : Nat → Int32) (whole : Nat → Int32) (frm : Nat → Int32) (too : Nat → Int32) (isThere : Nat → Int32) (way : Nat → Int32) (sorts : Int32) (ohms : Nat → Int32) (price : Nat → Int32) (above : Int64) (belo : Int64) (a1 : Int32) (a2 : Int32) {o : Int32 × Int32 × (Nat → Int32) × (Nat → Int32) × (Nat → Int32) × (Nat → Int32) × (Nat → Int32)} (hE : fX10_falls a1 a2 wires first second group whole frm too isThere = some o) : JMi l yX10_falls wsX10_falls rmX10_falls D vwCl (TY cI cJ cZ cW cS cO cG) [.ref (ad 0), .int a1, .int a2] (MW ad cI cZ thrown trace upper lower begins size hasShares wires kind first second times byy group whole frm too isThere way sorts ohms price above belo) (MW ad cI cZ o.2.1 trace upper lower begins size hasShares wires kind first second times byy o.2.2.1 o.2.2.2.1 o.2.2.2.2.1 o.2.2.2.2.2.1 o.2.2.2.2.2.2 way sorts ohms price above belo) o.1 := by
  refine JMi.of (cc := cX10_falls) (maxL := 7) (by decide) rfl (Nat.le_of_ble_eq_true rfl) ?_
  intro p e s m args below meth c A ls Q C hK hA ret hS hl
  obtain ⟨⟨hx, hb, hml, hown, hts⟩, -⟩ := id C
  have hl : lv_has ls 7 [(0, .ref (ad 0)), (1, .int a1), (2, .int a2)] := hl
  have inX10 : ∀ w ∈ u_ws RX10 TX10 24, w ∈ wsX10_falls := by decide +kernel
  have k0 := hts (.fieldLink RX10 59 "OhmNetsModel" "thrown" "I") (by decide +kernel)
  have k1 := hts (.fieldLink RX10 119 "OhmNetsModel" "wires" "I") (by decide +kernel)
  have k2 := hts (.fieldLink RX10 40 "OhmNetsModel" "from" "[I") (by decide +kernel)
  have k3 := hts (.fieldLink RX10 22 "OhmNetsModel" "first" "[I") (by decide +kernel)
  have k4 := hts (.fieldLink RX10 43 "OhmNetsModel" "to" "[I") (by decide +kernel)
  have k5 := hts (.fieldLink RX10 25 "OhmNetsModel" "second" "[I") (by decide +kernel)
  have k6 := hts (.fieldLink RX10 46 "OhmNetsModel" "isThere" "[Z") (by decide +kernel)
  have k7 := hts (.fieldLink RX10 37 "OhmNetsModel" "whole" "[I") (by decide +kernel)
  refine lv_aload_n hx hb dX10_falls_0 rfl (lv_at hl 0 rfl) ?_
  refine lv_iconst (v := (0 : Int32)) hx hb dX10_falls_1 (by decide) ?_
  refine j_put (ci := 11) (v := .int (0 : Int32)) (ty := .int) (C := RX10) (T := TX10) (N := 24) (w' := MW ad cI cZ (0 : Int32) trace upper lower begins size hasShares wires kind first second times byy group whole frm too isThere way sorts ohms price above belo) hx hb hts inX10 tyX10 tyX10_ok nmX10 hown hK hS 0 rfl rfl 0 (by decide) k0 (fun _ h => h) rfl (by decide +kernel) rfl rfl (Nat.le_of_ble_eq_true rfl) rfl dX10_falls_2 (fun H locs hS => ?_)
  refine lv_iload_n hx hb dX10_falls_5 rfl (lv_at hl 1 rfl) ?_
  obtain ⟨o_1, h_2, hE⟩ := jbd hE
  refine j_Si (As := [.int a1]) (rest := []) (wf := MW ad cI cZ (0 : Int32) trace upper lower begins size hasShares wires kind first second times byy group whole frm too isThere way sorts ohms price above belo) C hK hS (jcut_nil hA hS) (tX10_isKnot l D cI cJ cZ cW cS cO cG a1 h_2) (va_cwS 1 hts gX10_falls_X10_isKnot rfl rfl rfl (by decide +kernel) ⟨Nat.le_of_ble_eq_true rfl, Nat.le_of_ble_eq_true rfl⟩) rfl hl.1 rfl (Nat.le_of_ble_eq_true rfl) dX10_falls_6 ⟨Nat.zero_le _, Nat.zero_le _⟩ (fun H locs hS => ?_)
  refine lv_if_eq (tgt := 24) hx hb dX10_falls_9 (by decide) (fun c_3 => ?_) (fun c_3 => ?_)
  · have hE := jt hE c_3
    refine lv_iconst (v := (-1 : Int32)) hx hb dX10_falls_24 (by decide) ?_
    obtain rfl := jsm hE
    exact ret hS rfl dX10_falls_25
  · have hE := jf hE c_3
    refine lv_iload_n hx hb dX10_falls_12 rfl (lv_at hl 2 rfl) ?_
    obtain ⟨o_4, h_5, hE⟩ := jbd hE
    refine j_Si (As := [.int a2]) (rest := []) (wf := MW ad cI cZ (0 : Int32) trace upper lower begins size hasShares wires kind first second times byy group whole frm too isThere way sorts ohms price above belo) C hK hS (jcut_nil hA hS) (tX10_isKnot l D cI cJ cZ cW cS cO cG a2 h_5) (va_cwS 1 hts gX10_falls_X10_isKnot rfl rfl rfl (by decide +kernel) ⟨Nat.le_of_ble_eq_true rfl, Nat.le_of_ble_eq_true rfl⟩) rfl hl.1 rfl (Nat.le_of_ble_eq_true rfl) dX10_falls_13 ⟨Nat.zero_le _, Nat.zero_le _⟩ (fun H locs hS => ?_)
    refine lv_if_eq (tgt := 24) hx hb dX10_falls_16 (by decide) (fun c_6 => ?_) (fun c_6 => ?_)
    · have hE := jt hE c_6
      refine lv_iconst (v := (-1 : Int32)) hx hb dX10_falls_24 (by decide) ?_
      obtain rfl := jsm hE
      exact ret hS rfl dX10_falls_25
    · have hE := jf hE c_6
      refine lv_iload_n hx hb dX10_falls_19 rfl (lv_at hl 1 rfl) ?_
      refine lv_iload_n hx hb dX10_falls_20 rfl (lv_at hl 2 rfl) ?_
      refine lv_icmp_ne (tgt := 26) hx hb dX10_falls_21 (by decide) (fun c_7 => ?_) (fun c_7 => ?_)
      · have hE := jf hE c_7
        refine lv_aload_n hx hb dX10_falls_26 rfl (lv_at hl 0 rfl) ?_
        refine lv_iload_n hx hb dX10_falls_27 rfl (lv_at hl 1 rfl) ?_
        refine lv_iload_n hx hb dX10_falls_28 rfl (lv_at hl 2 rfl) ?_
        obtain ⟨o_8, h_9, hE⟩ := jbd hE
        refine j_Vi (As := [.int a1, .int a2]) (rest := []) (wf := MW ad cI cZ (0 : Int32) trace upper lower begins size hasShares wires kind first second times byy o_8.2.1 o_8.2.2 frm too isThere way sorts ohms price above belo) (vc := (RX10, TX10, 24)) C hK hS (jcut_all hA hS) (tX10_hang l D ad cI cJ cZ cW cS cO cG (0 : Int32) trace upper lower begins size hasShares wires kind first second times byy group whole frm too isThere way sorts ohms price above belo a1 a2 h_9) (cwV 2 hts gX10_falls_X10_hang rfl rfl rfl (by decide +kernel) ⟨Nat.le_of_ble_eq_true rfl, Nat.le_of_ble_eq_true rfl⟩) (q0 := 0) rfl (ci := 11) rfl rfl hl.1 rfl (Nat.le_of_ble_eq_true rfl) dX10_falls_29 ⟨Nat.zero_le _, Nat.zero_le _⟩ (fun H locs hS => ?_)
        refine lv_if_ne (tgt := 38) hx hb dX10_falls_32 (by decide) (fun c_10 => ?_) (fun c_10 => ?_)
        · have hE := jf hE c_10
          refine lv_iconst (v := (0 : Int32)) hx hb dX10_falls_38 (by decide) ?_
          refine lv_istore_n (lv' := [(3, .int (0 : Int32)), (0, .ref (ad 0)), (1, .int a1), (2, .int a2)]) hx hb dX10_falls_39 rfl hl (by decide) rfl (fun ls hl => ?_)
          obtain ⟨o_15, L_16, hE⟩ := jbd hE
          have K_17 : jW p l e rmX10_falls s m args below meth c 0 0 Q D vwCl A (MW ad cI cZ (0 : Int32) trace upper lower begins size hasShares wires kind first second times byy o_8.2.1 o_8.2.2 o_15.1 o_15.2.1 o_15.2.2 way sorts ohms price above belo) 7 [(0, .ref (ad 0)), (1, .int a1), (2, .int a2)] 109 [] := by
            intro H locs ls hS hl
            refine lv_iconst (v := (1 : Int32)) hx hb dX10_falls_109 (by decide) ?_
            refine lv_istore_n (lv' := [(3, .int (1 : Int32)), (0, .ref (ad 0)), (1, .int a1), (2, .int a2)]) hx hb dX10_falls_110 rfl hl (by decide) rfl (fun ls hl => ?_)
            obtain ⟨o_36, L_37, hE⟩ := jbd hE
            have K_38 : jW p l e rmX10_falls s m args below meth c 0 0 Q D vwCl A (MW ad cI cZ (0 : Int32) trace upper lower begins size hasShares wires kind first second times byy o_8.2.1 o_8.2.2 o_36.1 o_36.2.1 o_36.2.2 way sorts ohms price above belo) 7 [(0, .ref (ad 0)), (1, .int a1), (2, .int a2)] 125 [] := by
              intro H locs ls hS hl
              refine lv_iconst (v := (0 : Int32)) hx hb dX10_falls_125 (by decide) ?_
              refine lv_istore (lv' := [(4, .int (0 : Int32)), (0, .ref (ad 0)), (1, .int a1), (2, .int a2)]) hx hb dX10_falls_126 hl (by decide) rfl (fun ls hl => ?_)
              refine lv_iconst (v := (0 : Int32)) hx hb dX10_falls_128 (by decide) ?_
              refine lv_istore (lv' := [(5, .int (0 : Int32)), (4, .int (0 : Int32)), (0, .ref (ad 0)), (1, .int a1), (2, .int a2)]) hx hb dX10_falls_129 hl (by decide) rfl (fun ls hl => ?_)
              refine lv_iconst (v := (0 : Int32)) hx hb dX10_falls_131 (by decide) ?_
              refine lv_istore (lv' := [(6, .int (0 : Int32)), (5, .int (0 : Int32)), (4, .int (0 : Int32)), (0, .ref (ad 0)), (1, .int a1), (2, .int a2)]) hx hb dX10_falls_132 hl (by decide) rfl (fun ls hl => ?_)
              obtain ⟨o_48, L_49, hE⟩ := jbd hE
              have K_50 : jW p l e rmX10_falls s m args below meth c 0 0 Q D vwCl A (MW ad cI cZ (0 : Int32) trace upper lower begins size hasShares wires kind first second times byy o_8.2.1 o_8.2.2 o_36.1 o_36.2.1 o_36.2.2 way sorts ohms price above belo) 7 [(4, .int o_48.1), (5, .int o_48.2)] 233 [] := by
                intro H locs ls hS hl
                refine lv_iload hx hb dX10_falls_233 (lv_at hl 0 rfl) ?_
                refine lv_iconst (v := (1 : Int32)) hx hb dX10_falls_235 (by decide) ?_
                refine lv_icmp_ne (tgt := 248) hx hb dX10_falls_236 (by decide) (fun c_72 => ?_) (fun c_72 => ?_)
                · have hE := jf hE c_72
                  refine lv_iconst (v := (0 : Int32)) hx hb dX10_falls_248 (by decide) ?_
                  obtain rfl := jsm hE
                  exact ret hS rfl dX10_falls_249
                · have hE := jt hE c_72
                  refine lv_iload hx hb dX10_falls_239 (lv_at hl 1 rfl) ?_
                  refine lv_if_eq (tgt := 248) hx hb dX10_falls_241 (by decide) (fun c_73 => ?_) (fun c_73 => ?_)
                  · have hE := jt hE c_73
                    refine lv_iconst (v := (0 : Int32)) hx hb dX10_falls_248 (by decide) ?_
                    obtain rfl := jsm hE
                    exact ret hS rfl dX10_falls_249
                  · have hE := jf hE c_73
                    refine lv_iconst (v := (1 : Int32)) hx hb dX10_falls_244 (by decide) ?_
                    refine lv_goto (tgt := 249) hx hb dX10_falls_245 (by decide) ?_
                    obtain rfl := jsm hE
                    exact ret hS rfl dX10_falls_249
              have loop_52 : ∀ (n : Nat) (v4_45 : Int32) (v5_46 : Int32) (v6_47 : Int32), LX10_falls_134 wires a1 a2 o_36 n v4_45 v5_46 v6_47 = some o_48 → jW p l e rmX10_falls s m args below meth c 0 0 Q D vwCl A (MW ad cI cZ (0 : Int32) trace upper lower begins size hasShares wires kind first second times byy o_8.2.1 o_8.2.2 o_36.1 o_36.2.1 o_36.2.2 way sorts ohms price above belo) 7 [(0, .ref (ad 0)), (1, .int a1), (2, .int a2), (4, .int v4_45), (5, .int v5_46), (6, .int v6_47)] 134 [] := by
                intro n
                induction n with
                | zero =>
                  intro v4_45 v5_46 v6_47 q_51
                  have q_51 : none = some o_48 := q_51
                  cases q_51
                | succ n ih =>
                  intro v4_45 v5_46 v6_47 q_51 H locs ls hS hl
                  rw [LX10_falls_134] at q_51
                  refine lv_iload hx hb dX10_falls_134 (lv_at hl 5 rfl) ?_
                  refine lv_aload_n hx hb dX10_falls_136 rfl (lv_at hl 0 rfl) ?_
                  refine va_get (D := D) (ci := 11) (v := .int wires) (C := RX10) (T := TX10) (N := 24) hx hb hts inX10 hown hK hS.1 0 rfl rfl 7 (by decide) k1 (fun _ h => h) rfl dX10_falls_137 ?_
                  refine lv_icmp_ge (tgt := 233) hx hb dX10_falls_140 (by decide) (fun c_53 => ?_) (fun c_53 => ?_)
                  · have q_51 := jt q_51 c_53
                    obtain rfl := jsm q_51
                    exact K_50 _ _ _ hS (lv_sub hl [3, 4] rfl)
                  · have q_51 := jf q_51 c_53
                    refine lv_iload hx hb dX10_falls_143 (lv_at hl 3 rfl) ?_
                    refine lv_aload_n hx hb dX10_falls_145 rfl (lv_at hl 0 rfl) ?_
                    refine va_get (D := D) (ci := 11) (v := .ref (ad 13)) (C := RX10) (T := TX10) (N := 24) hx hb hts inX10 hown hK hS.1 0 rfl rfl 17 (by decide) k6 (fun _ h => h) rfl dX10_falls_146 ?_
                    refine lv_iload hx hb dX10_falls_149 (lv_at hl 5 rfl) ?_
                    obtain ⟨b_54, q_51⟩ := jgd q_51
                    refine va_zald hx hb hK hS.1 13 2 rfl rfl (jin.mpr b_54) dX10_falls_151 ?_
                    obtain ⟨o_55, r_57⟩ : ∃ y : Int32, y = (if (o_36.2.2 v6_47.toNatClampNeg) = 0 then (0 : Int32) else (1 : Int32)) := ⟨_, rfl⟩
                    have q_51 := jlv q_51 r_57
                    have K_56 : jW p l e rmX10_falls s m args below meth c 0 0 Q D vwCl A (MW ad cI cZ (0 : Int32) trace upper lower begins size hasShares wires kind first second times byy o_8.2.1 o_8.2.2 o_36.1 o_36.2.1 o_36.2.2 way sorts ohms price above belo) 7 [(0, .ref (ad 0)), (1, .int a1), (2, .int a2), (5, .int v5_46), (6, .int v6_47)] 160 [.int o_55, .int v4_45] := by
                      intro H locs ls hS hl
                      refine lv_iadd hx hb dX10_falls_160 ?_
                      refine lv_topi (fun x_59 ex_59 => ?_)
                      have q_51 := jlv q_51 ex_59
                      refine lv_istore (lv' := [(4, .int x_59), (0, .ref (ad 0)), (1, .int a1), (2, .int a2), (5, .int v5_46), (6, .int v6_47)]) hx hb dX10_falls_161 hl (by decide) rfl (fun ls hl => ?_)
                      refine lv_iload hx hb dX10_falls_163 (lv_at hl 4 rfl) ?_
                      refine lv_aload_n hx hb dX10_falls_165 rfl (lv_at hl 1 rfl) ?_
                      refine va_get (D := D) (ci := 11) (v := .ref (ad 13)) (C := RX10) (T := TX10) (N := 24) hx hb hts inX10 hown hK hS.1 0 rfl rfl 17 (by decide) k6 (fun _ h => h) rfl dX10_falls_166 ?_
                      refine lv_iload hx hb dX10_falls_169 (lv_at hl 5 rfl) ?_
                      refine va_zald hx hb hK hS.1 13 2 rfl rfl (jin.mpr b_54) dX10_falls_171 ?_
                      obtain ⟨o_60, r_62⟩ : ∃ y : Int32, y = (if (o_36.2.2 v6_47.toNatClampNeg) = 0 then (0 : Int32) else if (o_36.1 v6_47.toNatClampNeg) = a1 then if (o_36.2.1 v6_47.toNatClampNeg) = a2 then (1 : Int32) else if (o_36.1 v6_47.toNatClampNeg) = a2 then if (o_36.2.1 v6_47.toNatClampNeg) = a1 then (1 : Int32) else (0 : Int32) else (0 : Int32) else if (o_36.1 v6_47.toNatClampNeg) = a2 then if (o_36.2.1 v6_47.toNatClampNeg) = a1 then (1 : Int32) else (0 : Int32) else (0 : Int32)) := ⟨_, rfl⟩
                      have q_51 := jlv q_51 r_62
                      have K_61 : jW p l e rmX10_falls s m args below meth c 0 0 Q D vwCl A (MW ad cI cZ (0 : Int32) trace upper lower begins size hasShares wires kind first second times byy o_8.2.1 o_8.2.2 o_36.1 o_36.2.1 o_36.2.2 way sorts ohms price above belo) 7 [(0, .ref (ad 0)), (1, .int a1), (2, .int a2), (4, .int x_59), (6, .int v6_47)] 224 [.int o_60, .int v5_46] := by
                        intro H locs ls hS hl
                        refine lv_ior hx hb dX10_falls_224 ?_
                        refine lv_topi (fun x_70 ex_70 => ?_)
                        have q_51 := jlv q_51 ex_70
                        refine lv_istore (lv' := [(5, .int x_70), (0, .ref (ad 0)), (1, .int a1), (2, .int a2), (4, .int x_59), (6, .int v6_47)]) hx hb dX10_falls_225 hl (by decide) rfl (fun ls hl => ?_)
                        obtain ⟨x_71, ex_71⟩ : ∃ y : Int32, y = v6_47 + (1 : Int32) := ⟨_, rfl⟩
                        have q_51 := jlv q_51 ex_71
                        refine lv_iinc (v := x_71) (lv' := [(6, .int x_71), (5, .int x_70), (0, .ref (ad 0)), (1, .int a1), (2, .int a2), (4, .int x_59)]) hx hb dX10_falls_227 hl (k := 5) rfl (by rw [ex_71]; rfl) (by decide) rfl (fun ls hl => ?_)
                        refine lv_goto (tgt := 134) hx hb dX10_falls_230 (by decide) ?_
                        exact ih x_59 x_70 x_71 q_51 _ _ _ hS (lv_sub hl [2, 3, 4, 5, 1, 0] rfl)
                      refine lv_if_eq (tgt := 223) hx hb dX10_falls_172 (by decide) (fun c_63 => ?_) (fun c_63 => ?_)
                      · have r_62 := r_62.trans (if_pos c_63)
                        refine lv_iconst (v := (0 : Int32)) hx hb dX10_falls_223 (by decide) ?_
                        subst r_62
                        exact K_61 _ _ _ hS (lv_sub hl [1, 2, 3, 0, 5] rfl)
                      · have r_62 := r_62.trans (if_neg c_63)
                        refine lv_aload_n hx hb dX10_falls_175 rfl (lv_at hl 1 rfl) ?_
                        refine va_get (D := D) (ci := 11) (v := .ref (ad 11)) (C := RX10) (T := TX10) (N := 24) hx hb hts inX10 hown hK hS.1 0 rfl rfl 15 (by decide) k2 (fun _ h => h) rfl dX10_falls_176 ?_
                        refine lv_iload hx hb dX10_falls_179 (lv_at hl 5 rfl) ?_
                        refine va_iald hx hb hK hS.1 11 0 rfl rfl (jin.mpr b_54) dX10_falls_181 ?_
                        refine lv_iload_n hx hb dX10_falls_182 rfl (lv_at hl 2 rfl) ?_
                        refine lv_icmp_ne (tgt := 197) hx hb dX10_falls_183 (by decide) (fun c_64 => ?_) (fun c_64 => ?_)
                        · have r_62 := r_62.trans (if_neg c_64)
                          refine lv_aload_n hx hb dX10_falls_197 rfl (lv_at hl 1 rfl) ?_
                          refine va_get (D := D) (ci := 11) (v := .ref (ad 11)) (C := RX10) (T := TX10) (N := 24) hx hb hts inX10 hown hK hS.1 0 rfl rfl 15 (by decide) k2 (fun _ h => h) rfl dX10_falls_198 ?_
                          refine lv_iload hx hb dX10_falls_201 (lv_at hl 5 rfl) ?_
                          refine va_iald hx hb hK hS.1 11 0 rfl rfl (jin.mpr b_54) dX10_falls_203 ?_
                          refine lv_iload_n hx hb dX10_falls_204 rfl (lv_at hl 3 rfl) ?_
                          refine lv_icmp_ne (tgt := 223) hx hb dX10_falls_205 (by decide) (fun c_65 => ?_) (fun c_65 => ?_)
                          · have r_62 := r_62.trans (if_neg c_65)
                            refine lv_iconst (v := (0 : Int32)) hx hb dX10_falls_223 (by decide) ?_
                            subst r_62
                            exact K_61 _ _ _ hS (lv_sub hl [1, 2, 3, 0, 5] rfl)
                          · have r_62 := r_62.trans (if_pos c_65)
                            refine lv_aload_n hx hb dX10_falls_208 rfl (lv_at hl 1 rfl) ?_
                            refine va_get (D := D) (ci := 11) (v := .ref (ad 12)) (C := RX10) (T := TX10) (N := 24) hx hb hts inX10 hown hK hS.1 0 rfl rfl 16 (by decide) k4 (fun _ h => h) rfl dX10_falls_209 ?_
                            refine lv_iload hx hb dX10_falls_212 (lv_at hl 5 rfl) ?_
                            refine va_iald hx hb hK hS.1 12 0 rfl rfl (jin.mpr b_54) dX10_falls_214 ?_
                            refine lv_iload_n hx hb dX10_falls_215 rfl (lv_at hl 2 rfl) ?_
                            refine lv_icmp_ne (tgt := 223) hx hb dX10_falls_216 (by decide) (fun c_66 => ?_) (fun c_66 => ?_)
                            · have r_62 := r_62.trans (if_neg c_66)
                              refine lv_iconst (v := (0 : Int32)) hx hb dX10_falls_223 (by decide) ?_
                              subst r_62
                              exact K_61 _ _ _ hS (lv_sub hl [1, 2, 3, 0, 5] rfl)
                            · have r_62 := r_62.trans (if_pos c_66)
                              refine lv_iconst (v := (1 : Int32)) hx hb dX10_falls_219 (by decide) ?_
                              refine lv_goto (tgt := 224) hx hb dX10_falls_220 (by decide) ?_
                              subst r_62
                              exact K_61 _ _ _ hS (lv_sub hl [1, 2, 3, 0, 5] rfl)
                        · have r_62 := r_62.trans (if_pos c_64)
                          refine lv_aload_n hx hb dX10_falls_186 rfl (lv_at hl 1 rfl) ?_
                          refine va_get (D := D) (ci := 11) (v := .ref (ad 12)) (C := RX10) (T := TX10) (N := 24) hx hb hts inX10 hown hK hS.1 0 rfl rfl 16 (by decide) k4 (fun _ h => h) rfl dX10_falls_187 ?_
                          refine lv_iload hx hb dX10_falls_190 (lv_at hl 5 rfl) ?_
                          refine va_iald hx hb hK hS.1 12 0 rfl rfl (jin.mpr b_54) dX10_falls_192 ?_
                          refine lv_iload_n hx hb dX10_falls_193 rfl (lv_at hl 3 rfl) ?_
                          refine lv_icmp_eq (tgt := 219) hx hb dX10_falls_194 (by decide) (fun c_67 => ?_) (fun c_67 => ?_)
                          · have r_62 := r_62.trans (if_pos c_67)
                            refine lv_iconst (v := (1 : Int32)) hx hb dX10_falls_219 (by decide) ?_
                            refine lv_goto (tgt := 224) hx hb dX10_falls_220 (by decide) ?_
                            subst r_62
                            exact K_61 _ _ _ hS (lv_sub hl [1, 2, 3, 0, 5] rfl)
                          · have r_62 := r_62.trans (if_neg c_67)
                            refine lv_aload_n hx hb dX10_falls_197 rfl (lv_at hl 1 rfl) ?_
                            refine va_get (D := D) (ci := 11) (v := .ref (ad 11)) (C := RX10) (T := TX10) (N := 24) hx hb hts inX10 hown hK hS.1 0 rfl rfl 15 (by decide) k2 (fun _ h => h) rfl dX10_falls_198 ?_
                            refine lv_iload hx hb dX10_falls_201 (lv_at hl 5 rfl) ?_
                            refine va_iald hx hb hK hS.1 11 0 rfl rfl (jin.mpr b_54) dX10_falls_203 ?_
                            refine lv_iload_n hx hb dX10_falls_204 rfl (lv_at hl 3 rfl) ?_
                            refine lv_icmp_ne (tgt := 223) hx hb dX10_falls_205 (by decide) (fun c_68 => ?_) (fun c_68 => ?_)
                            · have r_62 := r_62.trans (if_neg c_68)
                              refine lv_iconst (v := (0 : Int32)) hx hb dX10_falls_223 (by decide) ?_
                              subst r_62
                              exact K_61 _ _ _ hS (lv_sub hl [1, 2, 3, 0, 5] rfl)
                            · have r_62 := r_62.trans (if_pos c_68)
                              refine lv_aload_n hx hb dX10_falls_208 rfl (lv_at hl 1 rfl) ?_
                              refine va_get (D := D) (ci := 11) (v := .ref (ad 12)) (C := RX10) (T := TX10) (N := 24) hx hb hts inX10 hown hK hS.1 0 rfl rfl 16 (by decide) k4 (fun _ h => h) rfl dX10_falls_209 ?_
                              refine lv_iload hx hb dX10_falls_212 (lv_at hl 5 rfl) ?_
                              refine va_iald hx hb hK hS.1 12 0 rfl rfl (jin.mpr b_54) dX10_falls_214 ?_
                              refine lv_iload_n hx hb dX10_falls_215 rfl (lv_at hl 2 rfl) ?_
                              refine lv_icmp_ne (tgt := 223) hx hb dX10_falls_216 (by decide) (fun c_69 => ?_) (fun c_69 => ?_)
                              · have r_62 := r_62.trans (if_neg c_69)
                                refine lv_iconst (v := (0 : Int32)) hx hb dX10_falls_223 (by decide) ?_
                                subst r_62
                                exact K_61 _ _ _ hS (lv_sub hl [1, 2, 3, 0, 5] rfl)
                              · have r_62 := r_62.trans (if_pos c_69)
                                refine lv_iconst (v := (1 : Int32)) hx hb dX10_falls_219 (by decide) ?_
                                refine lv_goto (tgt := 224) hx hb dX10_falls_220 (by decide) ?_
                                subst r_62
                                exact K_61 _ _ _ hS (lv_sub hl [1, 2, 3, 0, 5] rfl)
                    refine lv_if_eq (tgt := 159) hx hb dX10_falls_152 (by decide) (fun c_58 => ?_) (fun c_58 => ?_)
                    · have r_57 := r_57.trans (if_pos c_58)
                      refine lv_iconst (v := (0 : Int32)) hx hb dX10_falls_159 (by decide) ?_
                      subst r_57
                      exact K_56 _ _ _ hS (lv_sub hl [0, 1, 2, 4, 5] rfl)
                    · have r_57 := r_57.trans (if_neg c_58)
                      refine lv_iconst (v := (1 : Int32)) hx hb dX10_falls_155 (by decide) ?_
                      refine lv_goto (tgt := 160) hx hb dX10_falls_156 (by decide) ?_
                      subst r_57
                      exact K_56 _ _ _ hS (lv_sub hl [0, 1, 2, 4, 5] rfl)
              exact loop_52 5000 (0 : Int32) (0 : Int32) (0 : Int32) L_49 _ _ _ hS (lv_sub hl [3, 4, 5, 2, 1, 0] rfl)
            have loop_40 : ∀ (n : Nat) (v3_32 : Int32) (frm_33 : Nat → Int32) (too_34 : Nat → Int32) (isThere_35 : Nat → Int32), LX10_falls_111 wires a1 a2 n v3_32 frm_33 too_34 isThere_35 = some o_36 → jW p l e rmX10_falls s m args below meth c 0 0 Q D vwCl A (MW ad cI cZ (0 : Int32) trace upper lower begins size hasShares wires kind first second times byy o_8.2.1 o_8.2.2 frm_33 too_34 isThere_35 way sorts ohms price above belo) 7 [(0, .ref (ad 0)), (1, .int a1), (2, .int a2), (3, .int v3_32)] 111 [] := by
              intro n
              induction n with
              | zero =>
                intro v3_32 frm_33 too_34 isThere_35 q_39
                have q_39 : none = some o_36 := q_39
                cases q_39
              | succ n ih =>
                intro v3_32 frm_33 too_34 isThere_35 q_39 H locs ls hS hl
                rw [LX10_falls_111] at q_39
                refine lv_iload_n hx hb dX10_falls_111 rfl (lv_at hl 3 rfl) ?_
                refine lv_if_eq (tgt := 125) hx hb dX10_falls_112 (by decide) (fun c_41 => ?_) (fun c_41 => ?_)
                · have q_39 := jt q_39 c_41
                  obtain rfl := jsm q_39
                  exact K_38 _ _ _ hS (lv_sub hl [0, 1, 2] rfl)
                · have q_39 := jf q_39 c_41
                  refine lv_aload_n hx hb dX10_falls_115 rfl (lv_at hl 0 rfl) ?_
                  refine lv_iload_n hx hb dX10_falls_116 rfl (lv_at hl 1 rfl) ?_
                  refine lv_iload_n hx hb dX10_falls_117 rfl (lv_at hl 2 rfl) ?_
                  obtain ⟨o_42, h_43, q_39⟩ := jbd q_39
                  refine j_Vi (As := [.int a1, .int a2]) (rest := []) (wf := MW ad cI cZ (0 : Int32) trace upper lower begins size hasShares wires kind first second times byy o_8.2.1 o_8.2.2 o_42.2.1 o_42.2.2.1 o_42.2.2.2 way sorts ohms price above belo) (vc := (RX10, TX10, 24)) C hK hS (jcut_all hA hS) (tX10_lessens l D ad cI cJ cZ cW cS cO cG (0 : Int32) trace upper lower begins size hasShares wires kind first second times byy o_8.2.1 o_8.2.2 frm_33 too_34 isThere_35 way sorts ohms price above belo a1 a2 h_43) (cwV 2 hts gX10_falls_X10_lessens rfl rfl rfl (by decide +kernel) ⟨Nat.le_of_ble_eq_true rfl, Nat.le_of_ble_eq_true rfl⟩) (q0 := 0) rfl (ci := 11) rfl rfl hl.1 rfl (Nat.le_of_ble_eq_true rfl) dX10_falls_118 ⟨Nat.zero_le _, Nat.zero_le _⟩ (fun H locs hS => ?_)
                  refine lv_topi (fun x_44 ex_44 => ?_)
                  have q_39 := jlv q_39 ex_44
                  refine lv_istore_n (lv' := [(3, .int x_44), (0, .ref (ad 0)), (1, .int a1), (2, .int a2)]) hx hb dX10_falls_121 rfl hl (by decide) rfl (fun ls hl => ?_)
                  refine lv_goto (tgt := 111) hx hb dX10_falls_122 (by decide) ?_
                  exact ih x_44 o_42.2.1 o_42.2.2.1 o_42.2.2.2 q_39 _ _ _ hS (lv_sub hl [1, 2, 3, 0] rfl)
            exact loop_40 5000 (1 : Int32) o_15.1 o_15.2.1 o_15.2.2 L_37 _ _ _ hS (lv_sub hl [1, 2, 3, 0] rfl)
          have loop_19 : ∀ (n : Nat) (v3_11 : Int32) (frm_12 : Nat → Int32) (too_13 : Nat → Int32) (isThere_14 : Nat → Int32), LX10_falls_40 wires first second a1 o_8 n v3_11 frm_12 too_13 isThere_14 = some o_15 → jW p l e rmX10_falls s m args below meth c 0 0 Q D vwCl A (MW ad cI cZ (0 : Int32) trace upper lower begins size hasShares wires kind first second times byy o_8.2.1 o_8.2.2 frm_12 too_13 isThere_14 way sorts ohms price above belo) 7 [(0, .ref (ad 0)), (1, .int a1), (2, .int a2), (3, .int v3_11)] 40 [] := by
            intro n
            induction n with
            | zero =>
              intro v3_11 frm_12 too_13 isThere_14 q_18
              have q_18 : none = some o_15 := q_18
              cases q_18
            | succ n ih =>
              intro v3_11 frm_12 too_13 isThere_14 q_18 H locs ls hS hl
              rw [LX10_falls_40] at q_18
              refine lv_iload_n hx hb dX10_falls_40 rfl (lv_at hl 3 rfl) ?_
              refine lv_aload_n hx hb dX10_falls_41 rfl (lv_at hl 0 rfl) ?_
              refine va_get (D := D) (ci := 11) (v := .int wires) (C := RX10) (T := TX10) (N := 24) hx hb hts inX10 hown hK hS.1 0 rfl rfl 7 (by decide) k1 (fun _ h => h) rfl dX10_falls_42 ?_
              refine lv_icmp_ge (tgt := 109) hx hb dX10_falls_45 (by decide) (fun c_20 => ?_) (fun c_20 => ?_)
              · have q_18 := jt q_18 c_20
                obtain rfl := jsm q_18
                exact K_17 _ _ _ hS (lv_sub hl [0, 1, 2] rfl)
              · have q_18 := jf q_18 c_20
                refine lv_aload_n hx hb dX10_falls_48 rfl (lv_at hl 0 rfl) ?_
                refine va_get (D := D) (ci := 11) (v := .ref (ad 11)) (C := RX10) (T := TX10) (N := 24) hx hb hts inX10 hown hK hS.1 0 rfl rfl 15 (by decide) k2 (fun _ h => h) rfl dX10_falls_49 ?_
                refine lv_iload_n hx hb dX10_falls_52 rfl (lv_at hl 3 rfl) ?_
                refine lv_aload_n hx hb dX10_falls_53 rfl (lv_at hl 0 rfl) ?_
                refine va_get (D := D) (ci := 11) (v := .ref (ad 5)) (C := RX10) (T := TX10) (N := 24) hx hb hts inX10 hown hK hS.1 0 rfl rfl 9 (by decide) k3 (fun _ h => h) rfl dX10_falls_54 ?_
                refine lv_iload_n hx hb dX10_falls_57 rfl (lv_at hl 3 rfl) ?_
                obtain ⟨b_21, q_18⟩ := jgd q_18
                refine va_iald hx hb hK hS.1 5 0 rfl rfl (jin.mpr b_21) dX10_falls_58 ?_
                obtain ⟨frm_22, efrm_22⟩ : ∃ y : Nat → Int32, y = upd frm_12 v3_11.toNatClampNeg (first v3_11.toNatClampNeg) := ⟨_, rfl⟩
                have q_18 := jlv q_18 efrm_22
                refine j_iast (w' := MW ad cI cZ (0 : Int32) trace upper lower begins size hasShares wires kind first second times byy o_8.2.1 o_8.2.2 frm_22 too_13 isThere_14 way sorts ohms price above belo) hx hb hK hS 11 0 rfl rfl (jin.mpr b_21) (by rw [efrm_22]; rfl) dX10_falls_59 (fun H locs hS => ?_)
                refine lv_aload_n hx hb dX10_falls_60 rfl (lv_at hl 0 rfl) ?_
                refine va_get (D := D) (ci := 11) (v := .ref (ad 12)) (C := RX10) (T := TX10) (N := 24) hx hb hts inX10 hown hK hS.1 0 rfl rfl 16 (by decide) k4 (fun _ h => h) rfl dX10_falls_61 ?_
                refine lv_iload_n hx hb dX10_falls_64 rfl (lv_at hl 3 rfl) ?_
                refine lv_aload_n hx hb dX10_falls_65 rfl (lv_at hl 0 rfl) ?_
                refine va_get (D := D) (ci := 11) (v := .ref (ad 6)) (C := RX10) (T := TX10) (N := 24) hx hb hts inX10 hown hK hS.1 0 rfl rfl 10 (by decide) k5 (fun _ h => h) rfl dX10_falls_66 ?_
                refine lv_iload_n hx hb dX10_falls_69 rfl (lv_at hl 3 rfl) ?_
                refine va_iald hx hb hK hS.1 6 0 rfl rfl (jin.mpr b_21) dX10_falls_70 ?_
                obtain ⟨too_23, etoo_23⟩ : ∃ y : Nat → Int32, y = upd too_13 v3_11.toNatClampNeg (second v3_11.toNatClampNeg) := ⟨_, rfl⟩
                have q_18 := jlv q_18 etoo_23
                refine j_iast (w' := MW ad cI cZ (0 : Int32) trace upper lower begins size hasShares wires kind first second times byy o_8.2.1 o_8.2.2 frm_22 too_23 isThere_14 way sorts ohms price above belo) hx hb hK hS 12 0 rfl rfl (jin.mpr b_21) (by rw [etoo_23]; rfl) dX10_falls_71 (fun H locs hS => ?_)
                refine lv_aload_n hx hb dX10_falls_72 rfl (lv_at hl 0 rfl) ?_
                refine va_get (D := D) (ci := 11) (v := .ref (ad 13)) (C := RX10) (T := TX10) (N := 24) hx hb hts inX10 hown hK hS.1 0 rfl rfl 17 (by decide) k6 (fun _ h => h) rfl dX10_falls_73 ?_
                refine lv_iload_n hx hb dX10_falls_76 rfl (lv_at hl 3 rfl) ?_
                refine lv_aload_n hx hb dX10_falls_77 rfl (lv_at hl 0 rfl) ?_
                refine va_get (D := D) (ci := 11) (v := .ref (ad 10)) (C := RX10) (T := TX10) (N := 24) hx hb hts inX10 hown hK hS.1 0 rfl rfl 14 (by decide) k7 (fun _ h => h) rfl dX10_falls_78 ?_
                refine lv_aload_n hx hb dX10_falls_81 rfl (lv_at hl 0 rfl) ?_
                refine va_get (D := D) (ci := 11) (v := .ref (ad 5)) (C := RX10) (T := TX10) (N := 24) hx hb hts inX10 hown hK hS.1 0 rfl rfl 9 (by decide) k3 (fun _ h => h) rfl dX10_falls_82 ?_
                refine lv_iload_n hx hb dX10_falls_85 rfl (lv_at hl 3 rfl) ?_
                refine va_iald hx hb hK hS.1 5 0 rfl rfl (jin.mpr b_21) dX10_falls_86 ?_
                obtain ⟨b_24, q_18⟩ := jgd q_18
                refine va_iald hx hb hK hS.1 10 0 rfl rfl (jin.mpr b_24) dX10_falls_87 ?_
                refine lv_aload_n hx hb dX10_falls_88 rfl (lv_at hl 0 rfl) ?_
                refine va_get (D := D) (ci := 11) (v := .ref (ad 10)) (C := RX10) (T := TX10) (N := 24) hx hb hts inX10 hown hK hS.1 0 rfl rfl 14 (by decide) k7 (fun _ h => h) rfl dX10_falls_89 ?_
                refine lv_iload_n hx hb dX10_falls_92 rfl (lv_at hl 1 rfl) ?_
                obtain ⟨b_25, q_18⟩ := jgd q_18
                refine va_iald hx hb hK hS.1 10 0 rfl rfl (jin.mpr b_25) dX10_falls_93 ?_
                obtain ⟨o_26, r_28⟩ : ∃ y : Int32, y = (if (o_8.2.2 (first v3_11.toNatClampNeg).toNatClampNeg) = (o_8.2.2 a1.toNatClampNeg) then (1 : Int32) else (0 : Int32)) := ⟨_, rfl⟩
                have q_18 := jlv q_18 r_28
                have K_27 : jW p l e rmX10_falls s m args below meth c 0 0 Q D vwCl A (MW ad cI cZ (0 : Int32) trace upper lower begins size hasShares wires kind first second times byy o_8.2.1 o_8.2.2 frm_22 too_23 isThere_14 way sorts ohms price above belo) 7 [(0, .ref (ad 0)), (1, .int a1), (2, .int a2), (3, .int v3_11)] 102 [.int o_26, .int v3_11, .ref (ad 13)] := by
                  intro H locs ls hS hl
                  obtain ⟨isThere_30, eisThere_30⟩ : ∃ y : Nat → Int32, y = upd isThere_14 v3_11.toNatClampNeg (vp_nar .boolean o_26) := ⟨_, rfl⟩
                  have q_18 := jlv q_18 eisThere_30
                  refine j_zast (w' := MW ad cI cZ (0 : Int32) trace upper lower begins size hasShares wires kind first second times byy o_8.2.1 o_8.2.2 frm_22 too_23 isThere_30 way sorts ohms price above belo) hx hb hK hS 13 2 rfl rfl (jin.mpr b_21) (by rw [eisThere_30]; rfl) dX10_falls_102 (fun H locs hS => ?_)
                  obtain ⟨x_31, ex_31⟩ : ∃ y : Int32, y = v3_11 + (1 : Int32) := ⟨_, rfl⟩
                  have q_18 := jlv q_18 ex_31
                  refine lv_iinc (v := x_31) (lv' := [(3, .int x_31), (0, .ref (ad 0)), (1, .int a1), (2, .int a2)]) hx hb dX10_falls_103 hl (k := 3) rfl (by rw [ex_31]; rfl) (by decide) rfl (fun ls hl => ?_)
                  refine lv_goto (tgt := 40) hx hb dX10_falls_106 (by decide) ?_
                  exact ih x_31 frm_22 too_23 isThere_30 q_18 _ _ _ hS (lv_sub hl [1, 2, 3, 0] rfl)
                refine lv_icmp_ne (tgt := 101) hx hb dX10_falls_94 (by decide) (fun c_29 => ?_) (fun c_29 => ?_)
                · have r_28 := r_28.trans (if_neg c_29)
                  refine lv_iconst (v := (0 : Int32)) hx hb dX10_falls_101 (by decide) ?_
                  subst r_28
                  exact K_27 _ _ _ hS (lv_sub hl [0, 1, 2, 3] rfl)
                · have r_28 := r_28.trans (if_pos c_29)
                  refine lv_iconst (v := (1 : Int32)) hx hb dX10_falls_97 (by decide) ?_
                  refine lv_goto (tgt := 102) hx hb dX10_falls_98 (by decide) ?_
                  subst r_28
                  exact K_27 _ _ _ hS (lv_sub hl [0, 1, 2, 3] rfl)
          exact loop_19 5000 (0 : Int32) frm too isThere L_16 _ _ _ hS (lv_sub hl [1, 2, 3, 0] rfl)
        · have hE := jt hE c_10
          refine lv_bipush (v := (-2 : Int32)) hx hb dX10_falls_35 (by decide) ?_
          obtain rfl := jsm hE
          exact ret hS rfl dX10_falls_37
      · have hE := jt hE c_7
        refine lv_iconst (v := (-1 : Int32)) hx hb dX10_falls_24 (by decide) ?_
        obtain rfl := jsm hE
        exact ret hS rfl dX10_falls_25
