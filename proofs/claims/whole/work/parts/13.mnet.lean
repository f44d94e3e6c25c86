def fX10_isKnot (a1 : Int32) : Option (Int32) :=
  (fX10_in a1 (0 : Int32) (5 : Int32)).bind (fun o_1 => 
  if o_1 &&& 1 = o_1 then
  some o_1
  else none)
abbrev rmX10_isKnot : Room := { frames := 1, cells := 0, slots := 0, locals := 22 }
set_option maxHeartbeats 4000000 in
set_option maxRecDepth 100000 in
theorem tX10_isKnot (l : Launch) (D : va_G) (cI cJ cZ cW cS cO cG : ClassId) (a1 : Int32) {o : Int32} (hE : fX10_isKnot a1 = some o) : JMi l yX10_isKnot wsX10_isKnot rmX10_isKnot D vwCl (TY cI cJ cZ cW cS cO cG) [.int a1] ([]) ([]) o := by
  refine JMi.of (cc := cX10_isKnot) (maxL := 1) (by decide) rfl (Nat.le_of_ble_eq_true rfl) ?_
  intro p e s m args below meth c A ls Q C hK hA ret hS hl
  obtain ⟨⟨hx, hb, hml, hown, hts⟩, -⟩ := id C
  have hl : lv_has ls 1 [(0, .int a1)] := hl
  refine lv_iload_n hx hb dX10_isKnot_0 rfl (lv_at hl 0 rfl) ?_
  refine lv_iconst (v := (0 : Int32)) hx hb dX10_isKnot_1 (by decide) ?_
  refine lv_iconst (v := (5 : Int32)) hx hb dX10_isKnot_2 (by decide) ?_
  obtain ⟨o_1, h_2, hE⟩ := jbd hE
  refine j_Si (As := [.int a1, .int (0 : Int32), .int (5 : Int32)]) (rest := []) (wf := []) C hK hS (jcut_nil hA hS) (tX10_in l D cI cJ cZ cW cS cO cG a1 (0 : Int32) (5 : Int32) h_2) (va_cwS 3 hts gX10_isKnot_X10_in rfl rfl rfl (by decide +kernel) ⟨Nat.le_of_ble_eq_true rfl, Nat.le_of_ble_eq_true rfl⟩) rfl hl.1 rfl (Nat.le_of_ble_eq_true rfl) dX10_isKnot_3 ⟨Nat.zero_le _, Nat.zero_le _⟩ (fun H locs hS => ?_)
  obtain ⟨z_3, hE⟩ := jgd hE
  obtain rfl := jsm hE
  exact ret hS (jbool z_3) dX10_isKnot_6
def fX10_wire (a1 : Int32) (a2 : Int32) (a3 : Int32) (a4 : Int32) (a5 : Int32) (wires : Int32) (kind : Nat → Int32) (first : Nat → Int32) (second : Nat → Int32) (times : Nat → Int32) (byy : Nat → Int32) : Option (Int32 × Int32 × Int32 × (Nat → Int32) × (Nat → Int32) × (Nat → Int32) × (Nat → Int32) × (Nat → Int32)) :=
  (fX10_in a1 (0 : Int32) (2 : Int32)).bind (fun o_1 => 
  if o_1 = 0 then
  some ((-1 : Int32), (0 : Int32), wires, kind, first, second, times, byy)
  else
  (fX10_isKnot a2).bind (fun o_4 => 
  if o_4 = 0 then
  some ((-1 : Int32), (0 : Int32), wires, kind, first, second, times, byy)
  else
  (fX10_isKnot a3).bind (fun o_7 => 
  if o_7 = 0 then
  some ((-1 : Int32), (0 : Int32), wires, kind, first, second, times, byy)
  else
  if a2 = a3 then
  some ((-1 : Int32), (0 : Int32), wires, kind, first, second, times, byy)
  else
  (if a1 ≤ 0 then
  some (.inl ())
  else
  (fX10_in a4 (1 : Int32) (4 : Int32)).bind (fun o_16 => 
  if o_16 = 0 then
  some (.inr ((-1 : Int32), (0 : Int32), wires, kind, first, second, times, byy))
  else
  some (.inl ())) : Option ((Unit) ⊕ (Int32 × Int32 × Int32 × (Nat → Int32) × (Nat → Int32) × (Nat → Int32) × (Nat → Int32) × (Nat → Int32)))).bind (fun o_11 => jex o_11 (fun x_14 => 
  (if a1 = (2 : Int32) then
  (fX10_in a5 (1 : Int32) (4 : Int32)).bind (fun o_24 => 
  if o_24 = 0 then
  some (.inr ((-1 : Int32), (0 : Int32), wires, kind, first, second, times, byy))
  else
  some (.inl ()))
  else
  some (.inl ()) : Option ((Unit) ⊕ (Int32 × Int32 × Int32 × (Nat → Int32) × (Nat → Int32) × (Nat → Int32) × (Nat → Int32) × (Nat → Int32)))).bind (fun o_19 => jex o_19 (fun x_22 => 
  if wires = (12 : Int32) then
  some ((-3 : Int32), (0 : Int32), wires, kind, first, second, times, byy)
  else
  if jok wires 12 then
  jlet (upd kind wires.toNatClampNeg a1) (fun kind_29 => 
  jlet (upd first wires.toNatClampNeg a2) (fun first_30 => 
  jlet (upd second wires.toNatClampNeg a3) (fun second_31 => 
  jlet (if a1 ≤ 0 then
  (1 : Int32)
  else
  a4) (fun o_32 => 
  jlet (upd times wires.toNatClampNeg o_32) (fun times_36 => 
  jlet (if a1 = (2 : Int32) then
  a5
  else
  (1 : Int32)) (fun o_37 => 
  jlet (upd byy wires.toNatClampNeg o_37) (fun byy_41 => 
  some (((wires + (1 : Int32)) - (1 : Int32)), (0 : Int32), (wires + (1 : Int32)), kind_29, first_30, second_31, times_36, byy_41))))))))
  else none) some)) some))))
abbrev rmX10_wire : Room := { frames := 2, cells := 0, slots := 0, locals := 42 }
set_option maxHeartbeats 4000000 in
set_option maxRecDepth 100000 in
theorem tX10_wire (l : Launch) (D : va_G) (ad : Nat → Nat) (cI cJ cZ cW cS cO cG : ClassId) (thrown : Int32) (trace : Int64) (upper : Nat → Int32) (lower : Nat → Int32) (begins : Nat → Int32) (size : Int32) (hasShares : Int32) (wires : Int32) (kind : Nat → Int32) (first : Nat → Int32) (second : Nat → Int32) (times : Nat → Int32) (byy : Nat → Int32) (group : Nat → Int32) (whole : Nat → Int32) (frm : Nat → Int32) (too : Nat → Int32) (isThere : Nat → Int32) (way : Nat → Int32) (sorts : Int32) (ohms : Nat → Int32) (price : Nat → Int32) (above : Int64) (belo : Int64) (a1 : Int32) (a2 : Int32) (a3 : Int32) (a4 : Int32) (a5 : Int32) {o : Int32 × Int32 × Int32 × (Nat → Int32) × (Nat → Int32) × (Nat → Int32) × (Nat → Int32) × (Nat → Int32)} (hE : fX10_wire a1 a2 a3 a4 a5 wires kind first second times byy = some o) : JMi l yX10_wire wsX10_wire rmX10_wire D vwCl (TY cI cJ cZ cW cS cO cG) [.ref (ad 0), .int a1, .int a2, .int a3, .int a4, .int a5] (MW ad cI cZ thrown trace upper lower begins size hasShares wires kind first second times byy group whole frm too isThere way sorts ohms price above belo) (MW ad cI cZ o.2.1 trace upper lower begins size hasShares o.2.2.1 o.2.2.2.1 o.2.2.2.2.1 o.2.2.2.2.2.1 o.2.2.2.2.2.2.1 o.2.2.2.2.2.2.2 group whole frm too isThere way sorts ohms price above belo) o.1 := by
  refine JMi.of (cc := cX10_wire) (maxL := 6) (by decide) rfl (Nat.le_of_ble_eq_true rfl) ?_
  intro p e s m args below meth c A ls Q C hK hA ret hS hl
  obtain ⟨⟨hx, hb, hml, hown, hts⟩, -⟩ := id C
  have hl : lv_has ls 6 [(0, .ref (ad 0)), (1, .int a1), (2, .int a2), (3, .int a3), (4, .int a4), (5, .int a5)] := hl
  have inX10 : ∀ w ∈ u_ws RX10 TX10 24, w ∈ wsX10_wire := by decide +kernel
  have k0 := hts (.fieldLink RX10 59 "OhmNetsModel" "thrown" "I") (by decide +kernel)
  have k1 := hts (.fieldLink RX10 119 "OhmNetsModel" "wires" "I") (by decide +kernel)
  have k2 := hts (.fieldLink RX10 19 "OhmNetsModel" "kind" "[I") (by decide +kernel)
  have k3 := hts (.fieldLink RX10 22 "OhmNetsModel" "first" "[I") (by decide +kernel)
  have k4 := hts (.fieldLink RX10 25 "OhmNetsModel" "second" "[I") (by decide +kernel)
  have k5 := hts (.fieldLink RX10 28 "OhmNetsModel" "times" "[I") (by decide +kernel)
  have k6 := hts (.fieldLink RX10 31 "OhmNetsModel" "by" "[I") (by decide +kernel)
  refine lv_aload_n hx hb dX10_wire_0 rfl (lv_at hl 0 rfl) ?_
  refine lv_iconst (v := (0 : Int32)) hx hb dX10_wire_1 (by decide) ?_
  refine j_put (ci := 11) (v := .int (0 : Int32)) (ty := .int) (C := RX10) (T := TX10) (N := 24) (w' := MW ad cI cZ (0 : Int32) trace upper lower begins size hasShares wires kind first second times byy group whole frm too isThere way sorts ohms price above belo) hx hb hts inX10 tyX10 tyX10_ok nmX10 hown hK hS 0 rfl rfl 0 (by decide) k0 (fun _ h => h) rfl (by decide +kernel) rfl rfl (Nat.le_of_ble_eq_true rfl) rfl dX10_wire_2 (fun H locs hS => ?_)
  refine lv_iload_n hx hb dX10_wire_5 rfl (lv_at hl 1 rfl) ?_
  refine lv_iconst (v := (0 : Int32)) hx hb dX10_wire_6 (by decide) ?_
  refine lv_iconst (v := (2 : Int32)) hx hb dX10_wire_7 (by decide) ?_
  obtain ⟨o_1, h_2, hE⟩ := jbd hE
  refine j_Si (As := [.int a1, .int (0 : Int32), .int (2 : Int32)]) (rest := []) (wf := MW ad cI cZ (0 : Int32) trace upper lower begins size hasShares wires kind first second times byy group whole frm too isThere way sorts ohms price above belo) C hK hS (jcut_nil hA hS) (tX10_in l D cI cJ cZ cW cS cO cG a1 (0 : Int32) (2 : Int32) h_2) (va_cwS 3 hts gX10_wire_X10_in rfl rfl rfl (by decide +kernel) ⟨Nat.le_of_ble_eq_true rfl, Nat.le_of_ble_eq_true rfl⟩) rfl hl.1 rfl (Nat.le_of_ble_eq_true rfl) dX10_wire_8 ⟨Nat.zero_le _, Nat.zero_le _⟩ (fun H locs hS => ?_)
  refine lv_if_eq (tgt := 62) hx hb dX10_wire_11 (by decide) (fun c_3 => ?_) (fun c_3 => ?_)
  · have hE := jt hE c_3
    refine lv_iconst (v := (-1 : Int32)) hx hb dX10_wire_62 (by decide) ?_
    obtain rfl := jsm hE
    exact ret hS rfl dX10_wire_63
  · have hE := jf hE c_3
    refine lv_iload_n hx hb dX10_wire_14 rfl (lv_at hl 2 rfl) ?_
    obtain ⟨o_4, h_5, hE⟩ := jbd hE
    refine j_Si (As := [.int a2]) (rest := []) (wf := MW ad cI cZ (0 : Int32) trace upper lower begins size hasShares wires kind first second times byy group whole frm too isThere way sorts ohms price above belo) C hK hS (jcut_nil hA hS) (tX10_isKnot l D cI cJ cZ cW cS cO cG a2 h_5) (va_cwS 1 hts gX10_wire_X10_isKnot rfl rfl rfl (by decide +kernel) ⟨Nat.le_of_ble_eq_true rfl, Nat.le_of_ble_eq_true rfl⟩) rfl hl.1 rfl (Nat.le_of_ble_eq_true rfl) dX10_wire_15 ⟨Nat.zero_le _, Nat.zero_le _⟩ (fun H locs hS => ?_)
    refine lv_if_eq (tgt := 62) hx hb dX10_wire_18 (by decide) (fun c_6 => ?_) (fun c_6 => ?_)
    · have hE := jt hE c_6
      refine lv_iconst (v := (-1 : Int32)) hx hb dX10_wire_62 (by decide) ?_
      obtain rfl := jsm hE
      exact ret hS rfl dX10_wire_63
    · have hE := jf hE c_6
      refine lv_iload_n hx hb dX10_wire_21 rfl (lv_at hl 3 rfl) ?_
      obtain ⟨o_7, h_8, hE⟩ := jbd hE
      refine j_Si (As := [.int a3]) (rest := []) (wf := MW ad cI cZ (0 : Int32) trace upper lower begins size hasShares wires kind first second times byy group whole frm too isThere way sorts ohms price above belo) C hK hS (jcut_nil hA hS) (tX10_isKnot l D cI cJ cZ cW cS cO cG a3 h_8) (va_cwS 1 hts gX10_wire_X10_isKnot rfl rfl rfl (by decide +kernel) ⟨Nat.le_of_ble_eq_true rfl, Nat.le_of_ble_eq_true rfl⟩) rfl hl.1 rfl (Nat.le_of_ble_eq_true rfl) dX10_wire_22 ⟨Nat.zero_le _, Nat.zero_le _⟩ (fun H locs hS => ?_)
      refine lv_if_eq (tgt := 62) hx hb dX10_wire_25 (by decide) (fun c_9 => ?_) (fun c_9 => ?_)
      · have hE := jt hE c_9
        refine lv_iconst (v := (-1 : Int32)) hx hb dX10_wire_62 (by decide) ?_
        obtain rfl := jsm hE
        exact ret hS rfl dX10_wire_63
      · have hE := jf hE c_9
        refine lv_iload_n hx hb dX10_wire_28 rfl (lv_at hl 2 rfl) ?_
        refine lv_iload_n hx hb dX10_wire_29 rfl (lv_at hl 3 rfl) ?_
        refine lv_icmp_eq (tgt := 62) hx hb dX10_wire_30 (by decide) (fun c_10 => ?_) (fun c_10 => ?_)
        · have hE := jt hE c_10
          refine lv_iconst (v := (-1 : Int32)) hx hb dX10_wire_62 (by decide) ?_
          obtain rfl := jsm hE
          exact ret hS rfl dX10_wire_63
        · have hE := jf hE c_10
          refine lv_iload_n hx hb dX10_wire_33 rfl (lv_at hl 1 rfl) ?_
          obtain ⟨o_11, r_13, hE⟩ := jbd hE
          have K_12 : ∀ x_14, o_11 = .inl x_14 → jW p l e rmX10_wire s m args below meth c 0 0 Q D vwCl A (MW ad cI cZ (0 : Int32) trace upper lower begins size hasShares wires kind first second times byy group whole frm too isThere way sorts ohms price above belo) 6 [(0, .ref (ad 0)), (1, .int a1), (2, .int a2), (3, .int a3), (4, .int a4), (5, .int a5)] 47 [] := by
            intro x_14 ho H locs ls hS hl
            subst ho
            have hE := jexl hE
            refine lv_iload_n hx hb dX10_wire_47 rfl (lv_at hl 1 rfl) ?_
            refine lv_iconst (v := (2 : Int32)) hx hb dX10_wire_48 (by decide) ?_
            obtain ⟨o_19, r_21, hE⟩ := jbd hE
            have K_20 : ∀ x_22, o_19 = .inl x_22 → jW p l e rmX10_wire s m args below meth c 0 0 Q D vwCl A (MW ad cI cZ (0 : Int32) trace upper lower begins size hasShares wires kind first second times byy group whole frm too isThere way sorts ohms price above belo) 6 [(0, .ref (ad 0)), (1, .int a1), (2, .int a2), (3, .int a3), (4, .int a4), (5, .int a5)] 64 [] := by
              intro x_22 ho H locs ls hS hl
              subst ho
              have hE := jexl hE
              refine lv_aload_n hx hb dX10_wire_64 rfl (lv_at hl 0 rfl) ?_
              refine va_get (D := D) (ci := 11) (v := .int wires) (C := RX10) (T := TX10) (N := 24) hx hb hts inX10 hown hK hS.1 0 rfl rfl 7 (by decide) k1 (fun _ h => h) rfl dX10_wire_65 ?_
              refine lv_bipush (v := (12 : Int32)) hx hb dX10_wire_68 (by decide) ?_
              refine lv_icmp_ne (tgt := 76) hx hb dX10_wire_70 (by decide) (fun c_27 => ?_) (fun c_27 => ?_)
              · have hE := jf hE c_27
                refine lv_aload_n hx hb dX10_wire_76 rfl (lv_at hl 0 rfl) ?_
                refine va_get (D := D) (ci := 11) (v := .ref (ad 4)) (C := RX10) (T := TX10) (N := 24) hx hb hts inX10 hown hK hS.1 0 rfl rfl 8 (by decide) k2 (fun _ h => h) rfl dX10_wire_77 ?_
                refine lv_aload_n hx hb dX10_wire_80 rfl (lv_at hl 0 rfl) ?_
                refine va_get (D := D) (ci := 11) (v := .int wires) (C := RX10) (T := TX10) (N := 24) hx hb hts inX10 hown hK hS.1 0 rfl rfl 7 (by decide) k1 (fun _ h => h) rfl dX10_wire_81 ?_
                refine lv_iload_n hx hb dX10_wire_84 rfl (lv_at hl 1 rfl) ?_
                obtain ⟨b_28, hE⟩ := jgd hE
                obtain ⟨kind_29, ekind_29⟩ : ∃ y : Nat → Int32, y = upd kind wires.toNatClampNeg a1 := ⟨_, rfl⟩
                have hE := jlv hE ekind_29
                refine j_iast (w' := MW ad cI cZ (0 : Int32) trace upper lower begins size hasShares wires kind_29 first second times byy group whole frm too isThere way sorts ohms price above belo) hx hb hK hS 4 0 rfl rfl (jin.mpr b_28) (by rw [ekind_29]; rfl) dX10_wire_85 (fun H locs hS => ?_)
                refine lv_aload_n hx hb dX10_wire_86 rfl (lv_at hl 0 rfl) ?_
                refine va_get (D := D) (ci := 11) (v := .ref (ad 5)) (C := RX10) (T := TX10) (N := 24) hx hb hts inX10 hown hK hS.1 0 rfl rfl 9 (by decide) k3 (fun _ h => h) rfl dX10_wire_87 ?_
                refine lv_aload_n hx hb dX10_wire_90 rfl (lv_at hl 0 rfl) ?_
                refine va_get (D := D) (ci := 11) (v := .int wires) (C := RX10) (T := TX10) (N := 24) hx hb hts inX10 hown hK hS.1 0 rfl rfl 7 (by decide) k1 (fun _ h => h) rfl dX10_wire_91 ?_
                refine lv_iload_n hx hb dX10_wire_94 rfl (lv_at hl 2 rfl) ?_
                obtain ⟨first_30, efirst_30⟩ : ∃ y : Nat → Int32, y = upd first wires.toNatClampNeg a2 := ⟨_, rfl⟩
                have hE := jlv hE efirst_30
                refine j_iast (w' := MW ad cI cZ (0 : Int32) trace upper lower begins size hasShares wires kind_29 first_30 second times byy group whole frm too isThere way sorts ohms price above belo) hx hb hK hS 5 0 rfl rfl (jin.mpr b_28) (by rw [efirst_30]; rfl) dX10_wire_95 (fun H locs hS => ?_)
                refine lv_aload_n hx hb dX10_wire_96 rfl (lv_at hl 0 rfl) ?_
                refine va_get (D := D) (ci := 11) (v := .ref (ad 6)) (C := RX10) (T := TX10) (N := 24) hx hb hts inX10 hown hK hS.1 0 rfl rfl 10 (by decide) k4 (fun _ h => h) rfl dX10_wire_97 ?_
                refine lv_aload_n hx hb dX10_wire_100 rfl (lv_at hl 0 rfl) ?_
                refine va_get (D := D) (ci := 11) (v := .int wires) (C := RX10) (T := TX10) (N := 24) hx hb hts inX10 hown hK hS.1 0 rfl rfl 7 (by decide) k1 (fun _ h => h) rfl dX10_wire_101 ?_
                refine lv_iload_n hx hb dX10_wire_104 rfl (lv_at hl 3 rfl) ?_
                obtain ⟨second_31, esecond_31⟩ : ∃ y : Nat → Int32, y = upd second wires.toNatClampNeg a3 := ⟨_, rfl⟩
                have hE := jlv hE esecond_31
                refine j_iast (w' := MW ad cI cZ (0 : Int32) trace upper lower begins size hasShares wires kind_29 first_30 second_31 times byy group whole frm too isThere way sorts ohms price above belo) hx hb hK hS 6 0 rfl rfl (jin.mpr b_28) (by rw [esecond_31]; rfl) dX10_wire_105 (fun H locs hS => ?_)
                refine lv_aload_n hx hb dX10_wire_106 rfl (lv_at hl 0 rfl) ?_
                refine va_get (D := D) (ci := 11) (v := .ref (ad 7)) (C := RX10) (T := TX10) (N := 24) hx hb hts inX10 hown hK hS.1 0 rfl rfl 11 (by decide) k5 (fun _ h => h) rfl dX10_wire_107 ?_
                refine lv_aload_n hx hb dX10_wire_110 rfl (lv_at hl 0 rfl) ?_
                refine va_get (D := D) (ci := 11) (v := .int wires) (C := RX10) (T := TX10) (N := 24) hx hb hts inX10 hown hK hS.1 0 rfl rfl 7 (by decide) k1 (fun _ h => h) rfl dX10_wire_111 ?_
                refine lv_iload_n hx hb dX10_wire_114 rfl (lv_at hl 1 rfl) ?_
                obtain ⟨o_32, r_34⟩ : ∃ y : Int32, y = (if a1 ≤ 0 then (1 : Int32) else a4) := ⟨_, rfl⟩
                have hE := jlv hE r_34
                have K_33 : jW p l e rmX10_wire s m args below meth c 0 0 Q D vwCl A (MW ad cI cZ (0 : Int32) trace upper lower begins size hasShares wires kind_29 first_30 second_31 times byy group whole frm too isThere way sorts ohms price above belo) 6 [(0, .ref (ad 0)), (1, .int a1), (5, .int a5)] 124 [.int o_32, .int wires, .ref (ad 7)] := by
                  intro H locs ls hS hl
                  obtain ⟨times_36, etimes_36⟩ : ∃ y : Nat → Int32, y = upd times wires.toNatClampNeg o_32 := ⟨_, rfl⟩
                  have hE := jlv hE etimes_36
                  refine j_iast (w' := MW ad cI cZ (0 : Int32) trace upper lower begins size hasShares wires kind_29 first_30 second_31 times_36 byy group whole frm too isThere way sorts ohms price above belo) hx hb hK hS 7 0 rfl rfl (jin.mpr b_28) (by rw [etimes_36]; rfl) dX10_wire_124 (fun H locs hS => ?_)
                  refine lv_aload_n hx hb dX10_wire_125 rfl (lv_at hl 0 rfl) ?_
                  refine va_get (D := D) (ci := 11) (v := .ref (ad 8)) (C := RX10) (T := TX10) (N := 24) hx hb hts inX10 hown hK hS.1 0 rfl rfl 12 (by decide) k6 (fun _ h => h) rfl dX10_wire_126 ?_
                  refine lv_aload_n hx hb dX10_wire_129 rfl (lv_at hl 0 rfl) ?_
                  refine va_get (D := D) (ci := 11) (v := .int wires) (C := RX10) (T := TX10) (N := 24) hx hb hts inX10 hown hK hS.1 0 rfl rfl 7 (by decide) k1 (fun _ h => h) rfl dX10_wire_130 ?_
                  refine lv_iload_n hx hb dX10_wire_133 rfl (lv_at hl 1 rfl) ?_
                  refine lv_iconst (v := (2 : Int32)) hx hb dX10_wire_134 (by decide) ?_
                  obtain ⟨o_37, r_39⟩ : ∃ y : Int32, y = (if a1 = (2 : Int32) then a5 else (1 : Int32)) := ⟨_, rfl⟩
                  have hE := jlv hE r_39
                  have K_38 : jW p l e rmX10_wire s m args below meth c 0 0 Q D vwCl A (MW ad cI cZ (0 : Int32) trace upper lower begins size hasShares wires kind_29 first_30 second_31 times_36 byy group whole frm too isThere way sorts ohms price above belo) 6 [(0, .ref (ad 0))] 144 [.int o_37, .int wires, .ref (ad 8)] := by
                    intro H locs ls hS hl
                    obtain ⟨byy_41, ebyy_41⟩ : ∃ y : Nat → Int32, y = upd byy wires.toNatClampNeg o_37 := ⟨_, rfl⟩
                    have hE := jlv hE ebyy_41
                    refine j_iast (w' := MW ad cI cZ (0 : Int32) trace upper lower begins size hasShares wires kind_29 first_30 second_31 times_36 byy_41 group whole frm too isThere way sorts ohms price above belo) hx hb hK hS 8 0 rfl rfl (jin.mpr b_28) (by rw [ebyy_41]; rfl) dX10_wire_144 (fun H locs hS => ?_)
                    refine lv_aload_n hx hb dX10_wire_145 rfl (lv_at hl 0 rfl) ?_
                    refine lv_dup hx hb dX10_wire_146 rfl ?_
                    refine va_get (D := D) (ci := 11) (v := .int wires) (C := RX10) (T := TX10) (N := 24) hx hb hts inX10 hown hK hS.1 0 rfl rfl 7 (by decide) k1 (fun _ h => h) rfl dX10_wire_147 ?_
                    refine lv_iconst (v := (1 : Int32)) hx hb dX10_wire_150 (by decide) ?_
                    refine lv_iadd hx hb dX10_wire_151 ?_
                    refine j_put (ci := 11) (v := .int (wires + (1 : Int32))) (ty := .int) (C := RX10) (T := TX10) (N := 24) (w' := MW ad cI cZ (0 : Int32) trace upper lower begins size hasShares (wires + (1 : Int32)) kind_29 first_30 second_31 times_36 byy_41 group whole frm too isThere way sorts ohms price above belo) hx hb hts inX10 tyX10 tyX10_ok nmX10 hown hK hS 0 rfl rfl 7 (by decide) k1 (fun _ h => h) rfl (by decide +kernel) rfl rfl (Nat.le_of_ble_eq_true rfl) rfl dX10_wire_152 (fun H locs hS => ?_)
                    refine lv_aload_n hx hb dX10_wire_155 rfl (lv_at hl 0 rfl) ?_
                    refine va_get (D := D) (ci := 11) (v := .int (wires + (1 : Int32))) (C := RX10) (T := TX10) (N := 24) hx hb hts inX10 hown hK hS.1 0 rfl rfl 7 (by decide) k1 (fun _ h => h) rfl dX10_wire_156 ?_
                    refine lv_iconst (v := (1 : Int32)) hx hb dX10_wire_159 (by decide) ?_
                    refine lv_isub hx hb dX10_wire_160 ?_
                    obtain rfl := jsm hE
                    exact ret hS rfl dX10_wire_161
                  refine lv_icmp_ne (tgt := 143) hx hb dX10_wire_135 (by decide) (fun c_40 => ?_) (fun c_40 => ?_)
                  · have r_39 := r_39.trans (if_neg c_40)
                    refine lv_iconst (v := (1 : Int32)) hx hb dX10_wire_143 (by decide) ?_
                    subst r_39
                    exact K_38 _ _ _ hS (lv_sub hl [0] rfl)
                  · have r_39 := r_39.trans (if_pos c_40)
                    refine lv_iload hx hb dX10_wire_138 (lv_at hl 2 rfl) ?_
                    refine lv_goto (tgt := 144) hx hb dX10_wire_140 (by decide) ?_
                    subst r_39
                    exact K_38 _ _ _ hS (lv_sub hl [0] rfl)
                refine lv_if_le (tgt := 123) hx hb dX10_wire_115 (by decide) (fun c_35 => ?_) (fun c_35 => ?_)
                · have r_34 := r_34.trans (if_pos c_35)
                  refine lv_iconst (v := (1 : Int32)) hx hb dX10_wire_123 (by decide) ?_
                  subst r_34
                  exact K_33 _ _ _ hS (lv_sub hl [0, 1, 5] rfl)
                · have r_34 := r_34.trans (if_neg c_35)
                  refine lv_iload hx hb dX10_wire_118 (lv_at hl 4 rfl) ?_
                  refine lv_goto (tgt := 124) hx hb dX10_wire_120 (by decide) ?_
                  subst r_34
                  exact K_33 _ _ _ hS (lv_sub hl [0, 1, 5] rfl)
              · have hE := jt hE c_27
                refine lv_bipush (v := (-3 : Int32)) hx hb dX10_wire_73 (by decide) ?_
                obtain rfl := jsm hE
                exact ret hS rfl dX10_wire_75
            refine lv_icmp_ne (tgt := 64) hx hb dX10_wire_49 (by decide) (fun c_23 => ?_) (fun c_23 => ?_)
            · have r_21 := jf r_21 c_23
              obtain rfl := jsm r_21
              exact K_20 _ rfl _ _ _ hS (lv_sub hl [0, 1, 2, 3, 4, 5] rfl)
            · have r_21 := jt r_21 c_23
              refine lv_iload hx hb dX10_wire_52 (lv_at hl 5 rfl) ?_
              refine lv_iconst (v := (1 : Int32)) hx hb dX10_wire_54 (by decide) ?_
              refine lv_iconst (v := (4 : Int32)) hx hb dX10_wire_55 (by decide) ?_
              obtain ⟨o_24, h_25, r_21⟩ := jbd r_21
              refine j_Si (As := [.int a5, .int (1 : Int32), .int (4 : Int32)]) (rest := []) (wf := MW ad cI cZ (0 : Int32) trace upper lower begins size hasShares wires kind first second times byy group whole frm too isThere way sorts ohms price above belo) C hK hS (jcut_nil hA hS) (tX10_in l D cI cJ cZ cW cS cO cG a5 (1 : Int32) (4 : Int32) h_25) (va_cwS 3 hts gX10_wire_X10_in rfl rfl rfl (by decide +kernel) ⟨Nat.le_of_ble_eq_true rfl, Nat.le_of_ble_eq_true rfl⟩) rfl hl.1 rfl (Nat.le_of_ble_eq_true rfl) dX10_wire_56 ⟨Nat.zero_le _, Nat.zero_le _⟩ (fun H locs hS => ?_)
              refine lv_if_ne (tgt := 64) hx hb dX10_wire_59 (by decide) (fun c_26 => ?_) (fun c_26 => ?_)
              · have r_21 := jf r_21 c_26
                obtain rfl := jsm r_21
                exact K_20 _ rfl _ _ _ hS (lv_sub hl [0, 1, 2, 3, 4, 5] rfl)
              · have r_21 := jt r_21 c_26
                refine lv_iconst (v := (-1 : Int32)) hx hb dX10_wire_62 (by decide) ?_
                obtain rfl := jsm r_21
                have hE := jexr hE
                obtain rfl := jsm hE
                exact ret hS rfl dX10_wire_63
          refine lv_if_le (tgt := 47) hx hb dX10_wire_34 (by decide) (fun c_15 => ?_) (fun c_15 => ?_)
          · have r_13 := jt r_13 c_15
            obtain rfl := jsm r_13
            exact K_12 _ rfl _ _ _ hS (lv_sub hl [0, 1, 2, 3, 4, 5] rfl)
          · have r_13 := jf r_13 c_15
            refine lv_iload hx hb dX10_wire_37 (lv_at hl 4 rfl) ?_
            refine lv_iconst (v := (1 : Int32)) hx hb dX10_wire_39 (by decide) ?_
            refine lv_iconst (v := (4 : Int32)) hx hb dX10_wire_40 (by decide) ?_
            obtain ⟨o_16, h_17, r_13⟩ := jbd r_13
            refine j_Si (As := [.int a4, .int (1 : Int32), .int (4 : Int32)]) (rest := []) (wf := MW ad cI cZ (0 : Int32) trace upper lower begins size hasShares wires kind first second times byy group whole frm too isThere way sorts ohms price above belo) C hK hS (jcut_nil hA hS) (tX10_in l D cI cJ cZ cW cS cO cG a4 (1 : Int32) (4 : Int32) h_17) (va_cwS 3 hts gX10_wire_X10_in rfl rfl rfl (by decide +kernel) ⟨Nat.le_of_ble_eq_true rfl, Nat.le_of_ble_eq_true rfl⟩) rfl hl.1 rfl (Nat.le_of_ble_eq_true rfl) dX10_wire_41 ⟨Nat.zero_le _, Nat.zero_le _⟩ (fun H locs hS => ?_)
            refine lv_if_eq (tgt := 62) hx hb dX10_wire_44 (by decide) (fun c_18 => ?_) (fun c_18 => ?_)
            · have r_13 := jt r_13 c_18
              refine lv_iconst (v := (-1 : Int32)) hx hb dX10_wire_62 (by decide) ?_
              obtain rfl := jsm r_13
              have hE := jexr hE
              obtain rfl := jsm hE
              exact ret hS rfl dX10_wire_63
            · have r_13 := jf r_13 c_18
              obtain rfl := jsm r_13
              exact K_12 _ rfl _ _ _ hS (lv_sub hl [0, 1, 2, 3, 4, 5] rfl)
def fX10_cut (wires : Int32) : Option (Int32 × Int32 × Int32) :=
  if wires = 0 then
  some ((-2 : Int32), (0 : Int32), wires)
  else
  some ((wires - (1 : Int32)), (0 : Int32), (wires - (1 : Int32)))
abbrev rmX10_cut : Room := { frames := 0, cells := 0, slots := 0, locals := 0 }
set_option maxHeartbeats 4000000 in
set_option maxRecDepth 100000 in
theorem tX10_cut (l : Launch) (D : va_G) (ad : Nat → Nat) (cI cJ cZ cW cS cO cG : ClassId) (thrown : Int32) (trace : Int64) (upper : Nat → Int32) (lower : Nat → Int32) (begins : Nat → Int32) (size : Int32) (hasShares : Int32) (wires : Int32) (kind : Nat → Int32) (first : Nat → Int32) (second : Nat → Int32) (times : Nat → Int32) (byy : Nat → Int32) (group : Nat → Int32) (whole : Nat → Int32) (frm : Nat → Int32) (too : Nat → Int32) (isThere : Nat → Int32) (way : Nat → Int32) (sorts : Int32) (ohms : Nat → Int32) (price : Nat → Int32) (above : Int64) (belo : Int64) {o : Int32 × Int32 × Int32} (hE : fX10_cut wires = some o) : JMi l yX10_cut wsX10_cut rmX10_cut D vwCl (TY cI cJ cZ cW cS cO cG) [.ref (ad 0)] (MW ad cI cZ thrown trace upper lower begins size hasShares wires kind first second times byy group whole frm too isThere way sorts ohms price above belo) (MW ad cI cZ o.2.1 trace upper lower begins size hasShares o.2.2 kind first second times byy group whole frm too isThere way sorts ohms price above belo) o.1 := by
  refine JMi.of (cc := cX10_cut) (maxL := 1) (by decide) rfl (Nat.le_of_ble_eq_true rfl) ?_
  intro p e s m args below meth c A ls Q C hK hA ret hS hl
  obtain ⟨⟨hx, hb, hml, hown, hts⟩, -⟩ := id C
  have hl : lv_has ls 1 [(0, .ref (ad 0))] := hl
  have inX10 : ∀ w ∈ u_ws RX10 TX10 24, w ∈ wsX10_cut := by decide +kernel
  have k0 := hts (.fieldLink RX10 59 "OhmNetsModel" "thrown" "I") (by decide +kernel)
  have k1 := hts (.fieldLink RX10 119 "OhmNetsModel" "wires" "I") (by decide +kernel)
  refine lv_aload_n hx hb dX10_cut_0 rfl (lv_at hl 0 rfl) ?_
  refine lv_iconst (v := (0 : Int32)) hx hb dX10_cut_1 (by decide) ?_
  refine j_put (ci := 11) (v := .int (0 : Int32)) (ty := .int) (C := RX10) (T := TX10) (N := 24) (w' := MW ad cI cZ (0 : Int32) trace upper lower begins size hasShares wires kind first second times byy group whole frm too isThere way sorts ohms price above belo) hx hb hts inX10 tyX10 tyX10_ok nmX10 hown hK hS 0 rfl rfl 0 (by decide) k0 (fun _ h => h) rfl (by decide +kernel) rfl rfl (Nat.le_of_ble_eq_true rfl) rfl dX10_cut_2 (fun H locs hS => ?_)
  refine lv_aload_n hx hb dX10_cut_5 rfl (lv_at hl 0 rfl) ?_
  refine va_get (D := D) (ci := 11) (v := .int wires) (C := RX10) (T := TX10) (N := 24) hx hb hts inX10 hown hK hS.1 0 rfl rfl 7 (by decide) k1 (fun _ h => h) rfl dX10_cut_6 ?_
  refine lv_if_ne (tgt := 15) hx hb dX10_cut_9 (by decide) (fun c_1 => ?_) (fun c_1 => ?_)
  · have hE := jf hE c_1
    refine lv_aload_n hx hb dX10_cut_15 rfl (lv_at hl 0 rfl) ?_
    refine lv_dup hx hb dX10_cut_16 rfl ?_
    refine va_get (D := D) (ci := 11) (v := .int wires) (C := RX10) (T := TX10) (N := 24) hx hb hts inX10 hown hK hS.1 0 rfl rfl 7 (by decide) k1 (fun _ h => h) rfl dX10_cut_17 ?_
    refine lv_iconst (v := (1 : Int32)) hx hb dX10_cut_20 (by decide) ?_
    refine lv_isub hx hb dX10_cut_21 ?_
    refine j_put (ci := 11) (v := .int (wires - (1 : Int32))) (ty := .int) (C := RX10) (T := TX10) (N := 24) (w' := MW ad cI cZ (0 : Int32) trace upper lower begins size hasShares (wires - (1 : Int32)) kind first second times byy group whole frm too isThere way sorts ohms price above belo) hx hb hts inX10 tyX10 tyX10_ok nmX10 hown hK hS 0 rfl rfl 7 (by decide) k1 (fun _ h => h) rfl (by decide +kernel) rfl rfl (Nat.le_of_ble_eq_true rfl) rfl dX10_cut_22 (fun H locs hS => ?_)
    refine lv_aload_n hx hb dX10_cut_25 rfl (lv_at hl 0 rfl) ?_
    refine va_get (D := D) (ci := 11) (v := .int (wires - (1 : Int32))) (C := RX10) (T := TX10) (N := 24) hx hb hts inX10 hown hK hS.1 0 rfl rfl 7 (by decide) k1 (fun _ h => h) rfl dX10_cut_26 ?_
    obtain rfl := jsm hE
    exact ret hS rfl dX10_cut_29
  · have hE := jt hE c_1
    refine lv_bipush (v := (-2 : Int32)) hx hb dX10_cut_12 (by decide) ?_
    obtain rfl := jsm hE
    exact ret hS rfl dX10_cut_14
def fX10_isWire (a1 : Int32) (wires : Int32) : Option (Int32) :=
  (fX10_in a1 (0 : Int32) (wires - (1 : Int32))).bind (fun o_1 => 
  if o_1 &&& 1 = o_1 then
  some o_1
  else none)
abbrev rmX10_isWire : Room := { frames := 1, cells := 0, slots := 0, locals := 22 }
set_option maxHeartbeats 4000000 in
set_option maxRecDepth 100000 in
theorem tX10_isWire (l : Launch) (D : va_G) (ad : Nat → Nat) (cI cJ cZ cW cS cO cG : ClassId) (thrown : Int32) (trace : Int64) (upper : Nat → Int32) (lower : Nat → Int32) (begins : Nat → Int32) (size : Int32) (hasShares : Int32) (wires : Int32) (kind : Nat → Int32) (first : Nat → Int32) (second : Nat → Int32) (times : Nat → Int32) (byy : Nat → Int32) (group : Nat → Int32) (whole : Nat → Int32) (frm : Nat → Int32) (too : Nat → Int32) (isThere : Nat → Int32) (way : Nat → Int32) (sorts : Int32) (ohms : Nat → Int32) (price : Nat → Int32) (above : Int64) (belo : Int64) (a1 : Int32) {o : Int32} (hE : fX10_isWire a1 wires = some o) : JMi l yX10_isWire wsX10_isWire rmX10_isWire D vwCl (TY cI cJ cZ cW cS cO cG) [.ref (ad 0), .int a1] (MW ad cI cZ thrown trace upper lower begins size hasShares wires kind first second times byy group whole frm too isThere way sorts ohms price above belo) (MW ad cI cZ thrown trace upper lower begins size hasShares wires kind first second times byy group whole frm too isThere way sorts ohms price above belo) o := by
  refine JMi.of (cc := cX10_isWire) (maxL := 2) (by decide) rfl (Nat.le_of_ble_eq_true rfl) ?_
  intro p e s m args below meth c A ls Q C hK hA ret hS hl
  obtain ⟨⟨hx, hb, hml, hown, hts⟩, -⟩ := id C
  have hl : lv_has ls 2 [(0, .ref (ad 0)), (1, .int a1)] := hl
  have inX10 : ∀ w ∈ u_ws RX10 TX10 24, w ∈ wsX10_isWire := by decide +kernel
  have k0 := hts (.fieldLink RX10 119 "OhmNetsModel" "wires" "I") (by decide +kernel)
  refine lv_iload_n hx hb dX10_isWire_0 rfl (lv_at hl 1 rfl) ?_
  refine lv_iconst (v := (0 : Int32)) hx hb dX10_isWire_1 (by decide) ?_
  refine lv_aload_n hx hb dX10_isWire_2 rfl (lv_at hl 0 rfl) ?_
  refine va_get (D := D) (ci := 11) (v := .int wires) (C := RX10) (T := TX10) (N := 24) hx hb hts inX10 hown hK hS.1 0 rfl rfl 7 (by decide) k0 (fun _ h => h) rfl dX10_isWire_3 ?_
  refine lv_iconst (v := (1 : Int32)) hx hb dX10_isWire_6 (by decide) ?_
  refine lv_isub hx hb dX10_isWire_7 ?_
  obtain ⟨o_1, h_2, hE⟩ := jbd hE
  refine j_Si (As := [.int a1, .int (0 : Int32), .int (wires - (1 : Int32))]) (rest := []) (wf := MW ad cI cZ thrown trace upper lower begins size hasShares wires kind first second times byy group whole frm too isThere way sorts ohms price above belo) C hK hS (jcut_nil hA hS) (tX10_in l D cI cJ cZ cW cS cO cG a1 (0 : Int32) (wires - (1 : Int32)) h_2) (va_cwS 3 hts gX10_isWire_X10_in rfl rfl rfl (by decide +kernel) ⟨Nat.le_of_ble_eq_true rfl, Nat.le_of_ble_eq_true rfl⟩) rfl hl.1 rfl (Nat.le_of_ble_eq_true rfl) dX10_isWire_8 ⟨Nat.zero_le _, Nat.zero_le _⟩ (fun H locs hS => ?_)
  obtain ⟨z_3, hE⟩ := jgd hE
  obtain rfl := jsm hE
  exact ret hS (jbool z_3) dX10_isWire_11
def fX10_ohms (a1 : Int32) (a2 : Int32) (trace : Int64) (wires : Int32) (kind : Nat → Int32) (times : Nat → Int32) (byy : Nat → Int32) (above : Int64) (belo : Int64) : Option (Int32 × Int32 × Int64 × Int64 × Int64) :=
  (fX10_isWire a1 wires).bind (fun o_1 => 
  if o_1 = 0 then
  some ((-1 : Int32), (0 : Int32), trace, above, belo)
  else
  (fX10_in a2 (0 : Int32) (1 : Int32)).bind (fun o_4 => 
  if o_4 = 0 then
  some ((-1 : Int32), (0 : Int32), trace, above, belo)
  else
  if jok a1 12 then
  jlet (if (kind a1.toNatClampNeg) = 0 then
  (1 : Int64)
  else
  if (kind a1.toNatClampNeg) = (1 : Int32) then
  (11 : Int64)
  else
  (111 : Int64)) (fun o_8 => 
  (fX10_least ((times a1.toNatClampNeg).toInt64) ((byy a1.toNatClampNeg).toInt64)).bind (fun o_13 => 
  if a2 = 0 then
  some (o_13.1.toInt32, (0 : Int32), (trace + o_8), o_13.1, o_13.2)
  else
  some (o_13.2.toInt32, (0 : Int32), (trace + o_8), o_13.1, o_13.2)))
  else none))
abbrev rmX10_ohms : Room := { frames := 2, cells := 0, slots := 0, locals := 55 }
set_option maxHeartbeats 4000000 in
set_option maxRecDepth 100000 in
theorem tX10_ohms (l : Launch) (D : va_G) (ad : Nat → Nat) (cI cJ cZ cW cS cO cG : ClassId) (thrown : Int32) (trace : Int64) (upper : Nat → Int32) (lower : Nat → Int32) (begins : Nat → Int32) (size : Int32) (hasShares : Int32) (wires : Int32) (kind : Nat → Int32) (first : Nat → Int32) (second : Nat → Int32) (times : Nat → Int32) (byy : Nat → Int32) (group : Nat → Int32) (whole : Nat → Int32) (frm : Nat → Int32) (too : Nat → Int32) (isThere : Nat → Int32) (way : Nat → Int32) (sorts : Int32) (ohms : Nat → Int32) (price : Nat → Int32) (above : Int64) (belo : Int64) (a1 : Int32) (a2 : Int32) {o : Int32 × Int32 × Int64 × Int64 × Int64} (hE : fX10_ohms a1 a2 trace wires kind times byy above belo = some o) : JMi l yX10_ohms wsX10_ohms rmX10_ohms D vwCl (TY cI cJ cZ cW cS cO cG) [.ref (ad 0), .int a1, .int a2] (MW ad cI cZ thrown trace upper lower begins size hasShares wires kind first second times byy group whole frm too isThere way sorts ohms price above belo) (MW ad cI cZ o.2.1 o.2.2.1 upper lower begins size hasShares wires kind first second times byy group whole frm too isThere way sorts ohms price o.2.2.2.1 o.2.2.2.2) o.1 := by
  refine JMi.of (cc := cX10_ohms) (maxL := 3) (by decide) rfl (Nat.le_of_ble_eq_true rfl) ?_
  intro p e s m args below meth c A ls Q C hK hA ret hS hl
  obtain ⟨⟨hx, hb, hml, hown, hts⟩, -⟩ := id C
  have hl : lv_has ls 3 [(0, .ref (ad 0)), (1, .int a1), (2, .int a2)] := hl
  have inX10 : ∀ w ∈ u_ws RX10 TX10 24, w ∈ wsX10_ohms := by decide +kernel
  have k0 := hts (.fieldLink RX10 59 "OhmNetsModel" "thrown" "I") (by decide +kernel)
  have k1 := hts (.fieldLink RX10 125 "OhmNetsModel" "trace" "J") (by decide +kernel)
  have k2 := hts (.fieldLink RX10 19 "OhmNetsModel" "kind" "[I") (by decide +kernel)
  have k3 := hts (.constantLong RX10 130 (111)) (by decide +kernel)
  have k4 := hts (.constantLong RX10 128 (11)) (by decide +kernel)
  have k5 := hts (.fieldLink RX10 28 "OhmNetsModel" "times" "[I") (by decide +kernel)
  have k6 := hts (.fieldLink RX10 31 "OhmNetsModel" "by" "[I") (by decide +kernel)
  have k7 := hts (.fieldLink RX10 71 "OhmNetsModel" "below" "J") (by decide +kernel)
  have k8 := hts (.fieldLink RX10 67 "OhmNetsModel" "above" "J") (by decide +kernel)
  refine lv_aload_n hx hb dX10_ohms_0 rfl (lv_at hl 0 rfl) ?_
  refine lv_iconst (v := (0 : Int32)) hx hb dX10_ohms_1 (by decide) ?_
  refine j_put (ci := 11) (v := .int (0 : Int32)) (ty := .int) (C := RX10) (T := TX10) (N := 24) (w' := MW ad cI cZ (0 : Int32) trace upper lower begins size hasShares wires kind first second times byy group whole frm too isThere way sorts ohms price above belo) hx hb hts inX10 tyX10 tyX10_ok nmX10 hown hK hS 0 rfl rfl 0 (by decide) k0 (fun _ h => h) rfl (by decide +kernel) rfl rfl (Nat.le_of_ble_eq_true rfl) rfl dX10_ohms_2 (fun H locs hS => ?_)
  refine lv_aload_n hx hb dX10_ohms_5 rfl (lv_at hl 0 rfl) ?_
  refine lv_iload_n hx hb dX10_ohms_6 rfl (lv_at hl 1 rfl) ?_
  obtain ⟨o_1, h_2, hE⟩ := jbd hE
  refine j_Vi (As := [.int a1]) (rest := []) (wf := MW ad cI cZ (0 : Int32) trace upper lower begins size hasShares wires kind first second times byy group whole frm too isThere way sorts ohms price above belo) (vc := (RX10, TX10, 24)) C hK hS (jcut_all hA hS) (tX10_isWire l D ad cI cJ cZ cW cS cO cG (0 : Int32) trace upper lower begins size hasShares wires kind first second times byy group whole frm too isThere way sorts ohms price above belo a1 h_2) (cwV 1 hts gX10_ohms_X10_isWire rfl rfl rfl (by decide +kernel) ⟨Nat.le_of_ble_eq_true rfl, Nat.le_of_ble_eq_true rfl⟩) (q0 := 0) rfl (ci := 11) rfl rfl hl.1 rfl (Nat.le_of_ble_eq_true rfl) dX10_ohms_7 ⟨Nat.zero_le _, Nat.zero_le _⟩ (fun H locs hS => ?_)
  refine lv_if_eq (tgt := 22) hx hb dX10_ohms_10 (by decide) (fun c_3 => ?_) (fun c_3 => ?_)
  · have hE := jt hE c_3
    refine lv_iconst (v := (-1 : Int32)) hx hb dX10_ohms_22 (by decide) ?_
    obtain rfl := jsm hE
    exact ret hS rfl dX10_ohms_23
  · have hE := jf hE c_3
    refine lv_iload_n hx hb dX10_ohms_13 rfl (lv_at hl 2 rfl) ?_
    refine lv_iconst (v := (0 : Int32)) hx hb dX10_ohms_14 (by decide) ?_
    refine lv_iconst (v := (1 : Int32)) hx hb dX10_ohms_15 (by decide) ?_
    obtain ⟨o_4, h_5, hE⟩ := jbd hE
    refine j_Si (As := [.int a2, .int (0 : Int32), .int (1 : Int32)]) (rest := []) (wf := MW ad cI cZ (0 : Int32) trace upper lower begins size hasShares wires kind first second times byy group whole frm too isThere way sorts ohms price above belo) C hK hS (jcut_nil hA hS) (tX10_in l D cI cJ cZ cW cS cO cG a2 (0 : Int32) (1 : Int32) h_5) (va_cwS 3 hts gX10_ohms_X10_in rfl rfl rfl (by decide +kernel) ⟨Nat.le_of_ble_eq_true rfl, Nat.le_of_ble_eq_true rfl⟩) rfl hl.1 rfl (Nat.le_of_ble_eq_true rfl) dX10_ohms_16 ⟨Nat.zero_le _, Nat.zero_le _⟩ (fun H locs hS => ?_)
    refine lv_if_ne (tgt := 24) hx hb dX10_ohms_19 (by decide) (fun c_6 => ?_) (fun c_6 => ?_)
    · have hE := jf hE c_6
      refine lv_aload_n hx hb dX10_ohms_24 rfl (lv_at hl 0 rfl) ?_
      refine lv_dup hx hb dX10_ohms_25 rfl ?_
      refine va_get (D := D) (ci := 11) (v := .long trace) (C := RX10) (T := TX10) (N := 24) hx hb hts inX10 hown hK hS.1 0 rfl rfl 1 (by decide) k1 (fun _ h => h) rfl dX10_ohms_26 ?_
      refine lv_aload_n hx hb dX10_ohms_29 rfl (lv_at hl 0 rfl) ?_
      refine va_get (D := D) (ci := 11) (v := .ref (ad 4)) (C := RX10) (T := TX10) (N := 24) hx hb hts inX10 hown hK hS.1 0 rfl rfl 8 (by decide) k2 (fun _ h => h) rfl dX10_ohms_30 ?_
      refine lv_iload_n hx hb dX10_ohms_33 rfl (lv_at hl 1 rfl) ?_
      obtain ⟨b_7, hE⟩ := jgd hE
      refine va_iald hx hb hK hS.1 4 0 rfl rfl (jin.mpr b_7) dX10_ohms_34 ?_
      obtain ⟨o_8, r_10⟩ : ∃ y : Int64, y = (if (kind a1.toNatClampNeg) = 0 then (1 : Int64) else if (kind a1.toNatClampNeg) = (1 : Int32) then (11 : Int64) else (111 : Int64)) := ⟨_, rfl⟩
      have hE := jlv hE r_10
      have K_9 : jW p l e rmX10_ohms s m args below meth c 0 0 Q D vwCl A (MW ad cI cZ (0 : Int32) trace upper lower begins size hasShares wires kind first second times byy group whole frm too isThere way sorts ohms price above belo) 3 [(0, .ref (ad 0)), (1, .int a1), (2, .int a2)] 61 [.long o_8, .long trace, .ref (ad 0)] := by
        intro H locs ls hS hl
        refine lv_ladd hx hb dX10_ohms_61 ?_
        refine j_put (ci := 11) (v := .long (trace + o_8)) (ty := .long) (C := RX10) (T := TX10) (N := 24) (w' := MW ad cI cZ (0 : Int32) (trace + o_8) upper lower begins size hasShares wires kind first second times byy group whole frm too isThere way sorts ohms price above belo) hx hb hts inX10 tyX10 tyX10_ok nmX10 hown hK hS 0 rfl rfl 1 (by decide) k1 (fun _ h => h) rfl (by decide +kernel) rfl rfl (Nat.le_of_ble_eq_true rfl) rfl dX10_ohms_62 (fun H locs hS => ?_)
        refine lv_aload_n hx hb dX10_ohms_65 rfl (lv_at hl 0 rfl) ?_
        refine lv_aload_n hx hb dX10_ohms_66 rfl (lv_at hl 0 rfl) ?_
        refine va_get (D := D) (ci := 11) (v := .ref (ad 7)) (C := RX10) (T := TX10) (N := 24) hx hb hts inX10 hown hK hS.1 0 rfl rfl 11 (by decide) k5 (fun _ h => h) rfl dX10_ohms_67 ?_
        refine lv_iload_n hx hb dX10_ohms_70 rfl (lv_at hl 1 rfl) ?_
        refine va_iald hx hb hK hS.1 7 0 rfl rfl (jin.mpr b_7) dX10_ohms_71 ?_
        refine lv_i2l (v := (times a1.toNatClampNeg).toInt64) hx hb dX10_ohms_72 rfl ?_
        refine lv_aload_n hx hb dX10_ohms_73 rfl (lv_at hl 0 rfl) ?_
        refine va_get (D := D) (ci := 11) (v := .ref (ad 8)) (C := RX10) (T := TX10) (N := 24) hx hb hts inX10 hown hK hS.1 0 rfl rfl 12 (by decide) k6 (fun _ h => h) rfl dX10_ohms_74 ?_
        refine lv_iload_n hx hb dX10_ohms_77 rfl (lv_at hl 1 rfl) ?_
        refine va_iald hx hb hK hS.1 8 0 rfl rfl (jin.mpr b_7) dX10_ohms_78 ?_
        refine lv_i2l (v := (byy a1.toNatClampNeg).toInt64) hx hb dX10_ohms_79 rfl ?_
        obtain ⟨o_13, h_14, hE⟩ := jbd hE
        refine j_Vv (As := [.long ((times a1.toNatClampNeg).toInt64), .long ((byy a1.toNatClampNeg).toInt64)]) (rest := []) (wf := MW ad cI cZ (0 : Int32) (trace + o_8) upper lower begins size hasShares wires kind first second times byy group whole frm too isThere way sorts ohms price o_13.1 o_13.2) (vc := (RX10, TX10, 24)) C hK hS (jcut_all hA hS) (tX10_least l D ad cI cJ cZ cW cS cO cG (0 : Int32) (trace + o_8) upper lower begins size hasShares wires kind first second times byy group whole frm too isThere way sorts ohms price above belo ((times a1.toNatClampNeg).toInt64) ((byy a1.toNatClampNeg).toInt64) h_14) (cwV 2 hts gX10_ohms_X10_least rfl rfl rfl (by decide +kernel) ⟨Nat.le_of_ble_eq_true rfl, Nat.le_of_ble_eq_true rfl⟩) (q0 := 0) rfl (ci := 11) rfl rfl hl.1 rfl (Nat.le_of_ble_eq_true rfl) dX10_ohms_80 ⟨Nat.zero_le _, Nat.zero_le _⟩ (fun H locs hS => ?_)
        refine lv_iload_n hx hb dX10_ohms_83 rfl (lv_at hl 2 rfl) ?_
        refine lv_if_ne (tgt := 94) hx hb dX10_ohms_84 (by decide) (fun c_15 => ?_) (fun c_15 => ?_)
        · have hE := jf hE c_15
          refine lv_aload_n hx hb dX10_ohms_94 rfl (lv_at hl 0 rfl) ?_
          refine va_get (D := D) (ci := 11) (v := .long o_13.2) (C := RX10) (T := TX10) (N := 24) hx hb hts inX10 hown hK hS.1 0 rfl rfl 23 (by decide) k7 (fun _ h => h) rfl dX10_ohms_95 ?_
          refine lv_l2i (v := o_13.2.toInt32) hx hb dX10_ohms_98 rfl ?_
          obtain rfl := jsm hE
          exact ret hS rfl dX10_ohms_99
        · have hE := jt hE c_15
          refine lv_aload_n hx hb dX10_ohms_87 rfl (lv_at hl 0 rfl) ?_
          refine va_get (D := D) (ci := 11) (v := .long o_13.1) (C := RX10) (T := TX10) (N := 24) hx hb hts inX10 hown hK hS.1 0 rfl rfl 22 (by decide) k8 (fun _ h => h) rfl dX10_ohms_88 ?_
          refine lv_goto (tgt := 98) hx hb dX10_ohms_91 (by decide) ?_
          refine lv_l2i (v := o_13.1.toInt32) hx hb dX10_ohms_98 rfl ?_
          obtain rfl := jsm hE
          exact ret hS rfl dX10_ohms_99
      refine lv_if_ne (tgt := 42) hx hb dX10_ohms_35 (by decide) (fun c_11 => ?_) (fun c_11 => ?_)
      · have r_10 := r_10.trans (if_neg c_11)
        refine lv_aload_n hx hb dX10_ohms_42 rfl (lv_at hl 0 rfl) ?_
        refine va_get (D := D) (ci := 11) (v := .ref (ad 4)) (C := RX10) (T := TX10) (N := 24) hx hb hts inX10 hown hK hS.1 0 rfl rfl 8 (by decide) k2 (fun _ h => h) rfl dX10_ohms_43 ?_
        refine lv_iload_n hx hb dX10_ohms_46 rfl (lv_at hl 1 rfl) ?_
        refine va_iald hx hb hK hS.1 4 0 rfl rfl (jin.mpr b_7) dX10_ohms_47 ?_
        refine lv_iconst (v := (1 : Int32)) hx hb dX10_ohms_48 (by decide) ?_
        refine lv_icmp_ne (tgt := 58) hx hb dX10_ohms_49 (by decide) (fun c_12 => ?_) (fun c_12 => ?_)
        · have r_10 := r_10.trans (if_neg c_12)
          refine lv_ldc2 (v := (111 : Int64)) hx hb hown k3 dX10_ohms_58 ?_
          subst r_10
          exact K_9 _ _ _ hS (lv_sub hl [0, 1, 2] rfl)
        · have r_10 := r_10.trans (if_pos c_12)
          refine lv_ldc2 (v := (11 : Int64)) hx hb hown k4 dX10_ohms_52 ?_
          refine lv_goto (tgt := 61) hx hb dX10_ohms_55 (by decide) ?_
          subst r_10
          exact K_9 _ _ _ hS (lv_sub hl [0, 1, 2] rfl)
      · have r_10 := r_10.trans (if_pos c_11)
        refine lv_lconst (v := (1 : Int64)) hx hb dX10_ohms_38 (by decide) ?_
        refine lv_goto (tgt := 61) hx hb dX10_ohms_39 (by decide) ?_
        subst r_10
        exact K_9 _ _ _ hS (lv_sub hl [0, 1, 2] rfl)
    · have hE := jt hE c_6
      refine lv_iconst (v := (-1 : Int32)) hx hb dX10_ohms_22 (by decide) ?_
      obtain rfl := jsm hE
      exact ret hS rfl dX10_ohms_23
def fX10_about (a1 : Int32) (a2 : Int32) (wires : Int32) (kind : Nat → Int32) (first : Nat → Int32) (second : Nat → Int32) : Option (Int32 × Int32) :=
  (fX10_isWire a1 wires).bind (fun o_1 => 
  if o_1 = 0 then
  some ((-1 : Int32), (0 : Int32))
  else
  (fX10_in a2 (0 : Int32) (2 : Int32)).bind (fun o_4 => 
  if o_4 = 0 then
  some ((-1 : Int32), (0 : Int32))
  else
  if a2 = 0 then
  if jok a1 12 then
  some ((kind a1.toNatClampNeg), (0 : Int32))
  else none
  else
  if a2 = (1 : Int32) then
  if jok a1 12 then
  some ((first a1.toNatClampNeg), (0 : Int32))
  else none
  else
  if jok a1 12 then
  some ((second a1.toNatClampNeg), (0 : Int32))
  else none))
abbrev rmX10_about : Room := { frames := 2, cells := 0, slots := 0, locals := 43 }
set_option maxHeartbeats 4000000 in
set_option maxRecDepth 100000 in
theorem tX10_about (l : Launch) (D : va_G) (ad : Nat → Nat) (cI cJ cZ cW cS cO cG : ClassId) (thrown : Int32) (trace : Int64) (upper : Nat → Int32) (lower : Nat → Int32) (begins : Nat → Int32) (size : Int32) (hasShares : Int32) (wires : Int32) (kind : Nat → Int32) (first : Nat → Int32) (second : Nat → Int32) (times : Nat → Int32) (byy : Nat → Int32) (group : Nat → Int32) (whole : Nat → Int32) (frm : Nat → Int32) (too : Nat → Int32) (isThere : Nat → Int32) (way : Nat → Int32) (sorts : Int32) (ohms : Nat → Int32) (price : Nat → Int32) (above : Int64) (belo : Int64) (a1 : Int32) (a2 : Int32) {o : Int32 × Int32} (hE : fX10_about a1 a2 wires kind first second = some o) : JMi l yX10_about wsX10_about rmX10_about D vwCl (TY cI cJ cZ cW cS cO cG) [.ref (ad 0), .int a1, .int a2] (MW ad cI cZ thrown trace upper lower begins size hasShares wires kind first second times byy group whole frm too isThere way sorts ohms price above belo) (MW ad cI cZ o.2 trace upper lower begins size hasShares wires kind first second times byy group whole frm too isThere way sorts ohms price above belo) o.1 := by
  refine JMi.of (cc := cX10_about) (maxL := 3) (by decide) rfl (Nat.le_of_ble_eq_true rfl) ?_
  intro p e s m args below meth c A ls Q C hK hA ret hS hl
  obtain ⟨⟨hx, hb, hml, hown, hts⟩, -⟩ := id C
  have hl : lv_has ls 3 [(0, .ref (ad 0)), (1, .int a1), (2, .int a2)] := hl
  have inX10 : ∀ w ∈ u_ws RX10 TX10 24, w ∈ wsX10_about := by decide +kernel
  have k0 := hts (.fieldLink RX10 59 "OhmNetsModel" "thrown" "I") (by decide +kernel)
  have k1 := hts (.fieldLink RX10 25 "OhmNetsModel" "second" "[I") (by decide +kernel)
  have k2 := hts (.fieldLink RX10 22 "OhmNetsModel" "first" "[I") (by decide +kernel)
  have k3 := hts (.fieldLink RX10 19 "OhmNetsModel" "kind" "[I") (by decide +kernel)
  refine lv_aload_n hx hb dX10_about_0 rfl (lv_at hl 0 rfl) ?_
  refine lv_iconst (v := (0 : Int32)) hx hb dX10_about_1 (by decide) ?_
  refine j_put (ci := 11) (v := .int (0 : Int32)) (ty := .int) (C := RX10) (T := TX10) (N := 24) (w' := MW ad cI cZ (0 : Int32) trace upper lower begins size hasShares wires kind first second times byy group whole frm too isThere way sorts ohms price above belo) hx hb hts inX10 tyX10 tyX10_ok nmX10 hown hK hS 0 rfl rfl 0 (by decide) k0 (fun _ h => h) rfl (by decide +kernel) rfl rfl (Nat.le_of_ble_eq_true rfl) rfl dX10_about_2 (fun H locs hS => ?_)
  refine lv_aload_n hx hb dX10_about_5 rfl (lv_at hl 0 rfl) ?_
  refine lv_iload_n hx hb dX10_about_6 rfl (lv_at hl 1 rfl) ?_
  obtain ⟨o_1, h_2, hE⟩ := jbd hE
  refine j_Vi (As := [.int a1]) (rest := []) (wf := MW ad cI cZ (0 : Int32) trace upper lower begins size hasShares wires kind first second times byy group whole frm too isThere way sorts ohms price above belo) (vc := (RX10, TX10, 24)) C hK hS (jcut_all hA hS) (tX10_isWire l D ad cI cJ cZ cW cS cO cG (0 : Int32) trace upper lower begins size hasShares wires kind first second times byy group whole frm too isThere way sorts ohms price above belo a1 h_2) (cwV 1 hts gX10_about_X10_isWire rfl rfl rfl (by decide +kernel) ⟨Nat.le_of_ble_eq_true rfl, Nat.le_of_ble_eq_true rfl⟩) (q0 := 0) rfl (ci := 11) rfl rfl hl.1 rfl (Nat.le_of_ble_eq_true rfl) dX10_about_7 ⟨Nat.zero_le _, Nat.zero_le _⟩ (fun H locs hS => ?_)
  refine lv_if_eq (tgt := 22) hx hb dX10_about_10 (by decide) (fun c_3 => ?_) (fun c_3 => ?_)
  · have hE := jt hE c_3
    refine lv_iconst (v := (-1 : Int32)) hx hb dX10_about_22 (by decide) ?_
    obtain rfl := jsm hE
    exact ret hS rfl dX10_about_23
  · have hE := jf hE c_3
    refine lv_iload_n hx hb dX10_about_13 rfl (lv_at hl 2 rfl) ?_
    refine lv_iconst (v := (0 : Int32)) hx hb dX10_about_14 (by decide) ?_
    refine lv_iconst (v := (2 : Int32)) hx hb dX10_about_15 (by decide) ?_
    obtain ⟨o_4, h_5, hE⟩ := jbd hE
    refine j_Si (As := [.int a2, .int (0 : Int32), .int (2 : Int32)]) (rest := []) (wf := MW ad cI cZ (0 : Int32) trace upper lower begins size hasShares wires kind first second times byy group whole frm too isThere way sorts ohms price above belo) C hK hS (jcut_nil hA hS) (tX10_in l D cI cJ cZ cW cS cO cG a2 (0 : Int32) (2 : Int32) h_5) (va_cwS 3 hts gX10_about_X10_in rfl rfl rfl (by decide +kernel) ⟨Nat.le_of_ble_eq_true rfl, Nat.le_of_ble_eq_true rfl⟩) rfl hl.1 rfl (Nat.le_of_ble_eq_true rfl) dX10_about_16 ⟨Nat.zero_le _, Nat.zero_le _⟩ (fun H locs hS => ?_)
    refine lv_if_ne (tgt := 24) hx hb dX10_about_19 (by decide) (fun c_6 => ?_) (fun c_6 => ?_)
    · have hE := jf hE c_6
      refine lv_iload_n hx hb dX10_about_24 rfl (lv_at hl 2 rfl) ?_
      refine lv_if_ne (tgt := 37) hx hb dX10_about_25 (by decide) (fun c_7 => ?_) (fun c_7 => ?_)
      · have hE := jf hE c_7
        refine lv_iload_n hx hb dX10_about_37 rfl (lv_at hl 2 rfl) ?_
        refine lv_iconst (v := (1 : Int32)) hx hb dX10_about_38 (by decide) ?_
        refine lv_icmp_ne (tgt := 51) hx hb dX10_about_39 (by decide) (fun c_8 => ?_) (fun c_8 => ?_)
        · have hE := jf hE c_8
          refine lv_aload_n hx hb dX10_about_51 rfl (lv_at hl 0 rfl) ?_
          refine va_get (D := D) (ci := 11) (v := .ref (ad 6)) (C := RX10) (T := TX10) (N := 24) hx hb hts inX10 hown hK hS.1 0 rfl rfl 10 (by decide) k1 (fun _ h => h) rfl dX10_about_52 ?_
          refine lv_iload_n hx hb dX10_about_55 rfl (lv_at hl 1 rfl) ?_
          obtain ⟨b_9, hE⟩ := jgd hE
          refine va_iald hx hb hK hS.1 6 0 rfl rfl (jin.mpr b_9) dX10_about_56 ?_
          obtain rfl := jsm hE
          exact ret hS rfl dX10_about_57
        · have hE := jt hE c_8
          refine lv_aload_n hx hb dX10_about_42 rfl (lv_at hl 0 rfl) ?_
          refine va_get (D := D) (ci := 11) (v := .ref (ad 5)) (C := RX10) (T := TX10) (N := 24) hx hb hts inX10 hown hK hS.1 0 rfl rfl 9 (by decide) k2 (fun _ h => h) rfl dX10_about_43 ?_
          refine lv_iload_n hx hb dX10_about_46 rfl (lv_at hl 1 rfl) ?_
          obtain ⟨b_10, hE⟩ := jgd hE
          refine va_iald hx hb hK hS.1 5 0 rfl rfl (jin.mpr b_10) dX10_about_47 ?_
          refine lv_goto (tgt := 57) hx hb dX10_about_48 (by decide) ?_
          obtain rfl := jsm hE
          exact ret hS rfl dX10_about_57
      · have hE := jt hE c_7
        refine lv_aload_n hx hb dX10_about_28 rfl (lv_at hl 0 rfl) ?_
        refine va_get (D := D) (ci := 11) (v := .ref (ad 4)) (C := RX10) (T := TX10) (N := 24) hx hb hts inX10 hown hK hS.1 0 rfl rfl 8 (by decide) k3 (fun _ h => h) rfl dX10_about_29 ?_
        refine lv_iload_n hx hb dX10_about_32 rfl (lv_at hl 1 rfl) ?_
        obtain ⟨b_11, hE⟩ := jgd hE
        refine va_iald hx hb hK hS.1 4 0 rfl rfl (jin.mpr b_11) dX10_about_33 ?_
        refine lv_goto (tgt := 57) hx hb dX10_about_34 (by decide) ?_
        obtain rfl := jsm hE
        exact ret hS rfl dX10_about_57
    · have hE := jt hE c_6
      refine lv_iconst (v := (-1 : Int32)) hx hb dX10_about_22 (by decide) ?_
      obtain rfl := jsm hE
      exact ret hS rfl dX10_about_23
def LX10_joins_4 : Nat → (Int32) → (Nat → Int32) → Option ((Nat → Int32))
  | 0, _, _ => none
  | n + 1, v3_1, group_2 =>
    if (6 : Int32) ≤ v3_1 then
    some group_2
    else
    if jok v3_1 6 then
    jlet (upd group_2 v3_1.toNatClampNeg v3_1) (fun group_10 => 
    jlet (v3_1 + (1 : Int32)) (fun x_11 => 
    LX10_joins_4 n x_11 group_10))
    else none
def LX10_joins_86 (x_23 : Int32) (x_25 : Int32) : Nat → (Int32) → (Nat → Int32) → Option ((Nat → Int32))
  | 0, _, _ => none
  | n + 1, v6_35, group_36 =>
    if (6 : Int32) ≤ v6_35 then
    some group_36
    else
    if jok v6_35 6 then
    jlet (if (group_36 v6_35.toNatClampNeg) = x_23 then
    if x_25 ≤ x_23 then
    x_25
    else
    x_23
    else
    if (group_36 v6_35.toNatClampNeg) = x_25 then
    if x_25 ≤ x_23 then
    x_25
    else
    x_23
    else
    (group_36 v6_35.toNatClampNeg)) (fun o_44 => 
    jlet (upd group_36 v6_35.toNatClampNeg o_44) (fun group_51 => 
    jlet (v6_35 + (1 : Int32)) (fun x_52 => 
    LX10_joins_86 x_23 x_25 n x_52 group_51)))
    else none
def LX10_joins_25 (wires : Int32) (first : Nat → Int32) (second : Nat → Int32) (a1 : Int32) : Nat → (Int32) → (Int32) → (Nat → Int32) → Option (Int32 × (Nat → Int32))
  | 0, _, _, _ => none
  | n + 1, v2_12, v3_13, group_14 =>
    if wires ≤ v3_13 then
    some (v2_12, group_14)
    else
    if jok v3_13 12 then
    if jok (first v3_13.toNatClampNeg) 6 then
    jlet (group_14 (first v3_13.toNatClampNeg).toNatClampNeg) (fun x_23 => 
    if jok (second v3_13.toNatClampNeg) 6 then
    jlet (group_14 (second v3_13.toNatClampNeg).toNatClampNeg) (fun x_25 => 
    (if ((a1 >>> (v3_13 &&& 31)) &&& (1 : Int32)) = (1 : Int32) then
    jlet (if x_23 = x_25 then
    (0 : Int32)
    else
    (1 : Int32)) (fun o_30 => 
    jlet (v2_12 &&& o_30) (fun x_34 => 
    (LX10_joins_86 x_23 x_25 5000 (0 : Int32) group_14).bind (fun o_37 => 
    some (x_34, o_37))))
    else
    some (v2_12, group_14)).bind (fun o_26 => 
    jlet (v3_13 + (1 : Int32)) (fun x_53 => 
    LX10_joins_25 wires first second a1 n o_26.1 x_53 o_26.2)))
    else none)
    else none
    else none
def fX10_joins (a1 : Int32) (wires : Int32) (first : Nat → Int32) (second : Nat → Int32) (group : Nat → Int32) : Option (Int32 × (Nat → Int32)) :=
  (LX10_joins_4 5000 (0 : Int32) group).bind (fun o_3 => 
  (LX10_joins_25 wires first second a1 5000 (1 : Int32) (0 : Int32) o_3).bind (fun o_15 => 
  if o_15.1 &&& 1 = o_15.1 then
  some (o_15.1, o_15.2)
  else none))
abbrev rmX10_joins : Room := { frames := 0, cells := 0, slots := 0, locals := 0 }
set_option maxHeartbeats 4000000 in
set_option maxRecDepth 100000 in
theorem tX10_joins (l : Launch) (D : va_G) (ad : Nat → Nat) (cI cJ cZ cW cS cO cG : ClassId) (thrown : Int32) (trace : Int64) (upper : Nat → Int32) (lower : Nat → Int32) (begins : Nat → Int32) (size : Int32) (hasShares : Int32) (wires : Int32) (kind : Nat → Int32) (first : Nat → Int32) (second : Nat → Int32) (times : Nat → Int32) (byy : Nat → Int32) (group : Nat → Int32) (whole : Nat → Int32) (frm : Nat → Int32) (too : Nat → Int32) (isThere : Nat → Int32) (way : Nat → Int32) (sorts : Int32) (ohms : Nat → Int32) (price : Nat → Int32) (above : Int64) (belo : Int64) (a1 : Int32) {o : Int32 × (Nat → Int32)} (hE : fX10_joins a1 wires first second group = some o) : JMi l yX10_joins wsX10_joins rmX10_joins D vwCl (TY cI cJ cZ cW cS cO cG) [.ref (ad 0), .int a1] (MW ad cI cZ thrown trace upper lower begins size hasShares wires kind first second times byy group whole frm too isThere way sorts ohms price above belo) (MW ad cI cZ thrown trace upper lower begins size hasShares wires kind first second times byy o.2 whole frm too isThere way sorts ohms price above belo) o.1 := by
  refine JMi.of (cc := cX10_joins) (maxL := 7) (by decide) rfl (Nat.le_of_ble_eq_true rfl) ?_
  intro p e s m args below meth c A ls Q C hK hA ret hS hl
  obtain ⟨⟨hx, hb, hml, hown, hts⟩, -⟩ := id C
  have hl : lv_has ls 7 [(0, .ref (ad 0)), (1, .int a1)] := hl
  have inX10 : ∀ w ∈ u_ws RX10 TX10 24, w ∈ wsX10_joins := by decide +kernel
  have k0 := hts (.fieldLink RX10 34 "OhmNetsModel" "group" "[I") (by decide +kernel)
  have k1 := hts (.fieldLink RX10 119 "OhmNetsModel" "wires" "I") (by decide +kernel)
  have k2 := hts (.fieldLink RX10 22 "OhmNetsModel" "first" "[I") (by decide +kernel)
  have k3 := hts (.fieldLink RX10 25 "OhmNetsModel" "second" "[I") (by decide +kernel)
  refine lv_iconst (v := (1 : Int32)) hx hb dX10_joins_0 (by decide) ?_
  refine lv_istore_n (lv' := [(2, .int (1 : Int32)), (0, .ref (ad 0)), (1, .int a1)]) hx hb dX10_joins_1 rfl hl (by decide) rfl (fun ls hl => ?_)
  refine lv_iconst (v := (0 : Int32)) hx hb dX10_joins_2 (by decide) ?_
  refine lv_istore_n (lv' := [(3, .int (0 : Int32)), (2, .int (1 : Int32)), (0, .ref (ad 0)), (1, .int a1)]) hx hb dX10_joins_3 rfl hl (by decide) rfl (fun ls hl => ?_)
  obtain ⟨o_3, L_4, hE⟩ := jbd hE
  have K_5 : jW p l e rmX10_joins s m args below meth c 0 0 Q D vwCl A (MW ad cI cZ thrown trace upper lower begins size hasShares wires kind first second times byy o_3 whole frm too isThere way sorts ohms price above belo) 7 [(0, .ref (ad 0)), (1, .int a1), (2, .int (1 : Int32))] 23 [] := by
    intro H locs ls hS hl
    refine lv_iconst (v := (0 : Int32)) hx hb dX10_joins_23 (by decide) ?_
    refine lv_istore_n (lv' := [(3, .int (0 : Int32)), (0, .ref (ad 0)), (1, .int a1), (2, .int (1 : Int32))]) hx hb dX10_joins_24 rfl hl (by decide) rfl (fun ls hl => ?_)
    obtain ⟨o_15, L_16, hE⟩ := jbd hE
    have K_17 : jW p l e rmX10_joins s m args below meth c 0 0 Q D vwCl A (MW ad cI cZ thrown trace upper lower begins size hasShares wires kind first second times byy o_15.2 whole frm too isThere way sorts ohms price above belo) 7 [(2, .int o_15.1)] 160 [] := by
      intro H locs ls hS hl
      refine lv_iload_n hx hb dX10_joins_160 rfl (lv_at hl 0 rfl) ?_
      obtain ⟨z_54, hE⟩ := jgd hE
      obtain rfl := jsm hE
      exact ret hS (jbool z_54) dX10_joins_161
    have loop_19 : ∀ (n : Nat) (v2_12 : Int32) (v3_13 : Int32) (group_14 : Nat → Int32), LX10_joins_25 wires first second a1 n v2_12 v3_13 group_14 = some o_15 → jW p l e rmX10_joins s m args below meth c 0 0 Q D vwCl A (MW ad cI cZ thrown trace upper lower begins size hasShares wires kind first second times byy group_14 whole frm too isThere way sorts ohms price above belo) 7 [(0, .ref (ad 0)), (1, .int a1), (2, .int v2_12), (3, .int v3_13)] 25 [] := by
      intro n
      induction n with
      | zero =>
        intro v2_12 v3_13 group_14 q_18
        have q_18 : none = some o_15 := q_18
        cases q_18
      | succ n ih =>
        intro v2_12 v3_13 group_14 q_18 H locs ls hS hl
        rw [LX10_joins_25] at q_18
        refine lv_iload_n hx hb dX10_joins_25 rfl (lv_at hl 3 rfl) ?_
        refine lv_aload_n hx hb dX10_joins_26 rfl (lv_at hl 0 rfl) ?_
        refine va_get (D := D) (ci := 11) (v := .int wires) (C := RX10) (T := TX10) (N := 24) hx hb hts inX10 hown hK hS.1 0 rfl rfl 7 (by decide) k1 (fun _ h => h) rfl dX10_joins_27 ?_
        refine lv_icmp_ge (tgt := 160) hx hb dX10_joins_30 (by decide) (fun c_20 => ?_) (fun c_20 => ?_)
        · have q_18 := jt q_18 c_20
          obtain rfl := jsm q_18
          exact K_17 _ _ _ hS (lv_sub hl [2] rfl)
        · have q_18 := jf q_18 c_20
          refine lv_aload_n hx hb dX10_joins_33 rfl (lv_at hl 0 rfl) ?_
          refine va_get (D := D) (ci := 11) (v := .ref (ad 9)) (C := RX10) (T := TX10) (N := 24) hx hb hts inX10 hown hK hS.1 0 rfl rfl 13 (by decide) k0 (fun _ h => h) rfl dX10_joins_34 ?_
          refine lv_aload_n hx hb dX10_joins_37 rfl (lv_at hl 0 rfl) ?_
          refine va_get (D := D) (ci := 11) (v := .ref (ad 5)) (C := RX10) (T := TX10) (N := 24) hx hb hts inX10 hown hK hS.1 0 rfl rfl 9 (by decide) k2 (fun _ h => h) rfl dX10_joins_38 ?_
          refine lv_iload_n hx hb dX10_joins_41 rfl (lv_at hl 3 rfl) ?_
          obtain ⟨b_21, q_18⟩ := jgd q_18
          refine va_iald hx hb hK hS.1 5 0 rfl rfl (jin.mpr b_21) dX10_joins_42 ?_
          obtain ⟨b_22, q_18⟩ := jgd q_18
          refine va_iald hx hb hK hS.1 9 0 rfl rfl (jin.mpr b_22) dX10_joins_43 ?_
          refine lv_topi (fun x_23 ex_23 => ?_)
          have q_18 := jlv q_18 ex_23
          refine lv_istore (lv' := [(4, .int x_23), (0, .ref (ad 0)), (1, .int a1), (2, .int v2_12), (3, .int v3_13)]) hx hb dX10_joins_44 hl (by decide) rfl (fun ls hl => ?_)
          refine lv_aload_n hx hb dX10_joins_46 rfl (lv_at hl 1 rfl) ?_
          refine va_get (D := D) (ci := 11) (v := .ref (ad 9)) (C := RX10) (T := TX10) (N := 24) hx hb hts inX10 hown hK hS.1 0 rfl rfl 13 (by decide) k0 (fun _ h => h) rfl dX10_joins_47 ?_
          refine lv_aload_n hx hb dX10_joins_50 rfl (lv_at hl 1 rfl) ?_
          refine va_get (D := D) (ci := 11) (v := .ref (ad 6)) (C := RX10) (T := TX10) (N := 24) hx hb hts inX10 hown hK hS.1 0 rfl rfl 10 (by decide) k3 (fun _ h => h) rfl dX10_joins_51 ?_
          refine lv_iload_n hx hb dX10_joins_54 rfl (lv_at hl 4 rfl) ?_
          refine va_iald hx hb hK hS.1 6 0 rfl rfl (jin.mpr b_21) dX10_joins_55 ?_
          obtain ⟨b_24, q_18⟩ := jgd q_18
          refine va_iald hx hb hK hS.1 9 0 rfl rfl (jin.mpr b_24) dX10_joins_56 ?_
          refine lv_topi (fun x_25 ex_25 => ?_)
          have q_18 := jlv q_18 ex_25
          refine lv_istore (lv' := [(5, .int x_25), (4, .int x_23), (0, .ref (ad 0)), (1, .int a1), (2, .int v2_12), (3, .int v3_13)]) hx hb dX10_joins_57 hl (by decide) rfl (fun ls hl => ?_)
          refine lv_iload_n hx hb dX10_joins_59 rfl (lv_at hl 3 rfl) ?_
          refine lv_iload_n hx hb dX10_joins_60 rfl (lv_at hl 5 rfl) ?_
          refine lv_ishr hx hb dX10_joins_61 ?_
          refine lv_iconst (v := (1 : Int32)) hx hb dX10_joins_62 (by decide) ?_
          refine lv_iand hx hb dX10_joins_63 ?_
          refine lv_iconst (v := (1 : Int32)) hx hb dX10_joins_64 (by decide) ?_
          obtain ⟨o_26, r_28, q_18⟩ := jbd q_18
          have K_27 : jW p l e rmX10_joins s m args below meth c 0 0 Q D vwCl A (MW ad cI cZ thrown trace upper lower begins size hasShares wires kind first second times byy o_26.2 whole frm too isThere way sorts ohms price above belo) 7 [(0, .ref (ad 0)), (1, .int a1), (2, .int o_26.1), (3, .int v3_13)] 154 [] := by
            intro H locs ls hS hl
            obtain ⟨x_53, ex_53⟩ : ∃ y : Int32, y = v3_13 + (1 : Int32) := ⟨_, rfl⟩
            have q_18 := jlv q_18 ex_53
            refine lv_iinc (v := x_53) (lv' := [(3, .int x_53), (0, .ref (ad 0)), (1, .int a1), (2, .int o_26.1)]) hx hb dX10_joins_154 hl (k := 3) rfl (by rw [ex_53]; rfl) (by decide) rfl (fun ls hl => ?_)
            refine lv_goto (tgt := 25) hx hb dX10_joins_157 (by decide) ?_
            exact ih o_26.1 x_53 o_26.2 q_18 _ _ _ hS (lv_sub hl [1, 2, 3, 0] rfl)
          refine lv_icmp_ne (tgt := 154) hx hb dX10_joins_65 (by decide) (fun c_29 => ?_) (fun c_29 => ?_)
          · have r_28 := jf r_28 c_29
            obtain rfl := jsm r_28
            exact K_27 _ _ _ hS (lv_sub hl [2, 3, 4, 5] rfl)
          · have r_28 := jt r_28 c_29
            refine lv_iload_n hx hb dX10_joins_68 rfl (lv_at hl 4 rfl) ?_
            refine lv_iload hx hb dX10_joins_69 (lv_at hl 1 rfl) ?_
            refine lv_iload hx hb dX10_joins_71 (lv_at hl 0 rfl) ?_
            obtain ⟨o_30, r_32⟩ : ∃ y : Int32, y = (if x_23 = x_25 then (0 : Int32) else (1 : Int32)) := ⟨_, rfl⟩
            have r_28 := jlv r_28 r_32
            have K_31 : jW p l e rmX10_joins s m args below meth c 0 0 Q D vwCl A (MW ad cI cZ thrown trace upper lower begins size hasShares wires kind first second times byy group_14 whole frm too isThere way sorts ohms price above belo) 7 [(0, .ref (ad 0)), (1, .int a1), (3, .int v3_13), (4, .int x_23), (5, .int x_25)] 81 [.int o_30, .int v2_12] := by
              intro H locs ls hS hl
              refine lv_iand hx hb dX10_joins_81 ?_
              refine lv_topi (fun x_34 ex_34 => ?_)
              have r_28 := jlv r_28 ex_34
              refine lv_istore_n (lv' := [(2, .int x_34), (0, .ref (ad 0)), (1, .int a1), (3, .int v3_13), (4, .int x_23), (5, .int x_25)]) hx hb dX10_joins_82 rfl hl (by decide) rfl (fun ls hl => ?_)
              refine lv_iconst (v := (0 : Int32)) hx hb dX10_joins_83 (by decide) ?_
              refine lv_istore (lv' := [(6, .int (0 : Int32)), (2, .int x_34), (0, .ref (ad 0)), (1, .int a1), (3, .int v3_13), (4, .int x_23), (5, .int x_25)]) hx hb dX10_joins_84 hl (by decide) rfl (fun ls hl => ?_)
              obtain ⟨o_37, L_38, r_28⟩ := jbd r_28
              have K_39 : jW p l e rmX10_joins s m args below meth c 0 0 Q D vwCl A (MW ad cI cZ thrown trace upper lower begins size hasShares wires kind first second times byy o_37 whole frm too isThere way sorts ohms price above belo) 7 [(0, .ref (ad 0)), (1, .int a1), (2, .int x_34), (3, .int v3_13)] 154 [] := by
                intro H locs ls hS hl
                obtain rfl := jsm r_28
                exact K_27 _ _ _ hS (lv_sub hl [0, 1, 2, 3] rfl)
              have loop_41 : ∀ (n : Nat) (v6_35 : Int32) (group_36 : Nat → Int32), LX10_joins_86 x_23 x_25 n v6_35 group_36 = some o_37 → jW p l e rmX10_joins s m args below meth c 0 0 Q D vwCl A (MW ad cI cZ thrown trace upper lower begins size hasShares wires kind first second times byy group_36 whole frm too isThere way sorts ohms price above belo) 7 [(0, .ref (ad 0)), (1, .int a1), (2, .int x_34), (3, .int v3_13), (4, .int x_23), (5, .int x_25), (6, .int v6_35)] 86 [] := by
                intro n
                induction n with
                | zero =>
                  intro v6_35 group_36 q_40
                  have q_40 : none = some o_37 := q_40
                  cases q_40
                | succ n ih =>
                  intro v6_35 group_36 q_40 H locs ls hS hl
                  rw [LX10_joins_86] at q_40
                  refine lv_iload hx hb dX10_joins_86 (lv_at hl 6 rfl) ?_
                  refine lv_bipush (v := (6 : Int32)) hx hb dX10_joins_88 (by decide) ?_
                  refine lv_icmp_ge (tgt := 154) hx hb dX10_joins_90 (by decide) (fun c_42 => ?_) (fun c_42 => ?_)
                  · have q_40 := jt q_40 c_42
                    obtain rfl := jsm q_40
                    exact K_39 _ _ _ hS (lv_sub hl [0, 1, 2, 3] rfl)
                  · have q_40 := jf q_40 c_42
                    refine lv_aload_n hx hb dX10_joins_93 rfl (lv_at hl 0 rfl) ?_
                    refine va_get (D := D) (ci := 11) (v := .ref (ad 9)) (C := RX10) (T := TX10) (N := 24) hx hb hts inX10 hown hK hS.1 0 rfl rfl 13 (by decide) k0 (fun _ h => h) rfl dX10_joins_94 ?_
                    refine lv_iload hx hb dX10_joins_97 (lv_at hl 6 rfl) ?_
                    refine lv_aload_n hx hb dX10_joins_99 rfl (lv_at hl 0 rfl) ?_
                    refine va_get (D := D) (ci := 11) (v := .ref (ad 9)) (C := RX10) (T := TX10) (N := 24) hx hb hts inX10 hown hK hS.1 0 rfl rfl 13 (by decide) k0 (fun _ h => h) rfl dX10_joins_100 ?_
                    refine lv_iload hx hb dX10_joins_103 (lv_at hl 6 rfl) ?_
                    obtain ⟨b_43, q_40⟩ := jgd q_40
                    refine va_iald hx hb hK hS.1 9 0 rfl rfl (jin.mpr b_43) dX10_joins_105 ?_
                    refine lv_iload hx hb dX10_joins_106 (lv_at hl 4 rfl) ?_
                    obtain ⟨o_44, r_46⟩ : ∃ y : Int32, y = (if (group_36 v6_35.toNatClampNeg) = x_23 then if x_25 ≤ x_23 then x_25 else x_23 else if (group_36 v6_35.toNatClampNeg) = x_25 then if x_25 ≤ x_23 then x_25 else x_23 else (group_36 v6_35.toNatClampNeg)) := ⟨_, rfl⟩
                    have q_40 := jlv q_40 r_46
                    have K_45 : jW p l e rmX10_joins s m args below meth c 0 0 Q D vwCl A (MW ad cI cZ thrown trace upper lower begins size hasShares wires kind first second times byy group_36 whole frm too isThere way sorts ohms price above belo) 7 [(0, .ref (ad 0)), (1, .int a1), (2, .int x_34), (3, .int v3_13), (4, .int x_23), (5, .int x_25), (6, .int v6_35)] 147 [.int o_44, .int v6_35, .ref (ad 9)] := by
                      intro H locs ls hS hl
                      obtain ⟨group_51, egroup_51⟩ : ∃ y : Nat → Int32, y = upd group_36 v6_35.toNatClampNeg o_44 := ⟨_, rfl⟩
                      have q_40 := jlv q_40 egroup_51
                      refine j_iast (w' := MW ad cI cZ thrown trace upper lower begins size hasShares wires kind first second times byy group_51 whole frm too isThere way sorts ohms price above belo) hx hb hK hS 9 0 rfl rfl (jin.mpr b_43) (by rw [egroup_51]; rfl) dX10_joins_147 (fun H locs hS => ?_)
                      obtain ⟨x_52, ex_52⟩ : ∃ y : Int32, y = v6_35 + (1 : Int32) := ⟨_, rfl⟩
                      have q_40 := jlv q_40 ex_52
                      refine lv_iinc (v := x_52) (lv' := [(6, .int x_52), (0, .ref (ad 0)), (1, .int a1), (2, .int x_34), (3, .int v3_13), (4, .int x_23), (5, .int x_25)]) hx hb dX10_joins_148 hl (k := 6) rfl (by rw [ex_52]; rfl) (by decide) rfl (fun ls hl => ?_)
                      refine lv_goto (tgt := 86) hx hb dX10_joins_151 (by decide) ?_
                      exact ih x_52 group_51 q_40 _ _ _ hS (lv_sub hl [1, 2, 3, 4, 5, 6, 0] rfl)
                    refine lv_icmp_eq (tgt := 123) hx hb dX10_joins_108 (by decide) (fun c_47 => ?_) (fun c_47 => ?_)
                    · have r_46 := r_46.trans (if_pos c_47)
                      refine lv_iload hx hb dX10_joins_123 (lv_at hl 4 rfl) ?_
                      refine lv_iload hx hb dX10_joins_125 (lv_at hl 5 rfl) ?_
                      refine lv_icmp_ge (tgt := 135) hx hb dX10_joins_127 (by decide) (fun c_48 => ?_) (fun c_48 => ?_)
                      · have r_46 := r_46.trans (if_pos c_48)
                        refine lv_iload hx hb dX10_joins_135 (lv_at hl 5 rfl) ?_
                        refine lv_goto (tgt := 147) hx hb dX10_joins_137 (by decide) ?_
                        subst r_46
                        exact K_45 _ _ _ hS (lv_sub hl [0, 1, 2, 3, 4, 5, 6] rfl)
                      · have r_46 := r_46.trans (if_neg c_48)
                        refine lv_iload hx hb dX10_joins_130 (lv_at hl 4 rfl) ?_
                        refine lv_goto (tgt := 147) hx hb dX10_joins_132 (by decide) ?_
                        subst r_46
                        exact K_45 _ _ _ hS (lv_sub hl [0, 1, 2, 3, 4, 5, 6] rfl)
                    · have r_46 := r_46.trans (if_neg c_47)
                      refine lv_aload_n hx hb dX10_joins_111 rfl (lv_at hl 0 rfl) ?_
                      refine va_get (D := D) (ci := 11) (v := .ref (ad 9)) (C := RX10) (T := TX10) (N := 24) hx hb hts inX10 hown hK hS.1 0 rfl rfl 13 (by decide) k0 (fun _ h => h) rfl dX10_joins_112 ?_
                      refine lv_iload hx hb dX10_joins_115 (lv_at hl 6 rfl) ?_
                      refine va_iald hx hb hK hS.1 9 0 rfl rfl (jin.mpr b_43) dX10_joins_117 ?_
                      refine lv_iload hx hb dX10_joins_118 (lv_at hl 5 rfl) ?_
                      refine lv_icmp_ne (tgt := 140) hx hb dX10_joins_120 (by decide) (fun c_49 => ?_) (fun c_49 => ?_)
                      · have r_46 := r_46.trans (if_neg c_49)
                        refine lv_aload_n hx hb dX10_joins_140 rfl (lv_at hl 0 rfl) ?_
                        refine va_get (D := D) (ci := 11) (v := .ref (ad 9)) (C := RX10) (T := TX10) (N := 24) hx hb hts inX10 hown hK hS.1 0 rfl rfl 13 (by decide) k0 (fun _ h => h) rfl dX10_joins_141 ?_
                        refine lv_iload hx hb dX10_joins_144 (lv_at hl 6 rfl) ?_
                        refine va_iald hx hb hK hS.1 9 0 rfl rfl (jin.mpr b_43) dX10_joins_146 ?_
                        subst r_46
                        exact K_45 _ _ _ hS (lv_sub hl [0, 1, 2, 3, 4, 5, 6] rfl)
                      · have r_46 := r_46.trans (if_pos c_49)
                        refine lv_iload hx hb dX10_joins_123 (lv_at hl 4 rfl) ?_
                        refine lv_iload hx hb dX10_joins_125 (lv_at hl 5 rfl) ?_
                        refine lv_icmp_ge (tgt := 135) hx hb dX10_joins_127 (by decide) (fun c_50 => ?_) (fun c_50 => ?_)
                        · have r_46 := r_46.trans (if_pos c_50)
                          refine lv_iload hx hb dX10_joins_135 (lv_at hl 5 rfl) ?_
                          refine lv_goto (tgt := 147) hx hb dX10_joins_137 (by decide) ?_
                          subst r_46
                          exact K_45 _ _ _ hS (lv_sub hl [0, 1, 2, 3, 4, 5, 6] rfl)
                        · have r_46 := r_46.trans (if_neg c_50)
                          refine lv_iload hx hb dX10_joins_130 (lv_at hl 4 rfl) ?_
                          refine lv_goto (tgt := 147) hx hb dX10_joins_132 (by decide) ?_
                          subst r_46
                          exact K_45 _ _ _ hS (lv_sub hl [0, 1, 2, 3, 4, 5, 6] rfl)
              exact loop_41 5000 (0 : Int32) group_14 L_38 _ _ _ hS (lv_sub hl [2, 3, 1, 4, 5, 6, 0] rfl)
            refine lv_icmp_eq (tgt := 80) hx hb dX10_joins_73 (by decide) (fun c_33 => ?_) (fun c_33 => ?_)
            · have r_32 := r_32.trans (if_pos c_33)
              refine lv_iconst (v := (0 : Int32)) hx hb dX10_joins_80 (by decide) ?_
              subst r_32
              exact K_31 _ _ _ hS (lv_sub hl [2, 3, 5, 1, 0] rfl)
            · have r_32 := r_32.trans (if_neg c_33)
              refine lv_iconst (v := (1 : Int32)) hx hb dX10_joins_76 (by decide) ?_
              refine lv_goto (tgt := 81) hx hb dX10_joins_77 (by decide) ?_
              subst r_32
              exact K_31 _ _ _ hS (lv_sub hl [2, 3, 5, 1, 0] rfl)
    exact loop_19 5000 (1 : Int32) (0 : Int32) o_3 L_16 _ _ _ hS (lv_sub hl [1, 2, 3, 0] rfl)
  have loop_7 : ∀ (n : Nat) (v3_1 : Int32) (group_2 : Nat → Int32), LX10_joins_4 n v3_1 group_2 = some o_3 → jW p l e rmX10_joins s m args below meth c 0 0 Q D vwCl A (MW ad cI cZ thrown trace upper lower begins size hasShares wires kind first second times byy group_2 whole frm too isThere way sorts ohms price above belo) 7 [(0, .ref (ad 0)), (1, .int a1), (2, .int (1 : Int32)), (3, .int v3_1)] 4 [] := by
    intro n
    induction n with
    | zero =>
      intro v3_1 group_2 q_6
      have q_6 : none = some o_3 := q_6
      cases q_6
    | succ n ih =>
      intro v3_1 group_2 q_6 H locs ls hS hl
      rw [LX10_joins_4] at q_6
      refine lv_iload_n hx hb dX10_joins_4 rfl (lv_at hl 3 rfl) ?_
      refine lv_bipush (v := (6 : Int32)) hx hb dX10_joins_5 (by decide) ?_
      refine lv_icmp_ge (tgt := 23) hx hb dX10_joins_7 (by decide) (fun c_8 => ?_) (fun c_8 => ?_)
      · have q_6 := jt q_6 c_8
        obtain rfl := jsm q_6
        exact K_5 _ _ _ hS (lv_sub hl [0, 1, 2] rfl)
      · have q_6 := jf q_6 c_8
        refine lv_aload_n hx hb dX10_joins_10 rfl (lv_at hl 0 rfl) ?_
        refine va_get (D := D) (ci := 11) (v := .ref (ad 9)) (C := RX10) (T := TX10) (N := 24) hx hb hts inX10 hown hK hS.1 0 rfl rfl 13 (by decide) k0 (fun _ h => h) rfl dX10_joins_11 ?_
        refine lv_iload_n hx hb dX10_joins_14 rfl (lv_at hl 3 rfl) ?_
        refine lv_iload_n hx hb dX10_joins_15 rfl (lv_at hl 3 rfl) ?_
        obtain ⟨b_9, q_6⟩ := jgd q_6
        obtain ⟨group_10, egroup_10⟩ : ∃ y : Nat → Int32, y = upd group_2 v3_1.toNatClampNeg v3_1 := ⟨_, rfl⟩
        have q_6 := jlv q_6 egroup_10
        refine j_iast (w' := MW ad cI cZ thrown trace upper lower begins size hasShares wires kind first second times byy group_10 whole frm too isThere way sorts ohms price above belo) hx hb hK hS 9 0 rfl rfl (jin.mpr b_9) (by rw [egroup_10]; rfl) dX10_joins_16 (fun H locs hS => ?_)
        obtain ⟨x_11, ex_11⟩ : ∃ y : Int32, y = v3_1 + (1 : Int32) := ⟨_, rfl⟩
        have q_6 := jlv q_6 ex_11
        refine lv_iinc (v := x_11) (lv' := [(3, .int x_11), (0, .ref (ad 0)), (1, .int a1), (2, .int (1 : Int32))]) hx hb dX10_joins_17 hl (k := 3) rfl (by rw [ex_11]; rfl) (by decide) rfl (fun ls hl => ?_)
        refine lv_goto (tgt := 4) hx hb dX10_joins_20 (by decide) ?_
        exact ih x_11 group_10 q_6 _ _ _ hS (lv_sub hl [1, 2, 3, 0] rfl)
  exact loop_7 5000 (0 : Int32) group L_4 _ _ _ hS (lv_sub hl [2, 3, 1, 0] rfl)
def LX10_hang_15 (o_1 : Int32 × (Nat → Int32)) : Nat → (Int32) → (Nat → Int32) → Option ((Nat → Int32))
  | 0, _, _ => none
  | n + 1, v3_3, whole_4 =>
    if (6 : Int32) ≤ v3_3 then
    some whole_4
    else
    if jok v3_3 6 then
    jlet (upd whole_4 v3_3.toNatClampNeg (o_1.2 v3_3.toNatClampNeg)) (fun whole_12 => 
    jlet (v3_3 + (1 : Int32)) (fun x_13 => 
    LX10_hang_15 o_1 n x_13 whole_12))
    else none
def fX10_hang (a1 : Int32) (a2 : Int32) (wires : Int32) (first : Nat → Int32) (second : Nat → Int32) (group : Nat → Int32) (whole : Nat → Int32) : Option (Int32 × (Nat → Int32) × (Nat → Int32)) :=
  (fX10_joins (((1 : Int32) <<< (wires &&& 31)) - (1 : Int32)) wires first second group).bind (fun o_1 => 
  (LX10_hang_15 o_1 5000 (0 : Int32) whole).bind (fun o_5 => 
  if jok a1 6 then
  if jok a2 6 then
  if (o_5 a1.toNatClampNeg) = (o_5 a2.toNatClampNeg) then
  some ((1 : Int32), o_1.2, o_5)
  else
  some ((0 : Int32), o_1.2, o_5)
  else none
  else none))
abbrev rmX10_hang : Room := { frames := 1, cells := 0, slots := 0, locals := 26 }
set_option maxHeartbeats 4000000 in
set_option maxRecDepth 100000 in
theorem tX10_hang (l : Launch) (D : va_G) (ad : Nat → Nat) (cI cJ cZ cW cS cO cG : ClassId) (thrown : Int32) (trace : Int64) (upper : Nat → Int32) (lower : Nat → Int32) (begins : Nat → Int32) (size : Int32) (hasShares : Int32) (wires : Int32) (kind : Nat → Int32) (first : Nat → Int32) (second : Nat → Int32) (times : Nat → Int32) (byy : Nat → Int32) (group : Nat → Int32) (whole : Nat → Int32) (frm : Nat → Int32) (too : Nat → Int32) (isThere : Nat → Int32) (way : Nat → Int32) (sorts : Int32) (ohms : Nat → Int32) (price : Nat → Int32) (above : Int64) (belo : Int64) (a1 : Int32) (a2 : Int32) {o : Int32 × (Nat → Int32) × (Nat → Int32)} (hE : fX10_hang a1 a2 wires first second group whole = some o) : JMi l yX10_hang wsX10_hang rmX10_hang D vwCl (TY cI cJ cZ cW cS cO cG) [.ref (ad 0), .int a1, .int a2] (MW ad cI cZ thrown trace upper lower begins size hasShares wires kind first second times byy group whole frm too isThere way sorts ohms price above belo) (MW ad cI cZ thrown trace upper lower begins size hasShares wires kind first second times byy o.2.1 o.2.2 frm too isThere way sorts ohms price above belo) o.1 := by
  refine JMi.of (cc := cX10_hang) (maxL := 4) (by decide) rfl (Nat.le_of_ble_eq_true rfl) ?_
  intro p e s m args below meth c A ls Q C hK hA ret hS hl
  obtain ⟨⟨hx, hb, hml, hown, hts⟩, -⟩ := id C
  have hl : lv_has ls 4 [(0, .ref (ad 0)), (1, .int a1), (2, .int a2)] := hl
  have inX10 : ∀ w ∈ u_ws RX10 TX10 24, w ∈ wsX10_hang := by decide +kernel
  have k0 := hts (.fieldLink RX10 119 "OhmNetsModel" "wires" "I") (by decide +kernel)
  have k1 := hts (.fieldLink RX10 37 "OhmNetsModel" "whole" "[I") (by decide +kernel)
  have k2 := hts (.fieldLink RX10 34 "OhmNetsModel" "group" "[I") (by decide +kernel)
  refine lv_aload_n hx hb dX10_hang_0 rfl (lv_at hl 0 rfl) ?_
  refine lv_iconst (v := (1 : Int32)) hx hb dX10_hang_1 (by decide) ?_
  refine lv_aload_n hx hb dX10_hang_2 rfl (lv_at hl 0 rfl) ?_
  refine va_get (D := D) (ci := 11) (v := .int wires) (C := RX10) (T := TX10) (N := 24) hx hb hts inX10 hown hK hS.1 0 rfl rfl 7 (by decide) k0 (fun _ h => h) rfl dX10_hang_3 ?_
  refine lv_ishl hx hb dX10_hang_6 ?_
  refine lv_iconst (v := (1 : Int32)) hx hb dX10_hang_7 (by decide) ?_
  refine lv_isub hx hb dX10_hang_8 ?_
  obtain ⟨o_1, h_2, hE⟩ := jbd hE
  refine j_Vi (As := [.int (((1 : Int32) <<< (wires &&& 31)) - (1 : Int32))]) (rest := []) (wf := MW ad cI cZ thrown trace upper lower begins size hasShares wires kind first second times byy o_1.2 whole frm too isThere way sorts ohms price above belo) (vc := (RX10, TX10, 24)) C hK hS (jcut_all hA hS) (tX10_joins l D ad cI cJ cZ cW cS cO cG thrown trace upper lower begins size hasShares wires kind first second times byy group whole frm too isThere way sorts ohms price above belo (((1 : Int32) <<< (wires &&& 31)) - (1 : Int32)) h_2) (cwV 1 hts gX10_hang_X10_joins rfl rfl rfl (by decide +kernel) ⟨Nat.le_of_ble_eq_true rfl, Nat.le_of_ble_eq_true rfl⟩) (q0 := 0) rfl (ci := 11) rfl rfl hl.1 rfl (Nat.le_of_ble_eq_true rfl) dX10_hang_9 ⟨Nat.zero_le _, Nat.zero_le _⟩ (fun H locs hS => ?_)
  refine lv_pop hx hb dX10_hang_12 rfl ?_
  refine lv_iconst (v := (0 : Int32)) hx hb dX10_hang_13 (by decide) ?_
  refine lv_istore_n (lv' := [(3, .int (0 : Int32)), (0, .ref (ad 0)), (1, .int a1), (2, .int a2)]) hx hb dX10_hang_14 rfl hl (by decide) rfl (fun ls hl => ?_)
  obtain ⟨o_5, L_6, hE⟩ := jbd hE
  have K_7 : jW p l e rmX10_hang s m args below meth c 0 0 Q D vwCl A (MW ad cI cZ thrown trace upper lower begins size hasShares wires kind first second times byy o_1.2 o_5 frm too isThere way sorts ohms price above belo) 4 [(0, .ref (ad 0)), (1, .int a1), (2, .int a2)] 39 [] := by
    intro H locs ls hS hl
    refine lv_aload_n hx hb dX10_hang_39 rfl (lv_at hl 0 rfl) ?_
    refine va_get (D := D) (ci := 11) (v := .ref (ad 10)) (C := RX10) (T := TX10) (N := 24) hx hb hts inX10 hown hK hS.1 0 rfl rfl 14 (by decide) k1 (fun _ h => h) rfl dX10_hang_40 ?_
    refine lv_iload_n hx hb dX10_hang_43 rfl (lv_at hl 1 rfl) ?_
    obtain ⟨b_14, hE⟩ := jgd hE
    refine va_iald hx hb hK hS.1 10 0 rfl rfl (jin.mpr b_14) dX10_hang_44 ?_
    refine lv_aload_n hx hb dX10_hang_45 rfl (lv_at hl 0 rfl) ?_
    refine va_get (D := D) (ci := 11) (v := .ref (ad 10)) (C := RX10) (T := TX10) (N := 24) hx hb hts inX10 hown hK hS.1 0 rfl rfl 14 (by decide) k1 (fun _ h => h) rfl dX10_hang_46 ?_
    refine lv_iload_n hx hb dX10_hang_49 rfl (lv_at hl 2 rfl) ?_
    obtain ⟨b_15, hE⟩ := jgd hE
    refine va_iald hx hb hK hS.1 10 0 rfl rfl (jin.mpr b_15) dX10_hang_50 ?_
    refine lv_icmp_ne (tgt := 58) hx hb dX10_hang_51 (by decide) (fun c_16 => ?_) (fun c_16 => ?_)
    · have hE := jf hE c_16
      refine lv_iconst (v := (0 : Int32)) hx hb dX10_hang_58 (by decide) ?_
      obtain rfl := jsm hE
      exact ret hS jb0 dX10_hang_59
    · have hE := jt hE c_16
      refine lv_iconst (v := (1 : Int32)) hx hb dX10_hang_54 (by decide) ?_
      refine lv_goto (tgt := 59) hx hb dX10_hang_55 (by decide) ?_
      obtain rfl := jsm hE
      exact ret hS jb1 dX10_hang_59
  have loop_9 : ∀ (n : Nat) (v3_3 : Int32) (whole_4 : Nat → Int32), LX10_hang_15 o_1 n v3_3 whole_4 = some o_5 → jW p l e rmX10_hang s m args below meth c 0 0 Q D vwCl A (MW ad cI cZ thrown trace upper lower begins size hasShares wires kind first second times byy o_1.2 whole_4 frm too isThere way sorts ohms price above belo) 4 [(0, .ref (ad 0)), (1, .int a1), (2, .int a2), (3, .int v3_3)] 15 [] := by
    intro n
    induction n with
    | zero =>
      intro v3_3 whole_4 q_8
      have q_8 : none = some o_5 := q_8
      cases q_8
    | succ n ih =>
      intro v3_3 whole_4 q_8 H locs ls hS hl
      rw [LX10_hang_15] at q_8
      refine lv_iload_n hx hb dX10_hang_15 rfl (lv_at hl 3 rfl) ?_
      refine lv_bipush (v := (6 : Int32)) hx hb dX10_hang_16 (by decide) ?_
      refine lv_icmp_ge (tgt := 39) hx hb dX10_hang_18 (by decide) (fun c_10 => ?_) (fun c_10 => ?_)
      · have q_8 := jt q_8 c_10
        obtain rfl := jsm q_8
        exact K_7 _ _ _ hS (lv_sub hl [0, 1, 2] rfl)
      · have q_8 := jf q_8 c_10
        refine lv_aload_n hx hb dX10_hang_21 rfl (lv_at hl 0 rfl) ?_
        refine va_get (D := D) (ci := 11) (v := .ref (ad 10)) (C := RX10) (T := TX10) (N := 24) hx hb hts inX10 hown hK hS.1 0 rfl rfl 14 (by decide) k1 (fun _ h => h) rfl dX10_hang_22 ?_
        refine lv_iload_n hx hb dX10_hang_25 rfl (lv_at hl 3 rfl) ?_
        refine lv_aload_n hx hb dX10_hang_26 rfl (lv_at hl 0 rfl) ?_
        refine va_get (D := D) (ci := 11) (v := .ref (ad 9)) (C := RX10) (T := TX10) (N := 24) hx hb hts inX10 hown hK hS.1 0 rfl rfl 13 (by decide) k2 (fun _ h => h) rfl dX10_hang_27 ?_
        refine lv_iload_n hx hb dX10_hang_30 rfl (lv_at hl 3 rfl) ?_
        obtain ⟨b_11, q_8⟩ := jgd q_8
        refine va_iald hx hb hK hS.1 9 0 rfl rfl (jin.mpr b_11) dX10_hang_31 ?_
        obtain ⟨whole_12, ewhole_12⟩ : ∃ y : Nat → Int32, y = upd whole_4 v3_3.toNatClampNeg (o_1.2 v3_3.toNatClampNeg) := ⟨_, rfl⟩
        have q_8 := jlv q_8 ewhole_12
        refine j_iast (w' := MW ad cI cZ thrown trace upper lower begins size hasShares wires kind first second times byy o_1.2 whole_12 frm too isThere way sorts ohms price above belo) hx hb hK hS 10 0 rfl rfl (jin.mpr b_11) (by rw [ewhole_12]; rfl) dX10_hang_32 (fun H locs hS => ?_)
        obtain ⟨x_13, ex_13⟩ : ∃ y : Int32, y = v3_3 + (1 : Int32) := ⟨_, rfl⟩
        have q_8 := jlv q_8 ex_13
        refine lv_iinc (v := x_13) (lv' := [(3, .int x_13), (0, .ref (ad 0)), (1, .int a1), (2, .int a2)]) hx hb dX10_hang_33 hl (k := 3) rfl (by rw [ex_13]; rfl) (by decide) rfl (fun ls hl => ?_)
        refine lv_goto (tgt := 15) hx hb dX10_hang_36 (by decide) ?_
        exact ih x_13 whole_12 q_8 _ _ _ hS (lv_sub hl [1, 2, 3, 0] rfl)
  exact loop_9 5000 (0 : Int32) whole L_6 _ _ _ hS (lv_sub hl [1, 2, 3, 0] rfl)
def LX10_sizeOf_4 (whole : Nat → Int32) (a1 : Int32) : Nat → (Int32) → (Int32) → Option (Int32)
  | 0, _, _ => none
  | n + 1, v2_1, v3_2 =>
    if (6 : Int32) ≤ v3_2 then
    some v2_1
    else
    if jok v3_2 6 then
    if jok a1 6 then
    jlet (if (whole v3_2.toNatClampNeg) = (whole a1.toNatClampNeg) then
    (1 : Int32)
    else
    (0 : Int32)) (fun o_11 => 
    jlet (v2_1 + o_11) (fun x_15 => 
    jlet (v3_2 + (1 : Int32)) (fun x_16 => 
    LX10_sizeOf_4 whole a1 n x_15 x_16)))
    else none
    else none
def fX10_sizeOf (a1 : Int32) (whole : Nat → Int32) : Option (Int32) :=
  (LX10_sizeOf_4 whole a1 5000 (0 : Int32) (0 : Int32)).bind (fun o_3 => 
  some o_3)
abbrev rmX10_sizeOf : Room := { frames := 0, cells := 0, slots := 0, locals := 0 }
set_option maxHeartbeats 4000000 in
set_option maxRecDepth 100000 in
theorem tX10_sizeOf (l : Launch) (D : va_G) (ad : Nat → Nat) (cI cJ cZ cW cS cO cG : ClassId) (thrown : Int32) (trace : Int64) (upper : Nat → Int32) (lower : Nat → Int32) (begins : Nat → Int32) (size : Int32) (hasShares : Int32) (wires : Int32) (kind : Nat → Int32) (first : Nat → Int32) (second : Nat → Int32) (times : Nat → Int32) (byy : Nat → Int32) (group : Nat → Int32) (whole : Nat → Int32) (frm : Nat → Int32) (too : Nat → Int32) (isThere : Nat → Int32) (way : Nat → Int32) (sorts : Int32) (ohms : Nat → Int32) (price : Nat → Int32) (above : Int64) (belo : Int64) (a1 : Int32) {o : Int32} (hE : fX10_sizeOf a1 whole = some o) : JMi l yX10_sizeOf wsX10_sizeOf rmX10_sizeOf D vwCl (TY cI cJ cZ cW cS cO cG) [.ref (ad 0), .int a1] (MW ad cI cZ thrown trace upper lower begins size hasShares wires kind first second times byy group whole frm too isThere way sorts ohms price above belo) (MW ad cI cZ thrown trace upper lower begins size hasShares wires kind first second times byy group whole frm too isThere way sorts ohms price above belo) o := by
  refine JMi.of (cc := cX10_sizeOf) (maxL := 4) (by decide) rfl (Nat.le_of_ble_eq_true rfl) ?_
  intro p e s m args below meth c A ls Q C hK hA ret hS hl
  obtain ⟨⟨hx, hb, hml, hown, hts⟩, -⟩ := id C
  have hl : lv_has ls 4 [(0, .ref (ad 0)), (1, .int a1)] := hl
  have inX10 : ∀ w ∈ u_ws RX10 TX10 24, w ∈ wsX10_sizeOf := by decide +kernel
  have k0 := hts (.fieldLink RX10 37 "OhmNetsModel" "whole" "[I") (by decide +kernel)
  refine lv_iconst (v := (0 : Int32)) hx hb dX10_sizeOf_0 (by decide) ?_
  refine lv_istore_n (lv' := [(2, .int (0 : Int32)), (0, .ref (ad 0)), (1, .int a1)]) hx hb dX10_sizeOf_1 rfl hl (by decide) rfl (fun ls hl => ?_)
  refine lv_iconst (v := (0 : Int32)) hx hb dX10_sizeOf_2 (by decide) ?_
  refine lv_istore_n (lv' := [(3, .int (0 : Int32)), (2, .int (0 : Int32)), (0, .ref (ad 0)), (1, .int a1)]) hx hb dX10_sizeOf_3 rfl hl (by decide) rfl (fun ls hl => ?_)
  obtain ⟨o_3, L_4, hE⟩ := jbd hE
  have K_5 : jW p l e rmX10_sizeOf s m args below meth c 0 0 Q D vwCl A (MW ad cI cZ thrown trace upper lower begins size hasShares wires kind first second times byy group whole frm too isThere way sorts ohms price above belo) 4 [(2, .int o_3)] 39 [] := by
    intro H locs ls hS hl
    refine lv_iload_n hx hb dX10_sizeOf_39 rfl (lv_at hl 0 rfl) ?_
    obtain rfl := jsm hE
    exact ret hS rfl dX10_sizeOf_40
  have loop_7 : ∀ (n : Nat) (v2_1 : Int32) (v3_2 : Int32), LX10_sizeOf_4 whole a1 n v2_1 v3_2 = some o_3 → jW p l e rmX10_sizeOf s m args below meth c 0 0 Q D vwCl A (MW ad cI cZ thrown trace upper lower begins size hasShares wires kind first second times byy group whole frm too isThere way sorts ohms price above belo) 4 [(0, .ref (ad 0)), (1, .int a1), (2, .int v2_1), (3, .int v3_2)] 4 [] := by
    intro n
    induction n with
    | zero =>
      intro v2_1 v3_2 q_6
      have q_6 : none = some o_3 := q_6
      cases q_6
    | succ n ih =>
      intro v2_1 v3_2 q_6 H locs ls hS hl
      rw [LX10_sizeOf_4] at q_6
      refine lv_iload_n hx hb dX10_sizeOf_4 rfl (lv_at hl 3 rfl) ?_
      refine lv_bipush (v := (6 : Int32)) hx hb dX10_sizeOf_5 (by decide) ?_
      refine lv_icmp_ge (tgt := 39) hx hb dX10_sizeOf_7 (by decide) (fun c_8 => ?_) (fun c_8 => ?_)
      · have q_6 := jt q_6 c_8
        obtain rfl := jsm q_6
        exact K_5 _ _ _ hS (lv_sub hl [2] rfl)
      · have q_6 := jf q_6 c_8
        refine lv_iload_n hx hb dX10_sizeOf_10 rfl (lv_at hl 2 rfl) ?_
        refine lv_aload_n hx hb dX10_sizeOf_11 rfl (lv_at hl 0 rfl) ?_
        refine va_get (D := D) (ci := 11) (v := .ref (ad 10)) (C := RX10) (T := TX10) (N := 24) hx hb hts inX10 hown hK hS.1 0 rfl rfl 14 (by decide) k0 (fun _ h => h) rfl dX10_sizeOf_12 ?_
        refine lv_iload_n hx hb dX10_sizeOf_15 rfl (lv_at hl 3 rfl) ?_
        obtain ⟨b_9, q_6⟩ := jgd q_6
        refine va_iald hx hb hK hS.1 10 0 rfl rfl (jin.mpr b_9) dX10_sizeOf_16 ?_
        refine lv_aload_n hx hb dX10_sizeOf_17 rfl (lv_at hl 0 rfl) ?_
        refine va_get (D := D) (ci := 11) (v := .ref (ad 10)) (C := RX10) (T := TX10) (N := 24) hx hb hts inX10 hown hK hS.1 0 rfl rfl 14 (by decide) k0 (fun _ h => h) rfl dX10_sizeOf_18 ?_
        refine lv_iload_n hx hb dX10_sizeOf_21 rfl (lv_at hl 1 rfl) ?_
        obtain ⟨b_10, q_6⟩ := jgd q_6
        refine va_iald hx hb hK hS.1 10 0 rfl rfl (jin.mpr b_10) dX10_sizeOf_22 ?_
        obtain ⟨o_11, r_13⟩ : ∃ y : Int32, y = (if (whole v3_2.toNatClampNeg) = (whole a1.toNatClampNeg) then (1 : Int32) else (0 : Int32)) := ⟨_, rfl⟩
        have q_6 := jlv q_6 r_13
        have K_12 : jW p l e rmX10_sizeOf s m args below meth c 0 0 Q D vwCl A (MW ad cI cZ thrown trace upper lower begins size hasShares wires kind first second times byy group whole frm too isThere way sorts ohms price above belo) 4 [(0, .ref (ad 0)), (1, .int a1), (3, .int v3_2)] 31 [.int o_11, .int v2_1] := by
          intro H locs ls hS hl
          refine lv_iadd hx hb dX10_sizeOf_31 ?_
          refine lv_topi (fun x_15 ex_15 => ?_)
          have q_6 := jlv q_6 ex_15
          refine lv_istore_n (lv' := [(2, .int x_15), (0, .ref (ad 0)), (1, .int a1), (3, .int v3_2)]) hx hb dX10_sizeOf_32 rfl hl (by decide) rfl (fun ls hl => ?_)
          obtain ⟨x_16, ex_16⟩ : ∃ y : Int32, y = v3_2 + (1 : Int32) := ⟨_, rfl⟩
          have q_6 := jlv q_6 ex_16
          refine lv_iinc (v := x_16) (lv' := [(3, .int x_16), (2, .int x_15), (0, .ref (ad 0)), (1, .int a1)]) hx hb dX10_sizeOf_33 hl (k := 3) rfl (by rw [ex_16]; rfl) (by decide) rfl (fun ls hl => ?_)
          refine lv_goto (tgt := 4) hx hb dX10_sizeOf_36 (by decide) ?_
          exact ih x_15 x_16 q_6 _ _ _ hS (lv_sub hl [2, 3, 1, 0] rfl)
        refine lv_icmp_ne (tgt := 30) hx hb dX10_sizeOf_23 (by decide) (fun c_14 => ?_) (fun c_14 => ?_)
        · have r_13 := r_13.trans (if_neg c_14)
          refine lv_iconst (v := (0 : Int32)) hx hb dX10_sizeOf_30 (by decide) ?_
          subst r_13
          exact K_12 _ _ _ hS (lv_sub hl [0, 1, 3] rfl)
        · have r_13 := r_13.trans (if_pos c_14)
          refine lv_iconst (v := (1 : Int32)) hx hb dX10_sizeOf_26 (by decide) ?_
          refine lv_goto (tgt := 31) hx hb dX10_sizeOf_27 (by decide) ?_
          subst r_13
          exact K_12 _ _ _ hS (lv_sub hl [0, 1, 3] rfl)
  exact loop_7 5000 (0 : Int32) (0 : Int32) L_4 _ _ _ hS (lv_sub hl [2, 3, 1, 0] rfl)
def LX10_bits_4 (a1 : Int32) : Nat → (Int32) → (Int32) → Option (Int32)
  | 0, _, _ => none
  | n + 1, v1_1, v2_2 =>
    if (12 : Int32) ≤ v2_2 then
    some v1_1
    else
    jlet (v1_1 + ((a1 >>> (v2_2 &&& 31)) &&& (1 : Int32))) (fun x_9 => 
    jlet (v2_2 + (1 : Int32)) (fun x_10 => 
    LX10_bits_4 a1 n x_9 x_10))
def fX10_bits (a1 : Int32) : Option (Int32) :=
  (LX10_bits_4 a1 5000 (0 : Int32) (0 : Int32)).bind (fun o_3 => 
  some o_3)
abbrev rmX10_bits : Room := { frames := 0, cells := 0, slots := 0, locals := 0 }
set_option maxHeartbeats 4000000 in
set_option maxRecDepth 100000 in
theorem tX10_bits (l : Launch) (D : va_G) (cI cJ cZ cW cS cO cG : ClassId) (a1 : Int32) {o : Int32} (hE : fX10_bits a1 = some o) : JMi l yX10_bits wsX10_bits rmX10_bits D vwCl (TY cI cJ cZ cW cS cO cG) [.int a1] ([]) ([]) o := by
  refine JMi.of (cc := cX10_bits) (maxL := 3) (by decide) rfl (Nat.le_of_ble_eq_true rfl) ?_
  intro p e s m args below meth c A ls Q C hK hA ret hS hl
  obtain ⟨⟨hx, hb, hml, hown, hts⟩, -⟩ := id C
  have hl : lv_has ls 3 [(0, .int a1)] := hl
  refine lv_iconst (v := (0 : Int32)) hx hb dX10_bits_0 (by decide) ?_
  refine lv_istore_n (lv' := [(1, .int (0 : Int32)), (0, .int a1)]) hx hb dX10_bits_1 rfl hl (by decide) rfl (fun ls hl => ?_)
  refine lv_iconst (v := (0 : Int32)) hx hb dX10_bits_2 (by decide) ?_
  refine lv_istore_n (lv' := [(2, .int (0 : Int32)), (1, .int (0 : Int32)), (0, .int a1)]) hx hb dX10_bits_3 rfl hl (by decide) rfl (fun ls hl => ?_)
  obtain ⟨o_3, L_4, hE⟩ := jbd hE
  have K_5 : jW p l e rmX10_bits s m args below meth c 0 0 Q D vwCl A ([]) 3 [(1, .int o_3)] 24 [] := by
    intro H locs ls hS hl
    refine lv_iload_n hx hb dX10_bits_24 rfl (lv_at hl 0 rfl) ?_
    obtain rfl := jsm hE
    exact ret hS rfl dX10_bits_25
  have loop_7 : ∀ (n : Nat) (v1_1 : Int32) (v2_2 : Int32), LX10_bits_4 a1 n v1_1 v2_2 = some o_3 → jW p l e rmX10_bits s m args below meth c 0 0 Q D vwCl A ([]) 3 [(0, .int a1), (1, .int v1_1), (2, .int v2_2)] 4 [] := by
    intro n
    induction n with
    | zero =>
      intro v1_1 v2_2 q_6
      have q_6 : none = some o_3 := q_6
      cases q_6
    | succ n ih =>
      intro v1_1 v2_2 q_6 H locs ls hS hl
      rw [LX10_bits_4] at q_6
      refine lv_iload_n hx hb dX10_bits_4 rfl (lv_at hl 2 rfl) ?_
      refine lv_bipush (v := (12 : Int32)) hx hb dX10_bits_5 (by decide) ?_
      refine lv_icmp_ge (tgt := 24) hx hb dX10_bits_7 (by decide) (fun c_8 => ?_) (fun c_8 => ?_)
      · have q_6 := jt q_6 c_8
        obtain rfl := jsm q_6
        exact K_5 _ _ _ hS (lv_sub hl [1] rfl)
      · have q_6 := jf q_6 c_8
        refine lv_iload_n hx hb dX10_bits_10 rfl (lv_at hl 1 rfl) ?_
        refine lv_iload_n hx hb dX10_bits_11 rfl (lv_at hl 0 rfl) ?_
        refine lv_iload_n hx hb dX10_bits_12 rfl (lv_at hl 2 rfl) ?_
        refine lv_ishr hx hb dX10_bits_13 ?_
        refine lv_iconst (v := (1 : Int32)) hx hb dX10_bits_14 (by decide) ?_
        refine lv_iand hx hb dX10_bits_15 ?_
        refine lv_iadd hx hb dX10_bits_16 ?_
        refine lv_topi (fun x_9 ex_9 => ?_)
        have q_6 := jlv q_6 ex_9
        refine lv_istore_n (lv' := [(1, .int x_9), (0, .int a1), (2, .int v2_2)]) hx hb dX10_bits_17 rfl hl (by decide) rfl (fun ls hl => ?_)
        obtain ⟨x_10, ex_10⟩ : ∃ y : Int32, y = v2_2 + (1 : Int32) := ⟨_, rfl⟩
        have q_6 := jlv q_6 ex_10
        refine lv_iinc (v := x_10) (lv' := [(2, .int x_10), (1, .int x_9), (0, .int a1)]) hx hb dX10_bits_18 hl (k := 2) rfl (by rw [ex_10]; rfl) (by decide) rfl (fun ls hl => ?_)
        refine lv_goto (tgt := 4) hx hb dX10_bits_21 (by decide) ?_
        exact ih x_9 x_10 q_6 _ _ _ hS (lv_sub hl [2, 1, 0] rfl)
  exact loop_7 5000 (0 : Int32) (0 : Int32) L_4 _ _ _ hS (lv_sub hl [2, 1, 0] rfl)
def LX10_isOf_5 (wires : Int32) (first : Nat → Int32) (whole : Nat → Int32) (a1 : Int32) (a2 : Int32) : Nat → (Int32) → (Int32) → Option (Int32)
  | 0, _, _ => none
  | n + 1, v3_1, v4_2 =>
    if wires ≤ v4_2 then
    some v3_1
    else
    (if ((a1 >>> (v4_2 &&& 31)) &&& (1 : Int32)) = 0 then
    some (1 : Int32)
    else
    if jok v4_2 12 then
    if jok (first v4_2.toNatClampNeg) 6 then
    if jok a2 6 then
    if (whole (first v4_2.toNatClampNeg).toNatClampNeg) = (whole a2.toNatClampNeg) then
    some (1 : Int32)
    else
    some (0 : Int32)
    else none
    else none
    else none).bind (fun o_9 => 
    jlet (v3_1 &&& o_9) (fun x_17 => 
    jlet (v4_2 + (1 : Int32)) (fun x_18 => 
    LX10_isOf_5 wires first whole a1 a2 n x_17 x_18)))
def fX10_isOf (a1 : Int32) (a2 : Int32) (wires : Int32) (first : Nat → Int32) (whole : Nat → Int32) : Option (Int32) :=
  (LX10_isOf_5 wires first whole a1 a2 5000 (1 : Int32) (0 : Int32)).bind (fun o_3 => 
  if o_3 &&& 1 = o_3 then
  some o_3
  else none)
abbrev rmX10_isOf : Room := { frames := 0, cells := 0, slots := 0, locals := 0 }
set_option maxHeartbeats 4000000 in
set_option maxRecDepth 100000 in
theorem tX10_isOf (l : Launch) (D : va_G) (ad : Nat → Nat) (cI cJ cZ cW cS cO cG : ClassId) (thrown : Int32) (trace : Int64) (upper : Nat → Int32) (lower : Nat → Int32) (begins : Nat → Int32) (size : Int32) (hasShares : Int32) (wires : Int32) (kind : Nat → Int32) (first : Nat → Int32) (second : Nat → Int32) (times : Nat → Int32) (byy : Nat → Int32) (group : Nat → Int32) (whole : Nat → Int32) (frm : Nat → Int32) (too : Nat → Int32) (isThere : Nat → Int32) (way : Nat → Int32) (sorts : Int32) (ohms : Nat → Int32) (price : Nat → Int32) (above : Int64) (belo : Int64) (a1 : Int32) (a2 : Int32) {o : Int32} (hE : fX10_isOf a1 a2 wires first whole = some o) : JMi l yX10_isOf wsX10_isOf rmX10_isOf D vwCl (TY cI cJ cZ cW cS cO cG) [.ref (ad 0), .int a1, .int a2] (MW ad cI cZ thrown trace upper lower begins size hasShares wires kind first second times byy group whole frm too isThere way sorts ohms price above belo) (MW ad cI cZ thrown trace upper lower begins size hasShares wires kind first second times byy group whole frm too isThere way sorts ohms price above belo) o := by
  refine JMi.of (cc := cX10_isOf) (maxL := 5) (by decide) rfl (Nat.le_of_ble_eq_true rfl) ?_
  intro p e s m args below meth c A ls Q C hK hA ret hS hl
  obtain ⟨⟨hx, hb, hml, hown, hts⟩, -⟩ := id C
  have hl : lv_has ls 5 [(0, .ref (ad 0)), (1, .int a1), (2, .int a2)] := hl
  have inX10 : ∀ w ∈ u_ws RX10 TX10 24, w ∈ wsX10_isOf := by decide +kernel
  have k0 := hts (.fieldLink RX10 119 "OhmNetsModel" "wires" "I") (by decide +kernel)
  have k1 := hts (.fieldLink RX10 37 "OhmNetsModel" "whole" "[I") (by decide +kernel)
  have k2 := hts (.fieldLink RX10 22 "OhmNetsModel" "first" "[I") (by decide +kernel)
  refine lv_iconst (v := (1 : Int32)) hx hb dX10_isOf_0 (by decide) ?_
  refine lv_istore_n (lv' := [(3, .int (1 : Int32)), (0, .ref (ad 0)), (1, .int a1), (2, .int a2)]) hx hb dX10_isOf_1 rfl hl (by decide) rfl (fun ls hl => ?_)
  refine lv_iconst (v := (0 : Int32)) hx hb dX10_isOf_2 (by decide) ?_
  refine lv_istore (lv' := [(4, .int (0 : Int32)), (3, .int (1 : Int32)), (0, .ref (ad 0)), (1, .int a1), (2, .int a2)]) hx hb dX10_isOf_3 hl (by decide) rfl (fun ls hl => ?_)
  obtain ⟨o_3, L_4, hE⟩ := jbd hE
  have K_5 : jW p l e rmX10_isOf s m args below meth c 0 0 Q D vwCl A (MW ad cI cZ thrown trace upper lower begins size hasShares wires kind first second times byy group whole frm too isThere way sorts ohms price above belo) 5 [(3, .int o_3)] 58 [] := by
    intro H locs ls hS hl
    refine lv_iload_n hx hb dX10_isOf_58 rfl (lv_at hl 0 rfl) ?_
    obtain ⟨z_19, hE⟩ := jgd hE
    obtain rfl := jsm hE
    exact ret hS (jbool z_19) dX10_isOf_59
  have loop_7 : ∀ (n : Nat) (v3_1 : Int32) (v4_2 : Int32), LX10_isOf_5 wires first whole a1 a2 n v3_1 v4_2 = some o_3 → jW p l e rmX10_isOf s m args below meth c 0 0 Q D vwCl A (MW ad cI cZ thrown trace upper lower begins size hasShares wires kind first second times byy group whole frm too isThere way sorts ohms price above belo) 5 [(0, .ref (ad 0)), (1, .int a1), (2, .int a2), (3, .int v3_1), (4, .int v4_2)] 5 [] := by
    intro n
    induction n with
    | zero =>
      intro v3_1 v4_2 q_6
      have q_6 : none = some o_3 := q_6
      cases q_6
    | succ n ih =>
      intro v3_1 v4_2 q_6 H locs ls hS hl
      rw [LX10_isOf_5] at q_6
      refine lv_iload hx hb dX10_isOf_5 (lv_at hl 4 rfl) ?_
      refine lv_aload_n hx hb dX10_isOf_7 rfl (lv_at hl 0 rfl) ?_
      refine va_get (D := D) (ci := 11) (v := .int wires) (C := RX10) (T := TX10) (N := 24) hx hb hts inX10 hown hK hS.1 0 rfl rfl 7 (by decide) k0 (fun _ h => h) rfl dX10_isOf_8 ?_
      refine lv_icmp_ge (tgt := 58) hx hb dX10_isOf_11 (by decide) (fun c_8 => ?_) (fun c_8 => ?_)
      · have q_6 := jt q_6 c_8
        obtain rfl := jsm q_6
        exact K_5 _ _ _ hS (lv_sub hl [3] rfl)
      · have q_6 := jf q_6 c_8
        refine lv_iload_n hx hb dX10_isOf_14 rfl (lv_at hl 3 rfl) ?_
        refine lv_iload_n hx hb dX10_isOf_15 rfl (lv_at hl 1 rfl) ?_
        refine lv_iload hx hb dX10_isOf_16 (lv_at hl 4 rfl) ?_
        refine lv_ishr hx hb dX10_isOf_18 ?_
        refine lv_iconst (v := (1 : Int32)) hx hb dX10_isOf_19 (by decide) ?_
        refine lv_iand hx hb dX10_isOf_20 ?_
        obtain ⟨o_9, r_11, q_6⟩ := jbd q_6
        have K_10 : jW p l e rmX10_isOf s m args below meth c 0 0 Q D vwCl A (MW ad cI cZ thrown trace upper lower begins size hasShares wires kind first second times byy group whole frm too isThere way sorts ohms price above belo) 5 [(0, .ref (ad 0)), (1, .int a1), (2, .int a2), (4, .int v4_2)] 50 [.int o_9, .int v3_1] := by
          intro H locs ls hS hl
          refine lv_iand hx hb dX10_isOf_50 ?_
          refine lv_topi (fun x_17 ex_17 => ?_)
          have q_6 := jlv q_6 ex_17
          refine lv_istore_n (lv' := [(3, .int x_17), (0, .ref (ad 0)), (1, .int a1), (2, .int a2), (4, .int v4_2)]) hx hb dX10_isOf_51 rfl hl (by decide) rfl (fun ls hl => ?_)
          obtain ⟨x_18, ex_18⟩ : ∃ y : Int32, y = v4_2 + (1 : Int32) := ⟨_, rfl⟩
          have q_6 := jlv q_6 ex_18
          refine lv_iinc (v := x_18) (lv' := [(4, .int x_18), (3, .int x_17), (0, .ref (ad 0)), (1, .int a1), (2, .int a2)]) hx hb dX10_isOf_52 hl (k := 4) rfl (by rw [ex_18]; rfl) (by decide) rfl (fun ls hl => ?_)
          refine lv_goto (tgt := 5) hx hb dX10_isOf_55 (by decide) ?_
          exact ih x_17 x_18 q_6 _ _ _ hS (lv_sub hl [2, 3, 4, 1, 0] rfl)
        refine lv_if_eq (tgt := 45) hx hb dX10_isOf_21 (by decide) (fun c_12 => ?_) (fun c_12 => ?_)
        · have r_11 := jt r_11 c_12
          refine lv_iconst (v := (1 : Int32)) hx hb dX10_isOf_45 (by decide) ?_
          refine lv_goto (tgt := 50) hx hb dX10_isOf_46 (by decide) ?_
          obtain rfl := jsm r_11
          exact K_10 _ _ _ hS (lv_sub hl [0, 1, 2, 4] rfl)
        · have r_11 := jf r_11 c_12
          refine lv_aload_n hx hb dX10_isOf_24 rfl (lv_at hl 0 rfl) ?_
          refine va_get (D := D) (ci := 11) (v := .ref (ad 10)) (C := RX10) (T := TX10) (N := 24) hx hb hts inX10 hown hK hS.1 0 rfl rfl 14 (by decide) k1 (fun _ h => h) rfl dX10_isOf_25 ?_
          refine lv_aload_n hx hb dX10_isOf_28 rfl (lv_at hl 0 rfl) ?_
          refine va_get (D := D) (ci := 11) (v := .ref (ad 5)) (C := RX10) (T := TX10) (N := 24) hx hb hts inX10 hown hK hS.1 0 rfl rfl 9 (by decide) k2 (fun _ h => h) rfl dX10_isOf_29 ?_
          refine lv_iload hx hb dX10_isOf_32 (lv_at hl 4 rfl) ?_
          obtain ⟨b_13, r_11⟩ := jgd r_11
          refine va_iald hx hb hK hS.1 5 0 rfl rfl (jin.mpr b_13) dX10_isOf_34 ?_
          obtain ⟨b_14, r_11⟩ := jgd r_11
          refine va_iald hx hb hK hS.1 10 0 rfl rfl (jin.mpr b_14) dX10_isOf_35 ?_
          refine lv_aload_n hx hb dX10_isOf_36 rfl (lv_at hl 0 rfl) ?_
          refine va_get (D := D) (ci := 11) (v := .ref (ad 10)) (C := RX10) (T := TX10) (N := 24) hx hb hts inX10 hown hK hS.1 0 rfl rfl 14 (by decide) k1 (fun _ h => h) rfl dX10_isOf_37 ?_
          refine lv_iload_n hx hb dX10_isOf_40 rfl (lv_at hl 2 rfl) ?_
          obtain ⟨b_15, r_11⟩ := jgd r_11
          refine va_iald hx hb hK hS.1 10 0 rfl rfl (jin.mpr b_15) dX10_isOf_41 ?_
          refine lv_icmp_ne (tgt := 49) hx hb dX10_isOf_42 (by decide) (fun c_16 => ?_) (fun c_16 => ?_)
          · have r_11 := jf r_11 c_16
            refine lv_iconst (v := (0 : Int32)) hx hb dX10_isOf_49 (by decide) ?_
            obtain rfl := jsm r_11
            exact K_10 _ _ _ hS (lv_sub hl [0, 1, 2, 4] rfl)
          · have r_11 := jt r_11 c_16
            refine lv_iconst (v := (1 : Int32)) hx hb dX10_isOf_45 (by decide) ?_
            refine lv_goto (tgt := 50) hx hb dX10_isOf_46 (by decide) ?_
            obtain rfl := jsm r_11
            exact K_10 _ _ _ hS (lv_sub hl [0, 1, 2, 4] rfl)
  exact loop_7 5000 (1 : Int32) (0 : Int32) L_4 _ _ _ hS (lv_sub hl [2, 3, 4, 1, 0] rfl)
def LX10_weight_5 (wires : Int32) (times : Nat → Int32) (byy : Nat → Int32) (a1 : Int32) : Nat → (Int64) → (Int32) → Option (Int64)
  | 0, _, _ => none
  | n + 1, v2_1, v4_2 =>
    if wires ≤ v4_2 then
    some v2_1
    else
    (if ((a1 >>> (v4_2 &&& 31)) &&& (1 : Int32)) = (1 : Int32) then
    if jok v4_2 12 then
    if ¬ (times v4_2.toNatClampNeg) = 0 then
    some ((((12 : Int32) * (byy v4_2.toNatClampNeg)) / (times v4_2.toNatClampNeg)).toInt64)
    else none
    else none
    else
    some (1 : Int64)).bind (fun o_9 => 
    jlet (v2_1 * o_9) (fun x_15 => 
    jlet (v4_2 + (1 : Int32)) (fun x_16 => 
    LX10_weight_5 wires times byy a1 n x_15 x_16)))
def fX10_weight (a1 : Int32) (wires : Int32) (times : Nat → Int32) (byy : Nat → Int32) : Option (Int64) :=
  (LX10_weight_5 wires times byy a1 5000 (1 : Int64) (0 : Int32)).bind (fun o_3 => 
  some o_3)
abbrev rmX10_weight : Room := { frames := 0, cells := 0, slots := 0, locals := 0 }
set_option maxHeartbeats 4000000 in
set_option maxRecDepth 100000 in
theorem tX10_weight (l : Launch) (D : va_G) (ad : Nat → Nat) (cI cJ cZ cW cS cO cG : ClassId) (thrown : Int32) (trace : Int64) (upper : Nat → Int32) (lower : Nat → Int32) (begins : Nat → Int32) (size : Int32) (hasShares : Int32) (wires : Int32) (kind : Nat → Int32) (first : Nat → Int32) (second : Nat → Int32) (times : Nat → Int32) (byy : Nat → Int32) (group : Nat → Int32) (whole : Nat → Int32) (frm : Nat → Int32) (too : Nat → Int32) (isThere : Nat → Int32) (way : Nat → Int32) (sorts : Int32) (ohms : Nat → Int32) (price : Nat → Int32) (above : Int64) (belo : Int64) (a1 : Int32) {o : Int64} (hE : fX10_weight a1 wires times byy = some o) : JMl l yX10_weight wsX10_weight rmX10_weight D vwCl (TY cI cJ cZ cW cS cO cG) [.ref (ad 0), .int a1] (MW ad cI cZ thrown trace upper lower begins size hasShares wires kind first second times byy group whole frm too isThere way sorts ohms price above belo) (MW ad cI cZ thrown trace upper lower begins size hasShares wires kind first second times byy group whole frm too isThere way sorts ohms price above belo) o := by
  refine JMl.of (cc := cX10_weight) (maxL := 5) (by decide) rfl (Nat.le_of_ble_eq_true rfl) ?_
  intro p e s m args below meth c A ls Q C hK hA ret hS hl
  obtain ⟨⟨hx, hb, hml, hown, hts⟩, -⟩ := id C
  have hl : lv_has ls 5 [(0, .ref (ad 0)), (1, .int a1)] := hl
  have inX10 : ∀ w ∈ u_ws RX10 TX10 24, w ∈ wsX10_weight := by decide +kernel
  have k0 := hts (.fieldLink RX10 119 "OhmNetsModel" "wires" "I") (by decide +kernel)
  have k1 := hts (.fieldLink RX10 31 "OhmNetsModel" "by" "[I") (by decide +kernel)
  have k2 := hts (.fieldLink RX10 28 "OhmNetsModel" "times" "[I") (by decide +kernel)
  refine lv_lconst (v := (1 : Int64)) hx hb dX10_weight_0 (by decide) ?_
  refine lv_lstore_n (lv' := [(2, .long (1 : Int64)), (0, .ref (ad 0)), (1, .int a1)]) hx hb dX10_weight_1 rfl hl (by decide) rfl (fun ls hl => ?_)
  refine lv_iconst (v := (0 : Int32)) hx hb dX10_weight_2 (by decide) ?_
  refine lv_istore (lv' := [(4, .int (0 : Int32)), (2, .long (1 : Int64)), (0, .ref (ad 0)), (1, .int a1)]) hx hb dX10_weight_3 hl (by decide) rfl (fun ls hl => ?_)
  obtain ⟨o_3, L_4, hE⟩ := jbd hE
  have K_5 : jW p l e rmX10_weight s m args below meth c 0 0 Q D vwCl A (MW ad cI cZ thrown trace upper lower begins size hasShares wires kind first second times byy group whole frm too isThere way sorts ohms price above belo) 5 [(2, .long o_3)] 56 [] := by
    intro H locs ls hS hl
    refine lv_lload_n hx hb dX10_weight_56 rfl (lv_at hl 0 rfl) ?_
    obtain rfl := jsm hE
    exact ret hS dX10_weight_57
  have loop_7 : ∀ (n : Nat) (v2_1 : Int64) (v4_2 : Int32), LX10_weight_5 wires times byy a1 n v2_1 v4_2 = some o_3 → jW p l e rmX10_weight s m args below meth c 0 0 Q D vwCl A (MW ad cI cZ thrown trace upper lower begins size hasShares wires kind first second times byy group whole frm too isThere way sorts ohms price above belo) 5 [(0, .ref (ad 0)), (1, .int a1), (2, .long v2_1), (4, .int v4_2)] 5 [] := by
    intro n
    induction n with
    | zero =>
      intro v2_1 v4_2 q_6
      have q_6 : none = some o_3 := q_6
      cases q_6
    | succ n ih =>
      intro v2_1 v4_2 q_6 H locs ls hS hl
      rw [LX10_weight_5] at q_6
      refine lv_iload hx hb dX10_weight_5 (lv_at hl 3 rfl) ?_
      refine lv_aload_n hx hb dX10_weight_7 rfl (lv_at hl 0 rfl) ?_
      refine va_get (D := D) (ci := 11) (v := .int wires) (C := RX10) (T := TX10) (N := 24) hx hb hts inX10 hown hK hS.1 0 rfl rfl 7 (by decide) k0 (fun _ h => h) rfl dX10_weight_8 ?_
      refine lv_icmp_ge (tgt := 56) hx hb dX10_weight_11 (by decide) (fun c_8 => ?_) (fun c_8 => ?_)
      · have q_6 := jt q_6 c_8
        obtain rfl := jsm q_6
        exact K_5 _ _ _ hS (lv_sub hl [2] rfl)
      · have q_6 := jf q_6 c_8
        refine lv_lload_n hx hb dX10_weight_14 rfl (lv_at hl 2 rfl) ?_
        refine lv_iload_n hx hb dX10_weight_15 rfl (lv_at hl 1 rfl) ?_
        refine lv_iload hx hb dX10_weight_16 (lv_at hl 3 rfl) ?_
        refine lv_ishr hx hb dX10_weight_18 ?_
        refine lv_iconst (v := (1 : Int32)) hx hb dX10_weight_19 (by decide) ?_
        refine lv_iand hx hb dX10_weight_20 ?_
        refine lv_iconst (v := (1 : Int32)) hx hb dX10_weight_21 (by decide) ?_
        obtain ⟨o_9, r_11, q_6⟩ := jbd q_6
        have K_10 : jW p l e rmX10_weight s m args below meth c 0 0 Q D vwCl A (MW ad cI cZ thrown trace upper lower begins size hasShares wires kind first second times byy group whole frm too isThere way sorts ohms price above belo) 5 [(0, .ref (ad 0)), (1, .int a1), (4, .int v4_2)] 48 [.long o_9, .long v2_1] := by
          intro H locs ls hS hl
          refine lv_lmul hx hb dX10_weight_48 ?_
          refine lv_topl (fun x_15 ex_15 => ?_)
          have q_6 := jlv q_6 ex_15
          refine lv_lstore_n (lv' := [(2, .long x_15), (0, .ref (ad 0)), (1, .int a1), (4, .int v4_2)]) hx hb dX10_weight_49 rfl hl (by decide) rfl (fun ls hl => ?_)
          obtain ⟨x_16, ex_16⟩ : ∃ y : Int32, y = v4_2 + (1 : Int32) := ⟨_, rfl⟩
          have q_6 := jlv q_6 ex_16
          refine lv_iinc (v := x_16) (lv' := [(4, .int x_16), (2, .long x_15), (0, .ref (ad 0)), (1, .int a1)]) hx hb dX10_weight_50 hl (k := 3) rfl (by rw [ex_16]; rfl) (by decide) rfl (fun ls hl => ?_)
          refine lv_goto (tgt := 5) hx hb dX10_weight_53 (by decide) ?_
          exact ih x_15 x_16 q_6 _ _ _ hS (lv_sub hl [2, 3, 1, 0] rfl)
        refine lv_icmp_ne (tgt := 47) hx hb dX10_weight_22 (by decide) (fun c_12 => ?_) (fun c_12 => ?_)
        · have r_11 := jf r_11 c_12
          refine lv_lconst (v := (1 : Int64)) hx hb dX10_weight_47 (by decide) ?_
          obtain rfl := jsm r_11
          exact K_10 _ _ _ hS (lv_sub hl [0, 1, 3] rfl)
        · have r_11 := jt r_11 c_12
          refine lv_bipush (v := (12 : Int32)) hx hb dX10_weight_25 (by decide) ?_
          refine lv_aload_n hx hb dX10_weight_27 rfl (lv_at hl 0 rfl) ?_
          refine va_get (D := D) (ci := 11) (v := .ref (ad 8)) (C := RX10) (T := TX10) (N := 24) hx hb hts inX10 hown hK hS.1 0 rfl rfl 12 (by decide) k1 (fun _ h => h) rfl dX10_weight_28 ?_
          refine lv_iload hx hb dX10_weight_31 (lv_at hl 3 rfl) ?_
          obtain ⟨b_13, r_11⟩ := jgd r_11
          refine va_iald hx hb hK hS.1 8 0 rfl rfl (jin.mpr b_13) dX10_weight_33 ?_
          refine lv_imul hx hb dX10_weight_34 ?_
          refine lv_aload_n hx hb dX10_weight_35 rfl (lv_at hl 0 rfl) ?_
          refine va_get (D := D) (ci := 11) (v := .ref (ad 7)) (C := RX10) (T := TX10) (N := 24) hx hb hts inX10 hown hK hS.1 0 rfl rfl 11 (by decide) k2 (fun _ h => h) rfl dX10_weight_36 ?_
          refine lv_iload hx hb dX10_weight_39 (lv_at hl 3 rfl) ?_
          refine va_iald hx hb hK hS.1 7 0 rfl rfl (jin.mpr b_13) dX10_weight_41 ?_
          obtain ⟨z_14, r_11⟩ := jgd r_11
          refine lv_idiv hx hb dX10_weight_42 z_14 ?_
          refine lv_i2l (v := (((12 : Int32) * (byy v4_2.toNatClampNeg)) / (times v4_2.toNatClampNeg)).toInt64) hx hb dX10_weight_43 rfl ?_
          refine lv_goto (tgt := 48) hx hb dX10_weight_44 (by decide) ?_
          obtain rfl := jsm r_11
          exact K_10 _ _ _ hS (lv_sub hl [0, 1, 3] rfl)
  exact loop_7 5000 (1 : Int64) (0 : Int32) L_4 _ _ _ hS (lv_sub hl [2, 3, 1, 0] rfl)
def LX10_between_69 (wires : Int32) (first : Nat → Int32) (second : Nat → Int32) (times : Nat → Int32) (byy : Nat → Int32) (a1 : Int32) (a2 : Int32) (o_11 : Int32 × (Nat → Int32) × (Nat → Int32)) (o_14 : Int32) : Nat → (Int64) → (Int64) → (Int32) → (Nat → Int32) → Option (Int64 × Int64 × (Nat → Int32))
  | 0, _, _, _, _ => none
  | n + 1, v5_16, v7_17, v9_18, group_19 =>
    if ((1 : Int32) <<< (wires &&& 31)) ≤ v9_18 then
    some (v5_16, v7_17, group_19)
    else
    (fX10_bits v9_18).bind (fun o_26 => 
    (if o_26 = (o_14 - (1 : Int32)) then
    (fX10_isOf v9_18 a1 wires first o_11.2.2).bind (fun o_32 => 
    if o_32 = 0 then
    some (v5_16, v7_17, group_19)
    else
    (fX10_joins v9_18 wires first second group_19).bind (fun o_35 => 
    if o_35.1 = 0 then
    some (v5_16, v7_17, o_35.2)
    else
    if o_26 = (o_14 - (1 : Int32)) then
    (fX10_weight v9_18 wires times byy).bind (fun o_45 => 
    jlet (v5_16 + o_45) (fun x_47 => 
    some (x_47, v7_17, o_35.2)))
    else
    if jok a1 6 then
    if jok a2 6 then
    if (o_35.2 a1.toNatClampNeg) = (o_35.2 a2.toNatClampNeg) then
    some (v5_16, v7_17, o_35.2)
    else
    (fX10_weight v9_18 wires times byy).bind (fun o_42 => 
    jlet (v7_17 + o_42) (fun x_44 => 
    some (v5_16, x_44, o_35.2)))
    else none
    else none))
    else
    if o_26 = (o_14 - (2 : Int32)) then
    (fX10_isOf v9_18 a1 wires first o_11.2.2).bind (fun o_49 => 
    if o_49 = 0 then
    some (v5_16, v7_17, group_19)
    else
    (fX10_joins v9_18 wires first second group_19).bind (fun o_52 => 
    if o_52.1 = 0 then
    some (v5_16, v7_17, o_52.2)
    else
    if o_26 = (o_14 - (1 : Int32)) then
    (fX10_weight v9_18 wires times byy).bind (fun o_62 => 
    jlet (v5_16 + o_62) (fun x_64 => 
    some (x_64, v7_17, o_52.2)))
    else
    if jok a1 6 then
    if jok a2 6 then
    if (o_52.2 a1.toNatClampNeg) = (o_52.2 a2.toNatClampNeg) then
    some (v5_16, v7_17, o_52.2)
    else
    (fX10_weight v9_18 wires times byy).bind (fun o_59 => 
    jlet (v7_17 + o_59) (fun x_61 => 
    some (v5_16, x_61, o_52.2)))
    else none
    else none))
    else
    some (v5_16, v7_17, group_19)).bind (fun o_28 => 
    jlet (v9_18 + (1 : Int32)) (fun x_65 => 
    LX10_between_69 wires first second times byy a1 a2 o_11 o_14 n o_28.1 o_28.2.1 x_65 o_28.2.2)))
def fX10_between (a1 : Int32) (a2 : Int32) (a3 : Int32) (wires : Int32) (first : Nat → Int32) (second : Nat → Int32) (times : Nat → Int32) (byy : Nat → Int32) (group : Nat → Int32) (whole : Nat → Int32) (above : Int64) (belo : Int64) : Option (Int64 × Int32 × (Nat → Int32) × (Nat → Int32) × Int64 × Int64) :=
  (fX10_isKnot a1).bind (fun o_1 => 
  if o_1 = 0 then
  some ((-1 : Int64), (0 : Int32), group, whole, above, belo)
  else
  (fX10_isKnot a2).bind (fun o_4 => 
  if o_4 = 0 then
  some ((-1 : Int64), (0 : Int32), group, whole, above, belo)
  else
  (fX10_in a3 (0 : Int32) (1 : Int32)).bind (fun o_7 => 
  if o_7 = 0 then
  some ((-1 : Int64), (0 : Int32), group, whole, above, belo)
  else
  if a1 = a2 then
  some (a3.toInt64, (0 : Int32), group, whole, above, belo)
  else
  (fX10_hang a1 a2 wires first second group whole).bind (fun o_11 => 
  if o_11.1 = 0 then
  some ((-2 : Int64), (0 : Int32), o_11.2.1, o_11.2.2, above, belo)
  else
  (fX10_sizeOf a1 o_11.2.2).bind (fun o_14 => 
  (LX10_between_69 wires first second times byy a1 a2 o_11 o_14 5000 (0 : Int64) (0 : Int64) (0 : Int32) o_11.2.1).bind (fun o_20 => 
  (fX10_least ((12 : Int64) * o_20.2.1) o_20.1).bind (fun o_66 => 
  if a3 = 0 then
  some (o_66.1, (0 : Int32), o_20.2.2, o_11.2.2, o_66.1, o_66.2)
  else
  some (o_66.2, (0 : Int32), o_20.2.2, o_11.2.2, o_66.1, o_66.2))))))))
abbrev rmX10_between : Room := { frames := 2, cells := 0, slots := 0, locals := 55 }
set_option maxHeartbeats 4000000 in
set_option maxRecDepth 100000 in
theorem tX10_between (l : Launch) (D : va_G) (ad : Nat → Nat) (cI cJ cZ cW cS cO cG : ClassId) (thrown : Int32) (trace : Int64) (upper : Nat → Int32) (lower : Nat → Int32) (begins : Nat → Int32) (size : Int32) (hasShares : Int32) (wires : Int32) (kind : Nat → Int32) (first : Nat → Int32) (second : Nat → Int32) (times : Nat → Int32) (byy : Nat → Int32) (group : Nat → Int32) (whole : Nat → Int32) (frm : Nat → Int32) (too : Nat → Int32) (isThere : Nat → Int32) (way : Nat → Int32) (sorts : Int32) (ohms : Nat → Int32) (price : Nat → Int32) (above : Int64) (belo : Int64) (a1 : Int32) (a2 : Int32) (a3 : Int32) {o : Int64 × Int32 × (Nat → Int32) × (Nat → Int32) × Int64 × Int64} (hE : fX10_between a1 a2 a3 wires first second times byy group whole above belo = some o) : JMl l yX10_between wsX10_between rmX10_between D vwCl (TY cI cJ cZ cW cS cO cG) [.ref (ad 0), .int a1, .int a2, .int a3] (MW ad cI cZ thrown trace upper lower begins size hasShares wires kind first second times byy group whole frm too isThere way sorts ohms price above belo) (MW ad cI cZ o.2.1 trace upper lower begins size hasShares wires kind first second times byy o.2.2.1 o.2.2.2.1 frm too isThere way sorts ohms price o.2.2.2.2.1 o.2.2.2.2.2) o.1 := by
  refine JMl.of (cc := cX10_between) (maxL := 11) (by decide) rfl (Nat.le_of_ble_eq_true rfl) ?_
  intro p e s m args below meth c A ls Q C hK hA ret hS hl
  obtain ⟨⟨hx, hb, hml, hown, hts⟩, -⟩ := id C
  have hl : lv_has ls 11 [(0, .ref (ad 0)), (1, .int a1), (2, .int a2), (3, .int a3)] := hl
  have inX10 : ∀ w ∈ u_ws RX10 TX10 24, w ∈ wsX10_between := by decide +kernel
  have k0 := hts (.fieldLink RX10 59 "OhmNetsModel" "thrown" "I") (by decide +kernel)
  have k1 := hts (.constantLong RX10 135 (-1)) (by decide +kernel)
  have k2 := hts (.fieldLink RX10 119 "OhmNetsModel" "wires" "I") (by decide +kernel)
  have k3 := hts (.fieldLink RX10 34 "OhmNetsModel" "group" "[I") (by decide +kernel)
  have k4 := hts (.constantLong RX10 155 (12)) (by decide +kernel)
  have k5 := hts (.fieldLink RX10 71 "OhmNetsModel" "below" "J") (by decide +kernel)
  have k6 := hts (.fieldLink RX10 67 "OhmNetsModel" "above" "J") (by decide +kernel)
  have k7 := hts (.constantLong RX10 140 (-2)) (by decide +kernel)
  refine lv_aload_n hx hb dX10_between_0 rfl (lv_at hl 0 rfl) ?_
  refine lv_iconst (v := (0 : Int32)) hx hb dX10_between_1 (by decide) ?_
  refine j_put (ci := 11) (v := .int (0 : Int32)) (ty := .int) (C := RX10) (T := TX10) (N := 24) (w' := MW ad cI cZ (0 : Int32) trace upper lower begins size hasShares wires kind first second times byy group whole frm too isThere way sorts ohms price above belo) hx hb hts inX10 tyX10 tyX10_ok nmX10 hown hK hS 0 rfl rfl 0 (by decide) k0 (fun _ h => h) rfl (by decide +kernel) rfl rfl (Nat.le_of_ble_eq_true rfl) rfl dX10_between_2 (fun H locs hS => ?_)
  refine lv_iload_n hx hb dX10_between_5 rfl (lv_at hl 1 rfl) ?_
  obtain ⟨o_1, h_2, hE⟩ := jbd hE
  refine j_Si (As := [.int a1]) (rest := []) (wf := MW ad cI cZ (0 : Int32) trace upper lower begins size hasShares wires kind first second times byy group whole frm too isThere way sorts ohms price above belo) C hK hS (jcut_nil hA hS) (tX10_isKnot l D cI cJ cZ cW cS cO cG a1 h_2) (va_cwS 1 hts gX10_between_X10_isKnot rfl rfl rfl (by decide +kernel) ⟨Nat.le_of_ble_eq_true rfl, Nat.le_of_ble_eq_true rfl⟩) rfl hl.1 rfl (Nat.le_of_ble_eq_true rfl) dX10_between_6 ⟨Nat.zero_le _, Nat.zero_le _⟩ (fun H locs hS => ?_)
  refine lv_if_eq (tgt := 28) hx hb dX10_between_9 (by decide) (fun c_3 => ?_) (fun c_3 => ?_)
  · have hE := jt hE c_3
    refine lv_ldc2 (v := (-1 : Int64)) hx hb hown k1 dX10_between_28 ?_
    obtain rfl := jsm hE
    exact ret hS dX10_between_31
  · have hE := jf hE c_3
    refine lv_iload_n hx hb dX10_between_12 rfl (lv_at hl 2 rfl) ?_
    obtain ⟨o_4, h_5, hE⟩ := jbd hE
    refine j_Si (As := [.int a2]) (rest := []) (wf := MW ad cI cZ (0 : Int32) trace upper lower begins size hasShares wires kind first second times byy group whole frm too isThere way sorts ohms price above belo) C hK hS (jcut_nil hA hS) (tX10_isKnot l D cI cJ cZ cW cS cO cG a2 h_5) (va_cwS 1 hts gX10_between_X10_isKnot rfl rfl rfl (by decide +kernel) ⟨Nat.le_of_ble_eq_true rfl, Nat.le_of_ble_eq_true rfl⟩) rfl hl.1 rfl (Nat.le_of_ble_eq_true rfl) dX10_between_13 ⟨Nat.zero_le _, Nat.zero_le _⟩ (fun H locs hS => ?_)
    refine lv_if_eq (tgt := 28) hx hb dX10_between_16 (by decide) (fun c_6 => ?_) (fun c_6 => ?_)
    · have hE := jt hE c_6
      refine lv_ldc2 (v := (-1 : Int64)) hx hb hown k1 dX10_between_28 ?_
      obtain rfl := jsm hE
      exact ret hS dX10_between_31
    · have hE := jf hE c_6
      refine lv_iload_n hx hb dX10_between_19 rfl (lv_at hl 3 rfl) ?_
      refine lv_iconst (v := (0 : Int32)) hx hb dX10_between_20 (by decide) ?_
      refine lv_iconst (v := (1 : Int32)) hx hb dX10_between_21 (by decide) ?_
      obtain ⟨o_7, h_8, hE⟩ := jbd hE
      refine j_Si (As := [.int a3, .int (0 : Int32), .int (1 : Int32)]) (rest := []) (wf := MW ad cI cZ (0 : Int32) trace upper lower begins size hasShares wires kind first second times byy group whole frm too isThere way sorts ohms price above belo) C hK hS (jcut_nil hA hS) (tX10_in l D cI cJ cZ cW cS cO cG a3 (0 : Int32) (1 : Int32) h_8) (va_cwS 3 hts gX10_between_X10_in rfl rfl rfl (by decide +kernel) ⟨Nat.le_of_ble_eq_true rfl, Nat.le_of_ble_eq_true rfl⟩) rfl hl.1 rfl (Nat.le_of_ble_eq_true rfl) dX10_between_22 ⟨Nat.zero_le _, Nat.zero_le _⟩ (fun H locs hS => ?_)
      refine lv_if_ne (tgt := 32) hx hb dX10_between_25 (by decide) (fun c_9 => ?_) (fun c_9 => ?_)
      · have hE := jf hE c_9
        refine lv_iload_n hx hb dX10_between_32 rfl (lv_at hl 1 rfl) ?_
        refine lv_iload_n hx hb dX10_between_33 rfl (lv_at hl 2 rfl) ?_
        refine lv_icmp_ne (tgt := 40) hx hb dX10_between_34 (by decide) (fun c_10 => ?_) (fun c_10 => ?_)
        · have hE := jf hE c_10
          refine lv_aload_n hx hb dX10_between_40 rfl (lv_at hl 0 rfl) ?_
          refine lv_iload_n hx hb dX10_between_41 rfl (lv_at hl 1 rfl) ?_
          refine lv_iload_n hx hb dX10_between_42 rfl (lv_at hl 2 rfl) ?_
          obtain ⟨o_11, h_12, hE⟩ := jbd hE
          refine j_Vi (As := [.int a1, .int a2]) (rest := []) (wf := MW ad cI cZ (0 : Int32) trace upper lower begins size hasShares wires kind first second times byy o_11.2.1 o_11.2.2 frm too isThere way sorts ohms price above belo) (vc := (RX10, TX10, 24)) C hK hS (jcut_all hA hS) (tX10_hang l D ad cI cJ cZ cW cS cO cG (0 : Int32) trace upper lower begins size hasShares wires kind first second times byy group whole frm too isThere way sorts ohms price above belo a1 a2 h_12) (cwV 2 hts gX10_between_X10_hang rfl rfl rfl (by decide +kernel) ⟨Nat.le_of_ble_eq_true rfl, Nat.le_of_ble_eq_true rfl⟩) (q0 := 0) rfl (ci := 11) rfl rfl hl.1 rfl (Nat.le_of_ble_eq_true rfl) dX10_between_43 ⟨Nat.zero_le _, Nat.zero_le _⟩ (fun H locs hS => ?_)
          refine lv_if_ne (tgt := 53) hx hb dX10_between_46 (by decide) (fun c_13 => ?_) (fun c_13 => ?_)
          · have hE := jf hE c_13
            refine lv_aload_n hx hb dX10_between_53 rfl (lv_at hl 0 rfl) ?_
            refine lv_iload_n hx hb dX10_between_54 rfl (lv_at hl 1 rfl) ?_
            obtain ⟨o_14, h_15, hE⟩ := jbd hE
            refine j_Vi (As := [.int a1]) (rest := []) (wf := MW ad cI cZ (0 : Int32) trace upper lower begins size hasShares wires kind first second times byy o_11.2.1 o_11.2.2 frm too isThere way sorts ohms price above belo) (vc := (RX10, TX10, 24)) C hK hS (jcut_all hA hS) (tX10_sizeOf l D ad cI cJ cZ cW cS cO cG (0 : Int32) trace upper lower begins size hasShares wires kind first second times byy o_11.2.1 o_11.2.2 frm too isThere way sorts ohms price above belo a1 h_15) (cwV 1 hts gX10_between_X10_sizeOf rfl rfl rfl (by decide +kernel) ⟨Nat.le_of_ble_eq_true rfl, Nat.le_of_ble_eq_true rfl⟩) (q0 := 0) rfl (ci := 11) rfl rfl hl.1 rfl (Nat.le_of_ble_eq_true rfl) dX10_between_55 ⟨Nat.zero_le _, Nat.zero_le _⟩ (fun H locs hS => ?_)
            refine lv_istore (lv' := [(4, .int o_14), (0, .ref (ad 0)), (1, .int a1), (2, .int a2), (3, .int a3)]) hx hb dX10_between_58 hl (by decide) rfl (fun ls hl => ?_)
            refine lv_lconst (v := (0 : Int64)) hx hb dX10_between_60 (by decide) ?_
            refine lv_lstore (lv' := [(5, .long (0 : Int64)), (4, .int o_14), (0, .ref (ad 0)), (1, .int a1), (2, .int a2), (3, .int a3)]) hx hb dX10_between_61 hl (by decide) rfl (fun ls hl => ?_)
            refine lv_lconst (v := (0 : Int64)) hx hb dX10_between_63 (by decide) ?_
            refine lv_lstore (lv' := [(7, .long (0 : Int64)), (5, .long (0 : Int64)), (4, .int o_14), (0, .ref (ad 0)), (1, .int a1), (2, .int a2), (3, .int a3)]) hx hb dX10_between_64 hl (by decide) rfl (fun ls hl => ?_)
            refine lv_iconst (v := (0 : Int32)) hx hb dX10_between_66 (by decide) ?_
            refine lv_istore (lv' := [(9, .int (0 : Int32)), (7, .long (0 : Int64)), (5, .long (0 : Int64)), (4, .int o_14), (0, .ref (ad 0)), (1, .int a1), (2, .int a2), (3, .int a3)]) hx hb dX10_between_67 hl (by decide) rfl (fun ls hl => ?_)
            obtain ⟨o_20, L_21, hE⟩ := jbd hE
            have K_22 : jW p l e rmX10_between s m args below meth c 0 0 Q D vwCl A (MW ad cI cZ (0 : Int32) trace upper lower begins size hasShares wires kind first second times byy o_20.2.2 o_11.2.2 frm too isThere way sorts ohms price above belo) 11 [(0, .ref (ad 0)), (3, .int a3), (5, .long o_20.1), (7, .long o_20.2.1)] 179 [] := by
              intro H locs ls hS hl
              refine lv_aload_n hx hb dX10_between_179 rfl (lv_at hl 0 rfl) ?_
              refine lv_ldc2 (v := (12 : Int64)) hx hb hown k4 dX10_between_180 ?_
              refine lv_lload hx hb dX10_between_183 (lv_at hl 3 rfl) ?_
              refine lv_lmul hx hb dX10_between_185 ?_
              refine lv_lload hx hb dX10_between_186 (lv_at hl 2 rfl) ?_
              obtain ⟨o_66, h_67, hE⟩ := jbd hE
              refine j_Vv (As := [.long ((12 : Int64) * o_20.2.1), .long o_20.1]) (rest := []) (wf := MW ad cI cZ (0 : Int32) trace upper lower begins size hasShares wires kind first second times byy o_20.2.2 o_11.2.2 frm too isThere way sorts ohms price o_66.1 o_66.2) (vc := (RX10, TX10, 24)) C hK hS (jcut_all hA hS) (tX10_least l D ad cI cJ cZ cW cS cO cG (0 : Int32) trace upper lower begins size hasShares wires kind first second times byy o_20.2.2 o_11.2.2 frm too isThere way sorts ohms price above belo ((12 : Int64) * o_20.2.1) o_20.1 h_67) (cwV 2 hts gX10_between_X10_least rfl rfl rfl (by decide +kernel) ⟨Nat.le_of_ble_eq_true rfl, Nat.le_of_ble_eq_true rfl⟩) (q0 := 0) rfl (ci := 11) rfl rfl hl.1 rfl (Nat.le_of_ble_eq_true rfl) dX10_between_188 ⟨Nat.zero_le _, Nat.zero_le _⟩ (fun H locs hS => ?_)
              refine lv_iload_n hx hb dX10_between_191 rfl (lv_at hl 1 rfl) ?_
              refine lv_if_ne (tgt := 202) hx hb dX10_between_192 (by decide) (fun c_68 => ?_) (fun c_68 => ?_)
              · have hE := jf hE c_68
                refine lv_aload_n hx hb dX10_between_202 rfl (lv_at hl 0 rfl) ?_
                refine va_get (D := D) (ci := 11) (v := .long o_66.2) (C := RX10) (T := TX10) (N := 24) hx hb hts inX10 hown hK hS.1 0 rfl rfl 23 (by decide) k5 (fun _ h => h) rfl dX10_between_203 ?_
                obtain rfl := jsm hE
                exact ret hS dX10_between_206
              · have hE := jt hE c_68
                refine lv_aload_n hx hb dX10_between_195 rfl (lv_at hl 0 rfl) ?_
                refine va_get (D := D) (ci := 11) (v := .long o_66.1) (C := RX10) (T := TX10) (N := 24) hx hb hts inX10 hown hK hS.1 0 rfl rfl 22 (by decide) k6 (fun _ h => h) rfl dX10_between_196 ?_
                refine lv_goto (tgt := 206) hx hb dX10_between_199 (by decide) ?_
                obtain rfl := jsm hE
                exact ret hS dX10_between_206
            have loop_24 : ∀ (n : Nat) (v5_16 : Int64) (v7_17 : Int64) (v9_18 : Int32) (group_19 : Nat → Int32), LX10_between_69 wires first second times byy a1 a2 o_11 o_14 n v5_16 v7_17 v9_18 group_19 = some o_20 → jW p l e rmX10_between s m args below meth c 0 0 Q D vwCl A (MW ad cI cZ (0 : Int32) trace upper lower begins size hasShares wires kind first second times byy group_19 o_11.2.2 frm too isThere way sorts ohms price above belo) 11 [(0, .ref (ad 0)), (1, .int a1), (2, .int a2), (3, .int a3), (4, .int o_14), (5, .long v5_16), (7, .long v7_17), (9, .int v9_18)] 69 [] := by
              intro n
              induction n with
              | zero =>
                intro v5_16 v7_17 v9_18 group_19 q_23
                have q_23 : none = some o_20 := q_23
                cases q_23
              | succ n ih =>
                intro v5_16 v7_17 v9_18 group_19 q_23 H locs ls hS hl
                rw [LX10_between_69] at q_23
                refine lv_iload hx hb dX10_between_69 (lv_at hl 7 rfl) ?_
                refine lv_iconst (v := (1 : Int32)) hx hb dX10_between_71 (by decide) ?_
                refine lv_aload_n hx hb dX10_between_72 rfl (lv_at hl 0 rfl) ?_
                refine va_get (D := D) (ci := 11) (v := .int wires) (C := RX10) (T := TX10) (N := 24) hx hb hts inX10 hown hK hS.1 0 rfl rfl 7 (by decide) k2 (fun _ h => h) rfl dX10_between_73 ?_
                refine lv_ishl hx hb dX10_between_76 ?_
                refine lv_icmp_ge (tgt := 179) hx hb dX10_between_77 (by decide) (fun c_25 => ?_) (fun c_25 => ?_)
                · have q_23 := jt q_23 c_25
                  obtain rfl := jsm q_23
                  exact K_22 _ _ _ hS (lv_sub hl [0, 3, 5, 6] rfl)
                · have q_23 := jf q_23 c_25
                  refine lv_iload hx hb dX10_between_80 (lv_at hl 7 rfl) ?_
                  obtain ⟨o_26, h_27, q_23⟩ := jbd q_23
                  refine j_Si (As := [.int v9_18]) (rest := []) (wf := MW ad cI cZ (0 : Int32) trace upper lower begins size hasShares wires kind first second times byy group_19 o_11.2.2 frm too isThere way sorts ohms price above belo) C hK hS (jcut_nil hA hS) (tX10_bits l D cI cJ cZ cW cS cO cG v9_18 h_27) (va_cwS 1 hts gX10_between_X10_bits rfl rfl rfl (by decide +kernel) ⟨Nat.le_of_ble_eq_true rfl, Nat.le_of_ble_eq_true rfl⟩) rfl hl.1 rfl (Nat.le_of_ble_eq_true rfl) dX10_between_82 ⟨Nat.zero_le _, Nat.zero_le _⟩ (fun H locs hS => ?_)
                  refine lv_istore (lv' := [(10, .int o_26), (0, .ref (ad 0)), (1, .int a1), (2, .int a2), (3, .int a3), (4, .int o_14), (5, .long v5_16), (7, .long v7_17), (9, .int v9_18)]) hx hb dX10_between_85 hl (by decide) rfl (fun ls hl => ?_)
                  refine lv_iload hx hb dX10_between_87 (lv_at hl 0 rfl) ?_
                  refine lv_iload hx hb dX10_between_89 (lv_at hl 5 rfl) ?_
                  refine lv_iconst (v := (1 : Int32)) hx hb dX10_between_91 (by decide) ?_
                  refine lv_isub hx hb dX10_between_92 ?_
                  obtain ⟨o_28, r_30, q_23⟩ := jbd q_23
                  have K_29 : jW p l e rmX10_between s m args below meth c 0 0 Q D vwCl A (MW ad cI cZ (0 : Int32) trace upper lower begins size hasShares wires kind first second times byy o_28.2.2 o_11.2.2 frm too isThere way sorts ohms price above belo) 11 [(0, .ref (ad 0)), (1, .int a1), (2, .int a2), (3, .int a3), (4, .int o_14), (5, .long o_28.1), (7, .long o_28.2.1), (9, .int v9_18)] 173 [] := by
                    intro H locs ls hS hl
                    obtain ⟨x_65, ex_65⟩ : ∃ y : Int32, y = v9_18 + (1 : Int32) := ⟨_, rfl⟩
                    have q_23 := jlv q_23 ex_65
                    refine lv_iinc (v := x_65) (lv' := [(9, .int x_65), (0, .ref (ad 0)), (1, .int a1), (2, .int a2), (3, .int a3), (4, .int o_14), (5, .long o_28.1), (7, .long o_28.2.1)]) hx hb dX10_between_173 hl (k := 7) rfl (by rw [ex_65]; rfl) (by decide) rfl (fun ls hl => ?_)
                    refine lv_goto (tgt := 69) hx hb dX10_between_176 (by decide) ?_
                    exact ih o_28.1 o_28.2.1 x_65 o_28.2.2 q_23 _ _ _ hS (lv_sub hl [1, 2, 3, 4, 5, 6, 7, 0] rfl)
                  refine lv_icmp_eq (tgt := 105) hx hb dX10_between_93 (by decide) (fun c_31 => ?_) (fun c_31 => ?_)
                  · have r_30 := jt r_30 c_31
                    refine lv_aload_n hx hb dX10_between_105 rfl (lv_at hl 1 rfl) ?_
                    refine lv_iload hx hb dX10_between_106 (lv_at hl 8 rfl) ?_
                    refine lv_iload_n hx hb dX10_between_108 rfl (lv_at hl 2 rfl) ?_
                    obtain ⟨o_32, h_33, r_30⟩ := jbd r_30
                    refine j_Vi (As := [.int v9_18, .int a1]) (rest := []) (wf := MW ad cI cZ (0 : Int32) trace upper lower begins size hasShares wires kind first second times byy group_19 o_11.2.2 frm too isThere way sorts ohms price above belo) (vc := (RX10, TX10, 24)) C hK hS (jcut_all hA hS) (tX10_isOf l D ad cI cJ cZ cW cS cO cG (0 : Int32) trace upper lower begins size hasShares wires kind first second times byy group_19 o_11.2.2 frm too isThere way sorts ohms price above belo v9_18 a1 h_33) (cwV 2 hts gX10_between_X10_isOf rfl rfl rfl (by decide +kernel) ⟨Nat.le_of_ble_eq_true rfl, Nat.le_of_ble_eq_true rfl⟩) (q0 := 0) rfl (ci := 11) rfl rfl hl.1 rfl (Nat.le_of_ble_eq_true rfl) dX10_between_109 ⟨Nat.zero_le _, Nat.zero_le _⟩ (fun H locs hS => ?_)
                    refine lv_if_eq (tgt := 173) hx hb dX10_between_112 (by decide) (fun c_34 => ?_) (fun c_34 => ?_)
                    · have r_30 := jt r_30 c_34
                      obtain rfl := jsm r_30
                      exact K_29 _ _ _ hS (lv_sub hl [1, 2, 3, 4, 5, 6, 7, 8] rfl)
                    · have r_30 := jf r_30 c_34
                      refine lv_aload_n hx hb dX10_between_115 rfl (lv_at hl 1 rfl) ?_
                      refine lv_iload hx hb dX10_between_116 (lv_at hl 8 rfl) ?_
                      obtain ⟨o_35, h_36, r_30⟩ := jbd r_30
                      refine j_Vi (As := [.int v9_18]) (rest := []) (wf := MW ad cI cZ (0 : Int32) trace upper lower begins size hasShares wires kind first second times byy o_35.2 o_11.2.2 frm too isThere way sorts ohms price above belo) (vc := (RX10, TX10, 24)) C hK hS (jcut_all hA hS) (tX10_joins l D ad cI cJ cZ cW cS cO cG (0 : Int32) trace upper lower begins size hasShares wires kind first second times byy group_19 o_11.2.2 frm too isThere way sorts ohms price above belo v9_18 h_36) (cwV 1 hts gX10_between_X10_joins rfl rfl rfl (by decide +kernel) ⟨Nat.le_of_ble_eq_true rfl, Nat.le_of_ble_eq_true rfl⟩) (q0 := 0) rfl (ci := 11) rfl rfl hl.1 rfl (Nat.le_of_ble_eq_true rfl) dX10_between_118 ⟨Nat.zero_le _, Nat.zero_le _⟩ (fun H locs hS => ?_)
                      refine lv_if_eq (tgt := 173) hx hb dX10_between_121 (by decide) (fun c_37 => ?_) (fun c_37 => ?_)
                      · have r_30 := jt r_30 c_37
                        obtain rfl := jsm r_30
                        exact K_29 _ _ _ hS (lv_sub hl [1, 2, 3, 4, 5, 6, 7, 8] rfl)
                      · have r_30 := jf r_30 c_37
                        refine lv_iload hx hb dX10_between_124 (lv_at hl 0 rfl) ?_
                        refine lv_iload hx hb dX10_between_126 (lv_at hl 5 rfl) ?_
                        refine lv_iconst (v := (1 : Int32)) hx hb dX10_between_128 (by decide) ?_
                        refine lv_isub hx hb dX10_between_129 ?_
                        refine lv_icmp_ne (tgt := 147) hx hb dX10_between_130 (by decide) (fun c_38 => ?_) (fun c_38 => ?_)
                        · have r_30 := jf r_30 c_38
                          refine lv_aload_n hx hb dX10_between_147 rfl (lv_at hl 1 rfl) ?_
                          refine va_get (D := D) (ci := 11) (v := .ref (ad 9)) (C := RX10) (T := TX10) (N := 24) hx hb hts inX10 hown hK hS.1 0 rfl rfl 13 (by decide) k3 (fun _ h => h) rfl dX10_between_148 ?_
                          refine lv_iload_n hx hb dX10_between_151 rfl (lv_at hl 2 rfl) ?_
                          obtain ⟨b_39, r_30⟩ := jgd r_30
                          refine va_iald hx hb hK hS.1 9 0 rfl rfl (jin.mpr b_39) dX10_between_152 ?_
                          refine lv_aload_n hx hb dX10_between_153 rfl (lv_at hl 1 rfl) ?_
                          refine va_get (D := D) (ci := 11) (v := .ref (ad 9)) (C := RX10) (T := TX10) (N := 24) hx hb hts inX10 hown hK hS.1 0 rfl rfl 13 (by decide) k3 (fun _ h => h) rfl dX10_between_154 ?_
                          refine lv_iload_n hx hb dX10_between_157 rfl (lv_at hl 3 rfl) ?_
                          obtain ⟨b_40, r_30⟩ := jgd r_30
                          refine va_iald hx hb hK hS.1 9 0 rfl rfl (jin.mpr b_40) dX10_between_158 ?_
                          refine lv_icmp_eq (tgt := 173) hx hb dX10_between_159 (by decide) (fun c_41 => ?_) (fun c_41 => ?_)
                          · have r_30 := jt r_30 c_41
                            obtain rfl := jsm r_30
                            exact K_29 _ _ _ hS (lv_sub hl [1, 2, 3, 4, 5, 6, 7, 8] rfl)
                          · have r_30 := jf r_30 c_41
                            refine lv_lload hx hb dX10_between_162 (lv_at hl 7 rfl) ?_
                            refine lv_aload_n hx hb dX10_between_164 rfl (lv_at hl 1 rfl) ?_
                            refine lv_iload hx hb dX10_between_165 (lv_at hl 8 rfl) ?_
                            obtain ⟨o_42, h_43, r_30⟩ := jbd r_30
                            refine j_Vl (As := [.int v9_18]) (rest := [.long v7_17]) (wf := MW ad cI cZ (0 : Int32) trace upper lower begins size hasShares wires kind first second times byy o_35.2 o_11.2.2 frm too isThere way sorts ohms price above belo) (vc := (RX10, TX10, 24)) C hK hS (jcut_all hA hS) (tX10_weight l D ad cI cJ cZ cW cS cO cG (0 : Int32) trace upper lower begins size hasShares wires kind first second times byy o_35.2 o_11.2.2 frm too isThere way sorts ohms price above belo v9_18 h_43) (cwV 1 hts gX10_between_X10_weight rfl rfl rfl (by decide +kernel) ⟨Nat.le_of_ble_eq_true rfl, Nat.le_of_ble_eq_true rfl⟩) (q0 := 0) rfl (ci := 11) rfl rfl hl.1 rfl (Nat.le_of_ble_eq_true rfl) dX10_between_167 ⟨Nat.zero_le _, Nat.zero_le _⟩ (fun H locs hS => ?_)
                            refine lv_ladd hx hb dX10_between_170 ?_
                            refine lv_topl (fun x_44 ex_44 => ?_)
                            have r_30 := jlv r_30 ex_44
                            refine lv_lstore (lv' := [(7, .long x_44), (10, .int o_26), (0, .ref (ad 0)), (1, .int a1), (2, .int a2), (3, .int a3), (4, .int o_14), (5, .long v5_16), (9, .int v9_18)]) hx hb dX10_between_171 hl (by decide) rfl (fun ls hl => ?_)
                            obtain rfl := jsm r_30
                            exact K_29 _ _ _ hS (lv_sub hl [2, 3, 4, 5, 6, 7, 0, 8] rfl)
                        · have r_30 := jt r_30 c_38
                          refine lv_lload hx hb dX10_between_133 (lv_at hl 6 rfl) ?_
                          refine lv_aload_n hx hb dX10_between_135 rfl (lv_at hl 1 rfl) ?_
                          refine lv_iload hx hb dX10_between_136 (lv_at hl 8 rfl) ?_
                          obtain ⟨o_45, h_46, r_30⟩ := jbd r_30
                          refine j_Vl (As := [.int v9_18]) (rest := [.long v5_16]) (wf := MW ad cI cZ (0 : Int32) trace upper lower begins size hasShares wires kind first second times byy o_35.2 o_11.2.2 frm too isThere way sorts ohms price above belo) (vc := (RX10, TX10, 24)) C hK hS (jcut_all hA hS) (tX10_weight l D ad cI cJ cZ cW cS cO cG (0 : Int32) trace upper lower begins size hasShares wires kind first second times byy o_35.2 o_11.2.2 frm too isThere way sorts ohms price above belo v9_18 h_46) (cwV 1 hts gX10_between_X10_weight rfl rfl rfl (by decide +kernel) ⟨Nat.le_of_ble_eq_true rfl, Nat.le_of_ble_eq_true rfl⟩) (q0 := 0) rfl (ci := 11) rfl rfl hl.1 rfl (Nat.le_of_ble_eq_true rfl) dX10_between_138 ⟨Nat.zero_le _, Nat.zero_le _⟩ (fun H locs hS => ?_)
                          refine lv_ladd hx hb dX10_between_141 ?_
                          refine lv_topl (fun x_47 ex_47 => ?_)
                          have r_30 := jlv r_30 ex_47
                          refine lv_lstore (lv' := [(5, .long x_47), (10, .int o_26), (0, .ref (ad 0)), (1, .int a1), (2, .int a2), (3, .int a3), (4, .int o_14), (7, .long v7_17), (9, .int v9_18)]) hx hb dX10_between_142 hl (by decide) rfl (fun ls hl => ?_)
                          refine lv_goto (tgt := 173) hx hb dX10_between_144 (by decide) ?_
                          obtain rfl := jsm r_30
                          exact K_29 _ _ _ hS (lv_sub hl [2, 3, 4, 5, 6, 0, 7, 8] rfl)
                  · have r_30 := jf r_30 c_31
                    refine lv_iload hx hb dX10_between_96 (lv_at hl 0 rfl) ?_
                    refine lv_iload hx hb dX10_between_98 (lv_at hl 5 rfl) ?_
                    refine lv_iconst (v := (2 : Int32)) hx hb dX10_between_100 (by decide) ?_
                    refine lv_isub hx hb dX10_between_101 ?_
                    refine lv_icmp_ne (tgt := 173) hx hb dX10_between_102 (by decide) (fun c_48 => ?_) (fun c_48 => ?_)
                    · have r_30 := jf r_30 c_48
                      obtain rfl := jsm r_30
                      exact K_29 _ _ _ hS (lv_sub hl [1, 2, 3, 4, 5, 6, 7, 8] rfl)
                    · have r_30 := jt r_30 c_48
                      refine lv_aload_n hx hb dX10_between_105 rfl (lv_at hl 1 rfl) ?_
                      refine lv_iload hx hb dX10_between_106 (lv_at hl 8 rfl) ?_
                      refine lv_iload_n hx hb dX10_between_108 rfl (lv_at hl 2 rfl) ?_
                      obtain ⟨o_49, h_50, r_30⟩ := jbd r_30
                      refine j_Vi (As := [.int v9_18, .int a1]) (rest := []) (wf := MW ad cI cZ (0 : Int32) trace upper lower begins size hasShares wires kind first second times byy group_19 o_11.2.2 frm too isThere way sorts ohms price above belo) (vc := (RX10, TX10, 24)) C hK hS (jcut_all hA hS) (tX10_isOf l D ad cI cJ cZ cW cS cO cG (0 : Int32) trace upper lower begins size hasShares wires kind first second times byy group_19 o_11.2.2 frm too isThere way sorts ohms price above belo v9_18 a1 h_50) (cwV 2 hts gX10_between_X10_isOf rfl rfl rfl (by decide +kernel) ⟨Nat.le_of_ble_eq_true rfl, Nat.le_of_ble_eq_true rfl⟩) (q0 := 0) rfl (ci := 11) rfl rfl hl.1 rfl (Nat.le_of_ble_eq_true rfl) dX10_between_109 ⟨Nat.zero_le _, Nat.zero_le _⟩ (fun H locs hS => ?_)
                      refine lv_if_eq (tgt := 173) hx hb dX10_between_112 (by decide) (fun c_51 => ?_) (fun c_51 => ?_)
                      · have r_30 := jt r_30 c_51
                        obtain rfl := jsm r_30
                        exact K_29 _ _ _ hS (lv_sub hl [1, 2, 3, 4, 5, 6, 7, 8] rfl)
                      · have r_30 := jf r_30 c_51
                        refine lv_aload_n hx hb dX10_between_115 rfl (lv_at hl 1 rfl) ?_
                        refine lv_iload hx hb dX10_between_116 (lv_at hl 8 rfl) ?_
                        obtain ⟨o_52, h_53, r_30⟩ := jbd r_30
                        refine j_Vi (As := [.int v9_18]) (rest := []) (wf := MW ad cI cZ (0 : Int32) trace upper lower begins size hasShares wires kind first second times byy o_52.2 o_11.2.2 frm too isThere way sorts ohms price above belo) (vc := (RX10, TX10, 24)) C hK hS (jcut_all hA hS) (tX10_joins l D ad cI cJ cZ cW cS cO cG (0 : Int32) trace upper lower begins size hasShares wires kind first second times byy group_19 o_11.2.2 frm too isThere way sorts ohms price above belo v9_18 h_53) (cwV 1 hts gX10_between_X10_joins rfl rfl rfl (by decide +kernel) ⟨Nat.le_of_ble_eq_true rfl, Nat.le_of_ble_eq_true rfl⟩) (q0 := 0) rfl (ci := 11) rfl rfl hl.1 rfl (Nat.le_of_ble_eq_true rfl) dX10_between_118 ⟨Nat.zero_le _, Nat.zero_le _⟩ (fun H locs hS => ?_)
                        refine lv_if_eq (tgt := 173) hx hb dX10_between_121 (by decide) (fun c_54 => ?_) (fun c_54 => ?_)
                        · have r_30 := jt r_30 c_54
                          obtain rfl := jsm r_30
                          exact K_29 _ _ _ hS (lv_sub hl [1, 2, 3, 4, 5, 6, 7, 8] rfl)
                        · have r_30 := jf r_30 c_54
                          refine lv_iload hx hb dX10_between_124 (lv_at hl 0 rfl) ?_
                          refine lv_iload hx hb dX10_between_126 (lv_at hl 5 rfl) ?_
                          refine lv_iconst (v := (1 : Int32)) hx hb dX10_between_128 (by decide) ?_
                          refine lv_isub hx hb dX10_between_129 ?_
                          refine lv_icmp_ne (tgt := 147) hx hb dX10_between_130 (by decide) (fun c_55 => ?_) (fun c_55 => ?_)
                          · have r_30 := jf r_30 c_55
                            refine lv_aload_n hx hb dX10_between_147 rfl (lv_at hl 1 rfl) ?_
                            refine va_get (D := D) (ci := 11) (v := .ref (ad 9)) (C := RX10) (T := TX10) (N := 24) hx hb hts inX10 hown hK hS.1 0 rfl rfl 13 (by decide) k3 (fun _ h => h) rfl dX10_between_148 ?_
                            refine lv_iload_n hx hb dX10_between_151 rfl (lv_at hl 2 rfl) ?_
                            obtain ⟨b_56, r_30⟩ := jgd r_30
                            refine va_iald hx hb hK hS.1 9 0 rfl rfl (jin.mpr b_56) dX10_between_152 ?_
                            refine lv_aload_n hx hb dX10_between_153 rfl (lv_at hl 1 rfl) ?_
                            refine va_get (D := D) (ci := 11) (v := .ref (ad 9)) (C := RX10) (T := TX10) (N := 24) hx hb hts inX10 hown hK hS.1 0 rfl rfl 13 (by decide) k3 (fun _ h => h) rfl dX10_between_154 ?_
                            refine lv_iload_n hx hb dX10_between_157 rfl (lv_at hl 3 rfl) ?_
                            obtain ⟨b_57, r_30⟩ := jgd r_30
                            refine va_iald hx hb hK hS.1 9 0 rfl rfl (jin.mpr b_57) dX10_between_158 ?_
                            refine lv_icmp_eq (tgt := 173) hx hb dX10_between_159 (by decide) (fun c_58 => ?_) (fun c_58 => ?_)
                            · have r_30 := jt r_30 c_58
                              obtain rfl := jsm r_30
                              exact K_29 _ _ _ hS (lv_sub hl [1, 2, 3, 4, 5, 6, 7, 8] rfl)
                            · have r_30 := jf r_30 c_58
                              refine lv_lload hx hb dX10_between_162 (lv_at hl 7 rfl) ?_
                              refine lv_aload_n hx hb dX10_between_164 rfl (lv_at hl 1 rfl) ?_
                              refine lv_iload hx hb dX10_between_165 (lv_at hl 8 rfl) ?_
                              obtain ⟨o_59, h_60, r_30⟩ := jbd r_30
                              refine j_Vl (As := [.int v9_18]) (rest := [.long v7_17]) (wf := MW ad cI cZ (0 : Int32) trace upper lower begins size hasShares wires kind first second times byy o_52.2 o_11.2.2 frm too isThere way sorts ohms price above belo) (vc := (RX10, TX10, 24)) C hK hS (jcut_all hA hS) (tX10_weight l D ad cI cJ cZ cW cS cO cG (0 : Int32) trace upper lower begins size hasShares wires kind first second times byy o_52.2 o_11.2.2 frm too isThere way sorts ohms price above belo v9_18 h_60) (cwV 1 hts gX10_between_X10_weight rfl rfl rfl (by decide +kernel) ⟨Nat.le_of_ble_eq_true rfl, Nat.le_of_ble_eq_true rfl⟩) (q0 := 0) rfl (ci := 11) rfl rfl hl.1 rfl (Nat.le_of_ble_eq_true rfl) dX10_between_167 ⟨Nat.zero_le _, Nat.zero_le _⟩ (fun H locs hS => ?_)
                              refine lv_ladd hx hb dX10_between_170 ?_
                              refine lv_topl (fun x_61 ex_61 => ?_)
                              have r_30 := jlv r_30 ex_61
                              refine lv_lstore (lv' := [(7, .long x_61), (10, .int o_26), (0, .ref (ad 0)), (1, .int a1), (2, .int a2), (3, .int a3), (4, .int o_14), (5, .long v5_16), (9, .int v9_18)]) hx hb dX10_between_171 hl (by decide) rfl (fun ls hl => ?_)
                              obtain rfl := jsm r_30
                              exact K_29 _ _ _ hS (lv_sub hl [2, 3, 4, 5, 6, 7, 0, 8] rfl)
                          · have r_30 := jt r_30 c_55
                            refine lv_lload hx hb dX10_between_133 (lv_at hl 6 rfl) ?_
                            refine lv_aload_n hx hb dX10_between_135 rfl (lv_at hl 1 rfl) ?_
                            refine lv_iload hx hb dX10_between_136 (lv_at hl 8 rfl) ?_
                            obtain ⟨o_62, h_63, r_30⟩ := jbd r_30
                            refine j_Vl (As := [.int v9_18]) (rest := [.long v5_16]) (wf := MW ad cI cZ (0 : Int32) trace upper lower begins size hasShares wires kind first second times byy o_52.2 o_11.2.2 frm too isThere way sorts ohms price above belo) (vc := (RX10, TX10, 24)) C hK hS (jcut_all hA hS) (tX10_weight l D ad cI cJ cZ cW cS cO cG (0 : Int32) trace upper lower begins size hasShares wires kind first second times byy o_52.2 o_11.2.2 frm too isThere way sorts ohms price above belo v9_18 h_63) (cwV 1 hts gX10_between_X10_weight rfl rfl rfl (by decide +kernel) ⟨Nat.le_of_ble_eq_true rfl, Nat.le_of_ble_eq_true rfl⟩) (q0 := 0) rfl (ci := 11) rfl rfl hl.1 rfl (Nat.le_of_ble_eq_true rfl) dX10_between_138 ⟨Nat.zero_le _, Nat.zero_le _⟩ (fun H locs hS => ?_)
                            refine lv_ladd hx hb dX10_between_141 ?_
                            refine lv_topl (fun x_64 ex_64 => ?_)
                            have r_30 := jlv r_30 ex_64
                            refine lv_lstore (lv' := [(5, .long x_64), (10, .int o_26), (0, .ref (ad 0)), (1, .int a1), (2, .int a2), (3, .int a3), (4, .int o_14), (7, .long v7_17), (9, .int v9_18)]) hx hb dX10_between_142 hl (by decide) rfl (fun ls hl => ?_)
                            refine lv_goto (tgt := 173) hx hb dX10_between_144 (by decide) ?_
                            obtain rfl := jsm r_30
                            exact K_29 _ _ _ hS (lv_sub hl [2, 3, 4, 5, 6, 0, 7, 8] rfl)
            exact loop_24 5000 (0 : Int64) (0 : Int64) (0 : Int32) o_11.2.1 L_21 _ _ _ hS (lv_sub hl [4, 5, 6, 7, 3, 2, 1, 0] rfl)
          · have hE := jt hE c_13
            refine lv_ldc2 (v := (-2 : Int64)) hx hb hown k7 dX10_between_49 ?_
            obtain rfl := jsm hE
            exact ret hS dX10_between_52
        · have hE := jt hE c_10
          refine lv_iload_n hx hb dX10_between_37 rfl (lv_at hl 3 rfl) ?_
          refine lv_i2l (v := a3.toInt64) hx hb dX10_between_38 rfl ?_
          obtain rfl := jsm hE
          exact ret hS dX10_between_39
      · have hE := jt hE c_9
        refine lv_ldc2 (v := (-1 : Int64)) hx hb hown k1 dX10_between_28 ?_
        obtain rfl := jsm hE
        exact ret hS dX10_between_31
def fX10_goes (a1 : Int32) (a2 : Int32) (a3 : Int32) (a4 : Int32) (wires : Int32) (first : Nat → Int32) (second : Nat → Int32) (group : Nat → Int32) : Option (Int32 × (Nat → Int32)) :=
  if ((a1 >>> (a2 &&& 31)) &&& (1 : Int32)) = 0 then
  some ((0 : Int32), group)
  else
  (fX10_joins (a1 - ((1 : Int32) <<< (a2 &&& 31))) wires first second group).bind (fun o_2 => 
  if jok a3 6 then
  if jok a4 6 then
  if (o_2.2 a3.toNatClampNeg) = (o_2.2 a4.toNatClampNeg) then
  some ((0 : Int32), o_2.2)
  else
  if jok a2 12 then
  if jok (first a2.toNatClampNeg) 6 then
  if (o_2.2 a3.toNatClampNeg) = (o_2.2 (first a2.toNatClampNeg).toNatClampNeg) then
  some ((1 : Int32), o_2.2)
  else
  some ((-1 : Int32), o_2.2)
  else none
  else none
  else none
  else none)
abbrev rmX10_goes : Room := { frames := 1, cells := 0, slots := 0, locals := 26 }
set_option maxHeartbeats 4000000 in
set_option maxRecDepth 100000 in
theorem tX10_goes (l : Launch) (D : va_G) (ad : Nat → Nat) (cI cJ cZ cW cS cO cG : ClassId) (thrown : Int32) (trace : Int64) (upper : Nat → Int32) (lower : Nat → Int32) (begins : Nat → Int32) (size : Int32) (hasShares : Int32) (wires : Int32) (kind : Nat → Int32) (first : Nat → Int32) (second : Nat → Int32) (times : Nat → Int32) (byy : Nat → Int32) (group : Nat → Int32) (whole : Nat → Int32) (frm : Nat → Int32) (too : Nat → Int32) (isThere : Nat → Int32) (way : Nat → Int32) (sorts : Int32) (ohms : Nat → Int32) (price : Nat → Int32) (above : Int64) (belo : Int64) (a1 : Int32) (a2 : Int32) (a3 : Int32) (a4 : Int32) {o : Int32 × (Nat → Int32)} (hE : fX10_goes a1 a2 a3 a4 wires first second group = some o) : JMi l yX10_goes wsX10_goes rmX10_goes D vwCl (TY cI cJ cZ cW cS cO cG) [.ref (ad 0), .int a1, .int a2, .int a3, .int a4] (MW ad cI cZ thrown trace upper lower begins size hasShares wires kind first second times byy group whole frm too isThere way sorts ohms price above belo) (MW ad cI cZ thrown trace upper lower begins size hasShares wires kind first second times byy o.2 whole frm too isThere way sorts ohms price above belo) o.1 := by
  refine JMi.of (cc := cX10_goes) (maxL := 5) (by decide) rfl (Nat.le_of_ble_eq_true rfl) ?_
  intro p e s m args below meth c A ls Q C hK hA ret hS hl
  obtain ⟨⟨hx, hb, hml, hown, hts⟩, -⟩ := id C
  have hl : lv_has ls 5 [(0, .ref (ad 0)), (1, .int a1), (2, .int a2), (3, .int a3), (4, .int a4)] := hl
  have inX10 : ∀ w ∈ u_ws RX10 TX10 24, w ∈ wsX10_goes := by decide +kernel
  have k0 := hts (.fieldLink RX10 34 "OhmNetsModel" "group" "[I") (by decide +kernel)
  have k1 := hts (.fieldLink RX10 22 "OhmNetsModel" "first" "[I") (by decide +kernel)
  refine lv_iload_n hx hb dX10_goes_0 rfl (lv_at hl 1 rfl) ?_
  refine lv_iload_n hx hb dX10_goes_1 rfl (lv_at hl 2 rfl) ?_
  refine lv_ishr hx hb dX10_goes_2 ?_
  refine lv_iconst (v := (1 : Int32)) hx hb dX10_goes_3 (by decide) ?_
  refine lv_iand hx hb dX10_goes_4 ?_
  refine lv_if_ne (tgt := 10) hx hb dX10_goes_5 (by decide) (fun c_1 => ?_) (fun c_1 => ?_)
  · have hE := jf hE c_1
    refine lv_aload_n hx hb dX10_goes_10 rfl (lv_at hl 0 rfl) ?_
    refine lv_iload_n hx hb dX10_goes_11 rfl (lv_at hl 1 rfl) ?_
    refine lv_iconst (v := (1 : Int32)) hx hb dX10_goes_12 (by decide) ?_
    refine lv_iload_n hx hb dX10_goes_13 rfl (lv_at hl 2 rfl) ?_
    refine lv_ishl hx hb dX10_goes_14 ?_
    refine lv_isub hx hb dX10_goes_15 ?_
    obtain ⟨o_2, h_3, hE⟩ := jbd hE
    refine j_Vi (As := [.int (a1 - ((1 : Int32) <<< (a2 &&& 31)))]) (rest := []) (wf := MW ad cI cZ thrown trace upper lower begins size hasShares wires kind first second times byy o_2.2 whole frm too isThere way sorts ohms price above belo) (vc := (RX10, TX10, 24)) C hK hS (jcut_all hA hS) (tX10_joins l D ad cI cJ cZ cW cS cO cG thrown trace upper lower begins size hasShares wires kind first second times byy group whole frm too isThere way sorts ohms price above belo (a1 - ((1 : Int32) <<< (a2 &&& 31))) h_3) (cwV 1 hts gX10_goes_X10_joins rfl rfl rfl (by decide +kernel) ⟨Nat.le_of_ble_eq_true rfl, Nat.le_of_ble_eq_true rfl⟩) (q0 := 0) rfl (ci := 11) rfl rfl hl.1 rfl (Nat.le_of_ble_eq_true rfl) dX10_goes_16 ⟨Nat.zero_le _, Nat.zero_le _⟩ (fun H locs hS => ?_)
    refine lv_pop hx hb dX10_goes_19 rfl ?_
    refine lv_aload_n hx hb dX10_goes_20 rfl (lv_at hl 0 rfl) ?_
    refine va_get (D := D) (ci := 11) (v := .ref (ad 9)) (C := RX10) (T := TX10) (N := 24) hx hb hts inX10 hown hK hS.1 0 rfl rfl 13 (by decide) k0 (fun _ h => h) rfl dX10_goes_21 ?_
    refine lv_iload_n hx hb dX10_goes_24 rfl (lv_at hl 3 rfl) ?_
    obtain ⟨b_4, hE⟩ := jgd hE
    refine va_iald hx hb hK hS.1 9 0 rfl rfl (jin.mpr b_4) dX10_goes_25 ?_
    refine lv_aload_n hx hb dX10_goes_26 rfl (lv_at hl 0 rfl) ?_
    refine va_get (D := D) (ci := 11) (v := .ref (ad 9)) (C := RX10) (T := TX10) (N := 24) hx hb hts inX10 hown hK hS.1 0 rfl rfl 13 (by decide) k0 (fun _ h => h) rfl dX10_goes_27 ?_
    refine lv_iload hx hb dX10_goes_30 (lv_at hl 4 rfl) ?_
    obtain ⟨b_5, hE⟩ := jgd hE
    refine va_iald hx hb hK hS.1 9 0 rfl rfl (jin.mpr b_5) dX10_goes_32 ?_
    refine lv_icmp_ne (tgt := 40) hx hb dX10_goes_33 (by decide) (fun c_6 => ?_) (fun c_6 => ?_)
    · have hE := jf hE c_6
      refine lv_aload_n hx hb dX10_goes_40 rfl (lv_at hl 0 rfl) ?_
      refine va_get (D := D) (ci := 11) (v := .ref (ad 9)) (C := RX10) (T := TX10) (N := 24) hx hb hts inX10 hown hK hS.1 0 rfl rfl 13 (by decide) k0 (fun _ h => h) rfl dX10_goes_41 ?_
      refine lv_iload_n hx hb dX10_goes_44 rfl (lv_at hl 3 rfl) ?_
      refine va_iald hx hb hK hS.1 9 0 rfl rfl (jin.mpr b_4) dX10_goes_45 ?_
      refine lv_aload_n hx hb dX10_goes_46 rfl (lv_at hl 0 rfl) ?_
      refine va_get (D := D) (ci := 11) (v := .ref (ad 9)) (C := RX10) (T := TX10) (N := 24) hx hb hts inX10 hown hK hS.1 0 rfl rfl 13 (by decide) k0 (fun _ h => h) rfl dX10_goes_47 ?_
      refine lv_aload_n hx hb dX10_goes_50 rfl (lv_at hl 0 rfl) ?_
      refine va_get (D := D) (ci := 11) (v := .ref (ad 5)) (C := RX10) (T := TX10) (N := 24) hx hb hts inX10 hown hK hS.1 0 rfl rfl 9 (by decide) k1 (fun _ h => h) rfl dX10_goes_51 ?_
      refine lv_iload_n hx hb dX10_goes_54 rfl (lv_at hl 2 rfl) ?_
      obtain ⟨b_7, hE⟩ := jgd hE
      refine va_iald hx hb hK hS.1 5 0 rfl rfl (jin.mpr b_7) dX10_goes_55 ?_
      obtain ⟨b_8, hE⟩ := jgd hE
      refine va_iald hx hb hK hS.1 9 0 rfl rfl (jin.mpr b_8) dX10_goes_56 ?_
      refine lv_icmp_ne (tgt := 64) hx hb dX10_goes_57 (by decide) (fun c_9 => ?_) (fun c_9 => ?_)
      · have hE := jf hE c_9
        refine lv_iconst (v := (-1 : Int32)) hx hb dX10_goes_64 (by decide) ?_
        obtain rfl := jsm hE
        exact ret hS rfl dX10_goes_65
      · have hE := jt hE c_9
        refine lv_iconst (v := (1 : Int32)) hx hb dX10_goes_60 (by decide) ?_
        refine lv_goto (tgt := 65) hx hb dX10_goes_61 (by decide) ?_
        obtain rfl := jsm hE
        exact ret hS rfl dX10_goes_65
    · have hE := jt hE c_6
      refine lv_iconst (v := (0 : Int32)) hx hb dX10_goes_36 (by decide) ?_
      refine lv_goto (tgt := 65) hx hb dX10_goes_37 (by decide) ?_
      obtain rfl := jsm hE
      exact ret hS rfl dX10_goes_65
  · have hE := jt hE c_1
    refine lv_iconst (v := (0 : Int32)) hx hb dX10_goes_8 (by decide) ?_
    obtain rfl := jsm hE
    exact ret hS rfl dX10_goes_9
def LX10_through_71 (wires : Int32) (first : Nat → Int32) (second : Nat → Int32) (times : Nat → Int32) (byy : Nat → Int32) (a1 : Int32) (a2 : Int32) (a3 : Int32) (o_14 : Int32 × (Nat → Int32) × (Nat → Int32)) (o_17 : Int32) : Nat → (Int64) → (Int64) → (Int32) → (Nat → Int32) → Option (Int64 × Int64 × (Nat → Int32))
  | 0, _, _, _, _ => none
  | n + 1, v6_19, v8_20, v10_21, group_22 =>
    if ((1 : Int32) <<< (wires &&& 31)) ≤ v10_21 then
    some (v6_19, v8_20, group_22)
    else
    (fX10_bits v10_21).bind (fun o_29 => 
    (if o_29 = (o_17 - (1 : Int32)) then
    (fX10_isOf v10_21 a2 wires first o_14.2.2).bind (fun o_35 => 
    if o_35 = 0 then
    some (v6_19, v8_20, group_22)
    else
    (fX10_joins v10_21 wires first second group_22).bind (fun o_38 => 
    if o_38.1 = 0 then
    some (v6_19, v8_20, o_38.2)
    else
    (fX10_weight v10_21 wires times byy).bind (fun o_41 => 
    jlet (v6_19 + o_41) (fun x_43 => 
    (fX10_goes v10_21 a1 a2 a3 wires first second o_38.2).bind (fun o_44 => 
    jlet (v8_20 + (o_44.1.toInt64 * o_41)) (fun x_46 => 
    some (x_43, x_46, o_44.2)))))))
    else
    some (v6_19, v8_20, group_22)).bind (fun o_31 => 
    jlet (v10_21 + (1 : Int32)) (fun x_47 => 
    LX10_through_71 wires first second times byy a1 a2 a3 o_14 o_17 n o_31.1 o_31.2.1 x_47 o_31.2.2)))
def fX10_through (a1 : Int32) (a2 : Int32) (a3 : Int32) (a4 : Int32) (wires : Int32) (first : Nat → Int32) (second : Nat → Int32) (times : Nat → Int32) (byy : Nat → Int32) (group : Nat → Int32) (whole : Nat → Int32) (above : Int64) (belo : Int64) : Option (Int64 × Int32 × (Nat → Int32) × (Nat → Int32) × Int64 × Int64) :=
  (fX10_isWire a1 wires).bind (fun o_1 => 
  if o_1 = 0 then
  some ((-9223372036854775808 : Int64), (0 : Int32), group, whole, above, belo)
  else
  (fX10_isKnot a2).bind (fun o_4 => 
  if o_4 = 0 then
  some ((-9223372036854775808 : Int64), (0 : Int32), group, whole, above, belo)
  else
  (fX10_isKnot a3).bind (fun o_7 => 
  if o_7 = 0 then
  some ((-9223372036854775808 : Int64), (0 : Int32), group, whole, above, belo)
  else
  if a2 = a3 then
  some ((-9223372036854775808 : Int64), (0 : Int32), group, whole, above, belo)
  else
  (fX10_in a4 (0 : Int32) (1 : Int32)).bind (fun o_11 => 
  if o_11 = 0 then
  some ((-9223372036854775808 : Int64), (0 : Int32), group, whole, above, belo)
  else
  (fX10_hang a2 a3 wires first second group whole).bind (fun o_14 => 
  if o_14.1 = 0 then
  some ((-9223372036854775808 : Int64), (0 : Int32), o_14.2.1, o_14.2.2, above, belo)
  else
  (fX10_sizeOf a2 o_14.2.2).bind (fun o_17 => 
  (LX10_through_71 wires first second times byy a1 a2 a3 o_14 o_17 5000 (0 : Int64) (0 : Int64) (0 : Int32) o_14.2.1).bind (fun o_23 => 
  (fX10_least o_23.2.1 o_23.1).bind (fun o_48 => 
  if a4 = 0 then
  some (o_48.1, (0 : Int32), o_23.2.2, o_14.2.2, o_48.1, o_48.2)
  else
  some (o_48.2, (0 : Int32), o_23.2.2, o_14.2.2, o_48.1, o_48.2)))))))))
abbrev rmX10_through : Room := { frames := 2, cells := 0, slots := 0, locals := 55 }
set_option maxHeartbeats 4000000 in
set_option maxRecDepth 100000 in
theorem tX10_through (l : Launch) (D : va_G) (ad : Nat → Nat) (cI cJ cZ cW cS cO cG : ClassId) (thrown : Int32) (trace : Int64) (upper : Nat → Int32) (lower : Nat → Int32) (begins : Nat → Int32) (size : Int32) (hasShares : Int32) (wires : Int32) (kind : Nat → Int32) (first : Nat → Int32) (second : Nat → Int32) (times : Nat → Int32) (byy : Nat → Int32) (group : Nat → Int32) (whole : Nat → Int32) (frm : Nat → Int32) (too : Nat → Int32) (isThere : Nat → Int32) (way : Nat → Int32) (sorts : Int32) (ohms : Nat → Int32) (price : Nat → Int32) (above : Int64) (belo : Int64) (a1 : Int32) (a2 : Int32) (a3 : Int32) (a4 : Int32) {o : Int64 × Int32 × (Nat → Int32) × (Nat → Int32) × Int64 × Int64} (hE : fX10_through a1 a2 a3 a4 wires first second times byy group whole above belo = some o) : JMl l yX10_through wsX10_through rmX10_through D vwCl (TY cI cJ cZ cW cS cO cG) [.ref (ad 0), .int a1, .int a2, .int a3, .int a4] (MW ad cI cZ thrown trace upper lower begins size hasShares wires kind first second times byy group whole frm too isThere way sorts ohms price above belo) (MW ad cI cZ o.2.1 trace upper lower begins size hasShares wires kind first second times byy o.2.2.1 o.2.2.2.1 frm too isThere way sorts ohms price o.2.2.2.2.1 o.2.2.2.2.2) o.1 := by
  refine JMl.of (cc := cX10_through) (maxL := 13) (by decide) rfl (Nat.le_of_ble_eq_true rfl) ?_
  intro p e s m args below meth c A ls Q C hK hA ret hS hl
  obtain ⟨⟨hx, hb, hml, hown, hts⟩, -⟩ := id C
  have hl : lv_has ls 13 [(0, .ref (ad 0)), (1, .int a1), (2, .int a2), (3, .int a3), (4, .int a4)] := hl
  have inX10 : ∀ w ∈ u_ws RX10 TX10 24, w ∈ wsX10_through := by decide +kernel
  have k0 := hts (.fieldLink RX10 59 "OhmNetsModel" "thrown" "I") (by decide +kernel)
  have k1 := hts (.constantLong RX10 157 (-9223372036854775808)) (by decide +kernel)
  have k2 := hts (.fieldLink RX10 119 "OhmNetsModel" "wires" "I") (by decide +kernel)
  have k3 := hts (.fieldLink RX10 71 "OhmNetsModel" "below" "J") (by decide +kernel)
  have k4 := hts (.fieldLink RX10 67 "OhmNetsModel" "above" "J") (by decide +kernel)
  refine lv_aload_n hx hb dX10_through_0 rfl (lv_at hl 0 rfl) ?_
  refine lv_iconst (v := (0 : Int32)) hx hb dX10_through_1 (by decide) ?_
  refine j_put (ci := 11) (v := .int (0 : Int32)) (ty := .int) (C := RX10) (T := TX10) (N := 24) (w' := MW ad cI cZ (0 : Int32) trace upper lower begins size hasShares wires kind first second times byy group whole frm too isThere way sorts ohms price above belo) hx hb hts inX10 tyX10 tyX10_ok nmX10 hown hK hS 0 rfl rfl 0 (by decide) k0 (fun _ h => h) rfl (by decide +kernel) rfl rfl (Nat.le_of_ble_eq_true rfl) rfl dX10_through_2 (fun H locs hS => ?_)
  refine lv_aload_n hx hb dX10_through_5 rfl (lv_at hl 0 rfl) ?_
  refine lv_iload_n hx hb dX10_through_6 rfl (lv_at hl 1 rfl) ?_
  obtain ⟨o_1, h_2, hE⟩ := jbd hE
  refine j_Vi (As := [.int a1]) (rest := []) (wf := MW ad cI cZ (0 : Int32) trace upper lower begins size hasShares wires kind first second times byy group whole frm too isThere way sorts ohms price above belo) (vc := (RX10, TX10, 24)) C hK hS (jcut_all hA hS) (tX10_isWire l D ad cI cJ cZ cW cS cO cG (0 : Int32) trace upper lower begins size hasShares wires kind first second times byy group whole frm too isThere way sorts ohms price above belo a1 h_2) (cwV 1 hts gX10_through_X10_isWire rfl rfl rfl (by decide +kernel) ⟨Nat.le_of_ble_eq_true rfl, Nat.le_of_ble_eq_true rfl⟩) (q0 := 0) rfl (ci := 11) rfl rfl hl.1 rfl (Nat.le_of_ble_eq_true rfl) dX10_through_7 ⟨Nat.zero_le _, Nat.zero_le _⟩ (fun H locs hS => ?_)
  refine lv_if_eq (tgt := 51) hx hb dX10_through_10 (by decide) (fun c_3 => ?_) (fun c_3 => ?_)
  · have hE := jt hE c_3
    refine lv_ldc2 (v := (-9223372036854775808 : Int64)) hx hb hown k1 dX10_through_51 ?_
    obtain rfl := jsm hE
    exact ret hS dX10_through_54
  · have hE := jf hE c_3
    refine lv_iload_n hx hb dX10_through_13 rfl (lv_at hl 2 rfl) ?_
    obtain ⟨o_4, h_5, hE⟩ := jbd hE
    refine j_Si (As := [.int a2]) (rest := []) (wf := MW ad cI cZ (0 : Int32) trace upper lower begins size hasShares wires kind first second times byy group whole frm too isThere way sorts ohms price above belo) C hK hS (jcut_nil hA hS) (tX10_isKnot l D cI cJ cZ cW cS cO cG a2 h_5) (va_cwS 1 hts gX10_through_X10_isKnot rfl rfl rfl (by decide +kernel) ⟨Nat.le_of_ble_eq_true rfl, Nat.le_of_ble_eq_true rfl⟩) rfl hl.1 rfl (Nat.le_of_ble_eq_true rfl) dX10_through_14 ⟨Nat.zero_le _, Nat.zero_le _⟩ (fun H locs hS => ?_)
    refine lv_if_eq (tgt := 51) hx hb dX10_through_17 (by decide) (fun c_6 => ?_) (fun c_6 => ?_)
    · have hE := jt hE c_6
      refine lv_ldc2 (v := (-9223372036854775808 : Int64)) hx hb hown k1 dX10_through_51 ?_
      obtain rfl := jsm hE
      exact ret hS dX10_through_54
    · have hE := jf hE c_6
      refine lv_iload_n hx hb dX10_through_20 rfl (lv_at hl 3 rfl) ?_
      obtain ⟨o_7, h_8, hE⟩ := jbd hE
      refine j_Si (As := [.int a3]) (rest := []) (wf := MW ad cI cZ (0 : Int32) trace upper lower begins size hasShares wires kind first second times byy group whole frm too isThere way sorts ohms price above belo) C hK hS (jcut_nil hA hS) (tX10_isKnot l D cI cJ cZ cW cS cO cG a3 h_8) (va_cwS 1 hts gX10_through_X10_isKnot rfl rfl rfl (by decide +kernel) ⟨Nat.le_of_ble_eq_true rfl, Nat.le_of_ble_eq_true rfl⟩) rfl hl.1 rfl (Nat.le_of_ble_eq_true rfl) dX10_through_21 ⟨Nat.zero_le _, Nat.zero_le _⟩ (fun H locs hS => ?_)
      refine lv_if_eq (tgt := 51) hx hb dX10_through_24 (by decide) (fun c_9 => ?_) (fun c_9 => ?_)
      · have hE := jt hE c_9
        refine lv_ldc2 (v := (-9223372036854775808 : Int64)) hx hb hown k1 dX10_through_51 ?_
        obtain rfl := jsm hE
        exact ret hS dX10_through_54
      · have hE := jf hE c_9
        refine lv_iload_n hx hb dX10_through_27 rfl (lv_at hl 2 rfl) ?_
        refine lv_iload_n hx hb dX10_through_28 rfl (lv_at hl 3 rfl) ?_
        refine lv_icmp_eq (tgt := 51) hx hb dX10_through_29 (by decide) (fun c_10 => ?_) (fun c_10 => ?_)
        · have hE := jt hE c_10
          refine lv_ldc2 (v := (-9223372036854775808 : Int64)) hx hb hown k1 dX10_through_51 ?_
          obtain rfl := jsm hE
          exact ret hS dX10_through_54
        · have hE := jf hE c_10
          refine lv_iload hx hb dX10_through_32 (lv_at hl 4 rfl) ?_
          refine lv_iconst (v := (0 : Int32)) hx hb dX10_through_34 (by decide) ?_
          refine lv_iconst (v := (1 : Int32)) hx hb dX10_through_35 (by decide) ?_
          obtain ⟨o_11, h_12, hE⟩ := jbd hE
          refine j_Si (As := [.int a4, .int (0 : Int32), .int (1 : Int32)]) (rest := []) (wf := MW ad cI cZ (0 : Int32) trace upper lower begins size hasShares wires kind first second times byy group whole frm too isThere way sorts ohms price above belo) C hK hS (jcut_nil hA hS) (tX10_in l D cI cJ cZ cW cS cO cG a4 (0 : Int32) (1 : Int32) h_12) (va_cwS 3 hts gX10_through_X10_in rfl rfl rfl (by decide +kernel) ⟨Nat.le_of_ble_eq_true rfl, Nat.le_of_ble_eq_true rfl⟩) rfl hl.1 rfl (Nat.le_of_ble_eq_true rfl) dX10_through_36 ⟨Nat.zero_le _, Nat.zero_le _⟩ (fun H locs hS => ?_)
          refine lv_if_eq (tgt := 51) hx hb dX10_through_39 (by decide) (fun c_13 => ?_) (fun c_13 => ?_)
          · have hE := jt hE c_13
            refine lv_ldc2 (v := (-9223372036854775808 : Int64)) hx hb hown k1 dX10_through_51 ?_
            obtain rfl := jsm hE
            exact ret hS dX10_through_54
          · have hE := jf hE c_13
            refine lv_aload_n hx hb dX10_through_42 rfl (lv_at hl 0 rfl) ?_
            refine lv_iload_n hx hb dX10_through_43 rfl (lv_at hl 2 rfl) ?_
            refine lv_iload_n hx hb dX10_through_44 rfl (lv_at hl 3 rfl) ?_
            obtain ⟨o_14, h_15, hE⟩ := jbd hE
            refine j_Vi (As := [.int a2, .int a3]) (rest := []) (wf := MW ad cI cZ (0 : Int32) trace upper lower begins size hasShares wires kind first second times byy o_14.2.1 o_14.2.2 frm too isThere way sorts ohms price above belo) (vc := (RX10, TX10, 24)) C hK hS (jcut_all hA hS) (tX10_hang l D ad cI cJ cZ cW cS cO cG (0 : Int32) trace upper lower begins size hasShares wires kind first second times byy group whole frm too isThere way sorts ohms price above belo a2 a3 h_15) (cwV 2 hts gX10_through_X10_hang rfl rfl rfl (by decide +kernel) ⟨Nat.le_of_ble_eq_true rfl, Nat.le_of_ble_eq_true rfl⟩) (q0 := 0) rfl (ci := 11) rfl rfl hl.1 rfl (Nat.le_of_ble_eq_true rfl) dX10_through_45 ⟨Nat.zero_le _, Nat.zero_le _⟩ (fun H locs hS => ?_)
            refine lv_if_ne (tgt := 55) hx hb dX10_through_48 (by decide) (fun c_16 => ?_) (fun c_16 => ?_)
            · have hE := jf hE c_16
              refine lv_aload_n hx hb dX10_through_55 rfl (lv_at hl 0 rfl) ?_
              refine lv_iload_n hx hb dX10_through_56 rfl (lv_at hl 2 rfl) ?_
              obtain ⟨o_17, h_18, hE⟩ := jbd hE
              refine j_Vi (As := [.int a2]) (rest := []) (wf := MW ad cI cZ (0 : Int32) trace upper lower begins size hasShares wires kind first second times byy o_14.2.1 o_14.2.2 frm too isThere way sorts ohms price above belo) (vc := (RX10, TX10, 24)) C hK hS (jcut_all hA hS) (tX10_sizeOf l D ad cI cJ cZ cW cS cO cG (0 : Int32) trace upper lower begins size hasShares wires kind first second times byy o_14.2.1 o_14.2.2 frm too isThere way sorts ohms price above belo a2 h_18) (cwV 1 hts gX10_through_X10_sizeOf rfl rfl rfl (by decide +kernel) ⟨Nat.le_of_ble_eq_true rfl, Nat.le_of_ble_eq_true rfl⟩) (q0 := 0) rfl (ci := 11) rfl rfl hl.1 rfl (Nat.le_of_ble_eq_true rfl) dX10_through_57 ⟨Nat.zero_le _, Nat.zero_le _⟩ (fun H locs hS => ?_)
              refine lv_istore (lv' := [(5, .int o_17), (0, .ref (ad 0)), (1, .int a1), (2, .int a2), (3, .int a3), (4, .int a4)]) hx hb dX10_through_60 hl (by decide) rfl (fun ls hl => ?_)
              refine lv_lconst (v := (0 : Int64)) hx hb dX10_through_62 (by decide) ?_
              refine lv_lstore (lv' := [(6, .long (0 : Int64)), (5, .int o_17), (0, .ref (ad 0)), (1, .int a1), (2, .int a2), (3, .int a3), (4, .int a4)]) hx hb dX10_through_63 hl (by decide) rfl (fun ls hl => ?_)
              refine lv_lconst (v := (0 : Int64)) hx hb dX10_through_65 (by decide) ?_
              refine lv_lstore (lv' := [(8, .long (0 : Int64)), (6, .long (0 : Int64)), (5, .int o_17), (0, .ref (ad 0)), (1, .int a1), (2, .int a2), (3, .int a3), (4, .int a4)]) hx hb dX10_through_66 hl (by decide) rfl (fun ls hl => ?_)
              refine lv_iconst (v := (0 : Int32)) hx hb dX10_through_68 (by decide) ?_
              refine lv_istore (lv' := [(10, .int (0 : Int32)), (8, .long (0 : Int64)), (6, .long (0 : Int64)), (5, .int o_17), (0, .ref (ad 0)), (1, .int a1), (2, .int a2), (3, .int a3), (4, .int a4)]) hx hb dX10_through_69 hl (by decide) rfl (fun ls hl => ?_)
              obtain ⟨o_23, L_24, hE⟩ := jbd hE
              have K_25 : jW p l e rmX10_through s m args below meth c 0 0 Q D vwCl A (MW ad cI cZ (0 : Int32) trace upper lower begins size hasShares wires kind first second times byy o_23.2.2 o_14.2.2 frm too isThere way sorts ohms price above belo) 13 [(0, .ref (ad 0)), (4, .int a4), (6, .long o_23.1), (8, .long o_23.2.1)] 152 [] := by
                intro H locs ls hS hl
                refine lv_aload_n hx hb dX10_through_152 rfl (lv_at hl 0 rfl) ?_
                refine lv_lload hx hb dX10_through_153 (lv_at hl 3 rfl) ?_
                refine lv_lload hx hb dX10_through_155 (lv_at hl 2 rfl) ?_
                obtain ⟨o_48, h_49, hE⟩ := jbd hE
                refine j_Vv (As := [.long o_23.2.1, .long o_23.1]) (rest := []) (wf := MW ad cI cZ (0 : Int32) trace upper lower begins size hasShares wires kind first second times byy o_23.2.2 o_14.2.2 frm too isThere way sorts ohms price o_48.1 o_48.2) (vc := (RX10, TX10, 24)) C hK hS (jcut_all hA hS) (tX10_least l D ad cI cJ cZ cW cS cO cG (0 : Int32) trace upper lower begins size hasShares wires kind first second times byy o_23.2.2 o_14.2.2 frm too isThere way sorts ohms price above belo o_23.2.1 o_23.1 h_49) (cwV 2 hts gX10_through_X10_least rfl rfl rfl (by decide +kernel) ⟨Nat.le_of_ble_eq_true rfl, Nat.le_of_ble_eq_true rfl⟩) (q0 := 0) rfl (ci := 11) rfl rfl hl.1 rfl (Nat.le_of_ble_eq_true rfl) dX10_through_157 ⟨Nat.zero_le _, Nat.zero_le _⟩ (fun H locs hS => ?_)
                refine lv_iload hx hb dX10_through_160 (lv_at hl 1 rfl) ?_
                refine lv_if_ne (tgt := 172) hx hb dX10_through_162 (by decide) (fun c_50 => ?_) (fun c_50 => ?_)
                · have hE := jf hE c_50
                  refine lv_aload_n hx hb dX10_through_172 rfl (lv_at hl 0 rfl) ?_
                  refine va_get (D := D) (ci := 11) (v := .long o_48.2) (C := RX10) (T := TX10) (N := 24) hx hb hts inX10 hown hK hS.1 0 rfl rfl 23 (by decide) k3 (fun _ h => h) rfl dX10_through_173 ?_
                  obtain rfl := jsm hE
                  exact ret hS dX10_through_176
                · have hE := jt hE c_50
                  refine lv_aload_n hx hb dX10_through_165 rfl (lv_at hl 0 rfl) ?_
                  refine va_get (D := D) (ci := 11) (v := .long o_48.1) (C := RX10) (T := TX10) (N := 24) hx hb hts inX10 hown hK hS.1 0 rfl rfl 22 (by decide) k4 (fun _ h => h) rfl dX10_through_166 ?_
                  refine lv_goto (tgt := 176) hx hb dX10_through_169 (by decide) ?_
                  obtain rfl := jsm hE
                  exact ret hS dX10_through_176
              have loop_27 : ∀ (n : Nat) (v6_19 : Int64) (v8_20 : Int64) (v10_21 : Int32) (group_22 : Nat → Int32), LX10_through_71 wires first second times byy a1 a2 a3 o_14 o_17 n v6_19 v8_20 v10_21 group_22 = some o_23 → jW p l e rmX10_through s m args below meth c 0 0 Q D vwCl A (MW ad cI cZ (0 : Int32) trace upper lower begins size hasShares wires kind first second times byy group_22 o_14.2.2 frm too isThere way sorts ohms price above belo) 13 [(0, .ref (ad 0)), (1, .int a1), (2, .int a2), (3, .int a3), (4, .int a4), (5, .int o_17), (6, .long v6_19), (8, .long v8_20), (10, .int v10_21)] 71 [] := by
                intro n
                induction n with
                | zero =>
                  intro v6_19 v8_20 v10_21 group_22 q_26
                  have q_26 : none = some o_23 := q_26
                  cases q_26
                | succ n ih =>
                  intro v6_19 v8_20 v10_21 group_22 q_26 H locs ls hS hl
                  rw [LX10_through_71] at q_26
                  refine lv_iload hx hb dX10_through_71 (lv_at hl 8 rfl) ?_
                  refine lv_iconst (v := (1 : Int32)) hx hb dX10_through_73 (by decide) ?_
                  refine lv_aload_n hx hb dX10_through_74 rfl (lv_at hl 0 rfl) ?_
                  refine va_get (D := D) (ci := 11) (v := .int wires) (C := RX10) (T := TX10) (N := 24) hx hb hts inX10 hown hK hS.1 0 rfl rfl 7 (by decide) k2 (fun _ h => h) rfl dX10_through_75 ?_
                  refine lv_ishl hx hb dX10_through_78 ?_
                  refine lv_icmp_ge (tgt := 152) hx hb dX10_through_79 (by decide) (fun c_28 => ?_) (fun c_28 => ?_)
                  · have q_26 := jt q_26 c_28
                    obtain rfl := jsm q_26
                    exact K_25 _ _ _ hS (lv_sub hl [0, 4, 6, 7] rfl)
                  · have q_26 := jf q_26 c_28
                    refine lv_iload hx hb dX10_through_82 (lv_at hl 8 rfl) ?_
                    obtain ⟨o_29, h_30, q_26⟩ := jbd q_26
                    refine j_Si (As := [.int v10_21]) (rest := []) (wf := MW ad cI cZ (0 : Int32) trace upper lower begins size hasShares wires kind first second times byy group_22 o_14.2.2 frm too isThere way sorts ohms price above belo) C hK hS (jcut_nil hA hS) (tX10_bits l D cI cJ cZ cW cS cO cG v10_21 h_30) (va_cwS 1 hts gX10_through_X10_bits rfl rfl rfl (by decide +kernel) ⟨Nat.le_of_ble_eq_true rfl, Nat.le_of_ble_eq_true rfl⟩) rfl hl.1 rfl (Nat.le_of_ble_eq_true rfl) dX10_through_84 ⟨Nat.zero_le _, Nat.zero_le _⟩ (fun H locs hS => ?_)
                    refine lv_iload hx hb dX10_through_87 (lv_at hl 5 rfl) ?_
                    refine lv_iconst (v := (1 : Int32)) hx hb dX10_through_89 (by decide) ?_
                    refine lv_isub hx hb dX10_through_90 ?_
                    obtain ⟨o_31, r_33, q_26⟩ := jbd q_26
                    have K_32 : jW p l e rmX10_through s m args below meth c 0 0 Q D vwCl A (MW ad cI cZ (0 : Int32) trace upper lower begins size hasShares wires kind first second times byy o_31.2.2 o_14.2.2 frm too isThere way sorts ohms price above belo) 13 [(0, .ref (ad 0)), (1, .int a1), (2, .int a2), (3, .int a3), (4, .int a4), (5, .int o_17), (6, .long o_31.1), (8, .long o_31.2.1), (10, .int v10_21)] 146 [] := by
                      intro H locs ls hS hl
                      obtain ⟨x_47, ex_47⟩ : ∃ y : Int32, y = v10_21 + (1 : Int32) := ⟨_, rfl⟩
                      have q_26 := jlv q_26 ex_47
                      refine lv_iinc (v := x_47) (lv' := [(10, .int x_47), (0, .ref (ad 0)), (1, .int a1), (2, .int a2), (3, .int a3), (4, .int a4), (5, .int o_17), (6, .long o_31.1), (8, .long o_31.2.1)]) hx hb dX10_through_146 hl (k := 8) rfl (by rw [ex_47]; rfl) (by decide) rfl (fun ls hl => ?_)
                      refine lv_goto (tgt := 71) hx hb dX10_through_149 (by decide) ?_
                      exact ih o_31.1 o_31.2.1 x_47 o_31.2.2 q_26 _ _ _ hS (lv_sub hl [1, 2, 3, 4, 5, 6, 7, 8, 0] rfl)
                    refine lv_icmp_ne (tgt := 146) hx hb dX10_through_91 (by decide) (fun c_34 => ?_) (fun c_34 => ?_)
                    · have r_33 := jf r_33 c_34
                      obtain rfl := jsm r_33
                      exact K_32 _ _ _ hS (lv_sub hl [0, 1, 2, 3, 4, 5, 6, 7, 8] rfl)
                    · have r_33 := jt r_33 c_34
                      refine lv_aload_n hx hb dX10_through_94 rfl (lv_at hl 0 rfl) ?_
                      refine lv_iload hx hb dX10_through_95 (lv_at hl 8 rfl) ?_
                      refine lv_iload_n hx hb dX10_through_97 rfl (lv_at hl 2 rfl) ?_
                      obtain ⟨o_35, h_36, r_33⟩ := jbd r_33
                      refine j_Vi (As := [.int v10_21, .int a2]) (rest := []) (wf := MW ad cI cZ (0 : Int32) trace upper lower begins size hasShares wires kind first second times byy group_22 o_14.2.2 frm too isThere way sorts ohms price above belo) (vc := (RX10, TX10, 24)) C hK hS (jcut_all hA hS) (tX10_isOf l D ad cI cJ cZ cW cS cO cG (0 : Int32) trace upper lower begins size hasShares wires kind first second times byy group_22 o_14.2.2 frm too isThere way sorts ohms price above belo v10_21 a2 h_36) (cwV 2 hts gX10_through_X10_isOf rfl rfl rfl (by decide +kernel) ⟨Nat.le_of_ble_eq_true rfl, Nat.le_of_ble_eq_true rfl⟩) (q0 := 0) rfl (ci := 11) rfl rfl hl.1 rfl (Nat.le_of_ble_eq_true rfl) dX10_through_98 ⟨Nat.zero_le _, Nat.zero_le _⟩ (fun H locs hS => ?_)
                      refine lv_if_eq (tgt := 146) hx hb dX10_through_101 (by decide) (fun c_37 => ?_) (fun c_37 => ?_)
                      · have r_33 := jt r_33 c_37
                        obtain rfl := jsm r_33
                        exact K_32 _ _ _ hS (lv_sub hl [0, 1, 2, 3, 4, 5, 6, 7, 8] rfl)
                      · have r_33 := jf r_33 c_37
                        refine lv_aload_n hx hb dX10_through_104 rfl (lv_at hl 0 rfl) ?_
                        refine lv_iload hx hb dX10_through_105 (lv_at hl 8 rfl) ?_
                        obtain ⟨o_38, h_39, r_33⟩ := jbd r_33
                        refine j_Vi (As := [.int v10_21]) (rest := []) (wf := MW ad cI cZ (0 : Int32) trace upper lower begins size hasShares wires kind first second times byy o_38.2 o_14.2.2 frm too isThere way sorts ohms price above belo) (vc := (RX10, TX10, 24)) C hK hS (jcut_all hA hS) (tX10_joins l D ad cI cJ cZ cW cS cO cG (0 : Int32) trace upper lower begins size hasShares wires kind first second times byy group_22 o_14.2.2 frm too isThere way sorts ohms price above belo v10_21 h_39) (cwV 1 hts gX10_through_X10_joins rfl rfl rfl (by decide +kernel) ⟨Nat.le_of_ble_eq_true rfl, Nat.le_of_ble_eq_true rfl⟩) (q0 := 0) rfl (ci := 11) rfl rfl hl.1 rfl (Nat.le_of_ble_eq_true rfl) dX10_through_107 ⟨Nat.zero_le _, Nat.zero_le _⟩ (fun H locs hS => ?_)
                        refine lv_if_eq (tgt := 146) hx hb dX10_through_110 (by decide) (fun c_40 => ?_) (fun c_40 => ?_)
                        · have r_33 := jt r_33 c_40
                          obtain rfl := jsm r_33
                          exact K_32 _ _ _ hS (lv_sub hl [0, 1, 2, 3, 4, 5, 6, 7, 8] rfl)
                        · have r_33 := jf r_33 c_40
                          refine lv_aload_n hx hb dX10_through_113 rfl (lv_at hl 0 rfl) ?_
                          refine lv_iload hx hb dX10_through_114 (lv_at hl 8 rfl) ?_
                          obtain ⟨o_41, h_42, r_33⟩ := jbd r_33
                          refine j_Vl (As := [.int v10_21]) (rest := []) (wf := MW ad cI cZ (0 : Int32) trace upper lower begins size hasShares wires kind first second times byy o_38.2 o_14.2.2 frm too isThere way sorts ohms price above belo) (vc := (RX10, TX10, 24)) C hK hS (jcut_all hA hS) (tX10_weight l D ad cI cJ cZ cW cS cO cG (0 : Int32) trace upper lower begins size hasShares wires kind first second times byy o_38.2 o_14.2.2 frm too isThere way sorts ohms price above belo v10_21 h_42) (cwV 1 hts gX10_through_X10_weight rfl rfl rfl (by decide +kernel) ⟨Nat.le_of_ble_eq_true rfl, Nat.le_of_ble_eq_true rfl⟩) (q0 := 0) rfl (ci := 11) rfl rfl hl.1 rfl (Nat.le_of_ble_eq_true rfl) dX10_through_116 ⟨Nat.zero_le _, Nat.zero_le _⟩ (fun H locs hS => ?_)
                          refine lv_lstore (lv' := [(11, .long o_41), (0, .ref (ad 0)), (1, .int a1), (2, .int a2), (3, .int a3), (4, .int a4), (5, .int o_17), (6, .long v6_19), (8, .long v8_20), (10, .int v10_21)]) hx hb dX10_through_119 hl (by decide) rfl (fun ls hl => ?_)
                          refine lv_lload hx hb dX10_through_121 (lv_at hl 7 rfl) ?_
                          refine lv_lload hx hb dX10_through_123 (lv_at hl 0 rfl) ?_
                          refine lv_ladd hx hb dX10_through_125 ?_
                          refine lv_topl (fun x_43 ex_43 => ?_)
                          have r_33 := jlv r_33 ex_43
                          refine lv_lstore (lv' := [(6, .long x_43), (11, .long o_41), (0, .ref (ad 0)), (1, .int a1), (2, .int a2), (3, .int a3), (4, .int a4), (5, .int o_17), (8, .long v8_20), (10, .int v10_21)]) hx hb dX10_through_126 hl (by decide) rfl (fun ls hl => ?_)
                          refine lv_lload hx hb dX10_through_128 (lv_at hl 8 rfl) ?_
                          refine lv_aload_n hx hb dX10_through_130 rfl (lv_at hl 2 rfl) ?_
                          refine lv_iload hx hb dX10_through_131 (lv_at hl 9 rfl) ?_
                          refine lv_iload_n hx hb dX10_through_133 rfl (lv_at hl 3 rfl) ?_
                          refine lv_iload_n hx hb dX10_through_134 rfl (lv_at hl 4 rfl) ?_
                          refine lv_iload_n hx hb dX10_through_135 rfl (lv_at hl 5 rfl) ?_
                          obtain ⟨o_44, h_45, r_33⟩ := jbd r_33
                          refine j_Vi (As := [.int v10_21, .int a1, .int a2, .int a3]) (rest := [.long v8_20]) (wf := MW ad cI cZ (0 : Int32) trace upper lower begins size hasShares wires kind first second times byy o_44.2 o_14.2.2 frm too isThere way sorts ohms price above belo) (vc := (RX10, TX10, 24)) C hK hS (jcut_all hA hS) (tX10_goes l D ad cI cJ cZ cW cS cO cG (0 : Int32) trace upper lower begins size hasShares wires kind first second times byy o_38.2 o_14.2.2 frm too isThere way sorts ohms price above belo v10_21 a1 a2 a3 h_45) (cwV 4 hts gX10_through_X10_goes rfl rfl rfl (by decide +kernel) ⟨Nat.le_of_ble_eq_true rfl, Nat.le_of_ble_eq_true rfl⟩) (q0 := 0) rfl (ci := 11) rfl rfl hl.1 rfl (Nat.le_of_ble_eq_true rfl) dX10_through_136 ⟨Nat.zero_le _, Nat.zero_le _⟩ (fun H locs hS => ?_)
                          refine lv_i2l (v := o_44.1.toInt64) hx hb dX10_through_139 rfl ?_
                          refine lv_lload hx hb dX10_through_140 (lv_at hl 1 rfl) ?_
                          refine lv_lmul hx hb dX10_through_142 ?_
                          refine lv_ladd hx hb dX10_through_143 ?_
                          refine lv_topl (fun x_46 ex_46 => ?_)
                          have r_33 := jlv r_33 ex_46
                          refine lv_lstore (lv' := [(8, .long x_46), (6, .long x_43), (11, .long o_41), (0, .ref (ad 0)), (1, .int a1), (2, .int a2), (3, .int a3), (4, .int a4), (5, .int o_17), (10, .int v10_21)]) hx hb dX10_through_144 hl (by decide) rfl (fun ls hl => ?_)
                          obtain rfl := jsm r_33
                          exact K_32 _ _ _ hS (lv_sub hl [3, 4, 5, 6, 7, 8, 1, 0, 9] rfl)
              exact loop_27 5000 (0 : Int64) (0 : Int64) (0 : Int32) o_14.2.1 L_24 _ _ _ hS (lv_sub hl [4, 5, 6, 7, 8, 3, 2, 1, 0] rfl)
            · have hE := jt hE c_16
              refine lv_ldc2 (v := (-9223372036854775808 : Int64)) hx hb hown k1 dX10_through_51 ?_
              obtain rfl := jsm hE
              exact ret hS dX10_through_54
def LX10_hasWire_4 (wires : Int32) (first : Nat → Int32) (second : Nat → Int32) (a1 : Int32) : Nat → (Int32) → (Int32) → Option (Int32)
  | 0, _, _ => none
  | n + 1, v2_1, v3_2 =>
    if wires ≤ v3_2 then
    some v2_1
    else
    if jok v3_2 12 then
    jlet (if (first v3_2.toNatClampNeg) = a1 then
    (1 : Int32)
    else
    if (second v3_2.toNatClampNeg) = a1 then
    (1 : Int32)
    else
    (0 : Int32)) (fun o_10 => 
    jlet (v2_1 ||| o_10) (fun x_15 => 
    jlet (v3_2 + (1 : Int32)) (fun x_16 => 
    LX10_hasWire_4 wires first second a1 n x_15 x_16)))
    else none
def fX10_hasWire (a1 : Int32) (wires : Int32) (first : Nat → Int32) (second : Nat → Int32) : Option (Int32) :=
  (LX10_hasWire_4 wires first second a1 5000 (0 : Int32) (0 : Int32)).bind (fun o_3 => 
  if o_3 &&& 1 = o_3 then
  some o_3
  else none)
abbrev rmX10_hasWire : Room := { frames := 0, cells := 0, slots := 0, locals := 0 }
set_option maxHeartbeats 4000000 in
set_option maxRecDepth 100000 in
theorem tX10_hasWire (l : Launch) (D : va_G) (ad : Nat → Nat) (cI cJ cZ cW cS cO cG : ClassId) (thrown : Int32) (trace : Int64) (upper : Nat → Int32) (lower : Nat → Int32) (begins : Nat → Int32) (size : Int32) (hasShares : Int32) (wires : Int32) (kind : Nat → Int32) (first : Nat → Int32) (second : Nat → Int32) (times : Nat → Int32) (byy : Nat → Int32) (group : Nat → Int32) (whole : Nat → Int32) (frm : Nat → Int32) (too : Nat → Int32) (isThere : Nat → Int32) (way : Nat → Int32) (sorts : Int32) (ohms : Nat → Int32) (price : Nat → Int32) (above : Int64) (belo : Int64) (a1 : Int32) {o : Int32} (hE : fX10_hasWire a1 wires first second = some o) : JMi l yX10_hasWire wsX10_hasWire rmX10_hasWire D vwCl (TY cI cJ cZ cW cS cO cG) [.ref (ad 0), .int a1] (MW ad cI cZ thrown trace upper lower begins size hasShares wires kind first second times byy group whole frm too isThere way sorts ohms price above belo) (MW ad cI cZ thrown trace upper lower begins size hasShares wires kind first second times byy group whole frm too isThere way sorts ohms price above belo) o := by
  refine JMi.of (cc := cX10_hasWire) (maxL := 4) (by decide) rfl (Nat.le_of_ble_eq_true rfl) ?_
  intro p e s m args below meth c A ls Q C hK hA ret hS hl
  obtain ⟨⟨hx, hb, hml, hown, hts⟩, -⟩ := id C
  have hl : lv_has ls 4 [(0, .ref (ad 0)), (1, .int a1)] := hl
  have inX10 : ∀ w ∈ u_ws RX10 TX10 24, w ∈ wsX10_hasWire := by decide +kernel
  have k0 := hts (.fieldLink RX10 119 "OhmNetsModel" "wires" "I") (by decide +kernel)
  have k1 := hts (.fieldLink RX10 22 "OhmNetsModel" "first" "[I") (by decide +kernel)
  have k2 := hts (.fieldLink RX10 25 "OhmNetsModel" "second" "[I") (by decide +kernel)
  refine lv_iconst (v := (0 : Int32)) hx hb dX10_hasWire_0 (by decide) ?_
  refine lv_istore_n (lv' := [(2, .int (0 : Int32)), (0, .ref (ad 0)), (1, .int a1)]) hx hb dX10_hasWire_1 rfl hl (by decide) rfl (fun ls hl => ?_)
  refine lv_iconst (v := (0 : Int32)) hx hb dX10_hasWire_2 (by decide) ?_
  refine lv_istore_n (lv' := [(3, .int (0 : Int32)), (2, .int (0 : Int32)), (0, .ref (ad 0)), (1, .int a1)]) hx hb dX10_hasWire_3 rfl hl (by decide) rfl (fun ls hl => ?_)
  obtain ⟨o_3, L_4, hE⟩ := jbd hE
  have K_5 : jW p l e rmX10_hasWire s m args below meth c 0 0 Q D vwCl A (MW ad cI cZ thrown trace upper lower begins size hasShares wires kind first second times byy group whole frm too isThere way sorts ohms price above belo) 4 [(2, .int o_3)] 46 [] := by
    intro H locs ls hS hl
    refine lv_iload_n hx hb dX10_hasWire_46 rfl (lv_at hl 0 rfl) ?_
    obtain ⟨z_17, hE⟩ := jgd hE
    obtain rfl := jsm hE
    exact ret hS (jbool z_17) dX10_hasWire_47
  have loop_7 : ∀ (n : Nat) (v2_1 : Int32) (v3_2 : Int32), LX10_hasWire_4 wires first second a1 n v2_1 v3_2 = some o_3 → jW p l e rmX10_hasWire s m args below meth c 0 0 Q D vwCl A (MW ad cI cZ thrown trace upper lower begins size hasShares wires kind first second times byy group whole frm too isThere way sorts ohms price above belo) 4 [(0, .ref (ad 0)), (1, .int a1), (2, .int v2_1), (3, .int v3_2)] 4 [] := by
    intro n
    induction n with
    | zero =>
      intro v2_1 v3_2 q_6
      have q_6 : none = some o_3 := q_6
      cases q_6
    | succ n ih =>
      intro v2_1 v3_2 q_6 H locs ls hS hl
      rw [LX10_hasWire_4] at q_6
      refine lv_iload_n hx hb dX10_hasWire_4 rfl (lv_at hl 3 rfl) ?_
      refine lv_aload_n hx hb dX10_hasWire_5 rfl (lv_at hl 0 rfl) ?_
      refine va_get (D := D) (ci := 11) (v := .int wires) (C := RX10) (T := TX10) (N := 24) hx hb hts inX10 hown hK hS.1 0 rfl rfl 7 (by decide) k0 (fun _ h => h) rfl dX10_hasWire_6 ?_
      refine lv_icmp_ge (tgt := 46) hx hb dX10_hasWire_9 (by decide) (fun c_8 => ?_) (fun c_8 => ?_)
      · have q_6 := jt q_6 c_8
        obtain rfl := jsm q_6
        exact K_5 _ _ _ hS (lv_sub hl [2] rfl)
      · have q_6 := jf q_6 c_8
        refine lv_iload_n hx hb dX10_hasWire_12 rfl (lv_at hl 2 rfl) ?_
        refine lv_aload_n hx hb dX10_hasWire_13 rfl (lv_at hl 0 rfl) ?_
        refine va_get (D := D) (ci := 11) (v := .ref (ad 5)) (C := RX10) (T := TX10) (N := 24) hx hb hts inX10 hown hK hS.1 0 rfl rfl 9 (by decide) k1 (fun _ h => h) rfl dX10_hasWire_14 ?_
        refine lv_iload_n hx hb dX10_hasWire_17 rfl (lv_at hl 3 rfl) ?_
        obtain ⟨b_9, q_6⟩ := jgd q_6
        refine va_iald hx hb hK hS.1 5 0 rfl rfl (jin.mpr b_9) dX10_hasWire_18 ?_
        refine lv_iload_n hx hb dX10_hasWire_19 rfl (lv_at hl 1 rfl) ?_
        obtain ⟨o_10, r_12⟩ : ∃ y : Int32, y = (if (first v3_2.toNatClampNeg) = a1 then (1 : Int32) else if (second v3_2.toNatClampNeg) = a1 then (1 : Int32) else (0 : Int32)) := ⟨_, rfl⟩
        have q_6 := jlv q_6 r_12
        have K_11 : jW p l e rmX10_hasWire s m args below meth c 0 0 Q D vwCl A (MW ad cI cZ thrown trace upper lower begins size hasShares wires kind first second times byy group whole frm too isThere way sorts ohms price above belo) 4 [(0, .ref (ad 0)), (1, .int a1), (3, .int v3_2)] 38 [.int o_10, .int v2_1] := by
          intro H locs ls hS hl
          refine lv_ior hx hb dX10_hasWire_38 ?_
          refine lv_topi (fun x_15 ex_15 => ?_)
          have q_6 := jlv q_6 ex_15
          refine lv_istore_n (lv' := [(2, .int x_15), (0, .ref (ad 0)), (1, .int a1), (3, .int v3_2)]) hx hb dX10_hasWire_39 rfl hl (by decide) rfl (fun ls hl => ?_)
          obtain ⟨x_16, ex_16⟩ : ∃ y : Int32, y = v3_2 + (1 : Int32) := ⟨_, rfl⟩
          have q_6 := jlv q_6 ex_16
          refine lv_iinc (v := x_16) (lv' := [(3, .int x_16), (2, .int x_15), (0, .ref (ad 0)), (1, .int a1)]) hx hb dX10_hasWire_40 hl (k := 3) rfl (by rw [ex_16]; rfl) (by decide) rfl (fun ls hl => ?_)
          refine lv_goto (tgt := 4) hx hb dX10_hasWire_43 (by decide) ?_
          exact ih x_15 x_16 q_6 _ _ _ hS (lv_sub hl [2, 3, 1, 0] rfl)
        refine lv_icmp_eq (tgt := 33) hx hb dX10_hasWire_20 (by decide) (fun c_13 => ?_) (fun c_13 => ?_)
        · have r_12 := r_12.trans (if_pos c_13)
          refine lv_iconst (v := (1 : Int32)) hx hb dX10_hasWire_33 (by decide) ?_
          refine lv_goto (tgt := 38) hx hb dX10_hasWire_34 (by decide) ?_
          subst r_12
          exact K_11 _ _ _ hS (lv_sub hl [0, 1, 3] rfl)
        · have r_12 := r_12.trans (if_neg c_13)
          refine lv_aload_n hx hb dX10_hasWire_23 rfl (lv_at hl 0 rfl) ?_
          refine va_get (D := D) (ci := 11) (v := .ref (ad 6)) (C := RX10) (T := TX10) (N := 24) hx hb hts inX10 hown hK hS.1 0 rfl rfl 10 (by decide) k2 (fun _ h => h) rfl dX10_hasWire_24 ?_
          refine lv_iload_n hx hb dX10_hasWire_27 rfl (lv_at hl 3 rfl) ?_
          refine va_iald hx hb hK hS.1 6 0 rfl rfl (jin.mpr b_9) dX10_hasWire_28 ?_
          refine lv_iload_n hx hb dX10_hasWire_29 rfl (lv_at hl 1 rfl) ?_
          refine lv_icmp_ne (tgt := 37) hx hb dX10_hasWire_30 (by decide) (fun c_14 => ?_) (fun c_14 => ?_)
          · have r_12 := r_12.trans (if_neg c_14)
            refine lv_iconst (v := (0 : Int32)) hx hb dX10_hasWire_37 (by decide) ?_
            subst r_12
            exact K_11 _ _ _ hS (lv_sub hl [0, 1, 3] rfl)
          · have r_12 := r_12.trans (if_pos c_14)
            refine lv_iconst (v := (1 : Int32)) hx hb dX10_hasWire_33 (by decide) ?_
            refine lv_goto (tgt := 38) hx hb dX10_hasWire_34 (by decide) ?_
            subst r_12
            exact K_11 _ _ _ hS (lv_sub hl [0, 1, 3] rfl)
  exact loop_7 5000 (0 : Int32) (0 : Int32) L_4 _ _ _ hS (lv_sub hl [2, 3, 1, 0] rfl)
def LX10_knots_4 (wires : Int32) (first : Nat → Int32) (second : Nat → Int32) : Nat → (Int32) → (Int32) → Option (Int32)
  | 0, _, _ => none
  | n + 1, v1_1, v2_2 =>
    if (6 : Int32) ≤ v2_2 then
    some v1_1
    else
    (fX10_hasWire v2_2 wires first second).bind (fun o_9 => 
    jlet (if o_9 = 0 then
    (0 : Int32)
    else
    (1 : Int32)) (fun o_11 => 
    jlet (v1_1 + o_11) (fun x_15 => 
    jlet (v2_2 + (1 : Int32)) (fun x_16 => 
    LX10_knots_4 wires first second n x_15 x_16))))
def fX10_knots (wires : Int32) (first : Nat → Int32) (second : Nat → Int32) : Option (Int32) :=
  (LX10_knots_4 wires first second 5000 (0 : Int32) (0 : Int32)).bind (fun o_3 => 
  some o_3)
abbrev rmX10_knots : Room := { frames := 1, cells := 0, slots := 0, locals := 23 }
set_option maxHeartbeats 4000000 in
set_option maxRecDepth 100000 in
theorem tX10_knots (l : Launch) (D : va_G) (ad : Nat → Nat) (cI cJ cZ cW cS cO cG : ClassId) (thrown : Int32) (trace : Int64) (upper : Nat → Int32) (lower : Nat → Int32) (begins : Nat → Int32) (size : Int32) (hasShares : Int32) (wires : Int32) (kind : Nat → Int32) (first : Nat → Int32) (second : Nat → Int32) (times : Nat → Int32) (byy : Nat → Int32) (group : Nat → Int32) (whole : Nat → Int32) (frm : Nat → Int32) (too : Nat → Int32) (isThere : Nat → Int32) (way : Nat → Int32) (sorts : Int32) (ohms : Nat → Int32) (price : Nat → Int32) (above : Int64) (belo : Int64) {o : Int32} (hE : fX10_knots wires first second = some o) : JMi l yX10_knots wsX10_knots rmX10_knots D vwCl (TY cI cJ cZ cW cS cO cG) [.ref (ad 0)] (MW ad cI cZ thrown trace upper lower begins size hasShares wires kind first second times byy group whole frm too isThere way sorts ohms price above belo) (MW ad cI cZ thrown trace upper lower begins size hasShares wires kind first second times byy group whole frm too isThere way sorts ohms price above belo) o := by
  refine JMi.of (cc := cX10_knots) (maxL := 3) (by decide) rfl (Nat.le_of_ble_eq_true rfl) ?_
  intro p e s m args below meth c A ls Q C hK hA ret hS hl
  obtain ⟨⟨hx, hb, hml, hown, hts⟩, -⟩ := id C
  have hl : lv_has ls 3 [(0, .ref (ad 0))] := hl
  refine lv_iconst (v := (0 : Int32)) hx hb dX10_knots_0 (by decide) ?_
  refine lv_istore_n (lv' := [(1, .int (0 : Int32)), (0, .ref (ad 0))]) hx hb dX10_knots_1 rfl hl (by decide) rfl (fun ls hl => ?_)
  refine lv_iconst (v := (0 : Int32)) hx hb dX10_knots_2 (by decide) ?_
  refine lv_istore_n (lv' := [(2, .int (0 : Int32)), (1, .int (0 : Int32)), (0, .ref (ad 0))]) hx hb dX10_knots_3 rfl hl (by decide) rfl (fun ls hl => ?_)
  obtain ⟨o_3, L_4, hE⟩ := jbd hE
  have K_5 : jW p l e rmX10_knots s m args below meth c 0 0 Q D vwCl A (MW ad cI cZ thrown trace upper lower begins size hasShares wires kind first second times byy group whole frm too isThere way sorts ohms price above belo) 3 [(1, .int o_3)] 32 [] := by
    intro H locs ls hS hl
    refine lv_iload_n hx hb dX10_knots_32 rfl (lv_at hl 0 rfl) ?_
    obtain rfl := jsm hE
    exact ret hS rfl dX10_knots_33
  have loop_7 : ∀ (n : Nat) (v1_1 : Int32) (v2_2 : Int32), LX10_knots_4 wires first second n v1_1 v2_2 = some o_3 → jW p l e rmX10_knots s m args below meth c 0 0 Q D vwCl A (MW ad cI cZ thrown trace upper lower begins size hasShares wires kind first second times byy group whole frm too isThere way sorts ohms price above belo) 3 [(0, .ref (ad 0)), (1, .int v1_1), (2, .int v2_2)] 4 [] := by
    intro n
    induction n with
    | zero =>
      intro v1_1 v2_2 q_6
      have q_6 : none = some o_3 := q_6
      cases q_6
    | succ n ih =>
      intro v1_1 v2_2 q_6 H locs ls hS hl
      rw [LX10_knots_4] at q_6
      refine lv_iload_n hx hb dX10_knots_4 rfl (lv_at hl 2 rfl) ?_
      refine lv_bipush (v := (6 : Int32)) hx hb dX10_knots_5 (by decide) ?_
      refine lv_icmp_ge (tgt := 32) hx hb dX10_knots_7 (by decide) (fun c_8 => ?_) (fun c_8 => ?_)
      · have q_6 := jt q_6 c_8
        obtain rfl := jsm q_6
        exact K_5 _ _ _ hS (lv_sub hl [1] rfl)
      · have q_6 := jf q_6 c_8
        refine lv_iload_n hx hb dX10_knots_10 rfl (lv_at hl 1 rfl) ?_
        refine lv_aload_n hx hb dX10_knots_11 rfl (lv_at hl 0 rfl) ?_
        refine lv_iload_n hx hb dX10_knots_12 rfl (lv_at hl 2 rfl) ?_
        obtain ⟨o_9, h_10, q_6⟩ := jbd q_6
        refine j_Vi (As := [.int v2_2]) (rest := [.int v1_1]) (wf := MW ad cI cZ thrown trace upper lower begins size hasShares wires kind first second times byy group whole frm too isThere way sorts ohms price above belo) (vc := (RX10, TX10, 24)) C hK hS (jcut_all hA hS) (tX10_hasWire l D ad cI cJ cZ cW cS cO cG thrown trace upper lower begins size hasShares wires kind first second times byy group whole frm too isThere way sorts ohms price above belo v2_2 h_10) (cwV 1 hts gX10_knots_X10_hasWire rfl rfl rfl (by decide +kernel) ⟨Nat.le_of_ble_eq_true rfl, Nat.le_of_ble_eq_true rfl⟩) (q0 := 0) rfl (ci := 11) rfl rfl hl.1 rfl (Nat.le_of_ble_eq_true rfl) dX10_knots_13 ⟨Nat.zero_le _, Nat.zero_le _⟩ (fun H locs hS => ?_)
        obtain ⟨o_11, r_13⟩ : ∃ y : Int32, y = (if o_9 = 0 then (0 : Int32) else (1 : Int32)) := ⟨_, rfl⟩
        have q_6 := jlv q_6 r_13
        have K_12 : jW p l e rmX10_knots s m args below meth c 0 0 Q D vwCl A (MW ad cI cZ thrown trace upper lower begins size hasShares wires kind first second times byy group whole frm too isThere way sorts ohms price above belo) 3 [(0, .ref (ad 0)), (2, .int v2_2)] 24 [.int o_11, .int v1_1] := by
          intro H locs ls hS hl
          refine lv_iadd hx hb dX10_knots_24 ?_
          refine lv_topi (fun x_15 ex_15 => ?_)
          have q_6 := jlv q_6 ex_15
          refine lv_istore_n (lv' := [(1, .int x_15), (0, .ref (ad 0)), (2, .int v2_2)]) hx hb dX10_knots_25 rfl hl (by decide) rfl (fun ls hl => ?_)
          obtain ⟨x_16, ex_16⟩ : ∃ y : Int32, y = v2_2 + (1 : Int32) := ⟨_, rfl⟩
          have q_6 := jlv q_6 ex_16
          refine lv_iinc (v := x_16) (lv' := [(2, .int x_16), (1, .int x_15), (0, .ref (ad 0))]) hx hb dX10_knots_26 hl (k := 2) rfl (by rw [ex_16]; rfl) (by decide) rfl (fun ls hl => ?_)
          refine lv_goto (tgt := 4) hx hb dX10_knots_29 (by decide) ?_
          exact ih x_15 x_16 q_6 _ _ _ hS (lv_sub hl [2, 1, 0] rfl)
        refine lv_if_eq (tgt := 23) hx hb dX10_knots_16 (by decide) (fun c_14 => ?_) (fun c_14 => ?_)
        · have r_13 := r_13.trans (if_pos c_14)
          refine lv_iconst (v := (0 : Int32)) hx hb dX10_knots_23 (by decide) ?_
          subst r_13
          exact K_12 _ _ _ hS (lv_sub hl [0, 2] rfl)
        · have r_13 := r_13.trans (if_neg c_14)
          refine lv_iconst (v := (1 : Int32)) hx hb dX10_knots_19 (by decide) ?_
          refine lv_goto (tgt := 24) hx hb dX10_knots_20 (by decide) ?_
          subst r_13
          exact K_12 _ _ _ hS (lv_sub hl [0, 2] rfl)
  exact loop_7 5000 (0 : Int32) (0 : Int32) L_4 _ _ _ hS (lv_sub hl [2, 1, 0] rfl)
def LX10_trees_25 (wires : Int32) (first : Nat → Int32) (second : Nat → Int32) (o_1 : Int32) : Nat → (Int32) → (Int32) → (Nat → Int32) → Option (Int32 × (Nat → Int32))
  | 0, _, _, _ => none
  | n + 1, v2_7, v3_8, group_9 =>
    if ((1 : Int32) <<< (wires &&& 31)) ≤ v3_8 then
    some (v2_7, group_9)
    else
    if o_1 ≤ 0 then
    some (v2_7, group_9)
    else
    (fX10_bits v3_8).bind (fun o_17 => 
    (if o_17 = (o_1 - (1 : Int32)) then
    (fX10_joins v3_8 wires first second group_9).bind (fun o_23 => 
    if o_23.1 = 0 then
    some ((0 : Int32), o_23.2)
    else
    some ((1 : Int32), o_23.2))
    else
    some ((0 : Int32), group_9)).bind (fun o_19 => 
    jlet (v2_7 + o_19.1) (fun x_26 => 
    jlet (v3_8 + (1 : Int32)) (fun x_27 => 
    LX10_trees_25 wires first second o_1 n x_26 x_27 o_19.2))))
def fX10_trees (wires : Int32) (first : Nat → Int32) (second : Nat → Int32) (group : Nat → Int32) : Option (Int32 × Int32 × (Nat → Int32)) :=
  (fX10_knots wires first second).bind (fun o_1 => 
  jlet (if wires = 0 then
  (1 : Int32)
  else
  (0 : Int32)) (fun o_3 => 
  (LX10_trees_25 wires first second o_1 5000 o_3 (0 : Int32) group).bind (fun o_10 => 
  some (o_10.1, (0 : Int32), o_10.2))))
abbrev rmX10_trees : Room := { frames := 2, cells := 0, slots := 0, locals := 45 }
set_option maxHeartbeats 4000000 in
set_option maxRecDepth 100000 in
theorem tX10_trees (l : Launch) (D : va_G) (ad : Nat → Nat) (cI cJ cZ cW cS cO cG : ClassId) (thrown : Int32) (trace : Int64) (upper : Nat → Int32) (lower : Nat → Int32) (begins : Nat → Int32) (size : Int32) (hasShares : Int32) (wires : Int32) (kind : Nat → Int32) (first : Nat → Int32) (second : Nat → Int32) (times : Nat → Int32) (byy : Nat → Int32) (group : Nat → Int32) (whole : Nat → Int32) (frm : Nat → Int32) (too : Nat → Int32) (isThere : Nat → Int32) (way : Nat → Int32) (sorts : Int32) (ohms : Nat → Int32) (price : Nat → Int32) (above : Int64) (belo : Int64) {o : Int32 × Int32 × (Nat → Int32)} (hE : fX10_trees wires first second group = some o) : JMi l yX10_trees wsX10_trees rmX10_trees D vwCl (TY cI cJ cZ cW cS cO cG) [.ref (ad 0)] (MW ad cI cZ thrown trace upper lower begins size hasShares wires kind first second times byy group whole frm too isThere way sorts ohms price above belo) (MW ad cI cZ o.2.1 trace upper lower begins size hasShares wires kind first second times byy o.2.2 whole frm too isThere way sorts ohms price above belo) o.1 := by
  refine JMi.of (cc := cX10_trees) (maxL := 4) (by decide) rfl (Nat.le_of_ble_eq_true rfl) ?_
  intro p e s m args below meth c A ls Q C hK hA ret hS hl
  obtain ⟨⟨hx, hb, hml, hown, hts⟩, -⟩ := id C
  have hl : lv_has ls 4 [(0, .ref (ad 0))] := hl
  have inX10 : ∀ w ∈ u_ws RX10 TX10 24, w ∈ wsX10_trees := by decide +kernel
  have k0 := hts (.fieldLink RX10 59 "OhmNetsModel" "thrown" "I") (by decide +kernel)
  have k1 := hts (.fieldLink RX10 119 "OhmNetsModel" "wires" "I") (by decide +kernel)
  refine lv_aload_n hx hb dX10_trees_0 rfl (lv_at hl 0 rfl) ?_
  refine lv_iconst (v := (0 : Int32)) hx hb dX10_trees_1 (by decide) ?_
  refine j_put (ci := 11) (v := .int (0 : Int32)) (ty := .int) (C := RX10) (T := TX10) (N := 24) (w' := MW ad cI cZ (0 : Int32) trace upper lower begins size hasShares wires kind first second times byy group whole frm too isThere way sorts ohms price above belo) hx hb hts inX10 tyX10 tyX10_ok nmX10 hown hK hS 0 rfl rfl 0 (by decide) k0 (fun _ h => h) rfl (by decide +kernel) rfl rfl (Nat.le_of_ble_eq_true rfl) rfl dX10_trees_2 (fun H locs hS => ?_)
  refine lv_aload_n hx hb dX10_trees_5 rfl (lv_at hl 0 rfl) ?_
  obtain ⟨o_1, h_2, hE⟩ := jbd hE
  refine j_Vi (As := []) (rest := []) (wf := MW ad cI cZ (0 : Int32) trace upper lower begins size hasShares wires kind first second times byy group whole frm too isThere way sorts ohms price above belo) (vc := (RX10, TX10, 24)) C hK hS (jcut_all hA hS) (tX10_knots l D ad cI cJ cZ cW cS cO cG (0 : Int32) trace upper lower begins size hasShares wires kind first second times byy group whole frm too isThere way sorts ohms price above belo h_2) (cwV 0 hts gX10_trees_X10_knots rfl rfl rfl (by decide +kernel) ⟨Nat.le_of_ble_eq_true rfl, Nat.le_of_ble_eq_true rfl⟩) (q0 := 0) rfl (ci := 11) rfl rfl hl.1 rfl (Nat.le_of_ble_eq_true rfl) dX10_trees_6 ⟨Nat.zero_le _, Nat.zero_le _⟩ (fun H locs hS => ?_)
  refine lv_istore_n (lv' := [(1, .int o_1), (0, .ref (ad 0))]) hx hb dX10_trees_9 rfl hl (by decide) rfl (fun ls hl => ?_)
  refine lv_aload_n hx hb dX10_trees_10 rfl (lv_at hl 1 rfl) ?_
  refine va_get (D := D) (ci := 11) (v := .int wires) (C := RX10) (T := TX10) (N := 24) hx hb hts inX10 hown hK hS.1 0 rfl rfl 7 (by decide) k1 (fun _ h => h) rfl dX10_trees_11 ?_
  obtain ⟨o_3, r_5⟩ : ∃ y : Int32, y = (if wires = 0 then (1 : Int32) else (0 : Int32)) := ⟨_, rfl⟩
  have hE := jlv hE r_5
  have K_4 : jW p l e rmX10_trees s m args below meth c 0 0 Q D vwCl A (MW ad cI cZ (0 : Int32) trace upper lower begins size hasShares wires kind first second times byy group whole frm too isThere way sorts ohms price above belo) 4 [(0, .ref (ad 0)), (1, .int o_1)] 22 [.int o_3] := by
    intro H locs ls hS hl
    refine lv_istore_n (lv' := [(2, .int o_3), (0, .ref (ad 0)), (1, .int o_1)]) hx hb dX10_trees_22 rfl hl (by decide) rfl (fun ls hl => ?_)
    refine lv_iconst (v := (0 : Int32)) hx hb dX10_trees_23 (by decide) ?_
    refine lv_istore_n (lv' := [(3, .int (0 : Int32)), (2, .int o_3), (0, .ref (ad 0)), (1, .int o_1)]) hx hb dX10_trees_24 rfl hl (by decide) rfl (fun ls hl => ?_)
    obtain ⟨o_10, L_11, hE⟩ := jbd hE
    have K_12 : jW p l e rmX10_trees s m args below meth c 0 0 Q D vwCl A (MW ad cI cZ (0 : Int32) trace upper lower begins size hasShares wires kind first second times byy o_10.2 whole frm too isThere way sorts ohms price above belo) 4 [(2, .int o_10.1)] 71 [] := by
      intro H locs ls hS hl
      refine lv_iload_n hx hb dX10_trees_71 rfl (lv_at hl 0 rfl) ?_
      obtain rfl := jsm hE
      exact ret hS rfl dX10_trees_72
    have loop_14 : ∀ (n : Nat) (v2_7 : Int32) (v3_8 : Int32) (group_9 : Nat → Int32), LX10_trees_25 wires first second o_1 n v2_7 v3_8 group_9 = some o_10 → jW p l e rmX10_trees s m args below meth c 0 0 Q D vwCl A (MW ad cI cZ (0 : Int32) trace upper lower begins size hasShares wires kind first second times byy group_9 whole frm too isThere way sorts ohms price above belo) 4 [(0, .ref (ad 0)), (1, .int o_1), (2, .int v2_7), (3, .int v3_8)] 25 [] := by
      intro n
      induction n with
      | zero =>
        intro v2_7 v3_8 group_9 q_13
        have q_13 : none = some o_10 := q_13
        cases q_13
      | succ n ih =>
        intro v2_7 v3_8 group_9 q_13 H locs ls hS hl
        rw [LX10_trees_25] at q_13
        refine lv_iload_n hx hb dX10_trees_25 rfl (lv_at hl 3 rfl) ?_
        refine lv_iconst (v := (1 : Int32)) hx hb dX10_trees_26 (by decide) ?_
        refine lv_aload_n hx hb dX10_trees_27 rfl (lv_at hl 0 rfl) ?_
        refine va_get (D := D) (ci := 11) (v := .int wires) (C := RX10) (T := TX10) (N := 24) hx hb hts inX10 hown hK hS.1 0 rfl rfl 7 (by decide) k1 (fun _ h => h) rfl dX10_trees_28 ?_
        refine lv_ishl hx hb dX10_trees_31 ?_
        refine lv_icmp_ge (tgt := 71) hx hb dX10_trees_32 (by decide) (fun c_15 => ?_) (fun c_15 => ?_)
        · have q_13 := jt q_13 c_15
          obtain rfl := jsm q_13
          exact K_12 _ _ _ hS (lv_sub hl [2] rfl)
        · have q_13 := jf q_13 c_15
          refine lv_iload_n hx hb dX10_trees_35 rfl (lv_at hl 1 rfl) ?_
          refine lv_if_le (tgt := 71) hx hb dX10_trees_36 (by decide) (fun c_16 => ?_) (fun c_16 => ?_)
          · have q_13 := jt q_13 c_16
            obtain rfl := jsm q_13
            exact K_12 _ _ _ hS (lv_sub hl [2] rfl)
          · have q_13 := jf q_13 c_16
            refine lv_iload_n hx hb dX10_trees_39 rfl (lv_at hl 2 rfl) ?_
            refine lv_iload_n hx hb dX10_trees_40 rfl (lv_at hl 3 rfl) ?_
            obtain ⟨o_17, h_18, q_13⟩ := jbd q_13
            refine j_Si (As := [.int v3_8]) (rest := [.int v2_7]) (wf := MW ad cI cZ (0 : Int32) trace upper lower begins size hasShares wires kind first second times byy group_9 whole frm too isThere way sorts ohms price above belo) C hK hS (jcut_nil hA hS) (tX10_bits l D cI cJ cZ cW cS cO cG v3_8 h_18) (va_cwS 1 hts gX10_trees_X10_bits rfl rfl rfl (by decide +kernel) ⟨Nat.le_of_ble_eq_true rfl, Nat.le_of_ble_eq_true rfl⟩) rfl hl.1 rfl (Nat.le_of_ble_eq_true rfl) dX10_trees_41 ⟨Nat.zero_le _, Nat.zero_le _⟩ (fun H locs hS => ?_)
            refine lv_iload_n hx hb dX10_trees_44 rfl (lv_at hl 1 rfl) ?_
            refine lv_iconst (v := (1 : Int32)) hx hb dX10_trees_45 (by decide) ?_
            refine lv_isub hx hb dX10_trees_46 ?_
            obtain ⟨o_19, r_21, q_13⟩ := jbd q_13
            have K_20 : jW p l e rmX10_trees s m args below meth c 0 0 Q D vwCl A (MW ad cI cZ (0 : Int32) trace upper lower begins size hasShares wires kind first second times byy o_19.2 whole frm too isThere way sorts ohms price above belo) 4 [(0, .ref (ad 0)), (1, .int o_1), (3, .int v3_8)] 63 [.int o_19.1, .int v2_7] := by
              intro H locs ls hS hl
              refine lv_iadd hx hb dX10_trees_63 ?_
              refine lv_topi (fun x_26 ex_26 => ?_)
              have q_13 := jlv q_13 ex_26
              refine lv_istore_n (lv' := [(2, .int x_26), (0, .ref (ad 0)), (1, .int o_1), (3, .int v3_8)]) hx hb dX10_trees_64 rfl hl (by decide) rfl (fun ls hl => ?_)
              obtain ⟨x_27, ex_27⟩ : ∃ y : Int32, y = v3_8 + (1 : Int32) := ⟨_, rfl⟩
              have q_13 := jlv q_13 ex_27
              refine lv_iinc (v := x_27) (lv' := [(3, .int x_27), (2, .int x_26), (0, .ref (ad 0)), (1, .int o_1)]) hx hb dX10_trees_65 hl (k := 3) rfl (by rw [ex_27]; rfl) (by decide) rfl (fun ls hl => ?_)
              refine lv_goto (tgt := 25) hx hb dX10_trees_68 (by decide) ?_
              exact ih x_26 x_27 o_19.2 q_13 _ _ _ hS (lv_sub hl [2, 3, 1, 0] rfl)
            refine lv_icmp_ne (tgt := 62) hx hb dX10_trees_47 (by decide) (fun c_22 => ?_) (fun c_22 => ?_)
            · have r_21 := jf r_21 c_22
              refine lv_iconst (v := (0 : Int32)) hx hb dX10_trees_62 (by decide) ?_
              obtain rfl := jsm r_21
              exact K_20 _ _ _ hS (lv_sub hl [0, 1, 3] rfl)
            · have r_21 := jt r_21 c_22
              refine lv_aload_n hx hb dX10_trees_50 rfl (lv_at hl 0 rfl) ?_
              refine lv_iload_n hx hb dX10_trees_51 rfl (lv_at hl 3 rfl) ?_
              obtain ⟨o_23, h_24, r_21⟩ := jbd r_21
              refine j_Vi (As := [.int v3_8]) (rest := [.int v2_7]) (wf := MW ad cI cZ (0 : Int32) trace upper lower begins size hasShares wires kind first second times byy o_23.2 whole frm too isThere way sorts ohms price above belo) (vc := (RX10, TX10, 24)) C hK hS (jcut_all hA hS) (tX10_joins l D ad cI cJ cZ cW cS cO cG (0 : Int32) trace upper lower begins size hasShares wires kind first second times byy group_9 whole frm too isThere way sorts ohms price above belo v3_8 h_24) (cwV 1 hts gX10_trees_X10_joins rfl rfl rfl (by decide +kernel) ⟨Nat.le_of_ble_eq_true rfl, Nat.le_of_ble_eq_true rfl⟩) (q0 := 0) rfl (ci := 11) rfl rfl hl.1 rfl (Nat.le_of_ble_eq_true rfl) dX10_trees_52 ⟨Nat.zero_le _, Nat.zero_le _⟩ (fun H locs hS => ?_)
              refine lv_if_eq (tgt := 62) hx hb dX10_trees_55 (by decide) (fun c_25 => ?_) (fun c_25 => ?_)
              · have r_21 := jt r_21 c_25
                refine lv_iconst (v := (0 : Int32)) hx hb dX10_trees_62 (by decide) ?_
                obtain rfl := jsm r_21
                exact K_20 _ _ _ hS (lv_sub hl [0, 1, 3] rfl)
              · have r_21 := jf r_21 c_25
                refine lv_iconst (v := (1 : Int32)) hx hb dX10_trees_58 (by decide) ?_
                refine lv_goto (tgt := 63) hx hb dX10_trees_59 (by decide) ?_
                obtain rfl := jsm r_21
                exact K_20 _ _ _ hS (lv_sub hl [0, 1, 3] rfl)
    exact loop_14 5000 o_3 (0 : Int32) group L_11 _ _ _ hS (lv_sub hl [2, 3, 1, 0] rfl)
  refine lv_if_ne (tgt := 21) hx hb dX10_trees_14 (by decide) (fun c_6 => ?_) (fun c_6 => ?_)
  · have r_5 := r_5.trans (if_neg c_6)
    refine lv_iconst (v := (0 : Int32)) hx hb dX10_trees_21 (by decide) ?_
    subst r_5
    exact K_4 _ _ _ hS (lv_sub hl [1, 0] rfl)
  · have r_5 := r_5.trans (if_pos c_6)
    refine lv_iconst (v := (1 : Int32)) hx hb dX10_trees_17 (by decide) ?_
    refine lv_goto (tgt := 22) hx hb dX10_trees_18 (by decide) ?_
    subst r_5
    exact K_4 _ _ _ hS (lv_sub hl [1, 0] rfl)
