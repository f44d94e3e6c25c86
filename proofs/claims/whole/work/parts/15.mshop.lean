def fX10_sort (a1 : Int32) (a2 : Int32) (sorts : Int32) (ohms : Nat → Int32) (price : Nat → Int32) : Option (Int32 × Int32 × Int32 × (Nat → Int32) × (Nat → Int32)) :=
  (fX10_in a1 (1 : Int32) (100 : Int32)).bind (fun o_1 => 
  if o_1 = 0 then
  some ((-1 : Int32), (0 : Int32), sorts, ohms, price)
  else
  (fX10_in a2 (1 : Int32) (50 : Int32)).bind (fun o_4 => 
  if o_4 = 0 then
  some ((-1 : Int32), (0 : Int32), sorts, ohms, price)
  else
  if sorts = (6 : Int32) then
  some ((-3 : Int32), (0 : Int32), sorts, ohms, price)
  else
  if jok sorts 6 then
  jlet (upd ohms sorts.toNatClampNeg a1) (fun ohms_9 => 
  jlet (upd price sorts.toNatClampNeg a2) (fun price_10 => 
  some (((sorts + (1 : Int32)) - (1 : Int32)), (0 : Int32), (sorts + (1 : Int32)), ohms_9, price_10)))
  else none))
abbrev rmX10_sort : Room := { frames := 1, cells := 0, slots := 0, locals := 22 }
set_option maxHeartbeats 4000000 in
set_option maxRecDepth 100000 in
theorem tX10_sort (l : Launch) (D : va_G) (ad : Nat → Nat) (cI cJ cZ cW cS cO cG : ClassId) (thrown : Int32) (trace : Int64) (upper : Nat → Int32) (lower : Nat → Int32) (begins : Nat → Int32) (size : Int32) (hasShares : Int32) (wires : Int32) (kind : Nat → Int32) (first : Nat → Int32) (second : Nat → Int32) (times : Nat → Int32) (byy : Nat → Int32) (group : Nat → Int32) (whole : Nat → Int32) (frm : Nat → Int32) (too : Nat → Int32) (isThere : Nat → Int32) (way : Nat → Int32) (sorts : Int32) (ohms : Nat → Int32) (price : Nat → Int32) (above : Int64) (belo : Int64) (a1 : Int32) (a2 : Int32) {o : Int32 × Int32 × Int32 × (Nat → Int32) × (Nat → Int32)} (hE : fX10_sort a1 a2 sorts ohms price = some o) : JMi l yX10_sort wsX10_sort rmX10_sort D vwCl (TY cI cJ cZ cW cS cO cG) [.ref (ad 0), .int a1, .int a2] (MW ad cI cZ thrown trace upper lower begins size hasShares wires kind first second times byy group whole frm too isThere way sorts ohms price above belo) (MW ad cI cZ o.2.1 trace upper lower begins size hasShares wires kind first second times byy group whole frm too isThere way o.2.2.1 o.2.2.2.1 o.2.2.2.2 above belo) o.1 := by
  refine JMi.of (cc := cX10_sort) (maxL := 3) (by decide) rfl (Nat.le_of_ble_eq_true rfl) ?_
  intro p e s m args below meth c A ls Q C hK hA ret hS hl
  obtain ⟨⟨hx, hb, hml, hown, hts⟩, -⟩ := id C
  have hl : lv_has ls 3 [(0, .ref (ad 0)), (1, .int a1), (2, .int a2)] := hl
  have inX10 : ∀ w ∈ u_ws RX10 TX10 24, w ∈ wsX10_sort := by decide +kernel
  have k0 := hts (.fieldLink RX10 59 "OhmNetsModel" "thrown" "I") (by decide +kernel)
  have k1 := hts (.fieldLink RX10 180 "OhmNetsModel" "sorts" "I") (by decide +kernel)
  have k2 := hts (.fieldLink RX10 53 "OhmNetsModel" "ohms" "[I") (by decide +kernel)
  have k3 := hts (.fieldLink RX10 56 "OhmNetsModel" "price" "[I") (by decide +kernel)
  refine lv_aload_n hx hb dX10_sort_0 rfl (lv_at hl 0 rfl) ?_
  refine lv_iconst (v := (0 : Int32)) hx hb dX10_sort_1 (by decide) ?_
  refine j_put (ci := 11) (v := .int (0 : Int32)) (ty := .int) (C := RX10) (T := TX10) (N := 24) (w' := MW ad cI cZ (0 : Int32) trace upper lower begins size hasShares wires kind first second times byy group whole frm too isThere way sorts ohms price above belo) hx hb hts inX10 tyX10 tyX10_ok nmX10 hown hK hS 0 rfl rfl 0 (by decide) k0 (fun _ h => h) rfl (by decide +kernel) rfl rfl (Nat.le_of_ble_eq_true rfl) rfl dX10_sort_2 (fun H locs hS => ?_)
  refine lv_iload_n hx hb dX10_sort_5 rfl (lv_at hl 1 rfl) ?_
  refine lv_iconst (v := (1 : Int32)) hx hb dX10_sort_6 (by decide) ?_
  refine lv_bipush (v := (100 : Int32)) hx hb dX10_sort_7 (by decide) ?_
  obtain ⟨o_1, h_2, hE⟩ := jbd hE
  refine j_Si (As := [.int a1, .int (1 : Int32), .int (100 : Int32)]) (rest := []) (wf := MW ad cI cZ (0 : Int32) trace upper lower begins size hasShares wires kind first second times byy group whole frm too isThere way sorts ohms price above belo) C hK hS (jcut_nil hA hS) (tX10_in l D cI cJ cZ cW cS cO cG a1 (1 : Int32) (100 : Int32) h_2) (va_cwS 3 hts gX10_sort_X10_in rfl rfl rfl (by decide +kernel) ⟨Nat.le_of_ble_eq_true rfl, Nat.le_of_ble_eq_true rfl⟩) rfl hl.1 rfl (Nat.le_of_ble_eq_true rfl) dX10_sort_9 ⟨Nat.zero_le _, Nat.zero_le _⟩ (fun H locs hS => ?_)
  refine lv_if_eq (tgt := 25) hx hb dX10_sort_12 (by decide) (fun c_3 => ?_) (fun c_3 => ?_)
  · have hE := jt hE c_3
    refine lv_iconst (v := (-1 : Int32)) hx hb dX10_sort_25 (by decide) ?_
    obtain rfl := jsm hE
    exact ret hS rfl dX10_sort_26
  · have hE := jf hE c_3
    refine lv_iload_n hx hb dX10_sort_15 rfl (lv_at hl 2 rfl) ?_
    refine lv_iconst (v := (1 : Int32)) hx hb dX10_sort_16 (by decide) ?_
    refine lv_bipush (v := (50 : Int32)) hx hb dX10_sort_17 (by decide) ?_
    obtain ⟨o_4, h_5, hE⟩ := jbd hE
    refine j_Si (As := [.int a2, .int (1 : Int32), .int (50 : Int32)]) (rest := []) (wf := MW ad cI cZ (0 : Int32) trace upper lower begins size hasShares wires kind first second times byy group whole frm too isThere way sorts ohms price above belo) C hK hS (jcut_nil hA hS) (tX10_in l D cI cJ cZ cW cS cO cG a2 (1 : Int32) (50 : Int32) h_5) (va_cwS 3 hts gX10_sort_X10_in rfl rfl rfl (by decide +kernel) ⟨Nat.le_of_ble_eq_true rfl, Nat.le_of_ble_eq_true rfl⟩) rfl hl.1 rfl (Nat.le_of_ble_eq_true rfl) dX10_sort_19 ⟨Nat.zero_le _, Nat.zero_le _⟩ (fun H locs hS => ?_)
    refine lv_if_ne (tgt := 27) hx hb dX10_sort_22 (by decide) (fun c_6 => ?_) (fun c_6 => ?_)
    · have hE := jf hE c_6
      refine lv_aload_n hx hb dX10_sort_27 rfl (lv_at hl 0 rfl) ?_
      refine va_get (D := D) (ci := 11) (v := .int sorts) (C := RX10) (T := TX10) (N := 24) hx hb hts inX10 hown hK hS.1 0 rfl rfl 19 (by decide) k1 (fun _ h => h) rfl dX10_sort_28 ?_
      refine lv_bipush (v := (6 : Int32)) hx hb dX10_sort_31 (by decide) ?_
      refine lv_icmp_ne (tgt := 39) hx hb dX10_sort_33 (by decide) (fun c_7 => ?_) (fun c_7 => ?_)
      · have hE := jf hE c_7
        refine lv_aload_n hx hb dX10_sort_39 rfl (lv_at hl 0 rfl) ?_
        refine va_get (D := D) (ci := 11) (v := .ref (ad 15)) (C := RX10) (T := TX10) (N := 24) hx hb hts inX10 hown hK hS.1 0 rfl rfl 20 (by decide) k2 (fun _ h => h) rfl dX10_sort_40 ?_
        refine lv_aload_n hx hb dX10_sort_43 rfl (lv_at hl 0 rfl) ?_
        refine va_get (D := D) (ci := 11) (v := .int sorts) (C := RX10) (T := TX10) (N := 24) hx hb hts inX10 hown hK hS.1 0 rfl rfl 19 (by decide) k1 (fun _ h => h) rfl dX10_sort_44 ?_
        refine lv_iload_n hx hb dX10_sort_47 rfl (lv_at hl 1 rfl) ?_
        obtain ⟨b_8, hE⟩ := jgd hE
        obtain ⟨ohms_9, eohms_9⟩ : ∃ y : Nat → Int32, y = upd ohms sorts.toNatClampNeg a1 := ⟨_, rfl⟩
        have hE := jlv hE eohms_9
        refine j_iast (w' := MW ad cI cZ (0 : Int32) trace upper lower begins size hasShares wires kind first second times byy group whole frm too isThere way sorts ohms_9 price above belo) hx hb hK hS 15 0 rfl rfl (jin.mpr b_8) (by rw [eohms_9]; rfl) dX10_sort_48 (fun H locs hS => ?_)
        refine lv_aload_n hx hb dX10_sort_49 rfl (lv_at hl 0 rfl) ?_
        refine va_get (D := D) (ci := 11) (v := .ref (ad 16)) (C := RX10) (T := TX10) (N := 24) hx hb hts inX10 hown hK hS.1 0 rfl rfl 21 (by decide) k3 (fun _ h => h) rfl dX10_sort_50 ?_
        refine lv_aload_n hx hb dX10_sort_53 rfl (lv_at hl 0 rfl) ?_
        refine va_get (D := D) (ci := 11) (v := .int sorts) (C := RX10) (T := TX10) (N := 24) hx hb hts inX10 hown hK hS.1 0 rfl rfl 19 (by decide) k1 (fun _ h => h) rfl dX10_sort_54 ?_
        refine lv_iload_n hx hb dX10_sort_57 rfl (lv_at hl 2 rfl) ?_
        obtain ⟨price_10, eprice_10⟩ : ∃ y : Nat → Int32, y = upd price sorts.toNatClampNeg a2 := ⟨_, rfl⟩
        have hE := jlv hE eprice_10
        refine j_iast (w' := MW ad cI cZ (0 : Int32) trace upper lower begins size hasShares wires kind first second times byy group whole frm too isThere way sorts ohms_9 price_10 above belo) hx hb hK hS 16 0 rfl rfl (jin.mpr b_8) (by rw [eprice_10]; rfl) dX10_sort_58 (fun H locs hS => ?_)
        refine lv_aload_n hx hb dX10_sort_59 rfl (lv_at hl 0 rfl) ?_
        refine lv_dup hx hb dX10_sort_60 rfl ?_
        refine va_get (D := D) (ci := 11) (v := .int sorts) (C := RX10) (T := TX10) (N := 24) hx hb hts inX10 hown hK hS.1 0 rfl rfl 19 (by decide) k1 (fun _ h => h) rfl dX10_sort_61 ?_
        refine lv_iconst (v := (1 : Int32)) hx hb dX10_sort_64 (by decide) ?_
        refine lv_iadd hx hb dX10_sort_65 ?_
        refine j_put (ci := 11) (v := .int (sorts + (1 : Int32))) (ty := .int) (C := RX10) (T := TX10) (N := 24) (w' := MW ad cI cZ (0 : Int32) trace upper lower begins size hasShares wires kind first second times byy group whole frm too isThere way (sorts + (1 : Int32)) ohms_9 price_10 above belo) hx hb hts inX10 tyX10 tyX10_ok nmX10 hown hK hS 0 rfl rfl 19 (by decide) k1 (fun _ h => h) rfl (by decide +kernel) rfl rfl (Nat.le_of_ble_eq_true rfl) rfl dX10_sort_66 (fun H locs hS => ?_)
        refine lv_aload_n hx hb dX10_sort_69 rfl (lv_at hl 0 rfl) ?_
        refine va_get (D := D) (ci := 11) (v := .int (sorts + (1 : Int32))) (C := RX10) (T := TX10) (N := 24) hx hb hts inX10 hown hK hS.1 0 rfl rfl 19 (by decide) k1 (fun _ h => h) rfl dX10_sort_70 ?_
        refine lv_iconst (v := (1 : Int32)) hx hb dX10_sort_73 (by decide) ?_
        refine lv_isub hx hb dX10_sort_74 ?_
        obtain rfl := jsm hE
        exact ret hS rfl dX10_sort_75
      · have hE := jt hE c_7
        refine lv_bipush (v := (-3 : Int32)) hx hb dX10_sort_36 (by decide) ?_
        obtain rfl := jsm hE
        exact ret hS rfl dX10_sort_38
    · have hE := jt hE c_6
      refine lv_iconst (v := (-1 : Int32)) hx hb dX10_sort_25 (by decide) ?_
      obtain rfl := jsm hE
      exact ret hS rfl dX10_sort_26
def fX10_isChoice (a1 : Int32) (sorts : Int32) : Option (Int32) :=
  if (100 : Int32) ≤ a1 then
  jlet ((a1 - a1 / (100 : Int32) * (100 : Int32)) / (10 : Int32)) (fun x_2 => 
  if (300 : Int32) ≤ a1 then
  some (0 : Int32)
  else
  if (a1 - a1 / (10 : Int32) * (10 : Int32)) < x_2 then
  some (0 : Int32)
  else
  if sorts ≤ (a1 - a1 / (10 : Int32) * (10 : Int32)) then
  some (0 : Int32)
  else
  some (1 : Int32))
  else
  (fX10_in a1 (0 : Int32) (sorts - (1 : Int32))).bind (fun o_6 => 
  if o_6 &&& 1 = o_6 then
  some o_6
  else none)
abbrev rmX10_isChoice : Room := { frames := 1, cells := 0, slots := 0, locals := 22 }
set_option maxHeartbeats 4000000 in
set_option maxRecDepth 100000 in
theorem tX10_isChoice (l : Launch) (D : va_G) (ad : Nat → Nat) (cI cJ cZ cW cS cO cG : ClassId) (thrown : Int32) (trace : Int64) (upper : Nat → Int32) (lower : Nat → Int32) (begins : Nat → Int32) (size : Int32) (hasShares : Int32) (wires : Int32) (kind : Nat → Int32) (first : Nat → Int32) (second : Nat → Int32) (times : Nat → Int32) (byy : Nat → Int32) (group : Nat → Int32) (whole : Nat → Int32) (frm : Nat → Int32) (too : Nat → Int32) (isThere : Nat → Int32) (way : Nat → Int32) (sorts : Int32) (ohms : Nat → Int32) (price : Nat → Int32) (above : Int64) (belo : Int64) (a1 : Int32) {o : Int32} (hE : fX10_isChoice a1 sorts = some o) : JMi l yX10_isChoice wsX10_isChoice rmX10_isChoice D vwCl (TY cI cJ cZ cW cS cO cG) [.ref (ad 0), .int a1] (MW ad cI cZ thrown trace upper lower begins size hasShares wires kind first second times byy group whole frm too isThere way sorts ohms price above belo) (MW ad cI cZ thrown trace upper lower begins size hasShares wires kind first second times byy group whole frm too isThere way sorts ohms price above belo) o := by
  refine JMi.of (cc := cX10_isChoice) (maxL := 3) (by decide) rfl (Nat.le_of_ble_eq_true rfl) ?_
  intro p e s m args below meth c A ls Q C hK hA ret hS hl
  obtain ⟨⟨hx, hb, hml, hown, hts⟩, -⟩ := id C
  have hl : lv_has ls 3 [(0, .ref (ad 0)), (1, .int a1)] := hl
  have inX10 : ∀ w ∈ u_ws RX10 TX10 24, w ∈ wsX10_isChoice := by decide +kernel
  have k0 := hts (.fieldLink RX10 180 "OhmNetsModel" "sorts" "I") (by decide +kernel)
  refine lv_iload_n hx hb dX10_isChoice_0 rfl (lv_at hl 1 rfl) ?_
  refine lv_bipush (v := (100 : Int32)) hx hb dX10_isChoice_1 (by decide) ?_
  refine lv_icmp_ge (tgt := 18) hx hb dX10_isChoice_3 (by decide) (fun c_1 => ?_) (fun c_1 => ?_)
  · have hE := jt hE c_1
    refine lv_iload_n hx hb dX10_isChoice_18 rfl (lv_at hl 1 rfl) ?_
    refine lv_bipush (v := (100 : Int32)) hx hb dX10_isChoice_19 (by decide) ?_
    refine lv_irem hx hb dX10_isChoice_21 (by decide) ?_
    refine lv_bipush (v := (10 : Int32)) hx hb dX10_isChoice_22 (by decide) ?_
    refine lv_idiv hx hb dX10_isChoice_24 (by decide) ?_
    refine lv_topi (fun x_2 ex_2 => ?_)
    have hE := jlv hE ex_2
    refine lv_istore_n (lv' := [(2, .int x_2), (0, .ref (ad 0)), (1, .int a1)]) hx hb dX10_isChoice_25 rfl hl (by decide) rfl (fun ls hl => ?_)
    refine lv_iload_n hx hb dX10_isChoice_26 rfl (lv_at hl 2 rfl) ?_
    refine lv_sipush (v := (300 : Int32)) hx hb dX10_isChoice_27 (by decide) ?_
    refine lv_icmp_ge (tgt := 56) hx hb dX10_isChoice_30 (by decide) (fun c_3 => ?_) (fun c_3 => ?_)
    · have hE := jt hE c_3
      refine lv_iconst (v := (0 : Int32)) hx hb dX10_isChoice_56 (by decide) ?_
      obtain rfl := jsm hE
      exact ret hS jb0 dX10_isChoice_57
    · have hE := jf hE c_3
      refine lv_iload_n hx hb dX10_isChoice_33 rfl (lv_at hl 0 rfl) ?_
      refine lv_iload_n hx hb dX10_isChoice_34 rfl (lv_at hl 2 rfl) ?_
      refine lv_bipush (v := (10 : Int32)) hx hb dX10_isChoice_35 (by decide) ?_
      refine lv_irem hx hb dX10_isChoice_37 (by decide) ?_
      refine lv_icmp_gt (tgt := 56) hx hb dX10_isChoice_38 (by decide) (fun c_4 => ?_) (fun c_4 => ?_)
      · have hE := jt hE c_4
        refine lv_iconst (v := (0 : Int32)) hx hb dX10_isChoice_56 (by decide) ?_
        obtain rfl := jsm hE
        exact ret hS jb0 dX10_isChoice_57
      · have hE := jf hE c_4
        refine lv_iload_n hx hb dX10_isChoice_41 rfl (lv_at hl 2 rfl) ?_
        refine lv_bipush (v := (10 : Int32)) hx hb dX10_isChoice_42 (by decide) ?_
        refine lv_irem hx hb dX10_isChoice_44 (by decide) ?_
        refine lv_aload_n hx hb dX10_isChoice_45 rfl (lv_at hl 1 rfl) ?_
        refine va_get (D := D) (ci := 11) (v := .int sorts) (C := RX10) (T := TX10) (N := 24) hx hb hts inX10 hown hK hS.1 0 rfl rfl 19 (by decide) k0 (fun _ h => h) rfl dX10_isChoice_46 ?_
        refine lv_icmp_ge (tgt := 56) hx hb dX10_isChoice_49 (by decide) (fun c_5 => ?_) (fun c_5 => ?_)
        · have hE := jt hE c_5
          refine lv_iconst (v := (0 : Int32)) hx hb dX10_isChoice_56 (by decide) ?_
          obtain rfl := jsm hE
          exact ret hS jb0 dX10_isChoice_57
        · have hE := jf hE c_5
          refine lv_iconst (v := (1 : Int32)) hx hb dX10_isChoice_52 (by decide) ?_
          refine lv_goto (tgt := 57) hx hb dX10_isChoice_53 (by decide) ?_
          obtain rfl := jsm hE
          exact ret hS jb1 dX10_isChoice_57
  · have hE := jf hE c_1
    refine lv_iload_n hx hb dX10_isChoice_6 rfl (lv_at hl 1 rfl) ?_
    refine lv_iconst (v := (0 : Int32)) hx hb dX10_isChoice_7 (by decide) ?_
    refine lv_aload_n hx hb dX10_isChoice_8 rfl (lv_at hl 0 rfl) ?_
    refine va_get (D := D) (ci := 11) (v := .int sorts) (C := RX10) (T := TX10) (N := 24) hx hb hts inX10 hown hK hS.1 0 rfl rfl 19 (by decide) k0 (fun _ h => h) rfl dX10_isChoice_9 ?_
    refine lv_iconst (v := (1 : Int32)) hx hb dX10_isChoice_12 (by decide) ?_
    refine lv_isub hx hb dX10_isChoice_13 ?_
    obtain ⟨o_6, h_7, hE⟩ := jbd hE
    refine j_Si (As := [.int a1, .int (0 : Int32), .int (sorts - (1 : Int32))]) (rest := []) (wf := MW ad cI cZ thrown trace upper lower begins size hasShares wires kind first second times byy group whole frm too isThere way sorts ohms price above belo) C hK hS (jcut_nil hA hS) (tX10_in l D cI cJ cZ cW cS cO cG a1 (0 : Int32) (sorts - (1 : Int32)) h_7) (va_cwS 3 hts gX10_isChoice_X10_in rfl rfl rfl (by decide +kernel) ⟨Nat.le_of_ble_eq_true rfl, Nat.le_of_ble_eq_true rfl⟩) rfl hl.1 rfl (Nat.le_of_ble_eq_true rfl) dX10_isChoice_14 ⟨Nat.zero_le _, Nat.zero_le _⟩ (fun H locs hS => ?_)
    obtain ⟨z_8, hE⟩ := jgd hE
    obtain rfl := jsm hE
    exact ret hS (jbool z_8) dX10_isChoice_17
def fX10_looks (a1 : Int32) (ohms : Nat → Int32) (price : Nat → Int32) : Option (Int32 × Int64 × Int64) :=
  jlet (if (100 : Int32) ≤ a1 then
  ((a1 - a1 / (100 : Int32) * (100 : Int32)) / (10 : Int32))
  else
  a1) (fun o_1 => 
  jlet (a1 - a1 / (10 : Int32) * (10 : Int32)) (fun x_5 => 
  if (100 : Int32) ≤ a1 then
  if jok o_1 6 then
  if jok x_5 6 then
  jlet ((ohms o_1.toNatClampNeg) + (ohms x_5.toNatClampNeg)) (fun x_9 => 
  (if (200 : Int32) ≤ a1 then
  (fX10_least ((ohms o_1.toNatClampNeg).toInt64 * (ohms x_5.toNatClampNeg).toInt64) x_9.toInt64).bind (fun o_14 => 
  some (o_14.1, o_14.2))
  else
  (fX10_least x_9.toInt64 (1 : Int64)).bind (fun o_16 => 
  some (o_16.1, o_16.2))).bind (fun o_10 => 
  some (((price o_1.toNatClampNeg) + (price x_5.toNatClampNeg)), o_10.1, o_10.2)))
  else none
  else none
  else
  if jok o_1 6 then
  (fX10_least ((ohms o_1.toNatClampNeg).toInt64) (1 : Int64)).bind (fun o_19 => 
  some ((price o_1.toNatClampNeg), o_19.1, o_19.2))
  else none))
abbrev rmX10_looks : Room := { frames := 2, cells := 0, slots := 0, locals := 55 }
set_option maxHeartbeats 4000000 in
set_option maxRecDepth 100000 in
theorem tX10_looks (l : Launch) (D : va_G) (ad : Nat → Nat) (cI cJ cZ cW cS cO cG : ClassId) (thrown : Int32) (trace : Int64) (upper : Nat → Int32) (lower : Nat → Int32) (begins : Nat → Int32) (size : Int32) (hasShares : Int32) (wires : Int32) (kind : Nat → Int32) (first : Nat → Int32) (second : Nat → Int32) (times : Nat → Int32) (byy : Nat → Int32) (group : Nat → Int32) (whole : Nat → Int32) (frm : Nat → Int32) (too : Nat → Int32) (isThere : Nat → Int32) (way : Nat → Int32) (sorts : Int32) (ohms : Nat → Int32) (price : Nat → Int32) (above : Int64) (belo : Int64) (a1 : Int32) {o : Int32 × Int64 × Int64} (hE : fX10_looks a1 ohms price = some o) : JMi l yX10_looks wsX10_looks rmX10_looks D vwCl (TY cI cJ cZ cW cS cO cG) [.ref (ad 0), .int a1] (MW ad cI cZ thrown trace upper lower begins size hasShares wires kind first second times byy group whole frm too isThere way sorts ohms price above belo) (MW ad cI cZ thrown trace upper lower begins size hasShares wires kind first second times byy group whole frm too isThere way sorts ohms price o.2.1 o.2.2) o.1 := by
  refine JMi.of (cc := cX10_looks) (maxL := 5) (by decide) rfl (Nat.le_of_ble_eq_true rfl) ?_
  intro p e s m args below meth c A ls Q C hK hA ret hS hl
  obtain ⟨⟨hx, hb, hml, hown, hts⟩, -⟩ := id C
  have hl : lv_has ls 5 [(0, .ref (ad 0)), (1, .int a1)] := hl
  have inX10 : ∀ w ∈ u_ws RX10 TX10 24, w ∈ wsX10_looks := by decide +kernel
  have k0 := hts (.fieldLink RX10 53 "OhmNetsModel" "ohms" "[I") (by decide +kernel)
  have k1 := hts (.fieldLink RX10 56 "OhmNetsModel" "price" "[I") (by decide +kernel)
  refine lv_iload_n hx hb dX10_looks_0 rfl (lv_at hl 1 rfl) ?_
  refine lv_bipush (v := (100 : Int32)) hx hb dX10_looks_1 (by decide) ?_
  obtain ⟨o_1, r_3⟩ : ∃ y : Int32, y = (if (100 : Int32) ≤ a1 then ((a1 - a1 / (100 : Int32) * (100 : Int32)) / (10 : Int32)) else a1) := ⟨_, rfl⟩
  have hE := jlv hE r_3
  have K_2 : jW p l e rmX10_looks s m args below meth c 0 0 Q D vwCl A (MW ad cI cZ thrown trace upper lower begins size hasShares wires kind first second times byy group whole frm too isThere way sorts ohms price above belo) 5 [(0, .ref (ad 0)), (1, .int a1)] 17 [.int o_1] := by
    intro H locs ls hS hl
    refine lv_istore_n (lv' := [(2, .int o_1), (0, .ref (ad 0)), (1, .int a1)]) hx hb dX10_looks_17 rfl hl (by decide) rfl (fun ls hl => ?_)
    refine lv_iload_n hx hb dX10_looks_18 rfl (lv_at hl 2 rfl) ?_
    refine lv_bipush (v := (10 : Int32)) hx hb dX10_looks_19 (by decide) ?_
    refine lv_irem hx hb dX10_looks_21 (by decide) ?_
    refine lv_topi (fun x_5 ex_5 => ?_)
    have hE := jlv hE ex_5
    refine lv_istore_n (lv' := [(3, .int x_5), (2, .int o_1), (0, .ref (ad 0)), (1, .int a1)]) hx hb dX10_looks_22 rfl hl (by decide) rfl (fun ls hl => ?_)
    refine lv_iload_n hx hb dX10_looks_23 rfl (lv_at hl 3 rfl) ?_
    refine lv_bipush (v := (100 : Int32)) hx hb dX10_looks_24 (by decide) ?_
    refine lv_icmp_ge (tgt := 48) hx hb dX10_looks_26 (by decide) (fun c_6 => ?_) (fun c_6 => ?_)
    · have hE := jt hE c_6
      refine lv_aload_n hx hb dX10_looks_48 rfl (lv_at hl 2 rfl) ?_
      refine va_get (D := D) (ci := 11) (v := .ref (ad 15)) (C := RX10) (T := TX10) (N := 24) hx hb hts inX10 hown hK hS.1 0 rfl rfl 20 (by decide) k0 (fun _ h => h) rfl dX10_looks_49 ?_
      refine lv_iload_n hx hb dX10_looks_52 rfl (lv_at hl 1 rfl) ?_
      obtain ⟨b_7, hE⟩ := jgd hE
      refine va_iald hx hb hK hS.1 15 0 rfl rfl (jin.mpr b_7) dX10_looks_53 ?_
      refine lv_aload_n hx hb dX10_looks_54 rfl (lv_at hl 2 rfl) ?_
      refine va_get (D := D) (ci := 11) (v := .ref (ad 15)) (C := RX10) (T := TX10) (N := 24) hx hb hts inX10 hown hK hS.1 0 rfl rfl 20 (by decide) k0 (fun _ h => h) rfl dX10_looks_55 ?_
      refine lv_iload_n hx hb dX10_looks_58 rfl (lv_at hl 0 rfl) ?_
      obtain ⟨b_8, hE⟩ := jgd hE
      refine va_iald hx hb hK hS.1 15 0 rfl rfl (jin.mpr b_8) dX10_looks_59 ?_
      refine lv_iadd hx hb dX10_looks_60 ?_
      refine lv_topi (fun x_9 ex_9 => ?_)
      have hE := jlv hE ex_9
      refine lv_istore (lv' := [(4, .int x_9), (3, .int x_5), (2, .int o_1), (0, .ref (ad 0)), (1, .int a1)]) hx hb dX10_looks_61 hl (by decide) rfl (fun ls hl => ?_)
      refine lv_iload_n hx hb dX10_looks_63 rfl (lv_at hl 4 rfl) ?_
      refine lv_sipush (v := (200 : Int32)) hx hb dX10_looks_64 (by decide) ?_
      obtain ⟨o_10, r_12, hE⟩ := jbd hE
      have K_11 : jW p l e rmX10_looks s m args below meth c 0 0 Q D vwCl A (MW ad cI cZ thrown trace upper lower begins size hasShares wires kind first second times byy group whole frm too isThere way sorts ohms price o_10.1 o_10.2) 5 [(0, .ref (ad 0)), (2, .int o_1), (3, .int x_5)] 103 [] := by
        intro H locs ls hS hl
        refine lv_aload_n hx hb dX10_looks_103 rfl (lv_at hl 0 rfl) ?_
        refine va_get (D := D) (ci := 11) (v := .ref (ad 16)) (C := RX10) (T := TX10) (N := 24) hx hb hts inX10 hown hK hS.1 0 rfl rfl 21 (by decide) k1 (fun _ h => h) rfl dX10_looks_104 ?_
        refine lv_iload_n hx hb dX10_looks_107 rfl (lv_at hl 1 rfl) ?_
        refine va_iald hx hb hK hS.1 16 0 rfl rfl (jin.mpr b_7) dX10_looks_108 ?_
        refine lv_aload_n hx hb dX10_looks_109 rfl (lv_at hl 0 rfl) ?_
        refine va_get (D := D) (ci := 11) (v := .ref (ad 16)) (C := RX10) (T := TX10) (N := 24) hx hb hts inX10 hown hK hS.1 0 rfl rfl 21 (by decide) k1 (fun _ h => h) rfl dX10_looks_110 ?_
        refine lv_iload_n hx hb dX10_looks_113 rfl (lv_at hl 2 rfl) ?_
        refine va_iald hx hb hK hS.1 16 0 rfl rfl (jin.mpr b_8) dX10_looks_114 ?_
        refine lv_iadd hx hb dX10_looks_115 ?_
        obtain rfl := jsm hE
        exact ret hS rfl dX10_looks_116
      refine lv_icmp_ge (tgt := 81) hx hb dX10_looks_67 (by decide) (fun c_13 => ?_) (fun c_13 => ?_)
      · have r_12 := jt r_12 c_13
        refine lv_aload_n hx hb dX10_looks_81 rfl (lv_at hl 3 rfl) ?_
        refine lv_aload_n hx hb dX10_looks_82 rfl (lv_at hl 3 rfl) ?_
        refine va_get (D := D) (ci := 11) (v := .ref (ad 15)) (C := RX10) (T := TX10) (N := 24) hx hb hts inX10 hown hK hS.1 0 rfl rfl 20 (by decide) k0 (fun _ h => h) rfl dX10_looks_83 ?_
        refine lv_iload_n hx hb dX10_looks_86 rfl (lv_at hl 2 rfl) ?_
        refine va_iald hx hb hK hS.1 15 0 rfl rfl (jin.mpr b_7) dX10_looks_87 ?_
        refine lv_i2l (v := (ohms o_1.toNatClampNeg).toInt64) hx hb dX10_looks_88 rfl ?_
        refine lv_aload_n hx hb dX10_looks_89 rfl (lv_at hl 3 rfl) ?_
        refine va_get (D := D) (ci := 11) (v := .ref (ad 15)) (C := RX10) (T := TX10) (N := 24) hx hb hts inX10 hown hK hS.1 0 rfl rfl 20 (by decide) k0 (fun _ h => h) rfl dX10_looks_90 ?_
        refine lv_iload_n hx hb dX10_looks_93 rfl (lv_at hl 1 rfl) ?_
        refine va_iald hx hb hK hS.1 15 0 rfl rfl (jin.mpr b_8) dX10_looks_94 ?_
        refine lv_i2l (v := (ohms x_5.toNatClampNeg).toInt64) hx hb dX10_looks_95 rfl ?_
        refine lv_lmul hx hb dX10_looks_96 ?_
        refine lv_iload hx hb dX10_looks_97 (lv_at hl 0 rfl) ?_
        refine lv_i2l (v := x_9.toInt64) hx hb dX10_looks_99 rfl ?_
        obtain ⟨o_14, h_15, r_12⟩ := jbd r_12
        refine j_Vv (As := [.long ((ohms o_1.toNatClampNeg).toInt64 * (ohms x_5.toNatClampNeg).toInt64), .long x_9.toInt64]) (rest := []) (wf := MW ad cI cZ thrown trace upper lower begins size hasShares wires kind first second times byy group whole frm too isThere way sorts ohms price o_14.1 o_14.2) (vc := (RX10, TX10, 24)) C hK hS (jcut_all hA hS) (tX10_least l D ad cI cJ cZ cW cS cO cG thrown trace upper lower begins size hasShares wires kind first second times byy group whole frm too isThere way sorts ohms price above belo ((ohms o_1.toNatClampNeg).toInt64 * (ohms x_5.toNatClampNeg).toInt64) x_9.toInt64 h_15) (cwV 2 hts gX10_looks_X10_least rfl rfl rfl (by decide +kernel) ⟨Nat.le_of_ble_eq_true rfl, Nat.le_of_ble_eq_true rfl⟩) (q0 := 0) rfl (ci := 11) rfl rfl hl.1 rfl (Nat.le_of_ble_eq_true rfl) dX10_looks_100 ⟨Nat.zero_le _, Nat.zero_le _⟩ (fun H locs hS => ?_)
        obtain rfl := jsm r_12
        exact K_11 _ _ _ hS (lv_sub hl [3, 2, 1] rfl)
      · have r_12 := jf r_12 c_13
        refine lv_aload_n hx hb dX10_looks_70 rfl (lv_at hl 3 rfl) ?_
        refine lv_iload hx hb dX10_looks_71 (lv_at hl 0 rfl) ?_
        refine lv_i2l (v := x_9.toInt64) hx hb dX10_looks_73 rfl ?_
        refine lv_lconst (v := (1 : Int64)) hx hb dX10_looks_74 (by decide) ?_
        obtain ⟨o_16, h_17, r_12⟩ := jbd r_12
        refine j_Vv (As := [.long x_9.toInt64, .long (1 : Int64)]) (rest := []) (wf := MW ad cI cZ thrown trace upper lower begins size hasShares wires kind first second times byy group whole frm too isThere way sorts ohms price o_16.1 o_16.2) (vc := (RX10, TX10, 24)) C hK hS (jcut_all hA hS) (tX10_least l D ad cI cJ cZ cW cS cO cG thrown trace upper lower begins size hasShares wires kind first second times byy group whole frm too isThere way sorts ohms price above belo x_9.toInt64 (1 : Int64) h_17) (cwV 2 hts gX10_looks_X10_least rfl rfl rfl (by decide +kernel) ⟨Nat.le_of_ble_eq_true rfl, Nat.le_of_ble_eq_true rfl⟩) (q0 := 0) rfl (ci := 11) rfl rfl hl.1 rfl (Nat.le_of_ble_eq_true rfl) dX10_looks_75 ⟨Nat.zero_le _, Nat.zero_le _⟩ (fun H locs hS => ?_)
        refine lv_goto (tgt := 103) hx hb dX10_looks_78 (by decide) ?_
        obtain rfl := jsm r_12
        exact K_11 _ _ _ hS (lv_sub hl [3, 2, 1] rfl)
    · have hE := jf hE c_6
      refine lv_aload_n hx hb dX10_looks_29 rfl (lv_at hl 2 rfl) ?_
      refine lv_aload_n hx hb dX10_looks_30 rfl (lv_at hl 2 rfl) ?_
      refine va_get (D := D) (ci := 11) (v := .ref (ad 15)) (C := RX10) (T := TX10) (N := 24) hx hb hts inX10 hown hK hS.1 0 rfl rfl 20 (by decide) k0 (fun _ h => h) rfl dX10_looks_31 ?_
      refine lv_iload_n hx hb dX10_looks_34 rfl (lv_at hl 1 rfl) ?_
      obtain ⟨b_18, hE⟩ := jgd hE
      refine va_iald hx hb hK hS.1 15 0 rfl rfl (jin.mpr b_18) dX10_looks_35 ?_
      refine lv_i2l (v := (ohms o_1.toNatClampNeg).toInt64) hx hb dX10_looks_36 rfl ?_
      refine lv_lconst (v := (1 : Int64)) hx hb dX10_looks_37 (by decide) ?_
      obtain ⟨o_19, h_20, hE⟩ := jbd hE
      refine j_Vv (As := [.long ((ohms o_1.toNatClampNeg).toInt64), .long (1 : Int64)]) (rest := []) (wf := MW ad cI cZ thrown trace upper lower begins size hasShares wires kind first second times byy group whole frm too isThere way sorts ohms price o_19.1 o_19.2) (vc := (RX10, TX10, 24)) C hK hS (jcut_all hA hS) (tX10_least l D ad cI cJ cZ cW cS cO cG thrown trace upper lower begins size hasShares wires kind first second times byy group whole frm too isThere way sorts ohms price above belo ((ohms o_1.toNatClampNeg).toInt64) (1 : Int64) h_20) (cwV 2 hts gX10_looks_X10_least rfl rfl rfl (by decide +kernel) ⟨Nat.le_of_ble_eq_true rfl, Nat.le_of_ble_eq_true rfl⟩) (q0 := 0) rfl (ci := 11) rfl rfl hl.1 rfl (Nat.le_of_ble_eq_true rfl) dX10_looks_38 ⟨Nat.zero_le _, Nat.zero_le _⟩ (fun H locs hS => ?_)
      refine lv_aload_n hx hb dX10_looks_41 rfl (lv_at hl 2 rfl) ?_
      refine va_get (D := D) (ci := 11) (v := .ref (ad 16)) (C := RX10) (T := TX10) (N := 24) hx hb hts inX10 hown hK hS.1 0 rfl rfl 21 (by decide) k1 (fun _ h => h) rfl dX10_looks_42 ?_
      refine lv_iload_n hx hb dX10_looks_45 rfl (lv_at hl 1 rfl) ?_
      refine va_iald hx hb hK hS.1 16 0 rfl rfl (jin.mpr b_18) dX10_looks_46 ?_
      obtain rfl := jsm hE
      exact ret hS rfl dX10_looks_47
  refine lv_icmp_ge (tgt := 10) hx hb dX10_looks_3 (by decide) (fun c_4 => ?_) (fun c_4 => ?_)
  · have r_3 := r_3.trans (if_pos c_4)
    refine lv_iload_n hx hb dX10_looks_10 rfl (lv_at hl 1 rfl) ?_
    refine lv_bipush (v := (100 : Int32)) hx hb dX10_looks_11 (by decide) ?_
    refine lv_irem hx hb dX10_looks_13 (by decide) ?_
    refine lv_bipush (v := (10 : Int32)) hx hb dX10_looks_14 (by decide) ?_
    refine lv_idiv hx hb dX10_looks_16 (by decide) ?_
    subst r_3
    exact K_2 _ _ _ hS (lv_sub hl [0, 1] rfl)
  · have r_3 := r_3.trans (if_neg c_4)
    refine lv_iload_n hx hb dX10_looks_6 rfl (lv_at hl 1 rfl) ?_
    refine lv_goto (tgt := 17) hx hb dX10_looks_7 (by decide) ?_
    subst r_3
    exact K_2 _ _ _ hS (lv_sub hl [0, 1] rfl)
def LX10_nearest_54 (sorts : Int32) (ohms : Nat → Int32) (price : Nat → Int32) (a1 : Int32) (a2 : Int32) : Nat → (Int32) → (Int64) → (Int64) → (Int32) → (Int32) → (Int64) → (Int64) → Option (Int32 × Int64 × Int64)
  | 0, _, _, _, _, _, _, _ => none
  | n + 1, v3_8, v4_9, v6_10, v8_11, v9_12, above_13, belo_14 =>
    if (300 : Int32) ≤ v9_12 then
    some (v3_8, above_13, belo_14)
    else
    (fX10_isChoice v9_12 sorts).bind (fun o_21 => 
    (if o_21 = 0 then
    some (v3_8, v4_9, v6_10, v8_11, above_13, belo_14)
    else
    (fX10_looks v9_12 ohms price).bind (fun o_27 => 
    jlet o_27.1 (fun x_29 => 
    jlet ((o_27.2.1 * a2.toInt64) - (a1.toInt64 * o_27.2.2)) (fun x_30 => 
    jlet (if (0 : Int64) ≤ x_30 then
    x_30
    else
    (-x_30)) (fun o_31 => 
    jlet (o_27.2.2 * a2.toInt64) (fun x_35 => 
    jlet ((o_31 * v6_10) - (v4_9 * x_35)) (fun x_36 => 
    if v3_8 = (-9 : Int32) then
    some (v9_12, o_31, x_35, x_29, o_27.2.1, o_27.2.2)
    else
    if x_36 < (0 : Int64) then
    some (v9_12, o_31, x_35, x_29, o_27.2.1, o_27.2.2)
    else
    if x_36 = (0 : Int64) then
    if v8_11 ≤ x_29 then
    some (v3_8, v4_9, v6_10, v8_11, o_27.2.1, o_27.2.2)
    else
    some (v9_12, o_31, x_35, x_29, o_27.2.1, o_27.2.2)
    else
    some (v3_8, v4_9, v6_10, v8_11, o_27.2.1, o_27.2.2)))))))).bind (fun o_23 => 
    jlet (v9_12 + (1 : Int32)) (fun x_41 => 
    LX10_nearest_54 sorts ohms price a1 a2 n o_23.1 o_23.2.1 o_23.2.2.1 o_23.2.2.2.1 x_41 o_23.2.2.2.2.1 o_23.2.2.2.2.2)))
def fX10_nearest (a1 : Int32) (a2 : Int32) (sorts : Int32) (ohms : Nat → Int32) (price : Nat → Int32) (above : Int64) (belo : Int64) : Option (Int32 × Int32 × Int64 × Int64) :=
  (fX10_in a1 (1 : Int32) (1000 : Int32)).bind (fun o_1 => 
  if o_1 = 0 then
  some ((-1 : Int32), (0 : Int32), above, belo)
  else
  (fX10_in a2 (1 : Int32) (1000 : Int32)).bind (fun o_4 => 
  if o_4 = 0 then
  some ((-1 : Int32), (0 : Int32), above, belo)
  else
  if sorts = 0 then
  some ((-2 : Int32), (0 : Int32), above, belo)
  else
  (LX10_nearest_54 sorts ohms price a1 a2 5000 (-9 : Int32) (0 : Int64) (1 : Int64) (0 : Int32) (0 : Int32) above belo).bind (fun o_15 => 
  some (o_15.1, (0 : Int32), o_15.2.1, o_15.2.2))))
abbrev rmX10_nearest : Room := { frames := 3, cells := 0, slots := 0, locals := 79 }
set_option maxHeartbeats 4000000 in
set_option maxRecDepth 100000 in
theorem tX10_nearest (l : Launch) (D : va_G) (ad : Nat → Nat) (cI cJ cZ cW cS cO cG : ClassId) (thrown : Int32) (trace : Int64) (upper : Nat → Int32) (lower : Nat → Int32) (begins : Nat → Int32) (size : Int32) (hasShares : Int32) (wires : Int32) (kind : Nat → Int32) (first : Nat → Int32) (second : Nat → Int32) (times : Nat → Int32) (byy : Nat → Int32) (group : Nat → Int32) (whole : Nat → Int32) (frm : Nat → Int32) (too : Nat → Int32) (isThere : Nat → Int32) (way : Nat → Int32) (sorts : Int32) (ohms : Nat → Int32) (price : Nat → Int32) (above : Int64) (belo : Int64) (a1 : Int32) (a2 : Int32) {o : Int32 × Int32 × Int64 × Int64} (hE : fX10_nearest a1 a2 sorts ohms price above belo = some o) : JMi l yX10_nearest wsX10_nearest rmX10_nearest D vwCl (TY cI cJ cZ cW cS cO cG) [.ref (ad 0), .int a1, .int a2] (MW ad cI cZ thrown trace upper lower begins size hasShares wires kind first second times byy group whole frm too isThere way sorts ohms price above belo) (MW ad cI cZ o.2.1 trace upper lower begins size hasShares wires kind first second times byy group whole frm too isThere way sorts ohms price o.2.2.1 o.2.2.2) o.1 := by
  refine JMi.of (cc := cX10_nearest) (maxL := 17) (by decide) rfl (Nat.le_of_ble_eq_true rfl) ?_
  intro p e s m args below meth c A ls Q C hK hA ret hS hl
  obtain ⟨⟨hx, hb, hml, hown, hts⟩, -⟩ := id C
  have hl : lv_has ls 17 [(0, .ref (ad 0)), (1, .int a1), (2, .int a2)] := hl
  have inX10 : ∀ w ∈ u_ws RX10 TX10 24, w ∈ wsX10_nearest := by decide +kernel
  have k0 := hts (.fieldLink RX10 59 "OhmNetsModel" "thrown" "I") (by decide +kernel)
  have k1 := hts (.fieldLink RX10 180 "OhmNetsModel" "sorts" "I") (by decide +kernel)
  have k2 := hts (.fieldLink RX10 67 "OhmNetsModel" "above" "J") (by decide +kernel)
  have k3 := hts (.fieldLink RX10 71 "OhmNetsModel" "below" "J") (by decide +kernel)
  refine lv_aload_n hx hb dX10_nearest_0 rfl (lv_at hl 0 rfl) ?_
  refine lv_iconst (v := (0 : Int32)) hx hb dX10_nearest_1 (by decide) ?_
  refine j_put (ci := 11) (v := .int (0 : Int32)) (ty := .int) (C := RX10) (T := TX10) (N := 24) (w' := MW ad cI cZ (0 : Int32) trace upper lower begins size hasShares wires kind first second times byy group whole frm too isThere way sorts ohms price above belo) hx hb hts inX10 tyX10 tyX10_ok nmX10 hown hK hS 0 rfl rfl 0 (by decide) k0 (fun _ h => h) rfl (by decide +kernel) rfl rfl (Nat.le_of_ble_eq_true rfl) rfl dX10_nearest_2 (fun H locs hS => ?_)
  refine lv_iload_n hx hb dX10_nearest_5 rfl (lv_at hl 1 rfl) ?_
  refine lv_iconst (v := (1 : Int32)) hx hb dX10_nearest_6 (by decide) ?_
  refine lv_sipush (v := (1000 : Int32)) hx hb dX10_nearest_7 (by decide) ?_
  obtain ⟨o_1, h_2, hE⟩ := jbd hE
  refine j_Si (As := [.int a1, .int (1 : Int32), .int (1000 : Int32)]) (rest := []) (wf := MW ad cI cZ (0 : Int32) trace upper lower begins size hasShares wires kind first second times byy group whole frm too isThere way sorts ohms price above belo) C hK hS (jcut_nil hA hS) (tX10_in l D cI cJ cZ cW cS cO cG a1 (1 : Int32) (1000 : Int32) h_2) (va_cwS 3 hts gX10_nearest_X10_in rfl rfl rfl (by decide +kernel) ⟨Nat.le_of_ble_eq_true rfl, Nat.le_of_ble_eq_true rfl⟩) rfl hl.1 rfl (Nat.le_of_ble_eq_true rfl) dX10_nearest_10 ⟨Nat.zero_le _, Nat.zero_le _⟩ (fun H locs hS => ?_)
  refine lv_if_eq (tgt := 27) hx hb dX10_nearest_13 (by decide) (fun c_3 => ?_) (fun c_3 => ?_)
  · have hE := jt hE c_3
    refine lv_iconst (v := (-1 : Int32)) hx hb dX10_nearest_27 (by decide) ?_
    obtain rfl := jsm hE
    exact ret hS rfl dX10_nearest_28
  · have hE := jf hE c_3
    refine lv_iload_n hx hb dX10_nearest_16 rfl (lv_at hl 2 rfl) ?_
    refine lv_iconst (v := (1 : Int32)) hx hb dX10_nearest_17 (by decide) ?_
    refine lv_sipush (v := (1000 : Int32)) hx hb dX10_nearest_18 (by decide) ?_
    obtain ⟨o_4, h_5, hE⟩ := jbd hE
    refine j_Si (As := [.int a2, .int (1 : Int32), .int (1000 : Int32)]) (rest := []) (wf := MW ad cI cZ (0 : Int32) trace upper lower begins size hasShares wires kind first second times byy group whole frm too isThere way sorts ohms price above belo) C hK hS (jcut_nil hA hS) (tX10_in l D cI cJ cZ cW cS cO cG a2 (1 : Int32) (1000 : Int32) h_5) (va_cwS 3 hts gX10_nearest_X10_in rfl rfl rfl (by decide +kernel) ⟨Nat.le_of_ble_eq_true rfl, Nat.le_of_ble_eq_true rfl⟩) rfl hl.1 rfl (Nat.le_of_ble_eq_true rfl) dX10_nearest_21 ⟨Nat.zero_le _, Nat.zero_le _⟩ (fun H locs hS => ?_)
    refine lv_if_ne (tgt := 29) hx hb dX10_nearest_24 (by decide) (fun c_6 => ?_) (fun c_6 => ?_)
    · have hE := jf hE c_6
      refine lv_aload_n hx hb dX10_nearest_29 rfl (lv_at hl 0 rfl) ?_
      refine va_get (D := D) (ci := 11) (v := .int sorts) (C := RX10) (T := TX10) (N := 24) hx hb hts inX10 hown hK hS.1 0 rfl rfl 19 (by decide) k1 (fun _ h => h) rfl dX10_nearest_30 ?_
      refine lv_if_ne (tgt := 39) hx hb dX10_nearest_33 (by decide) (fun c_7 => ?_) (fun c_7 => ?_)
      · have hE := jf hE c_7
        refine lv_bipush (v := (-9 : Int32)) hx hb dX10_nearest_39 (by decide) ?_
        refine lv_istore_n (lv' := [(3, .int (-9 : Int32)), (0, .ref (ad 0)), (1, .int a1), (2, .int a2)]) hx hb dX10_nearest_41 rfl hl (by decide) rfl (fun ls hl => ?_)
        refine lv_lconst (v := (0 : Int64)) hx hb dX10_nearest_42 (by decide) ?_
        refine lv_lstore (lv' := [(4, .long (0 : Int64)), (3, .int (-9 : Int32)), (0, .ref (ad 0)), (1, .int a1), (2, .int a2)]) hx hb dX10_nearest_43 hl (by decide) rfl (fun ls hl => ?_)
        refine lv_lconst (v := (1 : Int64)) hx hb dX10_nearest_45 (by decide) ?_
        refine lv_lstore (lv' := [(6, .long (1 : Int64)), (4, .long (0 : Int64)), (3, .int (-9 : Int32)), (0, .ref (ad 0)), (1, .int a1), (2, .int a2)]) hx hb dX10_nearest_46 hl (by decide) rfl (fun ls hl => ?_)
        refine lv_iconst (v := (0 : Int32)) hx hb dX10_nearest_48 (by decide) ?_
        refine lv_istore (lv' := [(8, .int (0 : Int32)), (6, .long (1 : Int64)), (4, .long (0 : Int64)), (3, .int (-9 : Int32)), (0, .ref (ad 0)), (1, .int a1), (2, .int a2)]) hx hb dX10_nearest_49 hl (by decide) rfl (fun ls hl => ?_)
        refine lv_iconst (v := (0 : Int32)) hx hb dX10_nearest_51 (by decide) ?_
        refine lv_istore (lv' := [(9, .int (0 : Int32)), (8, .int (0 : Int32)), (6, .long (1 : Int64)), (4, .long (0 : Int64)), (3, .int (-9 : Int32)), (0, .ref (ad 0)), (1, .int a1), (2, .int a2)]) hx hb dX10_nearest_52 hl (by decide) rfl (fun ls hl => ?_)
        obtain ⟨o_15, L_16, hE⟩ := jbd hE
        have K_17 : jW p l e rmX10_nearest s m args below meth c 0 0 Q D vwCl A (MW ad cI cZ (0 : Int32) trace upper lower begins size hasShares wires kind first second times byy group whole frm too isThere way sorts ohms price o_15.2.1 o_15.2.2) 17 [(3, .int o_15.1)] 183 [] := by
          intro H locs ls hS hl
          refine lv_iload_n hx hb dX10_nearest_183 rfl (lv_at hl 0 rfl) ?_
          obtain rfl := jsm hE
          exact ret hS rfl dX10_nearest_184
        have loop_19 : ∀ (n : Nat) (v3_8 : Int32) (v4_9 : Int64) (v6_10 : Int64) (v8_11 : Int32) (v9_12 : Int32) (above_13 : Int64) (belo_14 : Int64), LX10_nearest_54 sorts ohms price a1 a2 n v3_8 v4_9 v6_10 v8_11 v9_12 above_13 belo_14 = some o_15 → jW p l e rmX10_nearest s m args below meth c 0 0 Q D vwCl A (MW ad cI cZ (0 : Int32) trace upper lower begins size hasShares wires kind first second times byy group whole frm too isThere way sorts ohms price above_13 belo_14) 17 [(0, .ref (ad 0)), (1, .int a1), (2, .int a2), (3, .int v3_8), (4, .long v4_9), (6, .long v6_10), (8, .int v8_11), (9, .int v9_12)] 54 [] := by
          intro n
          induction n with
          | zero =>
            intro v3_8 v4_9 v6_10 v8_11 v9_12 above_13 belo_14 q_18
            have q_18 : none = some o_15 := q_18
            cases q_18
          | succ n ih =>
            intro v3_8 v4_9 v6_10 v8_11 v9_12 above_13 belo_14 q_18 H locs ls hS hl
            rw [LX10_nearest_54] at q_18
            refine lv_iload hx hb dX10_nearest_54 (lv_at hl 7 rfl) ?_
            refine lv_sipush (v := (300 : Int32)) hx hb dX10_nearest_56 (by decide) ?_
            refine lv_icmp_ge (tgt := 183) hx hb dX10_nearest_59 (by decide) (fun c_20 => ?_) (fun c_20 => ?_)
            · have q_18 := jt q_18 c_20
              obtain rfl := jsm q_18
              exact K_17 _ _ _ hS (lv_sub hl [3] rfl)
            · have q_18 := jf q_18 c_20
              refine lv_aload_n hx hb dX10_nearest_62 rfl (lv_at hl 0 rfl) ?_
              refine lv_iload hx hb dX10_nearest_63 (lv_at hl 7 rfl) ?_
              obtain ⟨o_21, h_22, q_18⟩ := jbd q_18
              refine j_Vi (As := [.int v9_12]) (rest := []) (wf := MW ad cI cZ (0 : Int32) trace upper lower begins size hasShares wires kind first second times byy group whole frm too isThere way sorts ohms price above_13 belo_14) (vc := (RX10, TX10, 24)) C hK hS (jcut_all hA hS) (tX10_isChoice l D ad cI cJ cZ cW cS cO cG (0 : Int32) trace upper lower begins size hasShares wires kind first second times byy group whole frm too isThere way sorts ohms price above_13 belo_14 v9_12 h_22) (cwV 1 hts gX10_nearest_X10_isChoice rfl rfl rfl (by decide +kernel) ⟨Nat.le_of_ble_eq_true rfl, Nat.le_of_ble_eq_true rfl⟩) (q0 := 0) rfl (ci := 11) rfl rfl hl.1 rfl (Nat.le_of_ble_eq_true rfl) dX10_nearest_65 ⟨Nat.zero_le _, Nat.zero_le _⟩ (fun H locs hS => ?_)
              obtain ⟨o_23, r_25, q_18⟩ := jbd q_18
              have K_24 : jW p l e rmX10_nearest s m args below meth c 0 0 Q D vwCl A (MW ad cI cZ (0 : Int32) trace upper lower begins size hasShares wires kind first second times byy group whole frm too isThere way sorts ohms price o_23.2.2.2.2.1 o_23.2.2.2.2.2) 17 [(0, .ref (ad 0)), (1, .int a1), (2, .int a2), (3, .int o_23.1), (4, .long o_23.2.1), (6, .long o_23.2.2.1), (8, .int o_23.2.2.2.1), (9, .int v9_12)] 177 [] := by
                intro H locs ls hS hl
                obtain ⟨x_41, ex_41⟩ : ∃ y : Int32, y = v9_12 + (1 : Int32) := ⟨_, rfl⟩
                have q_18 := jlv q_18 ex_41
                refine lv_iinc (v := x_41) (lv' := [(9, .int x_41), (0, .ref (ad 0)), (1, .int a1), (2, .int a2), (3, .int o_23.1), (4, .long o_23.2.1), (6, .long o_23.2.2.1), (8, .int o_23.2.2.2.1)]) hx hb dX10_nearest_177 hl (k := 7) rfl (by rw [ex_41]; rfl) (by decide) rfl (fun ls hl => ?_)
                refine lv_goto (tgt := 54) hx hb dX10_nearest_180 (by decide) ?_
                exact ih o_23.1 o_23.2.1 o_23.2.2.1 o_23.2.2.2.1 x_41 o_23.2.2.2.2.1 o_23.2.2.2.2.2 q_18 _ _ _ hS (lv_sub hl [1, 2, 3, 4, 5, 6, 7, 0] rfl)
              refine lv_if_eq (tgt := 177) hx hb dX10_nearest_68 (by decide) (fun c_26 => ?_) (fun c_26 => ?_)
              · have r_25 := jt r_25 c_26
                obtain rfl := jsm r_25
                exact K_24 _ _ _ hS (lv_sub hl [0, 1, 2, 3, 4, 5, 6, 7] rfl)
              · have r_25 := jf r_25 c_26
                refine lv_aload_n hx hb dX10_nearest_71 rfl (lv_at hl 0 rfl) ?_
                refine lv_iload hx hb dX10_nearest_72 (lv_at hl 7 rfl) ?_
                obtain ⟨o_27, h_28, r_25⟩ := jbd r_25
                refine j_Vi (As := [.int v9_12]) (rest := []) (wf := MW ad cI cZ (0 : Int32) trace upper lower begins size hasShares wires kind first second times byy group whole frm too isThere way sorts ohms price o_27.2.1 o_27.2.2) (vc := (RX10, TX10, 24)) C hK hS (jcut_all hA hS) (tX10_looks l D ad cI cJ cZ cW cS cO cG (0 : Int32) trace upper lower begins size hasShares wires kind first second times byy group whole frm too isThere way sorts ohms price above_13 belo_14 v9_12 h_28) (cwV 1 hts gX10_nearest_X10_looks rfl rfl rfl (by decide +kernel) ⟨Nat.le_of_ble_eq_true rfl, Nat.le_of_ble_eq_true rfl⟩) (q0 := 0) rfl (ci := 11) rfl rfl hl.1 rfl (Nat.le_of_ble_eq_true rfl) dX10_nearest_74 ⟨Nat.zero_le _, Nat.zero_le _⟩ (fun H locs hS => ?_)
                refine lv_topi (fun x_29 ex_29 => ?_)
                have r_25 := jlv r_25 ex_29
                refine lv_istore (lv' := [(10, .int x_29), (0, .ref (ad 0)), (1, .int a1), (2, .int a2), (3, .int v3_8), (4, .long v4_9), (6, .long v6_10), (8, .int v8_11), (9, .int v9_12)]) hx hb dX10_nearest_77 hl (by decide) rfl (fun ls hl => ?_)
                refine lv_aload_n hx hb dX10_nearest_79 rfl (lv_at hl 1 rfl) ?_
                refine va_get (D := D) (ci := 11) (v := .long o_27.2.1) (C := RX10) (T := TX10) (N := 24) hx hb hts inX10 hown hK hS.1 0 rfl rfl 22 (by decide) k2 (fun _ h => h) rfl dX10_nearest_80 ?_
                refine lv_iload_n hx hb dX10_nearest_83 rfl (lv_at hl 3 rfl) ?_
                refine lv_i2l (v := a2.toInt64) hx hb dX10_nearest_84 rfl ?_
                refine lv_lmul hx hb dX10_nearest_85 ?_
                refine lv_iload_n hx hb dX10_nearest_86 rfl (lv_at hl 2 rfl) ?_
                refine lv_i2l (v := a1.toInt64) hx hb dX10_nearest_87 rfl ?_
                refine lv_aload_n hx hb dX10_nearest_88 rfl (lv_at hl 1 rfl) ?_
                refine va_get (D := D) (ci := 11) (v := .long o_27.2.2) (C := RX10) (T := TX10) (N := 24) hx hb hts inX10 hown hK hS.1 0 rfl rfl 23 (by decide) k3 (fun _ h => h) rfl dX10_nearest_89 ?_
                refine lv_lmul hx hb dX10_nearest_92 ?_
                refine lv_lsub hx hb dX10_nearest_93 ?_
                refine lv_topl (fun x_30 ex_30 => ?_)
                have r_25 := jlv r_25 ex_30
                refine lv_lstore (lv' := [(11, .long x_30), (10, .int x_29), (0, .ref (ad 0)), (1, .int a1), (2, .int a2), (3, .int v3_8), (4, .long v4_9), (6, .long v6_10), (8, .int v8_11), (9, .int v9_12)]) hx hb dX10_nearest_94 hl (by decide) rfl (fun ls hl => ?_)
                refine lv_lload hx hb dX10_nearest_96 (lv_at hl 0 rfl) ?_
                refine lv_lconst (v := (0 : Int64)) hx hb dX10_nearest_98 (by decide) ?_
                obtain ⟨o_31, r_33⟩ : ∃ y : Int64, y = (if (0 : Int64) ≤ x_30 then x_30 else (-x_30)) := ⟨_, rfl⟩
                have r_25 := jlv r_25 r_33
                have K_32 : jW p l e rmX10_nearest s m args below meth c 0 0 Q D vwCl A (MW ad cI cZ (0 : Int32) trace upper lower begins size hasShares wires kind first second times byy group whole frm too isThere way sorts ohms price o_27.2.1 o_27.2.2) 17 [(0, .ref (ad 0)), (1, .int a1), (2, .int a2), (3, .int v3_8), (4, .long v4_9), (6, .long v6_10), (8, .int v8_11), (9, .int v9_12), (10, .int x_29)] 111 [.long o_31] := by
                  intro H locs ls hS hl
                  refine lv_lstore (lv' := [(11, .long o_31), (0, .ref (ad 0)), (1, .int a1), (2, .int a2), (3, .int v3_8), (4, .long v4_9), (6, .long v6_10), (8, .int v8_11), (9, .int v9_12), (10, .int x_29)]) hx hb dX10_nearest_111 hl (by decide) rfl (fun ls hl => ?_)
                  refine lv_aload_n hx hb dX10_nearest_113 rfl (lv_at hl 1 rfl) ?_
                  refine va_get (D := D) (ci := 11) (v := .long o_27.2.2) (C := RX10) (T := TX10) (N := 24) hx hb hts inX10 hown hK hS.1 0 rfl rfl 23 (by decide) k3 (fun _ h => h) rfl dX10_nearest_114 ?_
                  refine lv_iload_n hx hb dX10_nearest_117 rfl (lv_at hl 3 rfl) ?_
                  refine lv_i2l (v := a2.toInt64) hx hb dX10_nearest_118 rfl ?_
                  refine lv_lmul hx hb dX10_nearest_119 ?_
                  refine lv_topl (fun x_35 ex_35 => ?_)
                  have r_25 := jlv r_25 ex_35
                  refine lv_lstore (lv' := [(13, .long x_35), (11, .long o_31), (0, .ref (ad 0)), (1, .int a1), (2, .int a2), (3, .int v3_8), (4, .long v4_9), (6, .long v6_10), (8, .int v8_11), (9, .int v9_12), (10, .int x_29)]) hx hb dX10_nearest_120 hl (by decide) rfl (fun ls hl => ?_)
                  refine lv_lload hx hb dX10_nearest_122 (lv_at hl 1 rfl) ?_
                  refine lv_lload hx hb dX10_nearest_124 (lv_at hl 7 rfl) ?_
                  refine lv_lmul hx hb dX10_nearest_126 ?_
                  refine lv_lload hx hb dX10_nearest_127 (lv_at hl 6 rfl) ?_
                  refine lv_lload hx hb dX10_nearest_129 (lv_at hl 0 rfl) ?_
                  refine lv_lmul hx hb dX10_nearest_131 ?_
                  refine lv_lsub hx hb dX10_nearest_132 ?_
                  refine lv_topl (fun x_36 ex_36 => ?_)
                  have r_25 := jlv r_25 ex_36
                  refine lv_lstore (lv' := [(15, .long x_36), (13, .long x_35), (11, .long o_31), (0, .ref (ad 0)), (1, .int a1), (2, .int a2), (3, .int v3_8), (4, .long v4_9), (6, .long v6_10), (8, .int v8_11), (9, .int v9_12), (10, .int x_29)]) hx hb dX10_nearest_133 hl (by decide) rfl (fun ls hl => ?_)
                  refine lv_iload_n hx hb dX10_nearest_135 rfl (lv_at hl 6 rfl) ?_
                  refine lv_bipush (v := (-9 : Int32)) hx hb dX10_nearest_136 (by decide) ?_
                  refine lv_icmp_eq (tgt := 162) hx hb dX10_nearest_138 (by decide) (fun c_37 => ?_) (fun c_37 => ?_)
                  · have r_25 := jt r_25 c_37
                    refine lv_iload hx hb dX10_nearest_162 (lv_at hl 10 rfl) ?_
                    refine lv_istore_n (lv' := [(3, .int v9_12), (15, .long x_36), (13, .long x_35), (11, .long o_31), (0, .ref (ad 0)), (1, .int a1), (2, .int a2), (4, .long v4_9), (6, .long v6_10), (8, .int v8_11), (9, .int v9_12), (10, .int x_29)]) hx hb dX10_nearest_164 rfl hl (by decide) rfl (fun ls hl => ?_)
                    refine lv_lload hx hb dX10_nearest_165 (lv_at hl 3 rfl) ?_
                    refine lv_lstore (lv' := [(4, .long o_31), (3, .int v9_12), (15, .long x_36), (13, .long x_35), (11, .long o_31), (0, .ref (ad 0)), (1, .int a1), (2, .int a2), (6, .long v6_10), (8, .int v8_11), (9, .int v9_12), (10, .int x_29)]) hx hb dX10_nearest_167 hl (by decide) rfl (fun ls hl => ?_)
                    refine lv_lload hx hb dX10_nearest_169 (lv_at hl 3 rfl) ?_
                    refine lv_lstore (lv' := [(6, .long x_35), (4, .long o_31), (3, .int v9_12), (15, .long x_36), (13, .long x_35), (11, .long o_31), (0, .ref (ad 0)), (1, .int a1), (2, .int a2), (8, .int v8_11), (9, .int v9_12), (10, .int x_29)]) hx hb dX10_nearest_171 hl (by decide) rfl (fun ls hl => ?_)
                    refine lv_iload hx hb dX10_nearest_173 (lv_at hl 11 rfl) ?_
                    refine lv_istore (lv' := [(8, .int x_29), (6, .long x_35), (4, .long o_31), (3, .int v9_12), (15, .long x_36), (13, .long x_35), (11, .long o_31), (0, .ref (ad 0)), (1, .int a1), (2, .int a2), (9, .int v9_12), (10, .int x_29)]) hx hb dX10_nearest_175 hl (by decide) rfl (fun ls hl => ?_)
                    obtain rfl := jsm r_25
                    exact K_24 _ _ _ hS (lv_sub hl [7, 8, 9, 3, 2, 1, 0, 10] rfl)
                  · have r_25 := jf r_25 c_37
                    refine lv_lload hx hb dX10_nearest_141 (lv_at hl 0 rfl) ?_
                    refine lv_lconst (v := (0 : Int64)) hx hb dX10_nearest_143 (by decide) ?_
                    refine jl_lt (tgt := 162) hx hb dX10_nearest_144 dX10_nearest_145 (by decide) (fun c_38 => ?_) (fun c_38 => ?_)
                    · have r_25 := jt r_25 c_38
                      refine lv_iload hx hb dX10_nearest_162 (lv_at hl 10 rfl) ?_
                      refine lv_istore_n (lv' := [(3, .int v9_12), (15, .long x_36), (13, .long x_35), (11, .long o_31), (0, .ref (ad 0)), (1, .int a1), (2, .int a2), (4, .long v4_9), (6, .long v6_10), (8, .int v8_11), (9, .int v9_12), (10, .int x_29)]) hx hb dX10_nearest_164 rfl hl (by decide) rfl (fun ls hl => ?_)
                      refine lv_lload hx hb dX10_nearest_165 (lv_at hl 3 rfl) ?_
                      refine lv_lstore (lv' := [(4, .long o_31), (3, .int v9_12), (15, .long x_36), (13, .long x_35), (11, .long o_31), (0, .ref (ad 0)), (1, .int a1), (2, .int a2), (6, .long v6_10), (8, .int v8_11), (9, .int v9_12), (10, .int x_29)]) hx hb dX10_nearest_167 hl (by decide) rfl (fun ls hl => ?_)
                      refine lv_lload hx hb dX10_nearest_169 (lv_at hl 3 rfl) ?_
                      refine lv_lstore (lv' := [(6, .long x_35), (4, .long o_31), (3, .int v9_12), (15, .long x_36), (13, .long x_35), (11, .long o_31), (0, .ref (ad 0)), (1, .int a1), (2, .int a2), (8, .int v8_11), (9, .int v9_12), (10, .int x_29)]) hx hb dX10_nearest_171 hl (by decide) rfl (fun ls hl => ?_)
                      refine lv_iload hx hb dX10_nearest_173 (lv_at hl 11 rfl) ?_
                      refine lv_istore (lv' := [(8, .int x_29), (6, .long x_35), (4, .long o_31), (3, .int v9_12), (15, .long x_36), (13, .long x_35), (11, .long o_31), (0, .ref (ad 0)), (1, .int a1), (2, .int a2), (9, .int v9_12), (10, .int x_29)]) hx hb dX10_nearest_175 hl (by decide) rfl (fun ls hl => ?_)
                      obtain rfl := jsm r_25
                      exact K_24 _ _ _ hS (lv_sub hl [7, 8, 9, 3, 2, 1, 0, 10] rfl)
                    · have r_25 := jf r_25 c_38
                      refine lv_lload hx hb dX10_nearest_148 (lv_at hl 0 rfl) ?_
                      refine lv_lconst (v := (0 : Int64)) hx hb dX10_nearest_150 (by decide) ?_
                      refine jl_ne (tgt := 177) hx hb dX10_nearest_151 dX10_nearest_152 (by decide) (fun c_39 => ?_) (fun c_39 => ?_)
                      · have r_25 := jf r_25 c_39
                        obtain rfl := jsm r_25
                        exact K_24 _ _ _ hS (lv_sub hl [3, 4, 5, 6, 7, 8, 9, 10] rfl)
                      · have r_25 := jt r_25 c_39
                        refine lv_iload hx hb dX10_nearest_155 (lv_at hl 11 rfl) ?_
                        refine lv_iload hx hb dX10_nearest_157 (lv_at hl 9 rfl) ?_
                        refine lv_icmp_ge (tgt := 177) hx hb dX10_nearest_159 (by decide) (fun c_40 => ?_) (fun c_40 => ?_)
                        · have r_25 := jt r_25 c_40
                          obtain rfl := jsm r_25
                          exact K_24 _ _ _ hS (lv_sub hl [3, 4, 5, 6, 7, 8, 9, 10] rfl)
                        · have r_25 := jf r_25 c_40
                          refine lv_iload hx hb dX10_nearest_162 (lv_at hl 10 rfl) ?_
                          refine lv_istore_n (lv' := [(3, .int v9_12), (15, .long x_36), (13, .long x_35), (11, .long o_31), (0, .ref (ad 0)), (1, .int a1), (2, .int a2), (4, .long v4_9), (6, .long v6_10), (8, .int v8_11), (9, .int v9_12), (10, .int x_29)]) hx hb dX10_nearest_164 rfl hl (by decide) rfl (fun ls hl => ?_)
                          refine lv_lload hx hb dX10_nearest_165 (lv_at hl 3 rfl) ?_
                          refine lv_lstore (lv' := [(4, .long o_31), (3, .int v9_12), (15, .long x_36), (13, .long x_35), (11, .long o_31), (0, .ref (ad 0)), (1, .int a1), (2, .int a2), (6, .long v6_10), (8, .int v8_11), (9, .int v9_12), (10, .int x_29)]) hx hb dX10_nearest_167 hl (by decide) rfl (fun ls hl => ?_)
                          refine lv_lload hx hb dX10_nearest_169 (lv_at hl 3 rfl) ?_
                          refine lv_lstore (lv' := [(6, .long x_35), (4, .long o_31), (3, .int v9_12), (15, .long x_36), (13, .long x_35), (11, .long o_31), (0, .ref (ad 0)), (1, .int a1), (2, .int a2), (8, .int v8_11), (9, .int v9_12), (10, .int x_29)]) hx hb dX10_nearest_171 hl (by decide) rfl (fun ls hl => ?_)
                          refine lv_iload hx hb dX10_nearest_173 (lv_at hl 11 rfl) ?_
                          refine lv_istore (lv' := [(8, .int x_29), (6, .long x_35), (4, .long o_31), (3, .int v9_12), (15, .long x_36), (13, .long x_35), (11, .long o_31), (0, .ref (ad 0)), (1, .int a1), (2, .int a2), (9, .int v9_12), (10, .int x_29)]) hx hb dX10_nearest_175 hl (by decide) rfl (fun ls hl => ?_)
                          obtain rfl := jsm r_25
                          exact K_24 _ _ _ hS (lv_sub hl [7, 8, 9, 3, 2, 1, 0, 10] rfl)
                refine jl_ge (tgt := 109) hx hb dX10_nearest_99 dX10_nearest_100 (by decide) (fun c_34 => ?_) (fun c_34 => ?_)
                · have r_33 := r_33.trans (if_pos c_34)
                  refine lv_lload hx hb dX10_nearest_109 (lv_at hl 0 rfl) ?_
                  subst r_33
                  exact K_32 _ _ _ hS (lv_sub hl [2, 3, 4, 5, 6, 7, 8, 9, 1] rfl)
                · have r_33 := r_33.trans (if_neg c_34)
                  refine lv_lload hx hb dX10_nearest_103 (lv_at hl 0 rfl) ?_
                  refine lv_lneg hx hb dX10_nearest_105 ?_
                  refine lv_goto (tgt := 111) hx hb dX10_nearest_106 (by decide) ?_
                  subst r_33
                  exact K_32 _ _ _ hS (lv_sub hl [2, 3, 4, 5, 6, 7, 8, 9, 1] rfl)
        exact loop_19 5000 (-9 : Int32) (0 : Int64) (1 : Int64) (0 : Int32) (0 : Int32) above belo L_16 _ _ _ hS (lv_sub hl [5, 6, 7, 4, 3, 2, 1, 0] rfl)
      · have hE := jt hE c_7
        refine lv_bipush (v := (-2 : Int32)) hx hb dX10_nearest_36 (by decide) ?_
        obtain rfl := jsm hE
        exact ret hS rfl dX10_nearest_38
    · have hE := jt hE c_6
      refine lv_iconst (v := (-1 : Int32)) hx hb dX10_nearest_27 (by decide) ?_
      obtain rfl := jsm hE
      exact ret hS rfl dX10_nearest_28
def fX10_choice (a1 : Int32) (a2 : Int32) (sorts : Int32) (ohms : Nat → Int32) (price : Nat → Int32) (above : Int64) (belo : Int64) : Option (Int32 × Int32 × Int64 × Int64) :=
  if a1 < 0 then
  some ((-1 : Int32), (0 : Int32), above, belo)
  else
  (fX10_isChoice a1 sorts).bind (fun o_2 => 
  if o_2 = 0 then
  some ((-1 : Int32), (0 : Int32), above, belo)
  else
  (fX10_in a2 (0 : Int32) (2 : Int32)).bind (fun o_5 => 
  if o_5 = 0 then
  some ((-1 : Int32), (0 : Int32), above, belo)
  else
  (fX10_looks a1 ohms price).bind (fun o_8 => 
  jlet o_8.1 (fun x_10 => 
  if a2 = (2 : Int32) then
  some (x_10, (0 : Int32), o_8.2.1, o_8.2.2)
  else
  if a2 = 0 then
  some (o_8.2.1.toInt32, (0 : Int32), o_8.2.1, o_8.2.2)
  else
  some (o_8.2.2.toInt32, (0 : Int32), o_8.2.1, o_8.2.2)))))
abbrev rmX10_choice : Room := { frames := 3, cells := 0, slots := 0, locals := 79 }
set_option maxHeartbeats 4000000 in
set_option maxRecDepth 100000 in
theorem tX10_choice (l : Launch) (D : va_G) (ad : Nat → Nat) (cI cJ cZ cW cS cO cG : ClassId) (thrown : Int32) (trace : Int64) (upper : Nat → Int32) (lower : Nat → Int32) (begins : Nat → Int32) (size : Int32) (hasShares : Int32) (wires : Int32) (kind : Nat → Int32) (first : Nat → Int32) (second : Nat → Int32) (times : Nat → Int32) (byy : Nat → Int32) (group : Nat → Int32) (whole : Nat → Int32) (frm : Nat → Int32) (too : Nat → Int32) (isThere : Nat → Int32) (way : Nat → Int32) (sorts : Int32) (ohms : Nat → Int32) (price : Nat → Int32) (above : Int64) (belo : Int64) (a1 : Int32) (a2 : Int32) {o : Int32 × Int32 × Int64 × Int64} (hE : fX10_choice a1 a2 sorts ohms price above belo = some o) : JMi l yX10_choice wsX10_choice rmX10_choice D vwCl (TY cI cJ cZ cW cS cO cG) [.ref (ad 0), .int a1, .int a2] (MW ad cI cZ thrown trace upper lower begins size hasShares wires kind first second times byy group whole frm too isThere way sorts ohms price above belo) (MW ad cI cZ o.2.1 trace upper lower begins size hasShares wires kind first second times byy group whole frm too isThere way sorts ohms price o.2.2.1 o.2.2.2) o.1 := by
  refine JMi.of (cc := cX10_choice) (maxL := 4) (by decide) rfl (Nat.le_of_ble_eq_true rfl) ?_
  intro p e s m args below meth c A ls Q C hK hA ret hS hl
  obtain ⟨⟨hx, hb, hml, hown, hts⟩, -⟩ := id C
  have hl : lv_has ls 4 [(0, .ref (ad 0)), (1, .int a1), (2, .int a2)] := hl
  have inX10 : ∀ w ∈ u_ws RX10 TX10 24, w ∈ wsX10_choice := by decide +kernel
  have k0 := hts (.fieldLink RX10 59 "OhmNetsModel" "thrown" "I") (by decide +kernel)
  have k1 := hts (.fieldLink RX10 71 "OhmNetsModel" "below" "J") (by decide +kernel)
  have k2 := hts (.fieldLink RX10 67 "OhmNetsModel" "above" "J") (by decide +kernel)
  refine lv_aload_n hx hb dX10_choice_0 rfl (lv_at hl 0 rfl) ?_
  refine lv_iconst (v := (0 : Int32)) hx hb dX10_choice_1 (by decide) ?_
  refine j_put (ci := 11) (v := .int (0 : Int32)) (ty := .int) (C := RX10) (T := TX10) (N := 24) (w' := MW ad cI cZ (0 : Int32) trace upper lower begins size hasShares wires kind first second times byy group whole frm too isThere way sorts ohms price above belo) hx hb hts inX10 tyX10 tyX10_ok nmX10 hown hK hS 0 rfl rfl 0 (by decide) k0 (fun _ h => h) rfl (by decide +kernel) rfl rfl (Nat.le_of_ble_eq_true rfl) rfl dX10_choice_2 (fun H locs hS => ?_)
  refine lv_iload_n hx hb dX10_choice_5 rfl (lv_at hl 1 rfl) ?_
  refine lv_if_lt (tgt := 26) hx hb dX10_choice_6 (by decide) (fun c_1 => ?_) (fun c_1 => ?_)
  · have hE := jt hE c_1
    refine lv_iconst (v := (-1 : Int32)) hx hb dX10_choice_26 (by decide) ?_
    obtain rfl := jsm hE
    exact ret hS rfl dX10_choice_27
  · have hE := jf hE c_1
    refine lv_aload_n hx hb dX10_choice_9 rfl (lv_at hl 0 rfl) ?_
    refine lv_iload_n hx hb dX10_choice_10 rfl (lv_at hl 1 rfl) ?_
    obtain ⟨o_2, h_3, hE⟩ := jbd hE
    refine j_Vi (As := [.int a1]) (rest := []) (wf := MW ad cI cZ (0 : Int32) trace upper lower begins size hasShares wires kind first second times byy group whole frm too isThere way sorts ohms price above belo) (vc := (RX10, TX10, 24)) C hK hS (jcut_all hA hS) (tX10_isChoice l D ad cI cJ cZ cW cS cO cG (0 : Int32) trace upper lower begins size hasShares wires kind first second times byy group whole frm too isThere way sorts ohms price above belo a1 h_3) (cwV 1 hts gX10_choice_X10_isChoice rfl rfl rfl (by decide +kernel) ⟨Nat.le_of_ble_eq_true rfl, Nat.le_of_ble_eq_true rfl⟩) (q0 := 0) rfl (ci := 11) rfl rfl hl.1 rfl (Nat.le_of_ble_eq_true rfl) dX10_choice_11 ⟨Nat.zero_le _, Nat.zero_le _⟩ (fun H locs hS => ?_)
    refine lv_if_eq (tgt := 26) hx hb dX10_choice_14 (by decide) (fun c_4 => ?_) (fun c_4 => ?_)
    · have hE := jt hE c_4
      refine lv_iconst (v := (-1 : Int32)) hx hb dX10_choice_26 (by decide) ?_
      obtain rfl := jsm hE
      exact ret hS rfl dX10_choice_27
    · have hE := jf hE c_4
      refine lv_iload_n hx hb dX10_choice_17 rfl (lv_at hl 2 rfl) ?_
      refine lv_iconst (v := (0 : Int32)) hx hb dX10_choice_18 (by decide) ?_
      refine lv_iconst (v := (2 : Int32)) hx hb dX10_choice_19 (by decide) ?_
      obtain ⟨o_5, h_6, hE⟩ := jbd hE
      refine j_Si (As := [.int a2, .int (0 : Int32), .int (2 : Int32)]) (rest := []) (wf := MW ad cI cZ (0 : Int32) trace upper lower begins size hasShares wires kind first second times byy group whole frm too isThere way sorts ohms price above belo) C hK hS (jcut_nil hA hS) (tX10_in l D cI cJ cZ cW cS cO cG a2 (0 : Int32) (2 : Int32) h_6) (va_cwS 3 hts gX10_choice_X10_in rfl rfl rfl (by decide +kernel) ⟨Nat.le_of_ble_eq_true rfl, Nat.le_of_ble_eq_true rfl⟩) rfl hl.1 rfl (Nat.le_of_ble_eq_true rfl) dX10_choice_20 ⟨Nat.zero_le _, Nat.zero_le _⟩ (fun H locs hS => ?_)
      refine lv_if_ne (tgt := 28) hx hb dX10_choice_23 (by decide) (fun c_7 => ?_) (fun c_7 => ?_)
      · have hE := jf hE c_7
        refine lv_aload_n hx hb dX10_choice_28 rfl (lv_at hl 0 rfl) ?_
        refine lv_iload_n hx hb dX10_choice_29 rfl (lv_at hl 1 rfl) ?_
        obtain ⟨o_8, h_9, hE⟩ := jbd hE
        refine j_Vi (As := [.int a1]) (rest := []) (wf := MW ad cI cZ (0 : Int32) trace upper lower begins size hasShares wires kind first second times byy group whole frm too isThere way sorts ohms price o_8.2.1 o_8.2.2) (vc := (RX10, TX10, 24)) C hK hS (jcut_all hA hS) (tX10_looks l D ad cI cJ cZ cW cS cO cG (0 : Int32) trace upper lower begins size hasShares wires kind first second times byy group whole frm too isThere way sorts ohms price above belo a1 h_9) (cwV 1 hts gX10_choice_X10_looks rfl rfl rfl (by decide +kernel) ⟨Nat.le_of_ble_eq_true rfl, Nat.le_of_ble_eq_true rfl⟩) (q0 := 0) rfl (ci := 11) rfl rfl hl.1 rfl (Nat.le_of_ble_eq_true rfl) dX10_choice_30 ⟨Nat.zero_le _, Nat.zero_le _⟩ (fun H locs hS => ?_)
        refine lv_topi (fun x_10 ex_10 => ?_)
        have hE := jlv hE ex_10
        refine lv_istore_n (lv' := [(3, .int x_10), (0, .ref (ad 0)), (1, .int a1), (2, .int a2)]) hx hb dX10_choice_33 rfl hl (by decide) rfl (fun ls hl => ?_)
        refine lv_iload_n hx hb dX10_choice_34 rfl (lv_at hl 3 rfl) ?_
        refine lv_iconst (v := (2 : Int32)) hx hb dX10_choice_35 (by decide) ?_
        refine lv_icmp_ne (tgt := 43) hx hb dX10_choice_36 (by decide) (fun c_11 => ?_) (fun c_11 => ?_)
        · have hE := jf hE c_11
          refine lv_iload_n hx hb dX10_choice_43 rfl (lv_at hl 3 rfl) ?_
          refine lv_if_ne (tgt := 54) hx hb dX10_choice_44 (by decide) (fun c_12 => ?_) (fun c_12 => ?_)
          · have hE := jf hE c_12
            refine lv_aload_n hx hb dX10_choice_54 rfl (lv_at hl 1 rfl) ?_
            refine va_get (D := D) (ci := 11) (v := .long o_8.2.2) (C := RX10) (T := TX10) (N := 24) hx hb hts inX10 hown hK hS.1 0 rfl rfl 23 (by decide) k1 (fun _ h => h) rfl dX10_choice_55 ?_
            refine lv_l2i (v := o_8.2.2.toInt32) hx hb dX10_choice_58 rfl ?_
            obtain rfl := jsm hE
            exact ret hS rfl dX10_choice_59
          · have hE := jt hE c_12
            refine lv_aload_n hx hb dX10_choice_47 rfl (lv_at hl 1 rfl) ?_
            refine va_get (D := D) (ci := 11) (v := .long o_8.2.1) (C := RX10) (T := TX10) (N := 24) hx hb hts inX10 hown hK hS.1 0 rfl rfl 22 (by decide) k2 (fun _ h => h) rfl dX10_choice_48 ?_
            refine lv_goto (tgt := 58) hx hb dX10_choice_51 (by decide) ?_
            refine lv_l2i (v := o_8.2.1.toInt32) hx hb dX10_choice_58 rfl ?_
            obtain rfl := jsm hE
            exact ret hS rfl dX10_choice_59
        · have hE := jt hE c_11
          refine lv_iload_n hx hb dX10_choice_39 rfl (lv_at hl 0 rfl) ?_
          refine lv_goto (tgt := 59) hx hb dX10_choice_40 (by decide) ?_
          obtain rfl := jsm hE
          exact ret hS rfl dX10_choice_59
      · have hE := jt hE c_7
        refine lv_iconst (v := (-1 : Int32)) hx hb dX10_choice_26 (by decide) ?_
        obtain rfl := jsm hE
        exact ret hS rfl dX10_choice_27
def fX10_count (a1 : Int32) (wires : Int32) (first : Nat → Int32) (second : Nat → Int32) (sorts : Int32) : Option (Int32 × Int32) :=
  if a1 = 0 then
  some (wires, (0 : Int32))
  else
  if a1 = (1 : Int32) then
  some (sorts, (0 : Int32))
  else
  if a1 = (2 : Int32) then
  (fX10_knots wires first second).bind (fun o_4 => 
  some (o_4, (0 : Int32)))
  else
  some ((-1 : Int32), (0 : Int32))
abbrev rmX10_count : Room := { frames := 2, cells := 0, slots := 0, locals := 45 }
set_option maxHeartbeats 4000000 in
set_option maxRecDepth 100000 in
theorem tX10_count (l : Launch) (D : va_G) (ad : Nat → Nat) (cI cJ cZ cW cS cO cG : ClassId) (thrown : Int32) (trace : Int64) (upper : Nat → Int32) (lower : Nat → Int32) (begins : Nat → Int32) (size : Int32) (hasShares : Int32) (wires : Int32) (kind : Nat → Int32) (first : Nat → Int32) (second : Nat → Int32) (times : Nat → Int32) (byy : Nat → Int32) (group : Nat → Int32) (whole : Nat → Int32) (frm : Nat → Int32) (too : Nat → Int32) (isThere : Nat → Int32) (way : Nat → Int32) (sorts : Int32) (ohms : Nat → Int32) (price : Nat → Int32) (above : Int64) (belo : Int64) (a1 : Int32) {o : Int32 × Int32} (hE : fX10_count a1 wires first second sorts = some o) : JMi l yX10_count wsX10_count rmX10_count D vwCl (TY cI cJ cZ cW cS cO cG) [.ref (ad 0), .int a1] (MW ad cI cZ thrown trace upper lower begins size hasShares wires kind first second times byy group whole frm too isThere way sorts ohms price above belo) (MW ad cI cZ o.2 trace upper lower begins size hasShares wires kind first second times byy group whole frm too isThere way sorts ohms price above belo) o.1 := by
  refine JMi.of (cc := cX10_count) (maxL := 2) (by decide) rfl (Nat.le_of_ble_eq_true rfl) ?_
  intro p e s m args below meth c A ls Q C hK hA ret hS hl
  obtain ⟨⟨hx, hb, hml, hown, hts⟩, -⟩ := id C
  have hl : lv_has ls 2 [(0, .ref (ad 0)), (1, .int a1)] := hl
  have inX10 : ∀ w ∈ u_ws RX10 TX10 24, w ∈ wsX10_count := by decide +kernel
  have k0 := hts (.fieldLink RX10 59 "OhmNetsModel" "thrown" "I") (by decide +kernel)
  have k1 := hts (.fieldLink RX10 180 "OhmNetsModel" "sorts" "I") (by decide +kernel)
  have k2 := hts (.fieldLink RX10 119 "OhmNetsModel" "wires" "I") (by decide +kernel)
  refine lv_aload_n hx hb dX10_count_0 rfl (lv_at hl 0 rfl) ?_
  refine lv_iconst (v := (0 : Int32)) hx hb dX10_count_1 (by decide) ?_
  refine j_put (ci := 11) (v := .int (0 : Int32)) (ty := .int) (C := RX10) (T := TX10) (N := 24) (w' := MW ad cI cZ (0 : Int32) trace upper lower begins size hasShares wires kind first second times byy group whole frm too isThere way sorts ohms price above belo) hx hb hts inX10 tyX10 tyX10_ok nmX10 hown hK hS 0 rfl rfl 0 (by decide) k0 (fun _ h => h) rfl (by decide +kernel) rfl rfl (Nat.le_of_ble_eq_true rfl) rfl dX10_count_2 (fun H locs hS => ?_)
  refine lv_iload_n hx hb dX10_count_5 rfl (lv_at hl 1 rfl) ?_
  refine lv_if_ne (tgt := 16) hx hb dX10_count_6 (by decide) (fun c_1 => ?_) (fun c_1 => ?_)
  · have hE := jf hE c_1
    refine lv_iload_n hx hb dX10_count_16 rfl (lv_at hl 1 rfl) ?_
    refine lv_iconst (v := (1 : Int32)) hx hb dX10_count_17 (by decide) ?_
    refine lv_icmp_ne (tgt := 28) hx hb dX10_count_18 (by decide) (fun c_2 => ?_) (fun c_2 => ?_)
    · have hE := jf hE c_2
      refine lv_iload_n hx hb dX10_count_28 rfl (lv_at hl 1 rfl) ?_
      refine lv_iconst (v := (2 : Int32)) hx hb dX10_count_29 (by decide) ?_
      refine lv_icmp_ne (tgt := 40) hx hb dX10_count_30 (by decide) (fun c_3 => ?_) (fun c_3 => ?_)
      · have hE := jf hE c_3
        refine lv_iconst (v := (-1 : Int32)) hx hb dX10_count_40 (by decide) ?_
        obtain rfl := jsm hE
        exact ret hS rfl dX10_count_41
      · have hE := jt hE c_3
        refine lv_aload_n hx hb dX10_count_33 rfl (lv_at hl 0 rfl) ?_
        obtain ⟨o_4, h_5, hE⟩ := jbd hE
        refine j_Vi (As := []) (rest := []) (wf := MW ad cI cZ (0 : Int32) trace upper lower begins size hasShares wires kind first second times byy group whole frm too isThere way sorts ohms price above belo) (vc := (RX10, TX10, 24)) C hK hS (jcut_all hA hS) (tX10_knots l D ad cI cJ cZ cW cS cO cG (0 : Int32) trace upper lower begins size hasShares wires kind first second times byy group whole frm too isThere way sorts ohms price above belo h_5) (cwV 0 hts gX10_count_X10_knots rfl rfl rfl (by decide +kernel) ⟨Nat.le_of_ble_eq_true rfl, Nat.le_of_ble_eq_true rfl⟩) (q0 := 0) rfl (ci := 11) rfl rfl hl.1 rfl (Nat.le_of_ble_eq_true rfl) dX10_count_34 ⟨Nat.zero_le _, Nat.zero_le _⟩ (fun H locs hS => ?_)
        refine lv_goto (tgt := 41) hx hb dX10_count_37 (by decide) ?_
        obtain rfl := jsm hE
        exact ret hS rfl dX10_count_41
    · have hE := jt hE c_2
      refine lv_aload_n hx hb dX10_count_21 rfl (lv_at hl 0 rfl) ?_
      refine va_get (D := D) (ci := 11) (v := .int sorts) (C := RX10) (T := TX10) (N := 24) hx hb hts inX10 hown hK hS.1 0 rfl rfl 19 (by decide) k1 (fun _ h => h) rfl dX10_count_22 ?_
      refine lv_goto (tgt := 41) hx hb dX10_count_25 (by decide) ?_
      obtain rfl := jsm hE
      exact ret hS rfl dX10_count_41
  · have hE := jt hE c_1
    refine lv_aload_n hx hb dX10_count_9 rfl (lv_at hl 0 rfl) ?_
    refine va_get (D := D) (ci := 11) (v := .int wires) (C := RX10) (T := TX10) (N := 24) hx hb hts inX10 hown hK hS.1 0 rfl rfl 7 (by decide) k2 (fun _ h => h) rfl dX10_count_10 ?_
    refine lv_goto (tgt := 41) hx hb dX10_count_13 (by decide) ?_
    obtain rfl := jsm hE
    exact ret hS rfl dX10_count_41
def fX10_trace (trace : Int64) : Option (Int64 × Int32) :=
  some (trace, (0 : Int32))
abbrev rmX10_trace : Room := { frames := 0, cells := 0, slots := 0, locals := 0 }
set_option maxHeartbeats 4000000 in
set_option maxRecDepth 100000 in
theorem tX10_trace (l : Launch) (D : va_G) (ad : Nat → Nat) (cI cJ cZ cW cS cO cG : ClassId) (thrown : Int32) (trace : Int64) (upper : Nat → Int32) (lower : Nat → Int32) (begins : Nat → Int32) (size : Int32) (hasShares : Int32) (wires : Int32) (kind : Nat → Int32) (first : Nat → Int32) (second : Nat → Int32) (times : Nat → Int32) (byy : Nat → Int32) (group : Nat → Int32) (whole : Nat → Int32) (frm : Nat → Int32) (too : Nat → Int32) (isThere : Nat → Int32) (way : Nat → Int32) (sorts : Int32) (ohms : Nat → Int32) (price : Nat → Int32) (above : Int64) (belo : Int64) {o : Int64 × Int32} (hE : fX10_trace trace = some o) : JMl l yX10_trace wsX10_trace rmX10_trace D vwCl (TY cI cJ cZ cW cS cO cG) [.ref (ad 0)] (MW ad cI cZ thrown trace upper lower begins size hasShares wires kind first second times byy group whole frm too isThere way sorts ohms price above belo) (MW ad cI cZ o.2 trace upper lower begins size hasShares wires kind first second times byy group whole frm too isThere way sorts ohms price above belo) o.1 := by
  refine JMl.of (cc := cX10_trace) (maxL := 1) (by decide) rfl (Nat.le_of_ble_eq_true rfl) ?_
  intro p e s m args below meth c A ls Q C hK hA ret hS hl
  obtain ⟨⟨hx, hb, hml, hown, hts⟩, -⟩ := id C
  have hl : lv_has ls 1 [(0, .ref (ad 0))] := hl
  have inX10 : ∀ w ∈ u_ws RX10 TX10 24, w ∈ wsX10_trace := by decide +kernel
  have k0 := hts (.fieldLink RX10 59 "OhmNetsModel" "thrown" "I") (by decide +kernel)
  have k1 := hts (.fieldLink RX10 125 "OhmNetsModel" "trace" "J") (by decide +kernel)
  refine lv_aload_n hx hb dX10_trace_0 rfl (lv_at hl 0 rfl) ?_
  refine lv_iconst (v := (0 : Int32)) hx hb dX10_trace_1 (by decide) ?_
  refine j_put (ci := 11) (v := .int (0 : Int32)) (ty := .int) (C := RX10) (T := TX10) (N := 24) (w' := MW ad cI cZ (0 : Int32) trace upper lower begins size hasShares wires kind first second times byy group whole frm too isThere way sorts ohms price above belo) hx hb hts inX10 tyX10 tyX10_ok nmX10 hown hK hS 0 rfl rfl 0 (by decide) k0 (fun _ h => h) rfl (by decide +kernel) rfl rfl (Nat.le_of_ble_eq_true rfl) rfl dX10_trace_2 (fun H locs hS => ?_)
  refine lv_aload_n hx hb dX10_trace_5 rfl (lv_at hl 0 rfl) ?_
  refine va_get (D := D) (ci := 11) (v := .long trace) (C := RX10) (T := TX10) (N := 24) hx hb hts inX10 hown hK hS.1 0 rfl rfl 1 (by decide) k1 (fun _ h => h) rfl dX10_trace_6 ?_
  obtain rfl := jsm hE
  exact ret hS dX10_trace_9
