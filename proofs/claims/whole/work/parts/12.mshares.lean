abbrev MW (ad : Nat → Nat) (cI cZ : ClassId) (thrown : Int32) (trace : Int64) (upper : Nat → Int32) (lower : Nat → Int32) (begins : Nat → Int32) (size : Int32) (hasShares : Int32) (wires : Int32) (kind : Nat → Int32) (first : Nat → Int32) (second : Nat → Int32) (times : Nat → Int32) (byy : Nat → Int32) (group : Nat → Int32) (whole : Nat → Int32) (frm : Nat → Int32) (too : Nat → Int32) (isThere : Nat → Int32) (way : Nat → Int32) (sorts : Int32) (ohms : Nat → Int32) (price : Nat → Int32) (above : Int64) (belo : Int64) : va_W := [(ad 0, .inr (11, [.int thrown, .long trace, .ref (ad 1), .ref (ad 2), .ref (ad 3), .int size, .int hasShares, .int wires, .ref (ad 4), .ref (ad 5), .ref (ad 6), .ref (ad 7), .ref (ad 8), .ref (ad 9), .ref (ad 10), .ref (ad 11), .ref (ad 12), .ref (ad 13), .ref (ad 14), .int sorts, .ref (ad 15), .ref (ad 16), .long above, .long belo])), (ad 1, .inl (cI, 1600, .inl upper)), (ad 2, .inl (cI, 1600, .inl lower)), (ad 3, .inl (cI, 11, .inl begins)), (ad 4, .inl (cI, 12, .inl kind)), (ad 5, .inl (cI, 12, .inl first)), (ad 6, .inl (cI, 12, .inl second)), (ad 7, .inl (cI, 12, .inl times)), (ad 8, .inl (cI, 12, .inl byy)), (ad 9, .inl (cI, 6, .inl group)), (ad 10, .inl (cI, 6, .inl whole)), (ad 11, .inl (cI, 12, .inl frm)), (ad 12, .inl (cI, 12, .inl too)), (ad 13, .inl (cZ, 12, .inl isThere)), (ad 14, .inl (cI, 6, .inl way)), (ad 15, .inl (cI, 6, .inl ohms)), (ad 16, .inl (cI, 6, .inl price))]
def fX10_in (a1 : Int32) (a2 : Int32) (a3 : Int32) : Option (Int32) :=
  if a1 < a2 then
  some (0 : Int32)
  else
  if a3 < a1 then
  some (0 : Int32)
  else
  some (1 : Int32)
abbrev rmX10_in : Room := { frames := 0, cells := 0, slots := 0, locals := 0 }
set_option maxHeartbeats 4000000 in
set_option maxRecDepth 100000 in
theorem tX10_in (l : Launch) (D : va_G) (cI cJ cZ cW cS cO cG : ClassId) (a1 : Int32) (a2 : Int32) (a3 : Int32) {o : Int32} (hE : fX10_in a1 a2 a3 = some o) : JMi l yX10_in wsX10_in rmX10_in D vwCl (TY cI cJ cZ cW cS cO cG) [.int a1, .int a2, .int a3] ([]) ([]) o := by
  refine JMi.of (cc := cX10_in) (maxL := 3) (by decide) rfl (Nat.le_of_ble_eq_true rfl) ?_
  intro p e s m args below meth c A ls Q C hK hA ret hS hl
  obtain ⟨⟨hx, hb, hml, hown, hts⟩, -⟩ := id C
  have hl : lv_has ls 3 [(0, .int a1), (1, .int a2), (2, .int a3)] := hl
  refine lv_iload_n hx hb dX10_in_0 rfl (lv_at hl 0 rfl) ?_
  refine lv_iload_n hx hb dX10_in_1 rfl (lv_at hl 1 rfl) ?_
  refine lv_icmp_lt (tgt := 14) hx hb dX10_in_2 (by decide) (fun c_1 => ?_) (fun c_1 => ?_)
  · have hE := jt hE c_1
    refine lv_iconst (v := (0 : Int32)) hx hb dX10_in_14 (by decide) ?_
    obtain rfl := jsm hE
    exact ret hS jb0 dX10_in_15
  · have hE := jf hE c_1
    refine lv_iload_n hx hb dX10_in_5 rfl (lv_at hl 0 rfl) ?_
    refine lv_iload_n hx hb dX10_in_6 rfl (lv_at hl 2 rfl) ?_
    refine lv_icmp_gt (tgt := 14) hx hb dX10_in_7 (by decide) (fun c_2 => ?_) (fun c_2 => ?_)
    · have hE := jt hE c_2
      refine lv_iconst (v := (0 : Int32)) hx hb dX10_in_14 (by decide) ?_
      obtain rfl := jsm hE
      exact ret hS jb0 dX10_in_15
    · have hE := jf hE c_2
      refine lv_iconst (v := (1 : Int32)) hx hb dX10_in_10 (by decide) ?_
      refine lv_goto (tgt := 15) hx hb dX10_in_11 (by decide) ?_
      obtain rfl := jsm hE
      exact ret hS jb1 dX10_in_15
def LX10_common_17 : Nat → (Int64) → (Int64) → Option (Int64)
  | 0, _, _ => none
  | n + 1, v4_5, v6_6 =>
    if v6_6 = (0 : Int64) then
    some v4_5
    else
    if ¬ v6_6 = 0 then
    jlet (v4_5 - v4_5 / v6_6 * v6_6) (fun x_14 => 
    LX10_common_17 n v6_6 x_14)
    else none
def fX10_common (a1 : Int64) (a2 : Int64) : Option (Int64) :=
  jlet (if (0 : Int64) ≤ a1 then
  a1
  else
  (-a1)) (fun o_1 => 
  (LX10_common_17 5000 o_1 a2).bind (fun o_7 => 
  some o_7))
abbrev rmX10_common : Room := { frames := 0, cells := 0, slots := 0, locals := 0 }
set_option maxHeartbeats 4000000 in
set_option maxRecDepth 100000 in
theorem tX10_common (l : Launch) (D : va_G) (cI cJ cZ cW cS cO cG : ClassId) (a1 : Int64) (a2 : Int64) {o : Int64} (hE : fX10_common a1 a2 = some o) : JMl l yX10_common wsX10_common rmX10_common D vwCl (TY cI cJ cZ cW cS cO cG) [.long a1, .long a2] ([]) ([]) o := by
  refine JMl.of (cc := cX10_common) (maxL := 10) (by decide) rfl (Nat.le_of_ble_eq_true rfl) ?_
  intro p e s m args below meth c A ls Q C hK hA ret hS hl
  obtain ⟨⟨hx, hb, hml, hown, hts⟩, -⟩ := id C
  have hl : lv_has ls 10 [(0, .long a1), (2, .long a2)] := hl
  refine lv_lload_n hx hb dX10_common_0 rfl (lv_at hl 0 rfl) ?_
  refine lv_lconst (v := (0 : Int64)) hx hb dX10_common_1 (by decide) ?_
  obtain ⟨o_1, r_3⟩ : ∃ y : Int64, y = (if (0 : Int64) ≤ a1 then a1 else (-a1)) := ⟨_, rfl⟩
  have hE := jlv hE r_3
  have K_2 : jW p l e rmX10_common s m args below meth c 0 0 Q D vwCl A ([]) 10 [(2, .long a2)] 12 [.long o_1] := by
    intro H locs ls hS hl
    refine lv_lstore (lv' := [(4, .long o_1), (2, .long a2)]) hx hb dX10_common_12 hl (by decide) rfl (fun ls hl => ?_)
    refine lv_lload_n hx hb dX10_common_14 rfl (lv_at hl 1 rfl) ?_
    refine lv_lstore (lv' := [(6, .long a2), (4, .long o_1), (2, .long a2)]) hx hb dX10_common_15 hl (by decide) rfl (fun ls hl => ?_)
    obtain ⟨o_7, L_8, hE⟩ := jbd hE
    have K_9 : jW p l e rmX10_common s m args below meth c 0 0 Q D vwCl A ([]) 10 [(4, .long o_7)] 42 [] := by
      intro H locs ls hS hl
      refine lv_lload hx hb dX10_common_42 (lv_at hl 0 rfl) ?_
      obtain rfl := jsm hE
      exact ret hS dX10_common_44
    have loop_11 : ∀ (n : Nat) (v4_5 : Int64) (v6_6 : Int64), LX10_common_17 n v4_5 v6_6 = some o_7 → jW p l e rmX10_common s m args below meth c 0 0 Q D vwCl A ([]) 10 [(4, .long v4_5), (6, .long v6_6)] 17 [] := by
      intro n
      induction n with
      | zero =>
        intro v4_5 v6_6 q_10
        have q_10 : none = some o_7 := q_10
        cases q_10
      | succ n ih =>
        intro v4_5 v6_6 q_10 H locs ls hS hl
        rw [LX10_common_17] at q_10
        refine lv_lload hx hb dX10_common_17 (lv_at hl 1 rfl) ?_
        refine lv_lconst (v := (0 : Int64)) hx hb dX10_common_19 (by decide) ?_
        refine jl_eq (tgt := 42) hx hb dX10_common_20 dX10_common_21 (by decide) (fun c_12 => ?_) (fun c_12 => ?_)
        · have q_10 := jt q_10 c_12
          obtain rfl := jsm q_10
          exact K_9 _ _ _ hS (lv_sub hl [0] rfl)
        · have q_10 := jf q_10 c_12
          refine lv_lload hx hb dX10_common_24 (lv_at hl 0 rfl) ?_
          refine lv_lload hx hb dX10_common_26 (lv_at hl 1 rfl) ?_
          obtain ⟨z_13, q_10⟩ := jgd q_10
          refine lv_lrem hx hb dX10_common_28 z_13 ?_
          refine lv_topl (fun x_14 ex_14 => ?_)
          have q_10 := jlv q_10 ex_14
          refine lv_lstore (lv' := [(8, .long x_14), (4, .long v4_5), (6, .long v6_6)]) hx hb dX10_common_29 hl (by decide) rfl (fun ls hl => ?_)
          refine lv_lload hx hb dX10_common_31 (lv_at hl 2 rfl) ?_
          refine lv_lstore (lv' := [(4, .long v6_6), (8, .long x_14), (6, .long v6_6)]) hx hb dX10_common_33 hl (by decide) rfl (fun ls hl => ?_)
          refine lv_lload hx hb dX10_common_35 (lv_at hl 1 rfl) ?_
          refine lv_lstore (lv' := [(6, .long x_14), (4, .long v6_6), (8, .long x_14)]) hx hb dX10_common_37 hl (by decide) rfl (fun ls hl => ?_)
          refine lv_goto (tgt := 17) hx hb dX10_common_39 (by decide) ?_
          exact ih v6_6 x_14 q_10 _ _ _ hS (lv_sub hl [1, 0] rfl)
    exact loop_11 5000 o_1 a2 L_8 _ _ _ hS (lv_sub hl [1, 0] rfl)
  refine jl_ge (tgt := 11) hx hb dX10_common_2 dX10_common_3 (by decide) (fun c_4 => ?_) (fun c_4 => ?_)
  · have r_3 := r_3.trans (if_pos c_4)
    refine lv_lload_n hx hb dX10_common_11 rfl (lv_at hl 0 rfl) ?_
    subst r_3
    exact K_2 _ _ _ hS (lv_sub hl [1] rfl)
  · have r_3 := r_3.trans (if_neg c_4)
    refine lv_lload_n hx hb dX10_common_6 rfl (lv_at hl 0 rfl) ?_
    refine lv_lneg hx hb dX10_common_7 ?_
    refine lv_goto (tgt := 12) hx hb dX10_common_8 (by decide) ?_
    subst r_3
    exact K_2 _ _ _ hS (lv_sub hl [1] rfl)
def fX10_least (a1 : Int64) (a2 : Int64) : Option (Int64 × Int64) :=
  (fX10_common a1 a2).bind (fun o_1 => 
  if ¬ o_1 = 0 then
  some ((a1 / o_1), (a2 / o_1))
  else none)
abbrev rmX10_least : Room := { frames := 1, cells := 0, slots := 0, locals := 29 }
set_option maxHeartbeats 4000000 in
set_option maxRecDepth 100000 in
theorem tX10_least (l : Launch) (D : va_G) (ad : Nat → Nat) (cI cJ cZ cW cS cO cG : ClassId) (thrown : Int32) (trace : Int64) (upper : Nat → Int32) (lower : Nat → Int32) (begins : Nat → Int32) (size : Int32) (hasShares : Int32) (wires : Int32) (kind : Nat → Int32) (first : Nat → Int32) (second : Nat → Int32) (times : Nat → Int32) (byy : Nat → Int32) (group : Nat → Int32) (whole : Nat → Int32) (frm : Nat → Int32) (too : Nat → Int32) (isThere : Nat → Int32) (way : Nat → Int32) (sorts : Int32) (ohms : Nat → Int32) (price : Nat → Int32) (above : Int64) (belo : Int64) (a1 : Int64) (a2 : Int64) {o : Int64 × Int64} (hE : fX10_least a1 a2 = some o) : JMv l yX10_least wsX10_least rmX10_least D vwCl (TY cI cJ cZ cW cS cO cG) [.ref (ad 0), .long a1, .long a2] (MW ad cI cZ thrown trace upper lower begins size hasShares wires kind first second times byy group whole frm too isThere way sorts ohms price above belo) (MW ad cI cZ thrown trace upper lower begins size hasShares wires kind first second times byy group whole frm too isThere way sorts ohms price o.1 o.2) := by
  refine JMv.of (cc := cX10_least) (maxL := 7) (by decide) rfl (Nat.le_of_ble_eq_true rfl) ?_
  intro p e s m args below meth c A ls Q C hK hA ret hS hl
  obtain ⟨⟨hx, hb, hml, hown, hts⟩, -⟩ := id C
  have hl : lv_has ls 7 [(0, .ref (ad 0)), (1, .long a1), (3, .long a2)] := hl
  have inX10 : ∀ w ∈ u_ws RX10 TX10 24, w ∈ wsX10_least := by decide +kernel
  have k0 := hts (.fieldLink RX10 67 "OhmNetsModel" "above" "J") (by decide +kernel)
  have k1 := hts (.fieldLink RX10 71 "OhmNetsModel" "below" "J") (by decide +kernel)
  refine lv_lload_n hx hb dX10_least_0 rfl (lv_at hl 1 rfl) ?_
  refine lv_lload_n hx hb dX10_least_1 rfl (lv_at hl 2 rfl) ?_
  obtain ⟨o_1, h_2, hE⟩ := jbd hE
  refine j_Sl (As := [.long a1, .long a2]) (rest := []) (wf := MW ad cI cZ thrown trace upper lower begins size hasShares wires kind first second times byy group whole frm too isThere way sorts ohms price above belo) C hK hS (jcut_nil hA hS) (tX10_common l D cI cJ cZ cW cS cO cG a1 a2 h_2) (va_cwS 2 hts gX10_least_X10_common rfl rfl rfl (by decide +kernel) ⟨Nat.le_of_ble_eq_true rfl, Nat.le_of_ble_eq_true rfl⟩) rfl hl.1 rfl (Nat.le_of_ble_eq_true rfl) dX10_least_2 ⟨Nat.zero_le _, Nat.zero_le _⟩ (fun H locs hS => ?_)
  refine lv_lstore (lv' := [(5, .long o_1), (0, .ref (ad 0)), (1, .long a1), (3, .long a2)]) hx hb dX10_least_5 hl (by decide) rfl (fun ls hl => ?_)
  refine lv_aload_n hx hb dX10_least_7 rfl (lv_at hl 1 rfl) ?_
  refine lv_lload_n hx hb dX10_least_8 rfl (lv_at hl 2 rfl) ?_
  refine lv_lload hx hb dX10_least_9 (lv_at hl 0 rfl) ?_
  obtain ⟨z_3, hE⟩ := jgd hE
  refine lv_ldiv hx hb dX10_least_11 z_3 ?_
  refine j_put (ci := 11) (v := .long (a1 / o_1)) (ty := .long) (C := RX10) (T := TX10) (N := 24) (w' := MW ad cI cZ thrown trace upper lower begins size hasShares wires kind first second times byy group whole frm too isThere way sorts ohms price (a1 / o_1) belo) hx hb hts inX10 tyX10 tyX10_ok nmX10 hown hK hS 0 rfl rfl 22 (by decide) k0 (fun _ h => h) rfl (by decide +kernel) rfl rfl (Nat.le_of_ble_eq_true rfl) rfl dX10_least_12 (fun H locs hS => ?_)
  refine lv_aload_n hx hb dX10_least_15 rfl (lv_at hl 1 rfl) ?_
  refine lv_lload_n hx hb dX10_least_16 rfl (lv_at hl 3 rfl) ?_
  refine lv_lload hx hb dX10_least_17 (lv_at hl 0 rfl) ?_
  refine lv_ldiv hx hb dX10_least_19 z_3 ?_
  refine j_put (ci := 11) (v := .long (a2 / o_1)) (ty := .long) (C := RX10) (T := TX10) (N := 24) (w' := MW ad cI cZ thrown trace upper lower begins size hasShares wires kind first second times byy group whole frm too isThere way sorts ohms price (a1 / o_1) (a2 / o_1)) hx hb hts inX10 tyX10 tyX10_ok nmX10 hown hK hS 0 rfl rfl 23 (by decide) k1 (fun _ h => h) rfl (by decide +kernel) rfl rfl (Nat.le_of_ble_eq_true rfl) rfl dX10_least_20 (fun H locs hS => ?_)
  obtain rfl := jsm hE
  exact ret hS dX10_least_23
def LX10_puts_13 (upper : Nat → Int32) (lower : Nat → Int32) (a1 : Int32) (o_1 : Int64 × Int64) : Nat → (Int32) → Option (Int32)
  | 0, _ => none
  | n + 1, v6_3 =>
    if v6_3 ≤ a1 then
    some v6_3
    else
    if jok (v6_3 - (1 : Int32)) 1600 then
    if (o_1.2 * (upper (v6_3 - (1 : Int32)).toNatClampNeg).toInt64) ≤ (o_1.1 * (lower (v6_3 - (1 : Int32)).toNatClampNeg).toInt64) then
    some v6_3
    else
    jlet (v6_3 + (-1 : Int32)) (fun x_12 => 
    LX10_puts_13 upper lower a1 o_1 n x_12)
    else none
def LX10_puts_108 (o_4 : Int32) : Nat → (Int32) → (Nat → Int32) → (Nat → Int32) → Option ((Nat → Int32) × (Nat → Int32))
  | 0, _, _, _ => none
  | n + 1, v7_21, upper_22, lower_23 =>
    if v7_21 ≤ o_4 then
    some (upper_22, lower_23)
    else
    if jok (v7_21 - (1 : Int32)) 1600 then
    if jok v7_21 1600 then
    jlet (upd upper_22 v7_21.toNatClampNeg (upper_22 (v7_21 - (1 : Int32)).toNatClampNeg)) (fun upper_32 => 
    jlet (upd lower_23 v7_21.toNatClampNeg (lower_23 (v7_21 - (1 : Int32)).toNatClampNeg)) (fun lower_33 => 
    jlet (v7_21 + (-1 : Int32)) (fun x_34 => 
    LX10_puts_108 o_4 n x_34 upper_32 lower_33)))
    else none
    else none
def fX10_puts (a1 : Int32) (a2 : Int64) (a3 : Int64) (upper : Nat → Int32) (lower : Nat → Int32) (size : Int32) : Option ((Nat → Int32) × (Nat → Int32) × Int32 × Int64 × Int64) :=
  (fX10_least a2 a3).bind (fun o_1 => 
  (LX10_puts_13 upper lower a1 o_1 5000 size).bind (fun o_4 => 
  (if o_4 ≤ a1 then
  some (.inl ())
  else
  if jok (o_4 - (1 : Int32)) 1600 then
  if o_1.1 = (upper (o_4 - (1 : Int32)).toNatClampNeg).toInt64 then
  if o_1.2 = (lower (o_4 - (1 : Int32)).toNatClampNeg).toInt64 then
  some (.inr (upper, lower, size, o_1.1, o_1.2))
  else
  some (.inl ())
  else
  some (.inl ())
  else none : Option ((Unit) ⊕ ((Nat → Int32) × (Nat → Int32) × Int32 × Int64 × Int64))).bind (fun o_13 => jex o_13 (fun x_16 => 
  (LX10_puts_108 o_4 5000 size upper lower).bind (fun o_24 => 
  if jok o_4 1600 then
  jlet (upd o_24.1 o_4.toNatClampNeg o_1.1.toInt32) (fun upper_36 => 
  jlet (upd o_24.2 o_4.toNatClampNeg o_1.2.toInt32) (fun lower_37 => 
  some (upper_36, lower_37, (size + (1 : Int32)), o_1.1, o_1.2)))
  else none)) some)))
abbrev rmX10_puts : Room := { frames := 2, cells := 0, slots := 0, locals := 55 }
set_option maxHeartbeats 4000000 in
set_option maxRecDepth 100000 in
theorem tX10_puts (l : Launch) (D : va_G) (ad : Nat → Nat) (cI cJ cZ cW cS cO cG : ClassId) (thrown : Int32) (trace : Int64) (upper : Nat → Int32) (lower : Nat → Int32) (begins : Nat → Int32) (size : Int32) (hasShares : Int32) (wires : Int32) (kind : Nat → Int32) (first : Nat → Int32) (second : Nat → Int32) (times : Nat → Int32) (byy : Nat → Int32) (group : Nat → Int32) (whole : Nat → Int32) (frm : Nat → Int32) (too : Nat → Int32) (isThere : Nat → Int32) (way : Nat → Int32) (sorts : Int32) (ohms : Nat → Int32) (price : Nat → Int32) (above : Int64) (belo : Int64) (a1 : Int32) (a2 : Int64) (a3 : Int64) {o : (Nat → Int32) × (Nat → Int32) × Int32 × Int64 × Int64} (hE : fX10_puts a1 a2 a3 upper lower size = some o) : JMv l yX10_puts wsX10_puts rmX10_puts D vwCl (TY cI cJ cZ cW cS cO cG) [.ref (ad 0), .int a1, .long a2, .long a3] (MW ad cI cZ thrown trace upper lower begins size hasShares wires kind first second times byy group whole frm too isThere way sorts ohms price above belo) (MW ad cI cZ thrown trace o.1 o.2.1 begins o.2.2.1 hasShares wires kind first second times byy group whole frm too isThere way sorts ohms price o.2.2.2.1 o.2.2.2.2) := by
  refine JMv.of (cc := cX10_puts) (maxL := 8) (by decide) rfl (Nat.le_of_ble_eq_true rfl) ?_
  intro p e s m args below meth c A ls Q C hK hA ret hS hl
  obtain ⟨⟨hx, hb, hml, hown, hts⟩, -⟩ := id C
  have hl : lv_has ls 8 [(0, .ref (ad 0)), (1, .int a1), (2, .long a2), (4, .long a3)] := hl
  have inX10 : ∀ w ∈ u_ws RX10 TX10 24, w ∈ wsX10_puts := by decide +kernel
  have k0 := hts (.fieldLink RX10 78 "OhmNetsModel" "size" "I") (by decide +kernel)
  have k1 := hts (.fieldLink RX10 67 "OhmNetsModel" "above" "J") (by decide +kernel)
  have k2 := hts (.fieldLink RX10 13 "OhmNetsModel" "lower" "[I") (by decide +kernel)
  have k3 := hts (.fieldLink RX10 71 "OhmNetsModel" "below" "J") (by decide +kernel)
  have k4 := hts (.fieldLink RX10 7 "OhmNetsModel" "upper" "[I") (by decide +kernel)
  refine lv_aload_n hx hb dX10_puts_0 rfl (lv_at hl 0 rfl) ?_
  refine lv_lload_n hx hb dX10_puts_1 rfl (lv_at hl 2 rfl) ?_
  refine lv_lload hx hb dX10_puts_2 (lv_at hl 3 rfl) ?_
  obtain ⟨o_1, h_2, hE⟩ := jbd hE
  refine j_Vv (As := [.long a2, .long a3]) (rest := []) (wf := MW ad cI cZ thrown trace upper lower begins size hasShares wires kind first second times byy group whole frm too isThere way sorts ohms price o_1.1 o_1.2) (vc := (RX10, TX10, 24)) C hK hS (jcut_all hA hS) (tX10_least l D ad cI cJ cZ cW cS cO cG thrown trace upper lower begins size hasShares wires kind first second times byy group whole frm too isThere way sorts ohms price above belo a2 a3 h_2) (cwV 2 hts gX10_puts_X10_least rfl rfl rfl (by decide +kernel) ⟨Nat.le_of_ble_eq_true rfl, Nat.le_of_ble_eq_true rfl⟩) (q0 := 0) rfl (ci := 11) rfl rfl hl.1 rfl (Nat.le_of_ble_eq_true rfl) dX10_puts_4 ⟨Nat.zero_le _, Nat.zero_le _⟩ (fun H locs hS => ?_)
  refine lv_aload_n hx hb dX10_puts_7 rfl (lv_at hl 0 rfl) ?_
  refine va_get (D := D) (ci := 11) (v := .int size) (C := RX10) (T := TX10) (N := 24) hx hb hts inX10 hown hK hS.1 0 rfl rfl 5 (by decide) k0 (fun _ h => h) rfl dX10_puts_8 ?_
  refine lv_istore (lv' := [(6, .int size), (0, .ref (ad 0)), (1, .int a1), (2, .long a2), (4, .long a3)]) hx hb dX10_puts_11 hl (by decide) rfl (fun ls hl => ?_)
  obtain ⟨o_4, L_5, hE⟩ := jbd hE
  have K_6 : jW p l e rmX10_puts s m args below meth c 0 0 Q D vwCl A (MW ad cI cZ thrown trace upper lower begins size hasShares wires kind first second times byy group whole frm too isThere way sorts ohms price o_1.1 o_1.2) 8 [(0, .ref (ad 0)), (1, .int a1), (6, .int o_4)] 59 [] := by
    intro H locs ls hS hl
    refine lv_iload hx hb dX10_puts_59 (lv_at hl 2 rfl) ?_
    refine lv_iload_n hx hb dX10_puts_61 rfl (lv_at hl 1 rfl) ?_
    obtain ⟨o_13, r_15, hE⟩ := jbd hE
    have K_14 : ∀ x_16, o_13 = .inl x_16 → jW p l e rmX10_puts s m args below meth c 0 0 Q D vwCl A (MW ad cI cZ thrown trace upper lower begins size hasShares wires kind first second times byy group whole frm too isThere way sorts ohms price o_1.1 o_1.2) 8 [(0, .ref (ad 0)), (6, .int o_4)] 102 [] := by
      intro x_16 ho H locs ls hS hl
      subst ho
      have hE := jexl hE
      refine lv_aload_n hx hb dX10_puts_102 rfl (lv_at hl 0 rfl) ?_
      refine va_get (D := D) (ci := 11) (v := .int size) (C := RX10) (T := TX10) (N := 24) hx hb hts inX10 hown hK hS.1 0 rfl rfl 5 (by decide) k0 (fun _ h => h) rfl dX10_puts_103 ?_
      refine lv_istore (lv' := [(7, .int size), (0, .ref (ad 0)), (6, .int o_4)]) hx hb dX10_puts_106 hl (by decide) rfl (fun ls hl => ?_)
      obtain ⟨o_24, L_25, hE⟩ := jbd hE
      have K_26 : jW p l e rmX10_puts s m args below meth c 0 0 Q D vwCl A (MW ad cI cZ thrown trace o_24.1 o_24.2 begins size hasShares wires kind first second times byy group whole frm too isThere way sorts ohms price o_1.1 o_1.2) 8 [(0, .ref (ad 0)), (6, .int o_4)] 153 [] := by
        intro H locs ls hS hl
        refine lv_aload_n hx hb dX10_puts_153 rfl (lv_at hl 0 rfl) ?_
        refine va_get (D := D) (ci := 11) (v := .ref (ad 1)) (C := RX10) (T := TX10) (N := 24) hx hb hts inX10 hown hK hS.1 0 rfl rfl 2 (by decide) k4 (fun _ h => h) rfl dX10_puts_154 ?_
        refine lv_iload hx hb dX10_puts_157 (lv_at hl 1 rfl) ?_
        refine lv_aload_n hx hb dX10_puts_159 rfl (lv_at hl 0 rfl) ?_
        refine va_get (D := D) (ci := 11) (v := .long o_1.1) (C := RX10) (T := TX10) (N := 24) hx hb hts inX10 hown hK hS.1 0 rfl rfl 22 (by decide) k1 (fun _ h => h) rfl dX10_puts_160 ?_
        refine lv_l2i (v := o_1.1.toInt32) hx hb dX10_puts_163 rfl ?_
        obtain ⟨b_35, hE⟩ := jgd hE
        obtain ⟨upper_36, eupper_36⟩ : ∃ y : Nat → Int32, y = upd o_24.1 o_4.toNatClampNeg o_1.1.toInt32 := ⟨_, rfl⟩
        have hE := jlv hE eupper_36
        refine j_iast (w' := MW ad cI cZ thrown trace upper_36 o_24.2 begins size hasShares wires kind first second times byy group whole frm too isThere way sorts ohms price o_1.1 o_1.2) hx hb hK hS 1 0 rfl rfl (jin.mpr b_35) (by rw [eupper_36]; rfl) dX10_puts_164 (fun H locs hS => ?_)
        refine lv_aload_n hx hb dX10_puts_165 rfl (lv_at hl 0 rfl) ?_
        refine va_get (D := D) (ci := 11) (v := .ref (ad 2)) (C := RX10) (T := TX10) (N := 24) hx hb hts inX10 hown hK hS.1 0 rfl rfl 3 (by decide) k2 (fun _ h => h) rfl dX10_puts_166 ?_
        refine lv_iload hx hb dX10_puts_169 (lv_at hl 1 rfl) ?_
        refine lv_aload_n hx hb dX10_puts_171 rfl (lv_at hl 0 rfl) ?_
        refine va_get (D := D) (ci := 11) (v := .long o_1.2) (C := RX10) (T := TX10) (N := 24) hx hb hts inX10 hown hK hS.1 0 rfl rfl 23 (by decide) k3 (fun _ h => h) rfl dX10_puts_172 ?_
        refine lv_l2i (v := o_1.2.toInt32) hx hb dX10_puts_175 rfl ?_
        obtain ⟨lower_37, elower_37⟩ : ∃ y : Nat → Int32, y = upd o_24.2 o_4.toNatClampNeg o_1.2.toInt32 := ⟨_, rfl⟩
        have hE := jlv hE elower_37
        refine j_iast (w' := MW ad cI cZ thrown trace upper_36 lower_37 begins size hasShares wires kind first second times byy group whole frm too isThere way sorts ohms price o_1.1 o_1.2) hx hb hK hS 2 0 rfl rfl (jin.mpr b_35) (by rw [elower_37]; rfl) dX10_puts_176 (fun H locs hS => ?_)
        refine lv_aload_n hx hb dX10_puts_177 rfl (lv_at hl 0 rfl) ?_
        refine lv_dup hx hb dX10_puts_178 rfl ?_
        refine va_get (D := D) (ci := 11) (v := .int size) (C := RX10) (T := TX10) (N := 24) hx hb hts inX10 hown hK hS.1 0 rfl rfl 5 (by decide) k0 (fun _ h => h) rfl dX10_puts_179 ?_
        refine lv_iconst (v := (1 : Int32)) hx hb dX10_puts_182 (by decide) ?_
        refine lv_iadd hx hb dX10_puts_183 ?_
        refine j_put (ci := 11) (v := .int (size + (1 : Int32))) (ty := .int) (C := RX10) (T := TX10) (N := 24) (w' := MW ad cI cZ thrown trace upper_36 lower_37 begins (size + (1 : Int32)) hasShares wires kind first second times byy group whole frm too isThere way sorts ohms price o_1.1 o_1.2) hx hb hts inX10 tyX10 tyX10_ok nmX10 hown hK hS 0 rfl rfl 5 (by decide) k0 (fun _ h => h) rfl (by decide +kernel) rfl rfl (Nat.le_of_ble_eq_true rfl) rfl dX10_puts_184 (fun H locs hS => ?_)
        obtain rfl := jsm hE
        exact ret hS dX10_puts_187
      have loop_28 : ∀ (n : Nat) (v7_21 : Int32) (upper_22 : Nat → Int32) (lower_23 : Nat → Int32), LX10_puts_108 o_4 n v7_21 upper_22 lower_23 = some o_24 → jW p l e rmX10_puts s m args below meth c 0 0 Q D vwCl A (MW ad cI cZ thrown trace upper_22 lower_23 begins size hasShares wires kind first second times byy group whole frm too isThere way sorts ohms price o_1.1 o_1.2) 8 [(0, .ref (ad 0)), (6, .int o_4), (7, .int v7_21)] 108 [] := by
        intro n
        induction n with
        | zero =>
          intro v7_21 upper_22 lower_23 q_27
          have q_27 : none = some o_24 := q_27
          cases q_27
        | succ n ih =>
          intro v7_21 upper_22 lower_23 q_27 H locs ls hS hl
          rw [LX10_puts_108] at q_27
          refine lv_iload hx hb dX10_puts_108 (lv_at hl 2 rfl) ?_
          refine lv_iload hx hb dX10_puts_110 (lv_at hl 1 rfl) ?_
          refine lv_icmp_le (tgt := 153) hx hb dX10_puts_112 (by decide) (fun c_29 => ?_) (fun c_29 => ?_)
          · have q_27 := jt q_27 c_29
            obtain rfl := jsm q_27
            exact K_26 _ _ _ hS (lv_sub hl [0, 1] rfl)
          · have q_27 := jf q_27 c_29
            refine lv_aload_n hx hb dX10_puts_115 rfl (lv_at hl 0 rfl) ?_
            refine va_get (D := D) (ci := 11) (v := .ref (ad 1)) (C := RX10) (T := TX10) (N := 24) hx hb hts inX10 hown hK hS.1 0 rfl rfl 2 (by decide) k4 (fun _ h => h) rfl dX10_puts_116 ?_
            refine lv_iload hx hb dX10_puts_119 (lv_at hl 2 rfl) ?_
            refine lv_aload_n hx hb dX10_puts_121 rfl (lv_at hl 0 rfl) ?_
            refine va_get (D := D) (ci := 11) (v := .ref (ad 1)) (C := RX10) (T := TX10) (N := 24) hx hb hts inX10 hown hK hS.1 0 rfl rfl 2 (by decide) k4 (fun _ h => h) rfl dX10_puts_122 ?_
            refine lv_iload hx hb dX10_puts_125 (lv_at hl 2 rfl) ?_
            refine lv_iconst (v := (1 : Int32)) hx hb dX10_puts_127 (by decide) ?_
            refine lv_isub hx hb dX10_puts_128 ?_
            obtain ⟨b_30, q_27⟩ := jgd q_27
            refine va_iald hx hb hK hS.1 1 0 rfl rfl (jin.mpr b_30) dX10_puts_129 ?_
            obtain ⟨b_31, q_27⟩ := jgd q_27
            obtain ⟨upper_32, eupper_32⟩ : ∃ y : Nat → Int32, y = upd upper_22 v7_21.toNatClampNeg (upper_22 (v7_21 - (1 : Int32)).toNatClampNeg) := ⟨_, rfl⟩
            have q_27 := jlv q_27 eupper_32
            refine j_iast (w' := MW ad cI cZ thrown trace upper_32 lower_23 begins size hasShares wires kind first second times byy group whole frm too isThere way sorts ohms price o_1.1 o_1.2) hx hb hK hS 1 0 rfl rfl (jin.mpr b_31) (by rw [eupper_32]; rfl) dX10_puts_130 (fun H locs hS => ?_)
            refine lv_aload_n hx hb dX10_puts_131 rfl (lv_at hl 0 rfl) ?_
            refine va_get (D := D) (ci := 11) (v := .ref (ad 2)) (C := RX10) (T := TX10) (N := 24) hx hb hts inX10 hown hK hS.1 0 rfl rfl 3 (by decide) k2 (fun _ h => h) rfl dX10_puts_132 ?_
            refine lv_iload hx hb dX10_puts_135 (lv_at hl 2 rfl) ?_
            refine lv_aload_n hx hb dX10_puts_137 rfl (lv_at hl 0 rfl) ?_
            refine va_get (D := D) (ci := 11) (v := .ref (ad 2)) (C := RX10) (T := TX10) (N := 24) hx hb hts inX10 hown hK hS.1 0 rfl rfl 3 (by decide) k2 (fun _ h => h) rfl dX10_puts_138 ?_
            refine lv_iload hx hb dX10_puts_141 (lv_at hl 2 rfl) ?_
            refine lv_iconst (v := (1 : Int32)) hx hb dX10_puts_143 (by decide) ?_
            refine lv_isub hx hb dX10_puts_144 ?_
            refine va_iald hx hb hK hS.1 2 0 rfl rfl (jin.mpr b_30) dX10_puts_145 ?_
            obtain ⟨lower_33, elower_33⟩ : ∃ y : Nat → Int32, y = upd lower_23 v7_21.toNatClampNeg (lower_23 (v7_21 - (1 : Int32)).toNatClampNeg) := ⟨_, rfl⟩
            have q_27 := jlv q_27 elower_33
            refine j_iast (w' := MW ad cI cZ thrown trace upper_32 lower_33 begins size hasShares wires kind first second times byy group whole frm too isThere way sorts ohms price o_1.1 o_1.2) hx hb hK hS 2 0 rfl rfl (jin.mpr b_31) (by rw [elower_33]; rfl) dX10_puts_146 (fun H locs hS => ?_)
            obtain ⟨x_34, ex_34⟩ : ∃ y : Int32, y = v7_21 + (-1 : Int32) := ⟨_, rfl⟩
            have q_27 := jlv q_27 ex_34
            refine lv_iinc (v := x_34) (lv' := [(7, .int x_34), (0, .ref (ad 0)), (6, .int o_4)]) hx hb dX10_puts_147 hl (k := 2) rfl (by rw [ex_34]; rfl) (by decide) rfl (fun ls hl => ?_)
            refine lv_goto (tgt := 108) hx hb dX10_puts_150 (by decide) ?_
            exact ih x_34 upper_32 lower_33 q_27 _ _ _ hS (lv_sub hl [1, 2, 0] rfl)
      exact loop_28 5000 size upper lower L_25 _ _ _ hS (lv_sub hl [1, 2, 0] rfl)
    refine lv_icmp_le (tgt := 102) hx hb dX10_puts_62 (by decide) (fun c_17 => ?_) (fun c_17 => ?_)
    · have r_15 := jt r_15 c_17
      obtain rfl := jsm r_15
      exact K_14 _ rfl _ _ _ hS (lv_sub hl [0, 2] rfl)
    · have r_15 := jf r_15 c_17
      refine lv_aload_n hx hb dX10_puts_65 rfl (lv_at hl 0 rfl) ?_
      refine va_get (D := D) (ci := 11) (v := .long o_1.1) (C := RX10) (T := TX10) (N := 24) hx hb hts inX10 hown hK hS.1 0 rfl rfl 22 (by decide) k1 (fun _ h => h) rfl dX10_puts_66 ?_
      refine lv_aload_n hx hb dX10_puts_69 rfl (lv_at hl 0 rfl) ?_
      refine va_get (D := D) (ci := 11) (v := .ref (ad 1)) (C := RX10) (T := TX10) (N := 24) hx hb hts inX10 hown hK hS.1 0 rfl rfl 2 (by decide) k4 (fun _ h => h) rfl dX10_puts_70 ?_
      refine lv_iload hx hb dX10_puts_73 (lv_at hl 2 rfl) ?_
      refine lv_iconst (v := (1 : Int32)) hx hb dX10_puts_75 (by decide) ?_
      refine lv_isub hx hb dX10_puts_76 ?_
      obtain ⟨b_18, r_15⟩ := jgd r_15
      refine va_iald hx hb hK hS.1 1 0 rfl rfl (jin.mpr b_18) dX10_puts_77 ?_
      refine lv_i2l (v := (upper (o_4 - (1 : Int32)).toNatClampNeg).toInt64) hx hb dX10_puts_78 rfl ?_
      refine jl_ne (tgt := 102) hx hb dX10_puts_79 dX10_puts_80 (by decide) (fun c_19 => ?_) (fun c_19 => ?_)
      · have r_15 := jf r_15 c_19
        obtain rfl := jsm r_15
        exact K_14 _ rfl _ _ _ hS (lv_sub hl [0, 2] rfl)
      · have r_15 := jt r_15 c_19
        refine lv_aload_n hx hb dX10_puts_83 rfl (lv_at hl 0 rfl) ?_
        refine va_get (D := D) (ci := 11) (v := .long o_1.2) (C := RX10) (T := TX10) (N := 24) hx hb hts inX10 hown hK hS.1 0 rfl rfl 23 (by decide) k3 (fun _ h => h) rfl dX10_puts_84 ?_
        refine lv_aload_n hx hb dX10_puts_87 rfl (lv_at hl 0 rfl) ?_
        refine va_get (D := D) (ci := 11) (v := .ref (ad 2)) (C := RX10) (T := TX10) (N := 24) hx hb hts inX10 hown hK hS.1 0 rfl rfl 3 (by decide) k2 (fun _ h => h) rfl dX10_puts_88 ?_
        refine lv_iload hx hb dX10_puts_91 (lv_at hl 2 rfl) ?_
        refine lv_iconst (v := (1 : Int32)) hx hb dX10_puts_93 (by decide) ?_
        refine lv_isub hx hb dX10_puts_94 ?_
        refine va_iald hx hb hK hS.1 2 0 rfl rfl (jin.mpr b_18) dX10_puts_95 ?_
        refine lv_i2l (v := (lower (o_4 - (1 : Int32)).toNatClampNeg).toInt64) hx hb dX10_puts_96 rfl ?_
        refine jl_ne (tgt := 102) hx hb dX10_puts_97 dX10_puts_98 (by decide) (fun c_20 => ?_) (fun c_20 => ?_)
        · have r_15 := jf r_15 c_20
          obtain rfl := jsm r_15
          exact K_14 _ rfl _ _ _ hS (lv_sub hl [0, 2] rfl)
        · have r_15 := jt r_15 c_20
          obtain rfl := jsm r_15
          have hE := jexr hE
          obtain rfl := jsm hE
          exact ret hS dX10_puts_101
  have loop_8 : ∀ (n : Nat) (v6_3 : Int32), LX10_puts_13 upper lower a1 o_1 n v6_3 = some o_4 → jW p l e rmX10_puts s m args below meth c 0 0 Q D vwCl A (MW ad cI cZ thrown trace upper lower begins size hasShares wires kind first second times byy group whole frm too isThere way sorts ohms price o_1.1 o_1.2) 8 [(0, .ref (ad 0)), (1, .int a1), (6, .int v6_3)] 13 [] := by
    intro n
    induction n with
    | zero =>
      intro v6_3 q_7
      have q_7 : none = some o_4 := q_7
      cases q_7
    | succ n ih =>
      intro v6_3 q_7 H locs ls hS hl
      rw [LX10_puts_13] at q_7
      refine lv_iload hx hb dX10_puts_13 (lv_at hl 2 rfl) ?_
      refine lv_iload_n hx hb dX10_puts_15 rfl (lv_at hl 1 rfl) ?_
      refine lv_icmp_le (tgt := 59) hx hb dX10_puts_16 (by decide) (fun c_9 => ?_) (fun c_9 => ?_)
      · have q_7 := jt q_7 c_9
        obtain rfl := jsm q_7
        exact K_6 _ _ _ hS (lv_sub hl [0, 1, 2] rfl)
      · have q_7 := jf q_7 c_9
        refine lv_aload_n hx hb dX10_puts_19 rfl (lv_at hl 0 rfl) ?_
        refine va_get (D := D) (ci := 11) (v := .long o_1.1) (C := RX10) (T := TX10) (N := 24) hx hb hts inX10 hown hK hS.1 0 rfl rfl 22 (by decide) k1 (fun _ h => h) rfl dX10_puts_20 ?_
        refine lv_aload_n hx hb dX10_puts_23 rfl (lv_at hl 0 rfl) ?_
        refine va_get (D := D) (ci := 11) (v := .ref (ad 2)) (C := RX10) (T := TX10) (N := 24) hx hb hts inX10 hown hK hS.1 0 rfl rfl 3 (by decide) k2 (fun _ h => h) rfl dX10_puts_24 ?_
        refine lv_iload hx hb dX10_puts_27 (lv_at hl 2 rfl) ?_
        refine lv_iconst (v := (1 : Int32)) hx hb dX10_puts_29 (by decide) ?_
        refine lv_isub hx hb dX10_puts_30 ?_
        obtain ⟨b_10, q_7⟩ := jgd q_7
        refine va_iald hx hb hK hS.1 2 0 rfl rfl (jin.mpr b_10) dX10_puts_31 ?_
        refine lv_i2l (v := (lower (v6_3 - (1 : Int32)).toNatClampNeg).toInt64) hx hb dX10_puts_32 rfl ?_
        refine lv_lmul hx hb dX10_puts_33 ?_
        refine lv_aload_n hx hb dX10_puts_34 rfl (lv_at hl 0 rfl) ?_
        refine va_get (D := D) (ci := 11) (v := .long o_1.2) (C := RX10) (T := TX10) (N := 24) hx hb hts inX10 hown hK hS.1 0 rfl rfl 23 (by decide) k3 (fun _ h => h) rfl dX10_puts_35 ?_
        refine lv_aload_n hx hb dX10_puts_38 rfl (lv_at hl 0 rfl) ?_
        refine va_get (D := D) (ci := 11) (v := .ref (ad 1)) (C := RX10) (T := TX10) (N := 24) hx hb hts inX10 hown hK hS.1 0 rfl rfl 2 (by decide) k4 (fun _ h => h) rfl dX10_puts_39 ?_
        refine lv_iload hx hb dX10_puts_42 (lv_at hl 2 rfl) ?_
        refine lv_iconst (v := (1 : Int32)) hx hb dX10_puts_44 (by decide) ?_
        refine lv_isub hx hb dX10_puts_45 ?_
        refine va_iald hx hb hK hS.1 1 0 rfl rfl (jin.mpr b_10) dX10_puts_46 ?_
        refine lv_i2l (v := (upper (v6_3 - (1 : Int32)).toNatClampNeg).toInt64) hx hb dX10_puts_47 rfl ?_
        refine lv_lmul hx hb dX10_puts_48 ?_
        refine jl_ge (tgt := 59) hx hb dX10_puts_49 dX10_puts_50 (by decide) (fun c_11 => ?_) (fun c_11 => ?_)
        · have q_7 := jt q_7 c_11
          obtain rfl := jsm q_7
          exact K_6 _ _ _ hS (lv_sub hl [0, 1, 2] rfl)
        · have q_7 := jf q_7 c_11
          obtain ⟨x_12, ex_12⟩ : ∃ y : Int32, y = v6_3 + (-1 : Int32) := ⟨_, rfl⟩
          have q_7 := jlv q_7 ex_12
          refine lv_iinc (v := x_12) (lv' := [(6, .int x_12), (0, .ref (ad 0)), (1, .int a1)]) hx hb dX10_puts_53 hl (k := 2) rfl (by rw [ex_12]; rfl) (by decide) rfl (fun ls hl => ?_)
          refine lv_goto (tgt := 13) hx hb dX10_puts_56 (by decide) ?_
          exact ih x_12 q_7 _ _ _ hS (lv_sub hl [1, 2, 0] rfl)
  exact loop_8 5000 size L_5 _ _ _ hS (lv_sub hl [1, 2, 0] rfl)
def LX10_needShares_86 (v1_2 : Int32) (begins_16 : Nat → Int32) (v2_23 : Int32) (v3_37 : Int32) : Nat → (Int32) → (Nat → Int32) → (Nat → Int32) → (Int32) → (Int64) → (Int64) → Option ((Nat → Int32) × (Nat → Int32) × Int32 × Int64 × Int64)
  | 0, _, _, _, _, _, _ => none
  | n + 1, v4_52, upper_53, lower_54, size_55, above_56, belo_57 =>
    if jok ((v1_2 - v2_23) + (1 : Int32)) 11 then
    if (begins_16 ((v1_2 - v2_23) + (1 : Int32)).toNatClampNeg) ≤ v4_52 then
    some (upper_53, lower_54, size_55, above_56, belo_57)
    else
    if jok v3_37 1600 then
    if jok v4_52 1600 then
    jlet (((upper_53 v3_37.toNatClampNeg).toInt64 * (lower_54 v4_52.toNatClampNeg).toInt64) + ((upper_53 v4_52.toNatClampNeg).toInt64 * (lower_54 v3_37.toNatClampNeg).toInt64)) (fun x_67 => 
    (fX10_puts (begins_16 v1_2.toNatClampNeg) x_67 ((lower_54 v3_37.toNatClampNeg).toInt64 * (lower_54 v4_52.toNatClampNeg).toInt64) upper_53 lower_54 size_55).bind (fun o_68 => 
    (fX10_puts (begins_16 v1_2.toNatClampNeg) ((o_68.1 v3_37.toNatClampNeg).toInt64 * (o_68.1 v4_52.toNatClampNeg).toInt64) x_67 o_68.1 o_68.2.1 o_68.2.2.1).bind (fun o_70 => 
    jlet (v4_52 + (1 : Int32)) (fun x_72 => 
    LX10_needShares_86 v1_2 begins_16 v2_23 v3_37 n x_72 o_70.1 o_70.2.1 o_70.2.2.1 o_70.2.2.2.1 o_70.2.2.2.2))))
    else none
    else none
    else none
def LX10_needShares_64 (v1_2 : Int32) (begins_16 : Nat → Int32) (v2_23 : Int32) : Nat → (Int32) → (Nat → Int32) → (Nat → Int32) → (Int32) → (Int64) → (Int64) → Option ((Nat → Int32) × (Nat → Int32) × Int32 × Int64 × Int64)
  | 0, _, _, _, _, _, _ => none
  | n + 1, v3_37, upper_38, lower_39, size_40, above_41, belo_42 =>
    if jok (v2_23 + (1 : Int32)) 11 then
    if (begins_16 (v2_23 + (1 : Int32)).toNatClampNeg) ≤ v3_37 then
    some (upper_38, lower_39, size_40, above_41, belo_42)
    else
    if jok (v1_2 - v2_23) 11 then
    jlet (begins_16 (v1_2 - v2_23).toNatClampNeg) (fun x_51 => 
    (LX10_needShares_86 v1_2 begins_16 v2_23 v3_37 5000 x_51 upper_38 lower_39 size_40 above_41 belo_42).bind (fun o_58 => 
    jlet (v3_37 + (1 : Int32)) (fun x_73 => 
    LX10_needShares_64 v1_2 begins_16 v2_23 n x_73 o_58.1 o_58.2.1 o_58.2.2.1 o_58.2.2.2.1 o_58.2.2.2.2)))
    else none
    else none
def LX10_needShares_50 (v1_2 : Int32) (begins_16 : Nat → Int32) : Nat → (Int32) → (Nat → Int32) → (Nat → Int32) → (Int32) → (Int64) → (Int64) → Option ((Nat → Int32) × (Nat → Int32) × Int32 × Int64 × Int64)
  | 0, _, _, _, _, _, _ => none
  | n + 1, v2_23, upper_24, lower_25, size_26, above_27, belo_28 =>
    if v1_2 < ((2 : Int32) * v2_23) then
    some (upper_24, lower_25, size_26, above_27, belo_28)
    else
    if jok v2_23 11 then
    jlet (begins_16 v2_23.toNatClampNeg) (fun x_36 => 
    (LX10_needShares_64 v1_2 begins_16 v2_23 5000 x_36 upper_24 lower_25 size_26 above_27 belo_28).bind (fun o_43 => 
    jlet (v2_23 + (1 : Int32)) (fun x_74 => 
    LX10_needShares_50 v1_2 begins_16 n x_74 o_43.1 o_43.2.1 o_43.2.2.1 o_43.2.2.2.1 o_43.2.2.2.2)))
    else none
def LX10_needShares_20 : Nat → (Int32) → (Nat → Int32) → (Nat → Int32) → (Nat → Int32) → (Int32) → (Int64) → (Int64) → Option ((Nat → Int32) × (Nat → Int32) × (Nat → Int32) × Int32 × Int64 × Int64)
  | 0, _, _, _, _, _, _, _ => none
  | n + 1, v1_2, upper_3, lower_4, begins_5, size_6, above_7, belo_8 =>
    if (9 : Int32) < v1_2 then
    some (upper_3, lower_4, begins_5, size_6, above_7, belo_8)
    else
    if jok v1_2 11 then
    jlet (upd begins_5 v1_2.toNatClampNeg size_6) (fun begins_16 => 
    (if v1_2 = (1 : Int32) then
    (fX10_puts (0 : Int32) (1 : Int64) (1 : Int64) upper_3 lower_4 size_6).bind (fun o_21 => 
    some (o_21.1, o_21.2.1, o_21.2.2.1, o_21.2.2.2.1, o_21.2.2.2.2))
    else
    some (upper_3, lower_4, size_6, above_7, belo_8)).bind (fun o_17 => 
    (LX10_needShares_50 v1_2 begins_16 5000 (1 : Int32) o_17.1 o_17.2.1 o_17.2.2.1 o_17.2.2.2.1 o_17.2.2.2.2).bind (fun o_29 => 
    if jok (v1_2 + (1 : Int32)) 11 then
    jlet (upd begins_16 (v1_2 + (1 : Int32)).toNatClampNeg o_29.2.2.1) (fun begins_76 => 
    jlet (v1_2 + (1 : Int32)) (fun x_77 => 
    LX10_needShares_20 n x_77 o_29.1 o_29.2.1 begins_76 o_29.2.2.1 o_29.2.2.2.1 o_29.2.2.2.2))
    else none)))
    else none
def fX10_needShares (upper : Nat → Int32) (lower : Nat → Int32) (begins : Nat → Int32) (size : Int32) (hasShares : Int32) (above : Int64) (belo : Int64) : Option ((Nat → Int32) × (Nat → Int32) × (Nat → Int32) × Int32 × Int32 × Int64 × Int64) :=
  if hasShares = 0 then
  (LX10_needShares_20 5000 (1 : Int32) upper lower begins (0 : Int32) above belo).bind (fun o_9 => 
  some (o_9.1, o_9.2.1, o_9.2.2.1, o_9.2.2.2.1, (1 : Int32), o_9.2.2.2.2.1, o_9.2.2.2.2.2))
  else
  some (upper, lower, begins, size, hasShares, above, belo)
abbrev rmX10_needShares : Room := { frames := 3, cells := 0, slots := 0, locals := 82 }
set_option maxHeartbeats 4000000 in
set_option maxRecDepth 100000 in
theorem tX10_needShares (l : Launch) (D : va_G) (ad : Nat → Nat) (cI cJ cZ cW cS cO cG : ClassId) (thrown : Int32) (trace : Int64) (upper : Nat → Int32) (lower : Nat → Int32) (begins : Nat → Int32) (size : Int32) (hasShares : Int32) (wires : Int32) (kind : Nat → Int32) (first : Nat → Int32) (second : Nat → Int32) (times : Nat → Int32) (byy : Nat → Int32) (group : Nat → Int32) (whole : Nat → Int32) (frm : Nat → Int32) (too : Nat → Int32) (isThere : Nat → Int32) (way : Nat → Int32) (sorts : Int32) (ohms : Nat → Int32) (price : Nat → Int32) (above : Int64) (belo : Int64) {o : (Nat → Int32) × (Nat → Int32) × (Nat → Int32) × Int32 × Int32 × Int64 × Int64} (hE : fX10_needShares upper lower begins size hasShares above belo = some o) : JMv l yX10_needShares wsX10_needShares rmX10_needShares D vwCl (TY cI cJ cZ cW cS cO cG) [.ref (ad 0)] (MW ad cI cZ thrown trace upper lower begins size hasShares wires kind first second times byy group whole frm too isThere way sorts ohms price above belo) (MW ad cI cZ thrown trace o.1 o.2.1 o.2.2.1 o.2.2.2.1 o.2.2.2.2.1 wires kind first second times byy group whole frm too isThere way sorts ohms price o.2.2.2.2.2.1 o.2.2.2.2.2.2) := by
  refine JMv.of (cc := cX10_needShares) (maxL := 7) (by decide) rfl (Nat.le_of_ble_eq_true rfl) ?_
  intro p e s m args below meth c A ls Q C hK hA ret hS hl
  obtain ⟨⟨hx, hb, hml, hown, hts⟩, -⟩ := id C
  have hl : lv_has ls 7 [(0, .ref (ad 0))] := hl
  have inX10 : ∀ w ∈ u_ws RX10 TX10 24, w ∈ wsX10_needShares := by decide +kernel
  have k0 := hts (.fieldLink RX10 81 "OhmNetsModel" "hasShares" "Z") (by decide +kernel)
  have k1 := hts (.fieldLink RX10 78 "OhmNetsModel" "size" "I") (by decide +kernel)
  have k2 := hts (.fieldLink RX10 16 "OhmNetsModel" "begins" "[I") (by decide +kernel)
  have k3 := hts (.fieldLink RX10 7 "OhmNetsModel" "upper" "[I") (by decide +kernel)
  have k4 := hts (.fieldLink RX10 13 "OhmNetsModel" "lower" "[I") (by decide +kernel)
  refine lv_aload_n hx hb dX10_needShares_0 rfl (lv_at hl 0 rfl) ?_
  refine va_get (D := D) (ci := 11) (v := .int hasShares) (C := RX10) (T := TX10) (N := 24) hx hb hts inX10 hown hK hS.1 0 rfl rfl 6 (by decide) k0 (fun _ h => h) rfl dX10_needShares_1 ?_
  refine lv_if_eq (tgt := 8) hx hb dX10_needShares_4 (by decide) (fun c_1 => ?_) (fun c_1 => ?_)
  · have hE := jt hE c_1
    refine lv_aload_n hx hb dX10_needShares_8 rfl (lv_at hl 0 rfl) ?_
    refine lv_iconst (v := (1 : Int32)) hx hb dX10_needShares_9 (by decide) ?_
    refine j_put (ci := 11) (v := .int (1 : Int32)) (ty := .boolean) (C := RX10) (T := TX10) (N := 24) (w' := MW ad cI cZ thrown trace upper lower begins size (1 : Int32) wires kind first second times byy group whole frm too isThere way sorts ohms price above belo) hx hb hts inX10 tyX10 tyX10_ok nmX10 hown hK hS 0 rfl rfl 6 (by decide) k0 (fun _ h => h) rfl (by decide +kernel) (by decide) (by decide) (Nat.le_of_ble_eq_true rfl) rfl dX10_needShares_10 (fun H locs hS => ?_)
    refine lv_aload_n hx hb dX10_needShares_13 rfl (lv_at hl 0 rfl) ?_
    refine lv_iconst (v := (0 : Int32)) hx hb dX10_needShares_14 (by decide) ?_
    refine j_put (ci := 11) (v := .int (0 : Int32)) (ty := .int) (C := RX10) (T := TX10) (N := 24) (w' := MW ad cI cZ thrown trace upper lower begins (0 : Int32) (1 : Int32) wires kind first second times byy group whole frm too isThere way sorts ohms price above belo) hx hb hts inX10 tyX10 tyX10_ok nmX10 hown hK hS 0 rfl rfl 5 (by decide) k1 (fun _ h => h) rfl (by decide +kernel) rfl rfl (Nat.le_of_ble_eq_true rfl) rfl dX10_needShares_15 (fun H locs hS => ?_)
    refine lv_iconst (v := (1 : Int32)) hx hb dX10_needShares_18 (by decide) ?_
    refine lv_istore_n (lv' := [(1, .int (1 : Int32)), (0, .ref (ad 0))]) hx hb dX10_needShares_19 rfl hl (by decide) rfl (fun ls hl => ?_)
    obtain ⟨o_9, L_10, hE⟩ := jbd hE
    have K_11 : jW p l e rmX10_needShares s m args below meth c 0 0 Q D vwCl A (MW ad cI cZ thrown trace o_9.1 o_9.2.1 o_9.2.2.1 o_9.2.2.2.1 (1 : Int32) wires kind first second times byy group whole frm too isThere way sorts ohms price o_9.2.2.2.2.1 o_9.2.2.2.2.2) 7 [] 228 [] := by
      intro H locs ls hS hl
      obtain rfl := jsm hE
      exact ret hS dX10_needShares_228
    have loop_13 : ∀ (n : Nat) (v1_2 : Int32) (upper_3 : Nat → Int32) (lower_4 : Nat → Int32) (begins_5 : Nat → Int32) (size_6 : Int32) (above_7 : Int64) (belo_8 : Int64), LX10_needShares_20 n v1_2 upper_3 lower_4 begins_5 size_6 above_7 belo_8 = some o_9 → jW p l e rmX10_needShares s m args below meth c 0 0 Q D vwCl A (MW ad cI cZ thrown trace upper_3 lower_4 begins_5 size_6 (1 : Int32) wires kind first second times byy group whole frm too isThere way sorts ohms price above_7 belo_8) 7 [(0, .ref (ad 0)), (1, .int v1_2)] 20 [] := by
      intro n
      induction n with
      | zero =>
        intro v1_2 upper_3 lower_4 begins_5 size_6 above_7 belo_8 q_12
        have q_12 : none = some o_9 := q_12
        cases q_12
      | succ n ih =>
        intro v1_2 upper_3 lower_4 begins_5 size_6 above_7 belo_8 q_12 H locs ls hS hl
        rw [LX10_needShares_20] at q_12
        refine lv_iload_n hx hb dX10_needShares_20 rfl (lv_at hl 1 rfl) ?_
        refine lv_bipush (v := (9 : Int32)) hx hb dX10_needShares_21 (by decide) ?_
        refine lv_icmp_gt (tgt := 228) hx hb dX10_needShares_23 (by decide) (fun c_14 => ?_) (fun c_14 => ?_)
        · have q_12 := jt q_12 c_14
          obtain rfl := jsm q_12
          exact K_11 _ _ _ hS (lv_sub hl [] rfl)
        · have q_12 := jf q_12 c_14
          refine lv_aload_n hx hb dX10_needShares_26 rfl (lv_at hl 0 rfl) ?_
          refine va_get (D := D) (ci := 11) (v := .ref (ad 3)) (C := RX10) (T := TX10) (N := 24) hx hb hts inX10 hown hK hS.1 0 rfl rfl 4 (by decide) k2 (fun _ h => h) rfl dX10_needShares_27 ?_
          refine lv_iload_n hx hb dX10_needShares_30 rfl (lv_at hl 1 rfl) ?_
          refine lv_aload_n hx hb dX10_needShares_31 rfl (lv_at hl 0 rfl) ?_
          refine va_get (D := D) (ci := 11) (v := .int size_6) (C := RX10) (T := TX10) (N := 24) hx hb hts inX10 hown hK hS.1 0 rfl rfl 5 (by decide) k1 (fun _ h => h) rfl dX10_needShares_32 ?_
          obtain ⟨b_15, q_12⟩ := jgd q_12
          obtain ⟨begins_16, ebegins_16⟩ : ∃ y : Nat → Int32, y = upd begins_5 v1_2.toNatClampNeg size_6 := ⟨_, rfl⟩
          have q_12 := jlv q_12 ebegins_16
          refine j_iast (w' := MW ad cI cZ thrown trace upper_3 lower_4 begins_16 size_6 (1 : Int32) wires kind first second times byy group whole frm too isThere way sorts ohms price above_7 belo_8) hx hb hK hS 3 0 rfl rfl (jin.mpr b_15) (by rw [ebegins_16]; rfl) dX10_needShares_35 (fun H locs hS => ?_)
          refine lv_iload_n hx hb dX10_needShares_36 rfl (lv_at hl 1 rfl) ?_
          refine lv_iconst (v := (1 : Int32)) hx hb dX10_needShares_37 (by decide) ?_
          obtain ⟨o_17, r_19, q_12⟩ := jbd q_12
          have K_18 : jW p l e rmX10_needShares s m args below meth c 0 0 Q D vwCl A (MW ad cI cZ thrown trace o_17.1 o_17.2.1 begins_16 o_17.2.2.1 (1 : Int32) wires kind first second times byy group whole frm too isThere way sorts ohms price o_17.2.2.2.1 o_17.2.2.2.2) 7 [(0, .ref (ad 0)), (1, .int v1_2)] 48 [] := by
            intro H locs ls hS hl
            refine lv_iconst (v := (1 : Int32)) hx hb dX10_needShares_48 (by decide) ?_
            refine lv_istore_n (lv' := [(2, .int (1 : Int32)), (0, .ref (ad 0)), (1, .int v1_2)]) hx hb dX10_needShares_49 rfl hl (by decide) rfl (fun ls hl => ?_)
            obtain ⟨o_29, L_30, q_12⟩ := jbd q_12
            have K_31 : jW p l e rmX10_needShares s m args below meth c 0 0 Q D vwCl A (MW ad cI cZ thrown trace o_29.1 o_29.2.1 begins_16 o_29.2.2.1 (1 : Int32) wires kind first second times byy group whole frm too isThere way sorts ohms price o_29.2.2.2.1 o_29.2.2.2.2) 7 [(0, .ref (ad 0)), (1, .int v1_2)] 210 [] := by
              intro H locs ls hS hl
              refine lv_aload_n hx hb dX10_needShares_210 rfl (lv_at hl 0 rfl) ?_
              refine va_get (D := D) (ci := 11) (v := .ref (ad 3)) (C := RX10) (T := TX10) (N := 24) hx hb hts inX10 hown hK hS.1 0 rfl rfl 4 (by decide) k2 (fun _ h => h) rfl dX10_needShares_211 ?_
              refine lv_iload_n hx hb dX10_needShares_214 rfl (lv_at hl 1 rfl) ?_
              refine lv_iconst (v := (1 : Int32)) hx hb dX10_needShares_215 (by decide) ?_
              refine lv_iadd hx hb dX10_needShares_216 ?_
              refine lv_aload_n hx hb dX10_needShares_217 rfl (lv_at hl 0 rfl) ?_
              refine va_get (D := D) (ci := 11) (v := .int o_29.2.2.1) (C := RX10) (T := TX10) (N := 24) hx hb hts inX10 hown hK hS.1 0 rfl rfl 5 (by decide) k1 (fun _ h => h) rfl dX10_needShares_218 ?_
              obtain ⟨b_75, q_12⟩ := jgd q_12
              obtain ⟨begins_76, ebegins_76⟩ : ∃ y : Nat → Int32, y = upd begins_16 (v1_2 + (1 : Int32)).toNatClampNeg o_29.2.2.1 := ⟨_, rfl⟩
              have q_12 := jlv q_12 ebegins_76
              refine j_iast (w' := MW ad cI cZ thrown trace o_29.1 o_29.2.1 begins_76 o_29.2.2.1 (1 : Int32) wires kind first second times byy group whole frm too isThere way sorts ohms price o_29.2.2.2.1 o_29.2.2.2.2) hx hb hK hS 3 0 rfl rfl (jin.mpr b_75) (by rw [ebegins_76]; rfl) dX10_needShares_221 (fun H locs hS => ?_)
              obtain ⟨x_77, ex_77⟩ : ∃ y : Int32, y = v1_2 + (1 : Int32) := ⟨_, rfl⟩
              have q_12 := jlv q_12 ex_77
              refine lv_iinc (v := x_77) (lv' := [(1, .int x_77), (0, .ref (ad 0))]) hx hb dX10_needShares_222 hl (k := 1) rfl (by rw [ex_77]; rfl) (by decide) rfl (fun ls hl => ?_)
              refine lv_goto (tgt := 20) hx hb dX10_needShares_225 (by decide) ?_
              exact ih x_77 o_29.1 o_29.2.1 begins_76 o_29.2.2.1 o_29.2.2.2.1 o_29.2.2.2.2 q_12 _ _ _ hS (lv_sub hl [1, 0] rfl)
            have loop_33 : ∀ (n : Nat) (v2_23 : Int32) (upper_24 : Nat → Int32) (lower_25 : Nat → Int32) (size_26 : Int32) (above_27 : Int64) (belo_28 : Int64), LX10_needShares_50 v1_2 begins_16 n v2_23 upper_24 lower_25 size_26 above_27 belo_28 = some o_29 → jW p l e rmX10_needShares s m args below meth c 0 0 Q D vwCl A (MW ad cI cZ thrown trace upper_24 lower_25 begins_16 size_26 (1 : Int32) wires kind first second times byy group whole frm too isThere way sorts ohms price above_27 belo_28) 7 [(0, .ref (ad 0)), (1, .int v1_2), (2, .int v2_23)] 50 [] := by
              intro n
              induction n with
              | zero =>
                intro v2_23 upper_24 lower_25 size_26 above_27 belo_28 q_32
                have q_32 : none = some o_29 := q_32
                cases q_32
              | succ n ih =>
                intro v2_23 upper_24 lower_25 size_26 above_27 belo_28 q_32 H locs ls hS hl
                rw [LX10_needShares_50] at q_32
                refine lv_iconst (v := (2 : Int32)) hx hb dX10_needShares_50 (by decide) ?_
                refine lv_iload_n hx hb dX10_needShares_51 rfl (lv_at hl 2 rfl) ?_
                refine lv_imul hx hb dX10_needShares_52 ?_
                refine lv_iload_n hx hb dX10_needShares_53 rfl (lv_at hl 1 rfl) ?_
                refine lv_icmp_gt (tgt := 210) hx hb dX10_needShares_54 (by decide) (fun c_34 => ?_) (fun c_34 => ?_)
                · have q_32 := jt q_32 c_34
                  obtain rfl := jsm q_32
                  exact K_31 _ _ _ hS (lv_sub hl [0, 1] rfl)
                · have q_32 := jf q_32 c_34
                  refine lv_aload_n hx hb dX10_needShares_57 rfl (lv_at hl 0 rfl) ?_
                  refine va_get (D := D) (ci := 11) (v := .ref (ad 3)) (C := RX10) (T := TX10) (N := 24) hx hb hts inX10 hown hK hS.1 0 rfl rfl 4 (by decide) k2 (fun _ h => h) rfl dX10_needShares_58 ?_
                  refine lv_iload_n hx hb dX10_needShares_61 rfl (lv_at hl 2 rfl) ?_
                  obtain ⟨b_35, q_32⟩ := jgd q_32
                  refine va_iald hx hb hK hS.1 3 0 rfl rfl (jin.mpr b_35) dX10_needShares_62 ?_
                  refine lv_topi (fun x_36 ex_36 => ?_)
                  have q_32 := jlv q_32 ex_36
                  refine lv_istore_n (lv' := [(3, .int x_36), (0, .ref (ad 0)), (1, .int v1_2), (2, .int v2_23)]) hx hb dX10_needShares_63 rfl hl (by decide) rfl (fun ls hl => ?_)
                  obtain ⟨o_43, L_44, q_32⟩ := jbd q_32
                  have K_45 : jW p l e rmX10_needShares s m args below meth c 0 0 Q D vwCl A (MW ad cI cZ thrown trace o_43.1 o_43.2.1 begins_16 o_43.2.2.1 (1 : Int32) wires kind first second times byy group whole frm too isThere way sorts ohms price o_43.2.2.2.1 o_43.2.2.2.2) 7 [(0, .ref (ad 0)), (1, .int v1_2), (2, .int v2_23)] 204 [] := by
                    intro H locs ls hS hl
                    obtain ⟨x_74, ex_74⟩ : ∃ y : Int32, y = v2_23 + (1 : Int32) := ⟨_, rfl⟩
                    have q_32 := jlv q_32 ex_74
                    refine lv_iinc (v := x_74) (lv' := [(2, .int x_74), (0, .ref (ad 0)), (1, .int v1_2)]) hx hb dX10_needShares_204 hl (k := 2) rfl (by rw [ex_74]; rfl) (by decide) rfl (fun ls hl => ?_)
                    refine lv_goto (tgt := 50) hx hb dX10_needShares_207 (by decide) ?_
                    exact ih x_74 o_43.1 o_43.2.1 o_43.2.2.1 o_43.2.2.2.1 o_43.2.2.2.2 q_32 _ _ _ hS (lv_sub hl [1, 2, 0] rfl)
                  have loop_47 : ∀ (n : Nat) (v3_37 : Int32) (upper_38 : Nat → Int32) (lower_39 : Nat → Int32) (size_40 : Int32) (above_41 : Int64) (belo_42 : Int64), LX10_needShares_64 v1_2 begins_16 v2_23 n v3_37 upper_38 lower_39 size_40 above_41 belo_42 = some o_43 → jW p l e rmX10_needShares s m args below meth c 0 0 Q D vwCl A (MW ad cI cZ thrown trace upper_38 lower_39 begins_16 size_40 (1 : Int32) wires kind first second times byy group whole frm too isThere way sorts ohms price above_41 belo_42) 7 [(0, .ref (ad 0)), (1, .int v1_2), (2, .int v2_23), (3, .int v3_37)] 64 [] := by
                    intro n
                    induction n with
                    | zero =>
                      intro v3_37 upper_38 lower_39 size_40 above_41 belo_42 q_46
                      have q_46 : none = some o_43 := q_46
                      cases q_46
                    | succ n ih =>
                      intro v3_37 upper_38 lower_39 size_40 above_41 belo_42 q_46 H locs ls hS hl
                      rw [LX10_needShares_64] at q_46
                      refine lv_iload_n hx hb dX10_needShares_64 rfl (lv_at hl 3 rfl) ?_
                      refine lv_aload_n hx hb dX10_needShares_65 rfl (lv_at hl 0 rfl) ?_
                      refine va_get (D := D) (ci := 11) (v := .ref (ad 3)) (C := RX10) (T := TX10) (N := 24) hx hb hts inX10 hown hK hS.1 0 rfl rfl 4 (by decide) k2 (fun _ h => h) rfl dX10_needShares_66 ?_
                      refine lv_iload_n hx hb dX10_needShares_69 rfl (lv_at hl 2 rfl) ?_
                      refine lv_iconst (v := (1 : Int32)) hx hb dX10_needShares_70 (by decide) ?_
                      refine lv_iadd hx hb dX10_needShares_71 ?_
                      obtain ⟨b_48, q_46⟩ := jgd q_46
                      refine va_iald hx hb hK hS.1 3 0 rfl rfl (jin.mpr b_48) dX10_needShares_72 ?_
                      refine lv_icmp_ge (tgt := 204) hx hb dX10_needShares_73 (by decide) (fun c_49 => ?_) (fun c_49 => ?_)
                      · have q_46 := jt q_46 c_49
                        obtain rfl := jsm q_46
                        exact K_45 _ _ _ hS (lv_sub hl [0, 1, 2] rfl)
                      · have q_46 := jf q_46 c_49
                        refine lv_aload_n hx hb dX10_needShares_76 rfl (lv_at hl 0 rfl) ?_
                        refine va_get (D := D) (ci := 11) (v := .ref (ad 3)) (C := RX10) (T := TX10) (N := 24) hx hb hts inX10 hown hK hS.1 0 rfl rfl 4 (by decide) k2 (fun _ h => h) rfl dX10_needShares_77 ?_
                        refine lv_iload_n hx hb dX10_needShares_80 rfl (lv_at hl 1 rfl) ?_
                        refine lv_iload_n hx hb dX10_needShares_81 rfl (lv_at hl 2 rfl) ?_
                        refine lv_isub hx hb dX10_needShares_82 ?_
                        obtain ⟨b_50, q_46⟩ := jgd q_46
                        refine va_iald hx hb hK hS.1 3 0 rfl rfl (jin.mpr b_50) dX10_needShares_83 ?_
                        refine lv_topi (fun x_51 ex_51 => ?_)
                        have q_46 := jlv q_46 ex_51
                        refine lv_istore (lv' := [(4, .int x_51), (0, .ref (ad 0)), (1, .int v1_2), (2, .int v2_23), (3, .int v3_37)]) hx hb dX10_needShares_84 hl (by decide) rfl (fun ls hl => ?_)
                        obtain ⟨o_58, L_59, q_46⟩ := jbd q_46
                        have K_60 : jW p l e rmX10_needShares s m args below meth c 0 0 Q D vwCl A (MW ad cI cZ thrown trace o_58.1 o_58.2.1 begins_16 o_58.2.2.1 (1 : Int32) wires kind first second times byy group whole frm too isThere way sorts ohms price o_58.2.2.2.1 o_58.2.2.2.2) 7 [(0, .ref (ad 0)), (1, .int v1_2), (2, .int v2_23), (3, .int v3_37)] 198 [] := by
                          intro H locs ls hS hl
                          obtain ⟨x_73, ex_73⟩ : ∃ y : Int32, y = v3_37 + (1 : Int32) := ⟨_, rfl⟩
                          have q_46 := jlv q_46 ex_73
                          refine lv_iinc (v := x_73) (lv' := [(3, .int x_73), (0, .ref (ad 0)), (1, .int v1_2), (2, .int v2_23)]) hx hb dX10_needShares_198 hl (k := 3) rfl (by rw [ex_73]; rfl) (by decide) rfl (fun ls hl => ?_)
                          refine lv_goto (tgt := 64) hx hb dX10_needShares_201 (by decide) ?_
                          exact ih x_73 o_58.1 o_58.2.1 o_58.2.2.1 o_58.2.2.2.1 o_58.2.2.2.2 q_46 _ _ _ hS (lv_sub hl [1, 2, 3, 0] rfl)
                        have loop_62 : ∀ (n : Nat) (v4_52 : Int32) (upper_53 : Nat → Int32) (lower_54 : Nat → Int32) (size_55 : Int32) (above_56 : Int64) (belo_57 : Int64), LX10_needShares_86 v1_2 begins_16 v2_23 v3_37 n v4_52 upper_53 lower_54 size_55 above_56 belo_57 = some o_58 → jW p l e rmX10_needShares s m args below meth c 0 0 Q D vwCl A (MW ad cI cZ thrown trace upper_53 lower_54 begins_16 size_55 (1 : Int32) wires kind first second times byy group whole frm too isThere way sorts ohms price above_56 belo_57) 7 [(0, .ref (ad 0)), (1, .int v1_2), (2, .int v2_23), (3, .int v3_37), (4, .int v4_52)] 86 [] := by
                          intro n
                          induction n with
                          | zero =>
                            intro v4_52 upper_53 lower_54 size_55 above_56 belo_57 q_61
                            have q_61 : none = some o_58 := q_61
                            cases q_61
                          | succ n ih =>
                            intro v4_52 upper_53 lower_54 size_55 above_56 belo_57 q_61 H locs ls hS hl
                            rw [LX10_needShares_86] at q_61
                            refine lv_iload hx hb dX10_needShares_86 (lv_at hl 4 rfl) ?_
                            refine lv_aload_n hx hb dX10_needShares_88 rfl (lv_at hl 0 rfl) ?_
                            refine va_get (D := D) (ci := 11) (v := .ref (ad 3)) (C := RX10) (T := TX10) (N := 24) hx hb hts inX10 hown hK hS.1 0 rfl rfl 4 (by decide) k2 (fun _ h => h) rfl dX10_needShares_89 ?_
                            refine lv_iload_n hx hb dX10_needShares_92 rfl (lv_at hl 1 rfl) ?_
                            refine lv_iload_n hx hb dX10_needShares_93 rfl (lv_at hl 2 rfl) ?_
                            refine lv_isub hx hb dX10_needShares_94 ?_
                            refine lv_iconst (v := (1 : Int32)) hx hb dX10_needShares_95 (by decide) ?_
                            refine lv_iadd hx hb dX10_needShares_96 ?_
                            obtain ⟨b_63, q_61⟩ := jgd q_61
                            refine va_iald hx hb hK hS.1 3 0 rfl rfl (jin.mpr b_63) dX10_needShares_97 ?_
                            refine lv_icmp_ge (tgt := 198) hx hb dX10_needShares_98 (by decide) (fun c_64 => ?_) (fun c_64 => ?_)
                            · have q_61 := jt q_61 c_64
                              obtain rfl := jsm q_61
                              exact K_60 _ _ _ hS (lv_sub hl [0, 1, 2, 3] rfl)
                            · have q_61 := jf q_61 c_64
                              refine lv_aload_n hx hb dX10_needShares_101 rfl (lv_at hl 0 rfl) ?_
                              refine va_get (D := D) (ci := 11) (v := .ref (ad 1)) (C := RX10) (T := TX10) (N := 24) hx hb hts inX10 hown hK hS.1 0 rfl rfl 2 (by decide) k3 (fun _ h => h) rfl dX10_needShares_102 ?_
                              refine lv_iload_n hx hb dX10_needShares_105 rfl (lv_at hl 3 rfl) ?_
                              obtain ⟨b_65, q_61⟩ := jgd q_61
                              refine va_iald hx hb hK hS.1 1 0 rfl rfl (jin.mpr b_65) dX10_needShares_106 ?_
                              refine lv_i2l (v := (upper_53 v3_37.toNatClampNeg).toInt64) hx hb dX10_needShares_107 rfl ?_
                              refine lv_aload_n hx hb dX10_needShares_108 rfl (lv_at hl 0 rfl) ?_
                              refine va_get (D := D) (ci := 11) (v := .ref (ad 2)) (C := RX10) (T := TX10) (N := 24) hx hb hts inX10 hown hK hS.1 0 rfl rfl 3 (by decide) k4 (fun _ h => h) rfl dX10_needShares_109 ?_
                              refine lv_iload hx hb dX10_needShares_112 (lv_at hl 4 rfl) ?_
                              obtain ⟨b_66, q_61⟩ := jgd q_61
                              refine va_iald hx hb hK hS.1 2 0 rfl rfl (jin.mpr b_66) dX10_needShares_114 ?_
                              refine lv_i2l (v := (lower_54 v4_52.toNatClampNeg).toInt64) hx hb dX10_needShares_115 rfl ?_
                              refine lv_lmul hx hb dX10_needShares_116 ?_
                              refine lv_aload_n hx hb dX10_needShares_117 rfl (lv_at hl 0 rfl) ?_
                              refine va_get (D := D) (ci := 11) (v := .ref (ad 1)) (C := RX10) (T := TX10) (N := 24) hx hb hts inX10 hown hK hS.1 0 rfl rfl 2 (by decide) k3 (fun _ h => h) rfl dX10_needShares_118 ?_
                              refine lv_iload hx hb dX10_needShares_121 (lv_at hl 4 rfl) ?_
                              refine va_iald hx hb hK hS.1 1 0 rfl rfl (jin.mpr b_66) dX10_needShares_123 ?_
                              refine lv_i2l (v := (upper_53 v4_52.toNatClampNeg).toInt64) hx hb dX10_needShares_124 rfl ?_
                              refine lv_aload_n hx hb dX10_needShares_125 rfl (lv_at hl 0 rfl) ?_
                              refine va_get (D := D) (ci := 11) (v := .ref (ad 2)) (C := RX10) (T := TX10) (N := 24) hx hb hts inX10 hown hK hS.1 0 rfl rfl 3 (by decide) k4 (fun _ h => h) rfl dX10_needShares_126 ?_
                              refine lv_iload_n hx hb dX10_needShares_129 rfl (lv_at hl 3 rfl) ?_
                              refine va_iald hx hb hK hS.1 2 0 rfl rfl (jin.mpr b_65) dX10_needShares_130 ?_
                              refine lv_i2l (v := (lower_54 v3_37.toNatClampNeg).toInt64) hx hb dX10_needShares_131 rfl ?_
                              refine lv_lmul hx hb dX10_needShares_132 ?_
                              refine lv_ladd hx hb dX10_needShares_133 ?_
                              refine lv_topl (fun x_67 ex_67 => ?_)
                              have q_61 := jlv q_61 ex_67
                              refine lv_lstore (lv' := [(5, .long x_67), (0, .ref (ad 0)), (1, .int v1_2), (2, .int v2_23), (3, .int v3_37), (4, .int v4_52)]) hx hb dX10_needShares_134 hl (by decide) rfl (fun ls hl => ?_)
                              refine lv_aload_n hx hb dX10_needShares_136 rfl (lv_at hl 1 rfl) ?_
                              refine lv_aload_n hx hb dX10_needShares_137 rfl (lv_at hl 1 rfl) ?_
                              refine va_get (D := D) (ci := 11) (v := .ref (ad 3)) (C := RX10) (T := TX10) (N := 24) hx hb hts inX10 hown hK hS.1 0 rfl rfl 4 (by decide) k2 (fun _ h => h) rfl dX10_needShares_138 ?_
                              refine lv_iload_n hx hb dX10_needShares_141 rfl (lv_at hl 2 rfl) ?_
                              refine va_iald hx hb hK hS.1 3 0 rfl rfl (jin.mpr b_15) dX10_needShares_142 ?_
                              refine lv_lload hx hb dX10_needShares_143 (lv_at hl 0 rfl) ?_
                              refine lv_aload_n hx hb dX10_needShares_145 rfl (lv_at hl 1 rfl) ?_
                              refine va_get (D := D) (ci := 11) (v := .ref (ad 2)) (C := RX10) (T := TX10) (N := 24) hx hb hts inX10 hown hK hS.1 0 rfl rfl 3 (by decide) k4 (fun _ h => h) rfl dX10_needShares_146 ?_
                              refine lv_iload_n hx hb dX10_needShares_149 rfl (lv_at hl 4 rfl) ?_
                              refine va_iald hx hb hK hS.1 2 0 rfl rfl (jin.mpr b_65) dX10_needShares_150 ?_
                              refine lv_i2l (v := (lower_54 v3_37.toNatClampNeg).toInt64) hx hb dX10_needShares_151 rfl ?_
                              refine lv_aload_n hx hb dX10_needShares_152 rfl (lv_at hl 1 rfl) ?_
                              refine va_get (D := D) (ci := 11) (v := .ref (ad 2)) (C := RX10) (T := TX10) (N := 24) hx hb hts inX10 hown hK hS.1 0 rfl rfl 3 (by decide) k4 (fun _ h => h) rfl dX10_needShares_153 ?_
                              refine lv_iload hx hb dX10_needShares_156 (lv_at hl 5 rfl) ?_
                              refine va_iald hx hb hK hS.1 2 0 rfl rfl (jin.mpr b_66) dX10_needShares_158 ?_
                              refine lv_i2l (v := (lower_54 v4_52.toNatClampNeg).toInt64) hx hb dX10_needShares_159 rfl ?_
                              refine lv_lmul hx hb dX10_needShares_160 ?_
                              obtain ⟨o_68, h_69, q_61⟩ := jbd q_61
                              refine j_Vv (As := [.int (begins_16 v1_2.toNatClampNeg), .long x_67, .long ((lower_54 v3_37.toNatClampNeg).toInt64 * (lower_54 v4_52.toNatClampNeg).toInt64)]) (rest := []) (wf := MW ad cI cZ thrown trace o_68.1 o_68.2.1 begins_16 o_68.2.2.1 (1 : Int32) wires kind first second times byy group whole frm too isThere way sorts ohms price o_68.2.2.2.1 o_68.2.2.2.2) (vc := (RX10, TX10, 24)) C hK hS (jcut_all hA hS) (tX10_puts l D ad cI cJ cZ cW cS cO cG thrown trace upper_53 lower_54 begins_16 size_55 (1 : Int32) wires kind first second times byy group whole frm too isThere way sorts ohms price above_56 belo_57 (begins_16 v1_2.toNatClampNeg) x_67 ((lower_54 v3_37.toNatClampNeg).toInt64 * (lower_54 v4_52.toNatClampNeg).toInt64) h_69) (cwV 3 hts gX10_needShares_X10_puts rfl rfl rfl (by decide +kernel) ⟨Nat.le_of_ble_eq_true rfl, Nat.le_of_ble_eq_true rfl⟩) (q0 := 0) rfl (ci := 11) rfl rfl hl.1 rfl (Nat.le_of_ble_eq_true rfl) dX10_needShares_161 ⟨Nat.zero_le _, Nat.zero_le _⟩ (fun H locs hS => ?_)
                              refine lv_aload_n hx hb dX10_needShares_164 rfl (lv_at hl 1 rfl) ?_
                              refine lv_aload_n hx hb dX10_needShares_165 rfl (lv_at hl 1 rfl) ?_
                              refine va_get (D := D) (ci := 11) (v := .ref (ad 3)) (C := RX10) (T := TX10) (N := 24) hx hb hts inX10 hown hK hS.1 0 rfl rfl 4 (by decide) k2 (fun _ h => h) rfl dX10_needShares_166 ?_
                              refine lv_iload_n hx hb dX10_needShares_169 rfl (lv_at hl 2 rfl) ?_
                              refine va_iald hx hb hK hS.1 3 0 rfl rfl (jin.mpr b_15) dX10_needShares_170 ?_
                              refine lv_aload_n hx hb dX10_needShares_171 rfl (lv_at hl 1 rfl) ?_
                              refine va_get (D := D) (ci := 11) (v := .ref (ad 1)) (C := RX10) (T := TX10) (N := 24) hx hb hts inX10 hown hK hS.1 0 rfl rfl 2 (by decide) k3 (fun _ h => h) rfl dX10_needShares_172 ?_
                              refine lv_iload_n hx hb dX10_needShares_175 rfl (lv_at hl 4 rfl) ?_
                              refine va_iald hx hb hK hS.1 1 0 rfl rfl (jin.mpr b_65) dX10_needShares_176 ?_
                              refine lv_i2l (v := (o_68.1 v3_37.toNatClampNeg).toInt64) hx hb dX10_needShares_177 rfl ?_
                              refine lv_aload_n hx hb dX10_needShares_178 rfl (lv_at hl 1 rfl) ?_
                              refine va_get (D := D) (ci := 11) (v := .ref (ad 1)) (C := RX10) (T := TX10) (N := 24) hx hb hts inX10 hown hK hS.1 0 rfl rfl 2 (by decide) k3 (fun _ h => h) rfl dX10_needShares_179 ?_
                              refine lv_iload hx hb dX10_needShares_182 (lv_at hl 5 rfl) ?_
                              refine va_iald hx hb hK hS.1 1 0 rfl rfl (jin.mpr b_66) dX10_needShares_184 ?_
                              refine lv_i2l (v := (o_68.1 v4_52.toNatClampNeg).toInt64) hx hb dX10_needShares_185 rfl ?_
                              refine lv_lmul hx hb dX10_needShares_186 ?_
                              refine lv_lload hx hb dX10_needShares_187 (lv_at hl 0 rfl) ?_
                              obtain ⟨o_70, h_71, q_61⟩ := jbd q_61
                              refine j_Vv (As := [.int (begins_16 v1_2.toNatClampNeg), .long ((o_68.1 v3_37.toNatClampNeg).toInt64 * (o_68.1 v4_52.toNatClampNeg).toInt64), .long x_67]) (rest := []) (wf := MW ad cI cZ thrown trace o_70.1 o_70.2.1 begins_16 o_70.2.2.1 (1 : Int32) wires kind first second times byy group whole frm too isThere way sorts ohms price o_70.2.2.2.1 o_70.2.2.2.2) (vc := (RX10, TX10, 24)) C hK hS (jcut_all hA hS) (tX10_puts l D ad cI cJ cZ cW cS cO cG thrown trace o_68.1 o_68.2.1 begins_16 o_68.2.2.1 (1 : Int32) wires kind first second times byy group whole frm too isThere way sorts ohms price o_68.2.2.2.1 o_68.2.2.2.2 (begins_16 v1_2.toNatClampNeg) ((o_68.1 v3_37.toNatClampNeg).toInt64 * (o_68.1 v4_52.toNatClampNeg).toInt64) x_67 h_71) (cwV 3 hts gX10_needShares_X10_puts rfl rfl rfl (by decide +kernel) ⟨Nat.le_of_ble_eq_true rfl, Nat.le_of_ble_eq_true rfl⟩) (q0 := 0) rfl (ci := 11) rfl rfl hl.1 rfl (Nat.le_of_ble_eq_true rfl) dX10_needShares_189 ⟨Nat.zero_le _, Nat.zero_le _⟩ (fun H locs hS => ?_)
                              obtain ⟨x_72, ex_72⟩ : ∃ y : Int32, y = v4_52 + (1 : Int32) := ⟨_, rfl⟩
                              have q_61 := jlv q_61 ex_72
                              refine lv_iinc (v := x_72) (lv' := [(4, .int x_72), (5, .long x_67), (0, .ref (ad 0)), (1, .int v1_2), (2, .int v2_23), (3, .int v3_37)]) hx hb dX10_needShares_192 hl (k := 5) rfl (by rw [ex_72]; rfl) (by decide) rfl (fun ls hl => ?_)
                              refine lv_goto (tgt := 86) hx hb dX10_needShares_195 (by decide) ?_
                              exact ih x_72 o_70.1 o_70.2.1 o_70.2.2.1 o_70.2.2.2.1 o_70.2.2.2.2 q_61 _ _ _ hS (lv_sub hl [2, 3, 4, 5, 0] rfl)
                        exact loop_62 5000 x_51 upper_38 lower_39 size_40 above_41 belo_42 L_59 _ _ _ hS (lv_sub hl [1, 2, 3, 4, 0] rfl)
                  exact loop_47 5000 x_36 upper_24 lower_25 size_26 above_27 belo_28 L_44 _ _ _ hS (lv_sub hl [1, 2, 3, 0] rfl)
            exact loop_33 5000 (1 : Int32) o_17.1 o_17.2.1 o_17.2.2.1 o_17.2.2.2.1 o_17.2.2.2.2 L_30 _ _ _ hS (lv_sub hl [1, 2, 0] rfl)
          refine lv_icmp_ne (tgt := 48) hx hb dX10_needShares_38 (by decide) (fun c_20 => ?_) (fun c_20 => ?_)
          · have r_19 := jf r_19 c_20
            obtain rfl := jsm r_19
            exact K_18 _ _ _ hS (lv_sub hl [0, 1] rfl)
          · have r_19 := jt r_19 c_20
            refine lv_aload_n hx hb dX10_needShares_41 rfl (lv_at hl 0 rfl) ?_
            refine lv_iconst (v := (0 : Int32)) hx hb dX10_needShares_42 (by decide) ?_
            refine lv_lconst (v := (1 : Int64)) hx hb dX10_needShares_43 (by decide) ?_
            refine lv_lconst (v := (1 : Int64)) hx hb dX10_needShares_44 (by decide) ?_
            obtain ⟨o_21, h_22, r_19⟩ := jbd r_19
            refine j_Vv (As := [.int (0 : Int32), .long (1 : Int64), .long (1 : Int64)]) (rest := []) (wf := MW ad cI cZ thrown trace o_21.1 o_21.2.1 begins_16 o_21.2.2.1 (1 : Int32) wires kind first second times byy group whole frm too isThere way sorts ohms price o_21.2.2.2.1 o_21.2.2.2.2) (vc := (RX10, TX10, 24)) C hK hS (jcut_all hA hS) (tX10_puts l D ad cI cJ cZ cW cS cO cG thrown trace upper_3 lower_4 begins_16 size_6 (1 : Int32) wires kind first second times byy group whole frm too isThere way sorts ohms price above_7 belo_8 (0 : Int32) (1 : Int64) (1 : Int64) h_22) (cwV 3 hts gX10_needShares_X10_puts rfl rfl rfl (by decide +kernel) ⟨Nat.le_of_ble_eq_true rfl, Nat.le_of_ble_eq_true rfl⟩) (q0 := 0) rfl (ci := 11) rfl rfl hl.1 rfl (Nat.le_of_ble_eq_true rfl) dX10_needShares_45 ⟨Nat.zero_le _, Nat.zero_le _⟩ (fun H locs hS => ?_)
            obtain rfl := jsm r_19
            exact K_18 _ _ _ hS (lv_sub hl [0, 1] rfl)
    exact loop_13 5000 (1 : Int32) upper lower begins (0 : Int32) above belo L_10 _ _ _ hS (lv_sub hl [1, 0] rfl)
  · have hE := jf hE c_1
    obtain rfl := jsm hE
    exact ret hS dX10_needShares_7
def fX10_isParts (a1 : Int32) : Option (Int32) :=
  (fX10_in a1 (1 : Int32) (9 : Int32)).bind (fun o_1 => 
  if o_1 &&& 1 = o_1 then
  some o_1
  else none)
abbrev rmX10_isParts : Room := { frames := 1, cells := 0, slots := 0, locals := 22 }
set_option maxHeartbeats 4000000 in
set_option maxRecDepth 100000 in
theorem tX10_isParts (l : Launch) (D : va_G) (cI cJ cZ cW cS cO cG : ClassId) (a1 : Int32) {o : Int32} (hE : fX10_isParts a1 = some o) : JMi l yX10_isParts wsX10_isParts rmX10_isParts D vwCl (TY cI cJ cZ cW cS cO cG) [.int a1] ([]) ([]) o := by
  refine JMi.of (cc := cX10_isParts) (maxL := 1) (by decide) rfl (Nat.le_of_ble_eq_true rfl) ?_
  intro p e s m args below meth c A ls Q C hK hA ret hS hl
  obtain ⟨⟨hx, hb, hml, hown, hts⟩, -⟩ := id C
  have hl : lv_has ls 1 [(0, .int a1)] := hl
  refine lv_iload_n hx hb dX10_isParts_0 rfl (lv_at hl 0 rfl) ?_
  refine lv_iconst (v := (1 : Int32)) hx hb dX10_isParts_1 (by decide) ?_
  refine lv_bipush (v := (9 : Int32)) hx hb dX10_isParts_2 (by decide) ?_
  obtain ⟨o_1, h_2, hE⟩ := jbd hE
  refine j_Si (As := [.int a1, .int (1 : Int32), .int (9 : Int32)]) (rest := []) (wf := []) C hK hS (jcut_nil hA hS) (tX10_in l D cI cJ cZ cW cS cO cG a1 (1 : Int32) (9 : Int32) h_2) (va_cwS 3 hts gX10_isParts_X10_in rfl rfl rfl (by decide +kernel) ⟨Nat.le_of_ble_eq_true rfl, Nat.le_of_ble_eq_true rfl⟩) rfl hl.1 rfl (Nat.le_of_ble_eq_true rfl) dX10_isParts_4 ⟨Nat.zero_le _, Nat.zero_le _⟩ (fun H locs hS => ?_)
  obtain ⟨z_3, hE⟩ := jgd hE
  obtain rfl := jsm hE
  exact ret hS (jbool z_3) dX10_isParts_7
def fX10_countOf (a1 : Int32) (upper : Nat → Int32) (lower : Nat → Int32) (begins : Nat → Int32) (size : Int32) (hasShares : Int32) (above : Int64) (belo : Int64) : Option (Int32 × (Nat → Int32) × (Nat → Int32) × (Nat → Int32) × Int32 × Int32 × Int64 × Int64) :=
  (fX10_needShares upper lower begins size hasShares above belo).bind (fun o_1 => 
  if jok (a1 + (1 : Int32)) 11 then
  if jok a1 11 then
  some (((o_1.2.2.1 (a1 + (1 : Int32)).toNatClampNeg) - (o_1.2.2.1 a1.toNatClampNeg)), o_1.1, o_1.2.1, o_1.2.2.1, o_1.2.2.2.1, o_1.2.2.2.2.1, o_1.2.2.2.2.2.1, o_1.2.2.2.2.2.2)
  else none
  else none)
abbrev rmX10_countOf : Room := { frames := 4, cells := 0, slots := 0, locals := 108 }
set_option maxHeartbeats 4000000 in
set_option maxRecDepth 100000 in
theorem tX10_countOf (l : Launch) (D : va_G) (ad : Nat → Nat) (cI cJ cZ cW cS cO cG : ClassId) (thrown : Int32) (trace : Int64) (upper : Nat → Int32) (lower : Nat → Int32) (begins : Nat → Int32) (size : Int32) (hasShares : Int32) (wires : Int32) (kind : Nat → Int32) (first : Nat → Int32) (second : Nat → Int32) (times : Nat → Int32) (byy : Nat → Int32) (group : Nat → Int32) (whole : Nat → Int32) (frm : Nat → Int32) (too : Nat → Int32) (isThere : Nat → Int32) (way : Nat → Int32) (sorts : Int32) (ohms : Nat → Int32) (price : Nat → Int32) (above : Int64) (belo : Int64) (a1 : Int32) {o : Int32 × (Nat → Int32) × (Nat → Int32) × (Nat → Int32) × Int32 × Int32 × Int64 × Int64} (hE : fX10_countOf a1 upper lower begins size hasShares above belo = some o) : JMi l yX10_countOf wsX10_countOf rmX10_countOf D vwCl (TY cI cJ cZ cW cS cO cG) [.ref (ad 0), .int a1] (MW ad cI cZ thrown trace upper lower begins size hasShares wires kind first second times byy group whole frm too isThere way sorts ohms price above belo) (MW ad cI cZ thrown trace o.2.1 o.2.2.1 o.2.2.2.1 o.2.2.2.2.1 o.2.2.2.2.2.1 wires kind first second times byy group whole frm too isThere way sorts ohms price o.2.2.2.2.2.2.1 o.2.2.2.2.2.2.2) o.1 := by
  refine JMi.of (cc := cX10_countOf) (maxL := 2) (by decide) rfl (Nat.le_of_ble_eq_true rfl) ?_
  intro p e s m args below meth c A ls Q C hK hA ret hS hl
  obtain ⟨⟨hx, hb, hml, hown, hts⟩, -⟩ := id C
  have hl : lv_has ls 2 [(0, .ref (ad 0)), (1, .int a1)] := hl
  have inX10 : ∀ w ∈ u_ws RX10 TX10 24, w ∈ wsX10_countOf := by decide +kernel
  have k0 := hts (.fieldLink RX10 16 "OhmNetsModel" "begins" "[I") (by decide +kernel)
  refine lv_aload_n hx hb dX10_countOf_0 rfl (lv_at hl 0 rfl) ?_
  obtain ⟨o_1, h_2, hE⟩ := jbd hE
  refine j_Vv (As := []) (rest := []) (wf := MW ad cI cZ thrown trace o_1.1 o_1.2.1 o_1.2.2.1 o_1.2.2.2.1 o_1.2.2.2.2.1 wires kind first second times byy group whole frm too isThere way sorts ohms price o_1.2.2.2.2.2.1 o_1.2.2.2.2.2.2) (vc := (RX10, TX10, 24)) C hK hS (jcut_all hA hS) (tX10_needShares l D ad cI cJ cZ cW cS cO cG thrown trace upper lower begins size hasShares wires kind first second times byy group whole frm too isThere way sorts ohms price above belo h_2) (cwV 0 hts gX10_countOf_X10_needShares rfl rfl rfl (by decide +kernel) ⟨Nat.le_of_ble_eq_true rfl, Nat.le_of_ble_eq_true rfl⟩) (q0 := 0) rfl (ci := 11) rfl rfl hl.1 rfl (Nat.le_of_ble_eq_true rfl) dX10_countOf_1 ⟨Nat.zero_le _, Nat.zero_le _⟩ (fun H locs hS => ?_)
  refine lv_aload_n hx hb dX10_countOf_4 rfl (lv_at hl 0 rfl) ?_
  refine va_get (D := D) (ci := 11) (v := .ref (ad 3)) (C := RX10) (T := TX10) (N := 24) hx hb hts inX10 hown hK hS.1 0 rfl rfl 4 (by decide) k0 (fun _ h => h) rfl dX10_countOf_5 ?_
  refine lv_iload_n hx hb dX10_countOf_8 rfl (lv_at hl 1 rfl) ?_
  refine lv_iconst (v := (1 : Int32)) hx hb dX10_countOf_9 (by decide) ?_
  refine lv_iadd hx hb dX10_countOf_10 ?_
  obtain ⟨b_3, hE⟩ := jgd hE
  refine va_iald hx hb hK hS.1 3 0 rfl rfl (jin.mpr b_3) dX10_countOf_11 ?_
  refine lv_aload_n hx hb dX10_countOf_12 rfl (lv_at hl 0 rfl) ?_
  refine va_get (D := D) (ci := 11) (v := .ref (ad 3)) (C := RX10) (T := TX10) (N := 24) hx hb hts inX10 hown hK hS.1 0 rfl rfl 4 (by decide) k0 (fun _ h => h) rfl dX10_countOf_13 ?_
  refine lv_iload_n hx hb dX10_countOf_16 rfl (lv_at hl 1 rfl) ?_
  obtain ⟨b_4, hE⟩ := jgd hE
  refine va_iald hx hb hK hS.1 3 0 rfl rfl (jin.mpr b_4) dX10_countOf_17 ?_
  refine lv_isub hx hb dX10_countOf_18 ?_
  obtain rfl := jsm hE
  exact ret hS rfl dX10_countOf_19
def fX10_isShare (a1 : Int32) (a2 : Int32) (upper : Nat → Int32) (lower : Nat → Int32) (begins : Nat → Int32) (size : Int32) (hasShares : Int32) (above : Int64) (belo : Int64) : Option (Int32 × (Nat → Int32) × (Nat → Int32) × (Nat → Int32) × Int32 × Int32 × Int64 × Int64) :=
  (fX10_isParts a1).bind (fun o_1 => 
  if o_1 = 0 then
  some ((0 : Int32), upper, lower, begins, size, hasShares, above, belo)
  else
  (fX10_countOf a1 upper lower begins size hasShares above belo).bind (fun o_4 => 
  (fX10_in a2 (0 : Int32) (o_4.1 - (1 : Int32))).bind (fun o_6 => 
  if o_6 = 0 then
  some ((0 : Int32), o_4.2.1, o_4.2.2.1, o_4.2.2.2.1, o_4.2.2.2.2.1, o_4.2.2.2.2.2.1, o_4.2.2.2.2.2.2.1, o_4.2.2.2.2.2.2.2)
  else
  some ((1 : Int32), o_4.2.1, o_4.2.2.1, o_4.2.2.2.1, o_4.2.2.2.2.1, o_4.2.2.2.2.2.1, o_4.2.2.2.2.2.2.1, o_4.2.2.2.2.2.2.2))))
abbrev rmX10_isShare : Room := { frames := 5, cells := 0, slots := 0, locals := 129 }
set_option maxHeartbeats 4000000 in
set_option maxRecDepth 100000 in
theorem tX10_isShare (l : Launch) (D : va_G) (ad : Nat → Nat) (cI cJ cZ cW cS cO cG : ClassId) (thrown : Int32) (trace : Int64) (upper : Nat → Int32) (lower : Nat → Int32) (begins : Nat → Int32) (size : Int32) (hasShares : Int32) (wires : Int32) (kind : Nat → Int32) (first : Nat → Int32) (second : Nat → Int32) (times : Nat → Int32) (byy : Nat → Int32) (group : Nat → Int32) (whole : Nat → Int32) (frm : Nat → Int32) (too : Nat → Int32) (isThere : Nat → Int32) (way : Nat → Int32) (sorts : Int32) (ohms : Nat → Int32) (price : Nat → Int32) (above : Int64) (belo : Int64) (a1 : Int32) (a2 : Int32) {o : Int32 × (Nat → Int32) × (Nat → Int32) × (Nat → Int32) × Int32 × Int32 × Int64 × Int64} (hE : fX10_isShare a1 a2 upper lower begins size hasShares above belo = some o) : JMi l yX10_isShare wsX10_isShare rmX10_isShare D vwCl (TY cI cJ cZ cW cS cO cG) [.ref (ad 0), .int a1, .int a2] (MW ad cI cZ thrown trace upper lower begins size hasShares wires kind first second times byy group whole frm too isThere way sorts ohms price above belo) (MW ad cI cZ thrown trace o.2.1 o.2.2.1 o.2.2.2.1 o.2.2.2.2.1 o.2.2.2.2.2.1 wires kind first second times byy group whole frm too isThere way sorts ohms price o.2.2.2.2.2.2.1 o.2.2.2.2.2.2.2) o.1 := by
  refine JMi.of (cc := cX10_isShare) (maxL := 3) (by decide) rfl (Nat.le_of_ble_eq_true rfl) ?_
  intro p e s m args below meth c A ls Q C hK hA ret hS hl
  obtain ⟨⟨hx, hb, hml, hown, hts⟩, -⟩ := id C
  have hl : lv_has ls 3 [(0, .ref (ad 0)), (1, .int a1), (2, .int a2)] := hl
  refine lv_iload_n hx hb dX10_isShare_0 rfl (lv_at hl 1 rfl) ?_
  obtain ⟨o_1, h_2, hE⟩ := jbd hE
  refine j_Si (As := [.int a1]) (rest := []) (wf := MW ad cI cZ thrown trace upper lower begins size hasShares wires kind first second times byy group whole frm too isThere way sorts ohms price above belo) C hK hS (jcut_nil hA hS) (tX10_isParts l D cI cJ cZ cW cS cO cG a1 h_2) (va_cwS 1 hts gX10_isShare_X10_isParts rfl rfl rfl (by decide +kernel) ⟨Nat.le_of_ble_eq_true rfl, Nat.le_of_ble_eq_true rfl⟩) rfl hl.1 rfl (Nat.le_of_ble_eq_true rfl) dX10_isShare_1 ⟨Nat.zero_le _, Nat.zero_le _⟩ (fun H locs hS => ?_)
  refine lv_if_eq (tgt := 26) hx hb dX10_isShare_4 (by decide) (fun c_3 => ?_) (fun c_3 => ?_)
  · have hE := jt hE c_3
    refine lv_iconst (v := (0 : Int32)) hx hb dX10_isShare_26 (by decide) ?_
    obtain rfl := jsm hE
    exact ret hS jb0 dX10_isShare_27
  · have hE := jf hE c_3
    refine lv_iload_n hx hb dX10_isShare_7 rfl (lv_at hl 2 rfl) ?_
    refine lv_iconst (v := (0 : Int32)) hx hb dX10_isShare_8 (by decide) ?_
    refine lv_aload_n hx hb dX10_isShare_9 rfl (lv_at hl 0 rfl) ?_
    refine lv_iload_n hx hb dX10_isShare_10 rfl (lv_at hl 1 rfl) ?_
    obtain ⟨o_4, h_5, hE⟩ := jbd hE
    refine j_Vi (As := [.int a1]) (rest := [.int (0 : Int32), .int a2]) (wf := MW ad cI cZ thrown trace o_4.2.1 o_4.2.2.1 o_4.2.2.2.1 o_4.2.2.2.2.1 o_4.2.2.2.2.2.1 wires kind first second times byy group whole frm too isThere way sorts ohms price o_4.2.2.2.2.2.2.1 o_4.2.2.2.2.2.2.2) (vc := (RX10, TX10, 24)) C hK hS (jcut_all hA hS) (tX10_countOf l D ad cI cJ cZ cW cS cO cG thrown trace upper lower begins size hasShares wires kind first second times byy group whole frm too isThere way sorts ohms price above belo a1 h_5) (cwV 1 hts gX10_isShare_X10_countOf rfl rfl rfl (by decide +kernel) ⟨Nat.le_of_ble_eq_true rfl, Nat.le_of_ble_eq_true rfl⟩) (q0 := 0) rfl (ci := 11) rfl rfl hl.1 rfl (Nat.le_of_ble_eq_true rfl) dX10_isShare_11 ⟨Nat.zero_le _, Nat.zero_le _⟩ (fun H locs hS => ?_)
    refine lv_iconst (v := (1 : Int32)) hx hb dX10_isShare_14 (by decide) ?_
    refine lv_isub hx hb dX10_isShare_15 ?_
    obtain ⟨o_6, h_7, hE⟩ := jbd hE
    refine j_Si (As := [.int a2, .int (0 : Int32), .int (o_4.1 - (1 : Int32))]) (rest := []) (wf := MW ad cI cZ thrown trace o_4.2.1 o_4.2.2.1 o_4.2.2.2.1 o_4.2.2.2.2.1 o_4.2.2.2.2.2.1 wires kind first second times byy group whole frm too isThere way sorts ohms price o_4.2.2.2.2.2.2.1 o_4.2.2.2.2.2.2.2) C hK hS (jcut_nil hA hS) (tX10_in l D cI cJ cZ cW cS cO cG a2 (0 : Int32) (o_4.1 - (1 : Int32)) h_7) (va_cwS 3 hts gX10_isShare_X10_in rfl rfl rfl (by decide +kernel) ⟨Nat.le_of_ble_eq_true rfl, Nat.le_of_ble_eq_true rfl⟩) rfl hl.1 rfl (Nat.le_of_ble_eq_true rfl) dX10_isShare_16 ⟨Nat.zero_le _, Nat.zero_le _⟩ (fun H locs hS => ?_)
    refine lv_if_eq (tgt := 26) hx hb dX10_isShare_19 (by decide) (fun c_8 => ?_) (fun c_8 => ?_)
    · have hE := jt hE c_8
      refine lv_iconst (v := (0 : Int32)) hx hb dX10_isShare_26 (by decide) ?_
      obtain rfl := jsm hE
      exact ret hS jb0 dX10_isShare_27
    · have hE := jf hE c_8
      refine lv_iconst (v := (1 : Int32)) hx hb dX10_isShare_22 (by decide) ?_
      refine lv_goto (tgt := 27) hx hb dX10_isShare_23 (by decide) ?_
      obtain rfl := jsm hE
      exact ret hS jb1 dX10_isShare_27
def LX10_rankOf_12 (a1 : Int32) (a2 : Int64) (a3 : Int64) (o_1 : (Nat → Int32) × (Nat → Int32) × (Nat → Int32) × Int32 × Int32 × Int64 × Int64) : Nat → (Int32) → Option ((Unit) ⊕ (Int32 × (Nat → Int32) × (Nat → Int32) × (Nat → Int32) × Int32 × Int32 × Int64 × Int64))
  | 0, _ => none
  | n + 1, v6_5 =>
    if jok (a1 + (1 : Int32)) 11 then
    if (o_1.2.2.1 (a1 + (1 : Int32)).toNatClampNeg) ≤ v6_5 then
    some (.inl ())
    else
    if jok v6_5 1600 then
    if (a2 * (o_1.2.1 v6_5.toNatClampNeg).toInt64) = (a3 * (o_1.1 v6_5.toNatClampNeg).toInt64) then
    some (.inr ((v6_5 - (o_1.2.2.1 a1.toNatClampNeg)), o_1.1, o_1.2.1, o_1.2.2.1, o_1.2.2.2.1, o_1.2.2.2.2.1, o_1.2.2.2.2.2.1, o_1.2.2.2.2.2.2))
    else
    jlet (v6_5 + (1 : Int32)) (fun x_16 => 
    LX10_rankOf_12 a1 a2 a3 o_1 n x_16)
    else none
    else none
def fX10_rankOf (a1 : Int32) (a2 : Int64) (a3 : Int64) (upper : Nat → Int32) (lower : Nat → Int32) (begins : Nat → Int32) (size : Int32) (hasShares : Int32) (above : Int64) (belo : Int64) : Option (Int32 × (Nat → Int32) × (Nat → Int32) × (Nat → Int32) × Int32 × Int32 × Int64 × Int64) :=
  (fX10_needShares upper lower begins size hasShares above belo).bind (fun o_1 => 
  if jok a1 11 then
  jlet (o_1.2.2.1 a1.toNatClampNeg) (fun x_4 => 
  (LX10_rankOf_12 a1 a2 a3 o_1 5000 x_4).bind (fun o_6 => jex o_6 (fun x_11 => 
  some ((-9 : Int32), o_1.1, o_1.2.1, o_1.2.2.1, o_1.2.2.2.1, o_1.2.2.2.2.1, o_1.2.2.2.2.2.1, o_1.2.2.2.2.2.2)) some))
  else none)
abbrev rmX10_rankOf : Room := { frames := 4, cells := 0, slots := 0, locals := 108 }
set_option maxHeartbeats 4000000 in
set_option maxRecDepth 100000 in
theorem tX10_rankOf (l : Launch) (D : va_G) (ad : Nat → Nat) (cI cJ cZ cW cS cO cG : ClassId) (thrown : Int32) (trace : Int64) (upper : Nat → Int32) (lower : Nat → Int32) (begins : Nat → Int32) (size : Int32) (hasShares : Int32) (wires : Int32) (kind : Nat → Int32) (first : Nat → Int32) (second : Nat → Int32) (times : Nat → Int32) (byy : Nat → Int32) (group : Nat → Int32) (whole : Nat → Int32) (frm : Nat → Int32) (too : Nat → Int32) (isThere : Nat → Int32) (way : Nat → Int32) (sorts : Int32) (ohms : Nat → Int32) (price : Nat → Int32) (above : Int64) (belo : Int64) (a1 : Int32) (a2 : Int64) (a3 : Int64) {o : Int32 × (Nat → Int32) × (Nat → Int32) × (Nat → Int32) × Int32 × Int32 × Int64 × Int64} (hE : fX10_rankOf a1 a2 a3 upper lower begins size hasShares above belo = some o) : JMi l yX10_rankOf wsX10_rankOf rmX10_rankOf D vwCl (TY cI cJ cZ cW cS cO cG) [.ref (ad 0), .int a1, .long a2, .long a3] (MW ad cI cZ thrown trace upper lower begins size hasShares wires kind first second times byy group whole frm too isThere way sorts ohms price above belo) (MW ad cI cZ thrown trace o.2.1 o.2.2.1 o.2.2.2.1 o.2.2.2.2.1 o.2.2.2.2.2.1 wires kind first second times byy group whole frm too isThere way sorts ohms price o.2.2.2.2.2.2.1 o.2.2.2.2.2.2.2) o.1 := by
  refine JMi.of (cc := cX10_rankOf) (maxL := 7) (by decide) rfl (Nat.le_of_ble_eq_true rfl) ?_
  intro p e s m args below meth c A ls Q C hK hA ret hS hl
  obtain ⟨⟨hx, hb, hml, hown, hts⟩, -⟩ := id C
  have hl : lv_has ls 7 [(0, .ref (ad 0)), (1, .int a1), (2, .long a2), (4, .long a3)] := hl
  have inX10 : ∀ w ∈ u_ws RX10 TX10 24, w ∈ wsX10_rankOf := by decide +kernel
  have k0 := hts (.fieldLink RX10 16 "OhmNetsModel" "begins" "[I") (by decide +kernel)
  have k1 := hts (.fieldLink RX10 13 "OhmNetsModel" "lower" "[I") (by decide +kernel)
  have k2 := hts (.fieldLink RX10 7 "OhmNetsModel" "upper" "[I") (by decide +kernel)
  refine lv_aload_n hx hb dX10_rankOf_0 rfl (lv_at hl 0 rfl) ?_
  obtain ⟨o_1, h_2, hE⟩ := jbd hE
  refine j_Vv (As := []) (rest := []) (wf := MW ad cI cZ thrown trace o_1.1 o_1.2.1 o_1.2.2.1 o_1.2.2.2.1 o_1.2.2.2.2.1 wires kind first second times byy group whole frm too isThere way sorts ohms price o_1.2.2.2.2.2.1 o_1.2.2.2.2.2.2) (vc := (RX10, TX10, 24)) C hK hS (jcut_all hA hS) (tX10_needShares l D ad cI cJ cZ cW cS cO cG thrown trace upper lower begins size hasShares wires kind first second times byy group whole frm too isThere way sorts ohms price above belo h_2) (cwV 0 hts gX10_rankOf_X10_needShares rfl rfl rfl (by decide +kernel) ⟨Nat.le_of_ble_eq_true rfl, Nat.le_of_ble_eq_true rfl⟩) (q0 := 0) rfl (ci := 11) rfl rfl hl.1 rfl (Nat.le_of_ble_eq_true rfl) dX10_rankOf_1 ⟨Nat.zero_le _, Nat.zero_le _⟩ (fun H locs hS => ?_)
  refine lv_aload_n hx hb dX10_rankOf_4 rfl (lv_at hl 0 rfl) ?_
  refine va_get (D := D) (ci := 11) (v := .ref (ad 3)) (C := RX10) (T := TX10) (N := 24) hx hb hts inX10 hown hK hS.1 0 rfl rfl 4 (by decide) k0 (fun _ h => h) rfl dX10_rankOf_5 ?_
  refine lv_iload_n hx hb dX10_rankOf_8 rfl (lv_at hl 1 rfl) ?_
  obtain ⟨b_3, hE⟩ := jgd hE
  refine va_iald hx hb hK hS.1 3 0 rfl rfl (jin.mpr b_3) dX10_rankOf_9 ?_
  refine lv_topi (fun x_4 ex_4 => ?_)
  have hE := jlv hE ex_4
  refine lv_istore (lv' := [(6, .int x_4), (0, .ref (ad 0)), (1, .int a1), (2, .long a2), (4, .long a3)]) hx hb dX10_rankOf_10 hl (by decide) rfl (fun ls hl => ?_)
  obtain ⟨o_6, L_7, hE⟩ := jbd hE
  have K_8 : ∀ x_11, o_6 = .inl x_11 → jW p l e rmX10_rankOf s m args below meth c 0 0 Q D vwCl A (MW ad cI cZ thrown trace o_1.1 o_1.2.1 o_1.2.2.1 o_1.2.2.2.1 o_1.2.2.2.2.1 wires kind first second times byy group whole frm too isThere way sorts ohms price o_1.2.2.2.2.2.1 o_1.2.2.2.2.2.2) 7 [] 66 [] := by
    intro x_11 ho H locs ls hS hl
    subst ho
    have hE := jexl hE
    refine lv_bipush (v := (-9 : Int32)) hx hb dX10_rankOf_66 (by decide) ?_
    obtain rfl := jsm hE
    exact ret hS rfl dX10_rankOf_68
  have loop_10 : ∀ (n : Nat) (v6_5 : Int32), LX10_rankOf_12 a1 a2 a3 o_1 n v6_5 = some o_6 → jW p l e rmX10_rankOf s m args below meth c 0 0 Q D vwCl A (MW ad cI cZ thrown trace o_1.1 o_1.2.1 o_1.2.2.1 o_1.2.2.2.1 o_1.2.2.2.2.1 wires kind first second times byy group whole frm too isThere way sorts ohms price o_1.2.2.2.2.2.1 o_1.2.2.2.2.2.2) 7 [(0, .ref (ad 0)), (1, .int a1), (2, .long a2), (4, .long a3), (6, .int v6_5)] 12 [] := by
    intro n
    induction n with
    | zero =>
      intro v6_5 q_9
      have q_9 : none = some o_6 := q_9
      cases q_9
    | succ n ih =>
      intro v6_5 q_9 H locs ls hS hl
      rw [LX10_rankOf_12] at q_9
      refine lv_iload hx hb dX10_rankOf_12 (lv_at hl 4 rfl) ?_
      refine lv_aload_n hx hb dX10_rankOf_14 rfl (lv_at hl 0 rfl) ?_
      refine va_get (D := D) (ci := 11) (v := .ref (ad 3)) (C := RX10) (T := TX10) (N := 24) hx hb hts inX10 hown hK hS.1 0 rfl rfl 4 (by decide) k0 (fun _ h => h) rfl dX10_rankOf_15 ?_
      refine lv_iload_n hx hb dX10_rankOf_18 rfl (lv_at hl 1 rfl) ?_
      refine lv_iconst (v := (1 : Int32)) hx hb dX10_rankOf_19 (by decide) ?_
      refine lv_iadd hx hb dX10_rankOf_20 ?_
      obtain ⟨b_12, q_9⟩ := jgd q_9
      refine va_iald hx hb hK hS.1 3 0 rfl rfl (jin.mpr b_12) dX10_rankOf_21 ?_
      refine lv_icmp_ge (tgt := 66) hx hb dX10_rankOf_22 (by decide) (fun c_13 => ?_) (fun c_13 => ?_)
      · have q_9 := jt q_9 c_13
        obtain rfl := jsm q_9
        exact K_8 _ rfl _ _ _ hS (lv_sub hl [] rfl)
      · have q_9 := jf q_9 c_13
        refine lv_lload_n hx hb dX10_rankOf_25 rfl (lv_at hl 2 rfl) ?_
        refine lv_aload_n hx hb dX10_rankOf_26 rfl (lv_at hl 0 rfl) ?_
        refine va_get (D := D) (ci := 11) (v := .ref (ad 2)) (C := RX10) (T := TX10) (N := 24) hx hb hts inX10 hown hK hS.1 0 rfl rfl 3 (by decide) k1 (fun _ h => h) rfl dX10_rankOf_27 ?_
        refine lv_iload hx hb dX10_rankOf_30 (lv_at hl 4 rfl) ?_
        obtain ⟨b_14, q_9⟩ := jgd q_9
        refine va_iald hx hb hK hS.1 2 0 rfl rfl (jin.mpr b_14) dX10_rankOf_32 ?_
        refine lv_i2l (v := (o_1.2.1 v6_5.toNatClampNeg).toInt64) hx hb dX10_rankOf_33 rfl ?_
        refine lv_lmul hx hb dX10_rankOf_34 ?_
        refine lv_lload hx hb dX10_rankOf_35 (lv_at hl 3 rfl) ?_
        refine lv_aload_n hx hb dX10_rankOf_37 rfl (lv_at hl 0 rfl) ?_
        refine va_get (D := D) (ci := 11) (v := .ref (ad 1)) (C := RX10) (T := TX10) (N := 24) hx hb hts inX10 hown hK hS.1 0 rfl rfl 2 (by decide) k2 (fun _ h => h) rfl dX10_rankOf_38 ?_
        refine lv_iload hx hb dX10_rankOf_41 (lv_at hl 4 rfl) ?_
        refine va_iald hx hb hK hS.1 1 0 rfl rfl (jin.mpr b_14) dX10_rankOf_43 ?_
        refine lv_i2l (v := (o_1.1 v6_5.toNatClampNeg).toInt64) hx hb dX10_rankOf_44 rfl ?_
        refine lv_lmul hx hb dX10_rankOf_45 ?_
        refine jl_ne (tgt := 60) hx hb dX10_rankOf_46 dX10_rankOf_47 (by decide) (fun c_15 => ?_) (fun c_15 => ?_)
        · have q_9 := jf q_9 c_15
          obtain ⟨x_16, ex_16⟩ : ∃ y : Int32, y = v6_5 + (1 : Int32) := ⟨_, rfl⟩
          have q_9 := jlv q_9 ex_16
          refine lv_iinc (v := x_16) (lv' := [(6, .int x_16), (0, .ref (ad 0)), (1, .int a1), (2, .long a2), (4, .long a3)]) hx hb dX10_rankOf_60 hl (k := 4) rfl (by rw [ex_16]; rfl) (by decide) rfl (fun ls hl => ?_)
          refine lv_goto (tgt := 12) hx hb dX10_rankOf_63 (by decide) ?_
          exact ih x_16 q_9 _ _ _ hS (lv_sub hl [1, 2, 3, 4, 0] rfl)
        · have q_9 := jt q_9 c_15
          refine lv_iload hx hb dX10_rankOf_50 (lv_at hl 4 rfl) ?_
          refine lv_aload_n hx hb dX10_rankOf_52 rfl (lv_at hl 0 rfl) ?_
          refine va_get (D := D) (ci := 11) (v := .ref (ad 3)) (C := RX10) (T := TX10) (N := 24) hx hb hts inX10 hown hK hS.1 0 rfl rfl 4 (by decide) k0 (fun _ h => h) rfl dX10_rankOf_53 ?_
          refine lv_iload_n hx hb dX10_rankOf_56 rfl (lv_at hl 1 rfl) ?_
          refine va_iald hx hb hK hS.1 3 0 rfl rfl (jin.mpr b_3) dX10_rankOf_57 ?_
          refine lv_isub hx hb dX10_rankOf_58 ?_
          obtain rfl := jsm q_9
          have hE := jexr hE
          obtain rfl := jsm hE
          exact ret hS rfl dX10_rankOf_59
  exact loop_10 5000 x_4 L_7 _ _ _ hS (lv_sub hl [1, 2, 3, 4, 0] rfl)
def fX10_many (a1 : Int32) (upper : Nat → Int32) (lower : Nat → Int32) (begins : Nat → Int32) (size : Int32) (hasShares : Int32) (above : Int64) (belo : Int64) : Option (Int32 × Int32 × (Nat → Int32) × (Nat → Int32) × (Nat → Int32) × Int32 × Int32 × Int64 × Int64) :=
  (fX10_isParts a1).bind (fun o_1 => 
  if o_1 = 0 then
  some ((-1 : Int32), (0 : Int32), upper, lower, begins, size, hasShares, above, belo)
  else
  (fX10_countOf a1 upper lower begins size hasShares above belo).bind (fun o_4 => 
  some (o_4.1, (0 : Int32), o_4.2.1, o_4.2.2.1, o_4.2.2.2.1, o_4.2.2.2.2.1, o_4.2.2.2.2.2.1, o_4.2.2.2.2.2.2.1, o_4.2.2.2.2.2.2.2)))
abbrev rmX10_many : Room := { frames := 5, cells := 0, slots := 0, locals := 129 }
set_option maxHeartbeats 4000000 in
set_option maxRecDepth 100000 in
theorem tX10_many (l : Launch) (D : va_G) (ad : Nat → Nat) (cI cJ cZ cW cS cO cG : ClassId) (thrown : Int32) (trace : Int64) (upper : Nat → Int32) (lower : Nat → Int32) (begins : Nat → Int32) (size : Int32) (hasShares : Int32) (wires : Int32) (kind : Nat → Int32) (first : Nat → Int32) (second : Nat → Int32) (times : Nat → Int32) (byy : Nat → Int32) (group : Nat → Int32) (whole : Nat → Int32) (frm : Nat → Int32) (too : Nat → Int32) (isThere : Nat → Int32) (way : Nat → Int32) (sorts : Int32) (ohms : Nat → Int32) (price : Nat → Int32) (above : Int64) (belo : Int64) (a1 : Int32) {o : Int32 × Int32 × (Nat → Int32) × (Nat → Int32) × (Nat → Int32) × Int32 × Int32 × Int64 × Int64} (hE : fX10_many a1 upper lower begins size hasShares above belo = some o) : JMi l yX10_many wsX10_many rmX10_many D vwCl (TY cI cJ cZ cW cS cO cG) [.ref (ad 0), .int a1] (MW ad cI cZ thrown trace upper lower begins size hasShares wires kind first second times byy group whole frm too isThere way sorts ohms price above belo) (MW ad cI cZ o.2.1 trace o.2.2.1 o.2.2.2.1 o.2.2.2.2.1 o.2.2.2.2.2.1 o.2.2.2.2.2.2.1 wires kind first second times byy group whole frm too isThere way sorts ohms price o.2.2.2.2.2.2.2.1 o.2.2.2.2.2.2.2.2) o.1 := by
  refine JMi.of (cc := cX10_many) (maxL := 2) (by decide) rfl (Nat.le_of_ble_eq_true rfl) ?_
  intro p e s m args below meth c A ls Q C hK hA ret hS hl
  obtain ⟨⟨hx, hb, hml, hown, hts⟩, -⟩ := id C
  have hl : lv_has ls 2 [(0, .ref (ad 0)), (1, .int a1)] := hl
  have inX10 : ∀ w ∈ u_ws RX10 TX10 24, w ∈ wsX10_many := by decide +kernel
  have k0 := hts (.fieldLink RX10 59 "OhmNetsModel" "thrown" "I") (by decide +kernel)
  refine lv_aload_n hx hb dX10_many_0 rfl (lv_at hl 0 rfl) ?_
  refine lv_iconst (v := (0 : Int32)) hx hb dX10_many_1 (by decide) ?_
  refine j_put (ci := 11) (v := .int (0 : Int32)) (ty := .int) (C := RX10) (T := TX10) (N := 24) (w' := MW ad cI cZ (0 : Int32) trace upper lower begins size hasShares wires kind first second times byy group whole frm too isThere way sorts ohms price above belo) hx hb hts inX10 tyX10 tyX10_ok nmX10 hown hK hS 0 rfl rfl 0 (by decide) k0 (fun _ h => h) rfl (by decide +kernel) rfl rfl (Nat.le_of_ble_eq_true rfl) rfl dX10_many_2 (fun H locs hS => ?_)
  refine lv_iload_n hx hb dX10_many_5 rfl (lv_at hl 1 rfl) ?_
  obtain ⟨o_1, h_2, hE⟩ := jbd hE
  refine j_Si (As := [.int a1]) (rest := []) (wf := MW ad cI cZ (0 : Int32) trace upper lower begins size hasShares wires kind first second times byy group whole frm too isThere way sorts ohms price above belo) C hK hS (jcut_nil hA hS) (tX10_isParts l D cI cJ cZ cW cS cO cG a1 h_2) (va_cwS 1 hts gX10_many_X10_isParts rfl rfl rfl (by decide +kernel) ⟨Nat.le_of_ble_eq_true rfl, Nat.le_of_ble_eq_true rfl⟩) rfl hl.1 rfl (Nat.le_of_ble_eq_true rfl) dX10_many_6 ⟨Nat.zero_le _, Nat.zero_le _⟩ (fun H locs hS => ?_)
  refine lv_if_eq (tgt := 20) hx hb dX10_many_9 (by decide) (fun c_3 => ?_) (fun c_3 => ?_)
  · have hE := jt hE c_3
    refine lv_iconst (v := (-1 : Int32)) hx hb dX10_many_20 (by decide) ?_
    obtain rfl := jsm hE
    exact ret hS rfl dX10_many_21
  · have hE := jf hE c_3
    refine lv_aload_n hx hb dX10_many_12 rfl (lv_at hl 0 rfl) ?_
    refine lv_iload_n hx hb dX10_many_13 rfl (lv_at hl 1 rfl) ?_
    obtain ⟨o_4, h_5, hE⟩ := jbd hE
    refine j_Vi (As := [.int a1]) (rest := []) (wf := MW ad cI cZ (0 : Int32) trace o_4.2.1 o_4.2.2.1 o_4.2.2.2.1 o_4.2.2.2.2.1 o_4.2.2.2.2.2.1 wires kind first second times byy group whole frm too isThere way sorts ohms price o_4.2.2.2.2.2.2.1 o_4.2.2.2.2.2.2.2) (vc := (RX10, TX10, 24)) C hK hS (jcut_all hA hS) (tX10_countOf l D ad cI cJ cZ cW cS cO cG (0 : Int32) trace upper lower begins size hasShares wires kind first second times byy group whole frm too isThere way sorts ohms price above belo a1 h_5) (cwV 1 hts gX10_many_X10_countOf rfl rfl rfl (by decide +kernel) ⟨Nat.le_of_ble_eq_true rfl, Nat.le_of_ble_eq_true rfl⟩) (q0 := 0) rfl (ci := 11) rfl rfl hl.1 rfl (Nat.le_of_ble_eq_true rfl) dX10_many_14 ⟨Nat.zero_le _, Nat.zero_le _⟩ (fun H locs hS => ?_)
    refine lv_goto (tgt := 21) hx hb dX10_many_17 (by decide) ?_
    obtain rfl := jsm hE
    exact ret hS rfl dX10_many_21
def fX10_share (a1 : Int32) (a2 : Int32) (a3 : Int32) (upper : Nat → Int32) (lower : Nat → Int32) (begins : Nat → Int32) (size : Int32) (hasShares : Int32) (above : Int64) (belo : Int64) : Option (Int32 × Int32 × (Nat → Int32) × (Nat → Int32) × (Nat → Int32) × Int32 × Int32 × Int64 × Int64) :=
  (fX10_isShare a1 a2 upper lower begins size hasShares above belo).bind (fun o_1 => 
  if o_1.1 = 0 then
  some ((-1 : Int32), (0 : Int32), o_1.2.1, o_1.2.2.1, o_1.2.2.2.1, o_1.2.2.2.2.1, o_1.2.2.2.2.2.1, o_1.2.2.2.2.2.2.1, o_1.2.2.2.2.2.2.2)
  else
  (fX10_in a3 (0 : Int32) (1 : Int32)).bind (fun o_4 => 
  if o_4 = 0 then
  some ((-1 : Int32), (0 : Int32), o_1.2.1, o_1.2.2.1, o_1.2.2.2.1, o_1.2.2.2.2.1, o_1.2.2.2.2.2.1, o_1.2.2.2.2.2.2.1, o_1.2.2.2.2.2.2.2)
  else
  if a3 = 0 then
  if jok a1 11 then
  if jok ((o_1.2.2.2.1 a1.toNatClampNeg) + a2) 1600 then
  some ((o_1.2.1 ((o_1.2.2.2.1 a1.toNatClampNeg) + a2).toNatClampNeg), (0 : Int32), o_1.2.1, o_1.2.2.1, o_1.2.2.2.1, o_1.2.2.2.2.1, o_1.2.2.2.2.2.1, o_1.2.2.2.2.2.2.1, o_1.2.2.2.2.2.2.2)
  else none
  else none
  else
  if jok a1 11 then
  if jok ((o_1.2.2.2.1 a1.toNatClampNeg) + a2) 1600 then
  some ((o_1.2.2.1 ((o_1.2.2.2.1 a1.toNatClampNeg) + a2).toNatClampNeg), (0 : Int32), o_1.2.1, o_1.2.2.1, o_1.2.2.2.1, o_1.2.2.2.2.1, o_1.2.2.2.2.2.1, o_1.2.2.2.2.2.2.1, o_1.2.2.2.2.2.2.2)
  else none
  else none))
abbrev rmX10_share : Room := { frames := 6, cells := 0, slots := 0, locals := 151 }
set_option maxHeartbeats 4000000 in
set_option maxRecDepth 100000 in
theorem tX10_share (l : Launch) (D : va_G) (ad : Nat → Nat) (cI cJ cZ cW cS cO cG : ClassId) (thrown : Int32) (trace : Int64) (upper : Nat → Int32) (lower : Nat → Int32) (begins : Nat → Int32) (size : Int32) (hasShares : Int32) (wires : Int32) (kind : Nat → Int32) (first : Nat → Int32) (second : Nat → Int32) (times : Nat → Int32) (byy : Nat → Int32) (group : Nat → Int32) (whole : Nat → Int32) (frm : Nat → Int32) (too : Nat → Int32) (isThere : Nat → Int32) (way : Nat → Int32) (sorts : Int32) (ohms : Nat → Int32) (price : Nat → Int32) (above : Int64) (belo : Int64) (a1 : Int32) (a2 : Int32) (a3 : Int32) {o : Int32 × Int32 × (Nat → Int32) × (Nat → Int32) × (Nat → Int32) × Int32 × Int32 × Int64 × Int64} (hE : fX10_share a1 a2 a3 upper lower begins size hasShares above belo = some o) : JMi l yX10_share wsX10_share rmX10_share D vwCl (TY cI cJ cZ cW cS cO cG) [.ref (ad 0), .int a1, .int a2, .int a3] (MW ad cI cZ thrown trace upper lower begins size hasShares wires kind first second times byy group whole frm too isThere way sorts ohms price above belo) (MW ad cI cZ o.2.1 trace o.2.2.1 o.2.2.2.1 o.2.2.2.2.1 o.2.2.2.2.2.1 o.2.2.2.2.2.2.1 wires kind first second times byy group whole frm too isThere way sorts ohms price o.2.2.2.2.2.2.2.1 o.2.2.2.2.2.2.2.2) o.1 := by
  refine JMi.of (cc := cX10_share) (maxL := 4) (by decide) rfl (Nat.le_of_ble_eq_true rfl) ?_
  intro p e s m args below meth c A ls Q C hK hA ret hS hl
  obtain ⟨⟨hx, hb, hml, hown, hts⟩, -⟩ := id C
  have hl : lv_has ls 4 [(0, .ref (ad 0)), (1, .int a1), (2, .int a2), (3, .int a3)] := hl
  have inX10 : ∀ w ∈ u_ws RX10 TX10 24, w ∈ wsX10_share := by decide +kernel
  have k0 := hts (.fieldLink RX10 59 "OhmNetsModel" "thrown" "I") (by decide +kernel)
  have k1 := hts (.fieldLink RX10 13 "OhmNetsModel" "lower" "[I") (by decide +kernel)
  have k2 := hts (.fieldLink RX10 16 "OhmNetsModel" "begins" "[I") (by decide +kernel)
  have k3 := hts (.fieldLink RX10 7 "OhmNetsModel" "upper" "[I") (by decide +kernel)
  refine lv_aload_n hx hb dX10_share_0 rfl (lv_at hl 0 rfl) ?_
  refine lv_iconst (v := (0 : Int32)) hx hb dX10_share_1 (by decide) ?_
  refine j_put (ci := 11) (v := .int (0 : Int32)) (ty := .int) (C := RX10) (T := TX10) (N := 24) (w' := MW ad cI cZ (0 : Int32) trace upper lower begins size hasShares wires kind first second times byy group whole frm too isThere way sorts ohms price above belo) hx hb hts inX10 tyX10 tyX10_ok nmX10 hown hK hS 0 rfl rfl 0 (by decide) k0 (fun _ h => h) rfl (by decide +kernel) rfl rfl (Nat.le_of_ble_eq_true rfl) rfl dX10_share_2 (fun H locs hS => ?_)
  refine lv_aload_n hx hb dX10_share_5 rfl (lv_at hl 0 rfl) ?_
  refine lv_iload_n hx hb dX10_share_6 rfl (lv_at hl 1 rfl) ?_
  refine lv_iload_n hx hb dX10_share_7 rfl (lv_at hl 2 rfl) ?_
  obtain ⟨o_1, h_2, hE⟩ := jbd hE
  refine j_Vi (As := [.int a1, .int a2]) (rest := []) (wf := MW ad cI cZ (0 : Int32) trace o_1.2.1 o_1.2.2.1 o_1.2.2.2.1 o_1.2.2.2.2.1 o_1.2.2.2.2.2.1 wires kind first second times byy group whole frm too isThere way sorts ohms price o_1.2.2.2.2.2.2.1 o_1.2.2.2.2.2.2.2) (vc := (RX10, TX10, 24)) C hK hS (jcut_all hA hS) (tX10_isShare l D ad cI cJ cZ cW cS cO cG (0 : Int32) trace upper lower begins size hasShares wires kind first second times byy group whole frm too isThere way sorts ohms price above belo a1 a2 h_2) (cwV 2 hts gX10_share_X10_isShare rfl rfl rfl (by decide +kernel) ⟨Nat.le_of_ble_eq_true rfl, Nat.le_of_ble_eq_true rfl⟩) (q0 := 0) rfl (ci := 11) rfl rfl hl.1 rfl (Nat.le_of_ble_eq_true rfl) dX10_share_8 ⟨Nat.zero_le _, Nat.zero_le _⟩ (fun H locs hS => ?_)
  refine lv_if_eq (tgt := 23) hx hb dX10_share_11 (by decide) (fun c_3 => ?_) (fun c_3 => ?_)
  · have hE := jt hE c_3
    refine lv_iconst (v := (-1 : Int32)) hx hb dX10_share_23 (by decide) ?_
    obtain rfl := jsm hE
    exact ret hS rfl dX10_share_24
  · have hE := jf hE c_3
    refine lv_iload_n hx hb dX10_share_14 rfl (lv_at hl 3 rfl) ?_
    refine lv_iconst (v := (0 : Int32)) hx hb dX10_share_15 (by decide) ?_
    refine lv_iconst (v := (1 : Int32)) hx hb dX10_share_16 (by decide) ?_
    obtain ⟨o_4, h_5, hE⟩ := jbd hE
    refine j_Si (As := [.int a3, .int (0 : Int32), .int (1 : Int32)]) (rest := []) (wf := MW ad cI cZ (0 : Int32) trace o_1.2.1 o_1.2.2.1 o_1.2.2.2.1 o_1.2.2.2.2.1 o_1.2.2.2.2.2.1 wires kind first second times byy group whole frm too isThere way sorts ohms price o_1.2.2.2.2.2.2.1 o_1.2.2.2.2.2.2.2) C hK hS (jcut_nil hA hS) (tX10_in l D cI cJ cZ cW cS cO cG a3 (0 : Int32) (1 : Int32) h_5) (va_cwS 3 hts gX10_share_X10_in rfl rfl rfl (by decide +kernel) ⟨Nat.le_of_ble_eq_true rfl, Nat.le_of_ble_eq_true rfl⟩) rfl hl.1 rfl (Nat.le_of_ble_eq_true rfl) dX10_share_17 ⟨Nat.zero_le _, Nat.zero_le _⟩ (fun H locs hS => ?_)
    refine lv_if_ne (tgt := 25) hx hb dX10_share_20 (by decide) (fun c_6 => ?_) (fun c_6 => ?_)
    · have hE := jf hE c_6
      refine lv_iload_n hx hb dX10_share_25 rfl (lv_at hl 3 rfl) ?_
      refine lv_if_ne (tgt := 45) hx hb dX10_share_26 (by decide) (fun c_7 => ?_) (fun c_7 => ?_)
      · have hE := jf hE c_7
        refine lv_aload_n hx hb dX10_share_45 rfl (lv_at hl 0 rfl) ?_
        refine va_get (D := D) (ci := 11) (v := .ref (ad 2)) (C := RX10) (T := TX10) (N := 24) hx hb hts inX10 hown hK hS.1 0 rfl rfl 3 (by decide) k1 (fun _ h => h) rfl dX10_share_46 ?_
        refine lv_aload_n hx hb dX10_share_49 rfl (lv_at hl 0 rfl) ?_
        refine va_get (D := D) (ci := 11) (v := .ref (ad 3)) (C := RX10) (T := TX10) (N := 24) hx hb hts inX10 hown hK hS.1 0 rfl rfl 4 (by decide) k2 (fun _ h => h) rfl dX10_share_50 ?_
        refine lv_iload_n hx hb dX10_share_53 rfl (lv_at hl 1 rfl) ?_
        obtain ⟨b_8, hE⟩ := jgd hE
        refine va_iald hx hb hK hS.1 3 0 rfl rfl (jin.mpr b_8) dX10_share_54 ?_
        refine lv_iload_n hx hb dX10_share_55 rfl (lv_at hl 2 rfl) ?_
        refine lv_iadd hx hb dX10_share_56 ?_
        obtain ⟨b_9, hE⟩ := jgd hE
        refine va_iald hx hb hK hS.1 2 0 rfl rfl (jin.mpr b_9) dX10_share_57 ?_
        obtain rfl := jsm hE
        exact ret hS rfl dX10_share_58
      · have hE := jt hE c_7
        refine lv_aload_n hx hb dX10_share_29 rfl (lv_at hl 0 rfl) ?_
        refine va_get (D := D) (ci := 11) (v := .ref (ad 1)) (C := RX10) (T := TX10) (N := 24) hx hb hts inX10 hown hK hS.1 0 rfl rfl 2 (by decide) k3 (fun _ h => h) rfl dX10_share_30 ?_
        refine lv_aload_n hx hb dX10_share_33 rfl (lv_at hl 0 rfl) ?_
        refine va_get (D := D) (ci := 11) (v := .ref (ad 3)) (C := RX10) (T := TX10) (N := 24) hx hb hts inX10 hown hK hS.1 0 rfl rfl 4 (by decide) k2 (fun _ h => h) rfl dX10_share_34 ?_
        refine lv_iload_n hx hb dX10_share_37 rfl (lv_at hl 1 rfl) ?_
        obtain ⟨b_10, hE⟩ := jgd hE
        refine va_iald hx hb hK hS.1 3 0 rfl rfl (jin.mpr b_10) dX10_share_38 ?_
        refine lv_iload_n hx hb dX10_share_39 rfl (lv_at hl 2 rfl) ?_
        refine lv_iadd hx hb dX10_share_40 ?_
        obtain ⟨b_11, hE⟩ := jgd hE
        refine va_iald hx hb hK hS.1 1 0 rfl rfl (jin.mpr b_11) dX10_share_41 ?_
        refine lv_goto (tgt := 58) hx hb dX10_share_42 (by decide) ?_
        obtain rfl := jsm hE
        exact ret hS rfl dX10_share_58
    · have hE := jt hE c_6
      refine lv_iconst (v := (-1 : Int32)) hx hb dX10_share_23 (by decide) ?_
      obtain rfl := jsm hE
      exact ret hS rfl dX10_share_24
def fX10_isFraction (a1 : Int32) (a2 : Int32) : Option (Int32) :=
  (fX10_in a1 (1 : Int32) (1000000 : Int32)).bind (fun o_1 => 
  if o_1 = 0 then
  some (0 : Int32)
  else
  (fX10_in a2 (1 : Int32) (1000000 : Int32)).bind (fun o_4 => 
  if o_4 = 0 then
  some (0 : Int32)
  else
  some (1 : Int32)))
abbrev rmX10_isFraction : Room := { frames := 1, cells := 0, slots := 0, locals := 22 }
set_option maxHeartbeats 4000000 in
set_option maxRecDepth 100000 in
theorem tX10_isFraction (l : Launch) (D : va_G) (cI cJ cZ cW cS cO cG : ClassId) (a1 : Int32) (a2 : Int32) {o : Int32} (hE : fX10_isFraction a1 a2 = some o) : JMi l yX10_isFraction wsX10_isFraction rmX10_isFraction D vwCl (TY cI cJ cZ cW cS cO cG) [.int a1, .int a2] ([]) ([]) o := by
  refine JMi.of (cc := cX10_isFraction) (maxL := 2) (by decide) rfl (Nat.le_of_ble_eq_true rfl) ?_
  intro p e s m args below meth c A ls Q C hK hA ret hS hl
  obtain ⟨⟨hx, hb, hml, hown, hts⟩, -⟩ := id C
  have hl : lv_has ls 2 [(0, .int a1), (1, .int a2)] := hl
  have k0 := hts (.constant RX10 108 (1000000)) (by decide +kernel)
  refine lv_iload_n hx hb dX10_isFraction_0 rfl (lv_at hl 0 rfl) ?_
  refine lv_iconst (v := (1 : Int32)) hx hb dX10_isFraction_1 (by decide) ?_
  refine lv_ldc (v := (1000000 : Int32)) hx hb hown k0 dX10_isFraction_2 ?_
  obtain ⟨o_1, h_2, hE⟩ := jbd hE
  refine j_Si (As := [.int a1, .int (1 : Int32), .int (1000000 : Int32)]) (rest := []) (wf := []) C hK hS (jcut_nil hA hS) (tX10_in l D cI cJ cZ cW cS cO cG a1 (1 : Int32) (1000000 : Int32) h_2) (va_cwS 3 hts gX10_isFraction_X10_in rfl rfl rfl (by decide +kernel) ⟨Nat.le_of_ble_eq_true rfl, Nat.le_of_ble_eq_true rfl⟩) rfl hl.1 rfl (Nat.le_of_ble_eq_true rfl) dX10_isFraction_4 ⟨Nat.zero_le _, Nat.zero_le _⟩ (fun H locs hS => ?_)
  refine lv_if_eq (tgt := 24) hx hb dX10_isFraction_7 (by decide) (fun c_3 => ?_) (fun c_3 => ?_)
  · have hE := jt hE c_3
    refine lv_iconst (v := (0 : Int32)) hx hb dX10_isFraction_24 (by decide) ?_
    obtain rfl := jsm hE
    exact ret hS jb0 dX10_isFraction_25
  · have hE := jf hE c_3
    refine lv_iload_n hx hb dX10_isFraction_10 rfl (lv_at hl 1 rfl) ?_
    refine lv_iconst (v := (1 : Int32)) hx hb dX10_isFraction_11 (by decide) ?_
    refine lv_ldc (v := (1000000 : Int32)) hx hb hown k0 dX10_isFraction_12 ?_
    obtain ⟨o_4, h_5, hE⟩ := jbd hE
    refine j_Si (As := [.int a2, .int (1 : Int32), .int (1000000 : Int32)]) (rest := []) (wf := []) C hK hS (jcut_nil hA hS) (tX10_in l D cI cJ cZ cW cS cO cG a2 (1 : Int32) (1000000 : Int32) h_5) (va_cwS 3 hts gX10_isFraction_X10_in rfl rfl rfl (by decide +kernel) ⟨Nat.le_of_ble_eq_true rfl, Nat.le_of_ble_eq_true rfl⟩) rfl hl.1 rfl (Nat.le_of_ble_eq_true rfl) dX10_isFraction_14 ⟨Nat.zero_le _, Nat.zero_le _⟩ (fun H locs hS => ?_)
    refine lv_if_eq (tgt := 24) hx hb dX10_isFraction_17 (by decide) (fun c_6 => ?_) (fun c_6 => ?_)
    · have hE := jt hE c_6
      refine lv_iconst (v := (0 : Int32)) hx hb dX10_isFraction_24 (by decide) ?_
      obtain rfl := jsm hE
      exact ret hS jb0 dX10_isFraction_25
    · have hE := jf hE c_6
      refine lv_iconst (v := (1 : Int32)) hx hb dX10_isFraction_20 (by decide) ?_
      refine lv_goto (tgt := 25) hx hb dX10_isFraction_21 (by decide) ?_
      obtain rfl := jsm hE
      exact ret hS jb1 dX10_isFraction_25
def fX10_rank (a1 : Int32) (a2 : Int32) (a3 : Int32) (upper : Nat → Int32) (lower : Nat → Int32) (begins : Nat → Int32) (size : Int32) (hasShares : Int32) (above : Int64) (belo : Int64) : Option (Int32 × Int32 × (Nat → Int32) × (Nat → Int32) × (Nat → Int32) × Int32 × Int32 × Int64 × Int64) :=
  (fX10_isParts a1).bind (fun o_1 => 
  if o_1 = 0 then
  some ((-1 : Int32), (0 : Int32), upper, lower, begins, size, hasShares, above, belo)
  else
  (fX10_isFraction a2 a3).bind (fun o_4 => 
  if o_4 = 0 then
  some ((-1 : Int32), (0 : Int32), upper, lower, begins, size, hasShares, above, belo)
  else
  (fX10_rankOf a1 a2.toInt64 a3.toInt64 upper lower begins size hasShares above belo).bind (fun o_7 => 
  some (o_7.1, (0 : Int32), o_7.2.1, o_7.2.2.1, o_7.2.2.2.1, o_7.2.2.2.2.1, o_7.2.2.2.2.2.1, o_7.2.2.2.2.2.2.1, o_7.2.2.2.2.2.2.2))))
abbrev rmX10_rank : Room := { frames := 5, cells := 0, slots := 0, locals := 134 }
set_option maxHeartbeats 4000000 in
set_option maxRecDepth 100000 in
theorem tX10_rank (l : Launch) (D : va_G) (ad : Nat → Nat) (cI cJ cZ cW cS cO cG : ClassId) (thrown : Int32) (trace : Int64) (upper : Nat → Int32) (lower : Nat → Int32) (begins : Nat → Int32) (size : Int32) (hasShares : Int32) (wires : Int32) (kind : Nat → Int32) (first : Nat → Int32) (second : Nat → Int32) (times : Nat → Int32) (byy : Nat → Int32) (group : Nat → Int32) (whole : Nat → Int32) (frm : Nat → Int32) (too : Nat → Int32) (isThere : Nat → Int32) (way : Nat → Int32) (sorts : Int32) (ohms : Nat → Int32) (price : Nat → Int32) (above : Int64) (belo : Int64) (a1 : Int32) (a2 : Int32) (a3 : Int32) {o : Int32 × Int32 × (Nat → Int32) × (Nat → Int32) × (Nat → Int32) × Int32 × Int32 × Int64 × Int64} (hE : fX10_rank a1 a2 a3 upper lower begins size hasShares above belo = some o) : JMi l yX10_rank wsX10_rank rmX10_rank D vwCl (TY cI cJ cZ cW cS cO cG) [.ref (ad 0), .int a1, .int a2, .int a3] (MW ad cI cZ thrown trace upper lower begins size hasShares wires kind first second times byy group whole frm too isThere way sorts ohms price above belo) (MW ad cI cZ o.2.1 trace o.2.2.1 o.2.2.2.1 o.2.2.2.2.1 o.2.2.2.2.2.1 o.2.2.2.2.2.2.1 wires kind first second times byy group whole frm too isThere way sorts ohms price o.2.2.2.2.2.2.2.1 o.2.2.2.2.2.2.2.2) o.1 := by
  refine JMi.of (cc := cX10_rank) (maxL := 4) (by decide) rfl (Nat.le_of_ble_eq_true rfl) ?_
  intro p e s m args below meth c A ls Q C hK hA ret hS hl
  obtain ⟨⟨hx, hb, hml, hown, hts⟩, -⟩ := id C
  have hl : lv_has ls 4 [(0, .ref (ad 0)), (1, .int a1), (2, .int a2), (3, .int a3)] := hl
  have inX10 : ∀ w ∈ u_ws RX10 TX10 24, w ∈ wsX10_rank := by decide +kernel
  have k0 := hts (.fieldLink RX10 59 "OhmNetsModel" "thrown" "I") (by decide +kernel)
  refine lv_aload_n hx hb dX10_rank_0 rfl (lv_at hl 0 rfl) ?_
  refine lv_iconst (v := (0 : Int32)) hx hb dX10_rank_1 (by decide) ?_
  refine j_put (ci := 11) (v := .int (0 : Int32)) (ty := .int) (C := RX10) (T := TX10) (N := 24) (w' := MW ad cI cZ (0 : Int32) trace upper lower begins size hasShares wires kind first second times byy group whole frm too isThere way sorts ohms price above belo) hx hb hts inX10 tyX10 tyX10_ok nmX10 hown hK hS 0 rfl rfl 0 (by decide) k0 (fun _ h => h) rfl (by decide +kernel) rfl rfl (Nat.le_of_ble_eq_true rfl) rfl dX10_rank_2 (fun H locs hS => ?_)
  refine lv_iload_n hx hb dX10_rank_5 rfl (lv_at hl 1 rfl) ?_
  obtain ⟨o_1, h_2, hE⟩ := jbd hE
  refine j_Si (As := [.int a1]) (rest := []) (wf := MW ad cI cZ (0 : Int32) trace upper lower begins size hasShares wires kind first second times byy group whole frm too isThere way sorts ohms price above belo) C hK hS (jcut_nil hA hS) (tX10_isParts l D cI cJ cZ cW cS cO cG a1 h_2) (va_cwS 1 hts gX10_rank_X10_isParts rfl rfl rfl (by decide +kernel) ⟨Nat.le_of_ble_eq_true rfl, Nat.le_of_ble_eq_true rfl⟩) rfl hl.1 rfl (Nat.le_of_ble_eq_true rfl) dX10_rank_6 ⟨Nat.zero_le _, Nat.zero_le _⟩ (fun H locs hS => ?_)
  refine lv_if_eq (tgt := 32) hx hb dX10_rank_9 (by decide) (fun c_3 => ?_) (fun c_3 => ?_)
  · have hE := jt hE c_3
    refine lv_iconst (v := (-1 : Int32)) hx hb dX10_rank_32 (by decide) ?_
    obtain rfl := jsm hE
    exact ret hS rfl dX10_rank_33
  · have hE := jf hE c_3
    refine lv_iload_n hx hb dX10_rank_12 rfl (lv_at hl 2 rfl) ?_
    refine lv_iload_n hx hb dX10_rank_13 rfl (lv_at hl 3 rfl) ?_
    obtain ⟨o_4, h_5, hE⟩ := jbd hE
    refine j_Si (As := [.int a2, .int a3]) (rest := []) (wf := MW ad cI cZ (0 : Int32) trace upper lower begins size hasShares wires kind first second times byy group whole frm too isThere way sorts ohms price above belo) C hK hS (jcut_nil hA hS) (tX10_isFraction l D cI cJ cZ cW cS cO cG a2 a3 h_5) (va_cwS 2 hts gX10_rank_X10_isFraction rfl rfl rfl (by decide +kernel) ⟨Nat.le_of_ble_eq_true rfl, Nat.le_of_ble_eq_true rfl⟩) rfl hl.1 rfl (Nat.le_of_ble_eq_true rfl) dX10_rank_14 ⟨Nat.zero_le _, Nat.zero_le _⟩ (fun H locs hS => ?_)
    refine lv_if_eq (tgt := 32) hx hb dX10_rank_17 (by decide) (fun c_6 => ?_) (fun c_6 => ?_)
    · have hE := jt hE c_6
      refine lv_iconst (v := (-1 : Int32)) hx hb dX10_rank_32 (by decide) ?_
      obtain rfl := jsm hE
      exact ret hS rfl dX10_rank_33
    · have hE := jf hE c_6
      refine lv_aload_n hx hb dX10_rank_20 rfl (lv_at hl 0 rfl) ?_
      refine lv_iload_n hx hb dX10_rank_21 rfl (lv_at hl 1 rfl) ?_
      refine lv_iload_n hx hb dX10_rank_22 rfl (lv_at hl 2 rfl) ?_
      refine lv_i2l (v := a2.toInt64) hx hb dX10_rank_23 rfl ?_
      refine lv_iload_n hx hb dX10_rank_24 rfl (lv_at hl 3 rfl) ?_
      refine lv_i2l (v := a3.toInt64) hx hb dX10_rank_25 rfl ?_
      obtain ⟨o_7, h_8, hE⟩ := jbd hE
      refine j_Vi (As := [.int a1, .long a2.toInt64, .long a3.toInt64]) (rest := []) (wf := MW ad cI cZ (0 : Int32) trace o_7.2.1 o_7.2.2.1 o_7.2.2.2.1 o_7.2.2.2.2.1 o_7.2.2.2.2.2.1 wires kind first second times byy group whole frm too isThere way sorts ohms price o_7.2.2.2.2.2.2.1 o_7.2.2.2.2.2.2.2) (vc := (RX10, TX10, 24)) C hK hS (jcut_all hA hS) (tX10_rankOf l D ad cI cJ cZ cW cS cO cG (0 : Int32) trace upper lower begins size hasShares wires kind first second times byy group whole frm too isThere way sorts ohms price above belo a1 a2.toInt64 a3.toInt64 h_8) (cwV 3 hts gX10_rank_X10_rankOf rfl rfl rfl (by decide +kernel) ⟨Nat.le_of_ble_eq_true rfl, Nat.le_of_ble_eq_true rfl⟩) (q0 := 0) rfl (ci := 11) rfl rfl hl.1 rfl (Nat.le_of_ble_eq_true rfl) dX10_rank_26 ⟨Nat.zero_le _, Nat.zero_le _⟩ (fun H locs hS => ?_)
      refine lv_goto (tgt := 33) hx hb dX10_rank_29 (by decide) ?_
      obtain rfl := jsm hE
      exact ret hS rfl dX10_rank_33
def LX10_fewest_17 (a1 : Int32) (a2 : Int32) : Nat → (Int32) → (Nat → Int32) → (Nat → Int32) → (Nat → Int32) → (Int32) → (Int32) → (Int64) → (Int64) → Option (((Nat → Int32) × (Nat → Int32) × (Nat → Int32) × Int32 × Int32 × Int64 × Int64) ⊕ (Int32 × Int32 × (Nat → Int32) × (Nat → Int32) × (Nat → Int32) × Int32 × Int32 × Int64 × Int64))
  | 0, _, _, _, _, _, _, _, _ => none
  | n + 1, v3_4, upper_5, lower_6, begins_7, size_8, hasShares_9, above_10, belo_11 =>
    if (10 : Int32) ≤ v3_4 then
    some (.inl (upper_5, lower_6, begins_7, size_8, hasShares_9, above_10, belo_11))
    else
    (fX10_rankOf v3_4 a1.toInt64 a2.toInt64 upper_5 lower_6 begins_7 size_8 hasShares_9 above_10 belo_11).bind (fun o_19 => 
    if o_19.1 < 0 then
    jlet (v3_4 + (1 : Int32)) (fun x_22 => 
    LX10_fewest_17 a1 a2 n x_22 o_19.2.1 o_19.2.2.1 o_19.2.2.2.1 o_19.2.2.2.2.1 o_19.2.2.2.2.2.1 o_19.2.2.2.2.2.2.1 o_19.2.2.2.2.2.2.2)
    else
    some (.inr (v3_4, (0 : Int32), o_19.2.1, o_19.2.2.1, o_19.2.2.2.1, o_19.2.2.2.2.1, o_19.2.2.2.2.2.1, o_19.2.2.2.2.2.2.1, o_19.2.2.2.2.2.2.2)))
def fX10_fewest (a1 : Int32) (a2 : Int32) (upper : Nat → Int32) (lower : Nat → Int32) (begins : Nat → Int32) (size : Int32) (hasShares : Int32) (above : Int64) (belo : Int64) : Option (Int32 × Int32 × (Nat → Int32) × (Nat → Int32) × (Nat → Int32) × Int32 × Int32 × Int64 × Int64) :=
  (fX10_isFraction a1 a2).bind (fun o_1 => 
  if o_1 = 0 then
  some ((-1 : Int32), (0 : Int32), upper, lower, begins, size, hasShares, above, belo)
  else
  (LX10_fewest_17 a1 a2 5000 (1 : Int32) upper lower begins size hasShares above belo).bind (fun o_12 => jex o_12 (fun x_17 => 
  some ((-9 : Int32), (0 : Int32), x_17.1, x_17.2.1, x_17.2.2.1, x_17.2.2.2.1, x_17.2.2.2.2.1, x_17.2.2.2.2.2.1, x_17.2.2.2.2.2.2)) some))
abbrev rmX10_fewest : Room := { frames := 5, cells := 0, slots := 0, locals := 134 }
set_option maxHeartbeats 4000000 in
set_option maxRecDepth 100000 in
theorem tX10_fewest (l : Launch) (D : va_G) (ad : Nat → Nat) (cI cJ cZ cW cS cO cG : ClassId) (thrown : Int32) (trace : Int64) (upper : Nat → Int32) (lower : Nat → Int32) (begins : Nat → Int32) (size : Int32) (hasShares : Int32) (wires : Int32) (kind : Nat → Int32) (first : Nat → Int32) (second : Nat → Int32) (times : Nat → Int32) (byy : Nat → Int32) (group : Nat → Int32) (whole : Nat → Int32) (frm : Nat → Int32) (too : Nat → Int32) (isThere : Nat → Int32) (way : Nat → Int32) (sorts : Int32) (ohms : Nat → Int32) (price : Nat → Int32) (above : Int64) (belo : Int64) (a1 : Int32) (a2 : Int32) {o : Int32 × Int32 × (Nat → Int32) × (Nat → Int32) × (Nat → Int32) × Int32 × Int32 × Int64 × Int64} (hE : fX10_fewest a1 a2 upper lower begins size hasShares above belo = some o) : JMi l yX10_fewest wsX10_fewest rmX10_fewest D vwCl (TY cI cJ cZ cW cS cO cG) [.ref (ad 0), .int a1, .int a2] (MW ad cI cZ thrown trace upper lower begins size hasShares wires kind first second times byy group whole frm too isThere way sorts ohms price above belo) (MW ad cI cZ o.2.1 trace o.2.2.1 o.2.2.2.1 o.2.2.2.2.1 o.2.2.2.2.2.1 o.2.2.2.2.2.2.1 wires kind first second times byy group whole frm too isThere way sorts ohms price o.2.2.2.2.2.2.2.1 o.2.2.2.2.2.2.2.2) o.1 := by
  refine JMi.of (cc := cX10_fewest) (maxL := 4) (by decide) rfl (Nat.le_of_ble_eq_true rfl) ?_
  intro p e s m args below meth c A ls Q C hK hA ret hS hl
  obtain ⟨⟨hx, hb, hml, hown, hts⟩, -⟩ := id C
  have hl : lv_has ls 4 [(0, .ref (ad 0)), (1, .int a1), (2, .int a2)] := hl
  have inX10 : ∀ w ∈ u_ws RX10 TX10 24, w ∈ wsX10_fewest := by decide +kernel
  have k0 := hts (.fieldLink RX10 59 "OhmNetsModel" "thrown" "I") (by decide +kernel)
  refine lv_aload_n hx hb dX10_fewest_0 rfl (lv_at hl 0 rfl) ?_
  refine lv_iconst (v := (0 : Int32)) hx hb dX10_fewest_1 (by decide) ?_
  refine j_put (ci := 11) (v := .int (0 : Int32)) (ty := .int) (C := RX10) (T := TX10) (N := 24) (w' := MW ad cI cZ (0 : Int32) trace upper lower begins size hasShares wires kind first second times byy group whole frm too isThere way sorts ohms price above belo) hx hb hts inX10 tyX10 tyX10_ok nmX10 hown hK hS 0 rfl rfl 0 (by decide) k0 (fun _ h => h) rfl (by decide +kernel) rfl rfl (Nat.le_of_ble_eq_true rfl) rfl dX10_fewest_2 (fun H locs hS => ?_)
  refine lv_iload_n hx hb dX10_fewest_5 rfl (lv_at hl 1 rfl) ?_
  refine lv_iload_n hx hb dX10_fewest_6 rfl (lv_at hl 2 rfl) ?_
  obtain ⟨o_1, h_2, hE⟩ := jbd hE
  refine j_Si (As := [.int a1, .int a2]) (rest := []) (wf := MW ad cI cZ (0 : Int32) trace upper lower begins size hasShares wires kind first second times byy group whole frm too isThere way sorts ohms price above belo) C hK hS (jcut_nil hA hS) (tX10_isFraction l D cI cJ cZ cW cS cO cG a1 a2 h_2) (va_cwS 2 hts gX10_fewest_X10_isFraction rfl rfl rfl (by decide +kernel) ⟨Nat.le_of_ble_eq_true rfl, Nat.le_of_ble_eq_true rfl⟩) rfl hl.1 rfl (Nat.le_of_ble_eq_true rfl) dX10_fewest_7 ⟨Nat.zero_le _, Nat.zero_le _⟩ (fun H locs hS => ?_)
  refine lv_if_ne (tgt := 15) hx hb dX10_fewest_10 (by decide) (fun c_3 => ?_) (fun c_3 => ?_)
  · have hE := jf hE c_3
    refine lv_iconst (v := (1 : Int32)) hx hb dX10_fewest_15 (by decide) ?_
    refine lv_istore_n (lv' := [(3, .int (1 : Int32)), (0, .ref (ad 0)), (1, .int a1), (2, .int a2)]) hx hb dX10_fewest_16 rfl hl (by decide) rfl (fun ls hl => ?_)
    obtain ⟨o_12, L_13, hE⟩ := jbd hE
    have K_14 : ∀ x_17, o_12 = .inl x_17 → jW p l e rmX10_fewest s m args below meth c 0 0 Q D vwCl A (MW ad cI cZ (0 : Int32) trace x_17.1 x_17.2.1 x_17.2.2.1 x_17.2.2.2.1 x_17.2.2.2.2.1 wires kind first second times byy group whole frm too isThere way sorts ohms price x_17.2.2.2.2.2.1 x_17.2.2.2.2.2.2) 4 [] 43 [] := by
      intro x_17 ho H locs ls hS hl
      subst ho
      have hE := jexl hE
      refine lv_bipush (v := (-9 : Int32)) hx hb dX10_fewest_43 (by decide) ?_
      obtain rfl := jsm hE
      exact ret hS rfl dX10_fewest_45
    have loop_16 : ∀ (n : Nat) (v3_4 : Int32) (upper_5 : Nat → Int32) (lower_6 : Nat → Int32) (begins_7 : Nat → Int32) (size_8 : Int32) (hasShares_9 : Int32) (above_10 : Int64) (belo_11 : Int64), LX10_fewest_17 a1 a2 n v3_4 upper_5 lower_6 begins_7 size_8 hasShares_9 above_10 belo_11 = some o_12 → jW p l e rmX10_fewest s m args below meth c 0 0 Q D vwCl A (MW ad cI cZ (0 : Int32) trace upper_5 lower_6 begins_7 size_8 hasShares_9 wires kind first second times byy group whole frm too isThere way sorts ohms price above_10 belo_11) 4 [(0, .ref (ad 0)), (1, .int a1), (2, .int a2), (3, .int v3_4)] 17 [] := by
      intro n
      induction n with
      | zero =>
        intro v3_4 upper_5 lower_6 begins_7 size_8 hasShares_9 above_10 belo_11 q_15
        have q_15 : none = some o_12 := q_15
        cases q_15
      | succ n ih =>
        intro v3_4 upper_5 lower_6 begins_7 size_8 hasShares_9 above_10 belo_11 q_15 H locs ls hS hl
        rw [LX10_fewest_17] at q_15
        refine lv_iload_n hx hb dX10_fewest_17 rfl (lv_at hl 3 rfl) ?_
        refine lv_bipush (v := (10 : Int32)) hx hb dX10_fewest_18 (by decide) ?_
        refine lv_icmp_ge (tgt := 43) hx hb dX10_fewest_20 (by decide) (fun c_18 => ?_) (fun c_18 => ?_)
        · have q_15 := jt q_15 c_18
          obtain rfl := jsm q_15
          exact K_14 _ rfl _ _ _ hS (lv_sub hl [] rfl)
        · have q_15 := jf q_15 c_18
          refine lv_aload_n hx hb dX10_fewest_23 rfl (lv_at hl 0 rfl) ?_
          refine lv_iload_n hx hb dX10_fewest_24 rfl (lv_at hl 3 rfl) ?_
          refine lv_iload_n hx hb dX10_fewest_25 rfl (lv_at hl 1 rfl) ?_
          refine lv_i2l (v := a1.toInt64) hx hb dX10_fewest_26 rfl ?_
          refine lv_iload_n hx hb dX10_fewest_27 rfl (lv_at hl 2 rfl) ?_
          refine lv_i2l (v := a2.toInt64) hx hb dX10_fewest_28 rfl ?_
          obtain ⟨o_19, h_20, q_15⟩ := jbd q_15
          refine j_Vi (As := [.int v3_4, .long a1.toInt64, .long a2.toInt64]) (rest := []) (wf := MW ad cI cZ (0 : Int32) trace o_19.2.1 o_19.2.2.1 o_19.2.2.2.1 o_19.2.2.2.2.1 o_19.2.2.2.2.2.1 wires kind first second times byy group whole frm too isThere way sorts ohms price o_19.2.2.2.2.2.2.1 o_19.2.2.2.2.2.2.2) (vc := (RX10, TX10, 24)) C hK hS (jcut_all hA hS) (tX10_rankOf l D ad cI cJ cZ cW cS cO cG (0 : Int32) trace upper_5 lower_6 begins_7 size_8 hasShares_9 wires kind first second times byy group whole frm too isThere way sorts ohms price above_10 belo_11 v3_4 a1.toInt64 a2.toInt64 h_20) (cwV 3 hts gX10_fewest_X10_rankOf rfl rfl rfl (by decide +kernel) ⟨Nat.le_of_ble_eq_true rfl, Nat.le_of_ble_eq_true rfl⟩) (q0 := 0) rfl (ci := 11) rfl rfl hl.1 rfl (Nat.le_of_ble_eq_true rfl) dX10_fewest_29 ⟨Nat.zero_le _, Nat.zero_le _⟩ (fun H locs hS => ?_)
          refine lv_if_lt (tgt := 37) hx hb dX10_fewest_32 (by decide) (fun c_21 => ?_) (fun c_21 => ?_)
          · have q_15 := jt q_15 c_21
            obtain ⟨x_22, ex_22⟩ : ∃ y : Int32, y = v3_4 + (1 : Int32) := ⟨_, rfl⟩
            have q_15 := jlv q_15 ex_22
            refine lv_iinc (v := x_22) (lv' := [(3, .int x_22), (0, .ref (ad 0)), (1, .int a1), (2, .int a2)]) hx hb dX10_fewest_37 hl (k := 3) rfl (by rw [ex_22]; rfl) (by decide) rfl (fun ls hl => ?_)
            refine lv_goto (tgt := 17) hx hb dX10_fewest_40 (by decide) ?_
            exact ih x_22 o_19.2.1 o_19.2.2.1 o_19.2.2.2.1 o_19.2.2.2.2.1 o_19.2.2.2.2.2.1 o_19.2.2.2.2.2.2.1 o_19.2.2.2.2.2.2.2 q_15 _ _ _ hS (lv_sub hl [1, 2, 3, 0] rfl)
          · have q_15 := jf q_15 c_21
            refine lv_iload_n hx hb dX10_fewest_35 rfl (lv_at hl 3 rfl) ?_
            obtain rfl := jsm q_15
            have hE := jexr hE
            obtain rfl := jsm hE
            exact ret hS rfl dX10_fewest_36
    exact loop_16 5000 (1 : Int32) upper lower begins size hasShares above belo L_13 _ _ _ hS (lv_sub hl [1, 2, 3, 0] rfl)
  · have hE := jt hE c_3
    refine lv_iconst (v := (-1 : Int32)) hx hb dX10_fewest_13 (by decide) ?_
    obtain rfl := jsm hE
    exact ret hS rfl dX10_fewest_14
def LX10_made_132 (a1 : Int32) (a3 : Int32) (v5_10 : Int32) (o_25 : Int64) (o_31 : Int64) (v10_37 : Int32) : Nat → (Int32) → (Nat → Int32) → (Nat → Int32) → (Nat → Int32) → (Int32) → (Int32) → (Int64) → (Int64) → Option (((Nat → Int32) × (Nat → Int32) × (Nat → Int32) × Int32 × Int32 × Int64 × Int64) ⊕ (Int32 × Int32 × (Nat → Int32) × (Nat → Int32) × (Nat → Int32) × Int32 × Int32 × Int64 × Int64))
  | 0, _, _, _, _, _, _, _, _ => none
  | n + 1, v11_54, upper_55, lower_56, begins_57, size_58, hasShares_59, above_60, belo_61 =>
    if jok (v10_37 + (1 : Int32)) 11 then
    if (begins_57 (v10_37 + (1 : Int32)).toNatClampNeg) ≤ v11_54 then
    some (.inl (upper_55, lower_56, begins_57, size_58, hasShares_59, above_60, belo_61))
    else
    (if v5_10 = 0 then
    if jok v11_54 1600 then
    some ((upper_55 v11_54.toNatClampNeg).toInt64)
    else none
    else
    if jok v11_54 1600 then
    some ((lower_56 v11_54.toNatClampNeg).toInt64)
    else none).bind (fun o_70 => 
    (if v5_10 = 0 then
    if jok v11_54 1600 then
    some ((lower_56 v11_54.toNatClampNeg).toInt64)
    else none
    else
    if jok v11_54 1600 then
    some ((upper_55 v11_54.toNatClampNeg).toInt64)
    else none).bind (fun o_76 => 
    jlet ((o_25 * o_76) - (o_70 * o_31)) (fun x_82 => 
    (if (0 : Int64) < x_82 then
    if v5_10 = 0 then
    (fX10_rankOf (a1 - v10_37) x_82 (o_31 * o_76) upper_55 lower_56 begins_57 size_58 hasShares_59 above_60 belo_61).bind (fun o_90 => 
    some (o_90.1, o_90.2.1, o_90.2.2.1, o_90.2.2.2.1, o_90.2.2.2.2.1, o_90.2.2.2.2.2.1, o_90.2.2.2.2.2.2.1, o_90.2.2.2.2.2.2.2))
    else
    (fX10_rankOf (a1 - v10_37) (o_31 * o_76) x_82 upper_55 lower_56 begins_57 size_58 hasShares_59 above_60 belo_61).bind (fun o_88 => 
    some (o_88.1, o_88.2.1, o_88.2.2.1, o_88.2.2.2.1, o_88.2.2.2.2.1, o_88.2.2.2.2.2.1, o_88.2.2.2.2.2.2.1, o_88.2.2.2.2.2.2.2))
    else
    some ((-9 : Int32), upper_55, lower_56, begins_57, size_58, hasShares_59, above_60, belo_61)).bind (fun o_83 => 
    jlet o_83.1 (fun x_92 => 
    if x_92 < 0 then
    jlet (v11_54 + (1 : Int32)) (fun x_94 => 
    LX10_made_132 a1 a3 v5_10 o_25 o_31 v10_37 n x_94 o_83.2.1 o_83.2.2.1 o_83.2.2.2.1 o_83.2.2.2.2.1 o_83.2.2.2.2.2.1 o_83.2.2.2.2.2.2.1 o_83.2.2.2.2.2.2.2)
    else
    if a3 = 0 then
    some (.inr (((1 : Int32) + v5_10), (0 : Int32), o_83.2.1, o_83.2.2.1, o_83.2.2.2.1, o_83.2.2.2.2.1, o_83.2.2.2.2.2.1, o_83.2.2.2.2.2.2.1, o_83.2.2.2.2.2.2.2))
    else
    if a3 = (1 : Int32) then
    some (.inr (v10_37, (0 : Int32), o_83.2.1, o_83.2.2.1, o_83.2.2.2.1, o_83.2.2.2.2.1, o_83.2.2.2.2.2.1, o_83.2.2.2.2.2.2.1, o_83.2.2.2.2.2.2.2))
    else
    if a3 = (2 : Int32) then
    some (.inr ((v11_54 - (o_83.2.2.2.1 v10_37.toNatClampNeg)), (0 : Int32), o_83.2.1, o_83.2.2.1, o_83.2.2.2.1, o_83.2.2.2.2.1, o_83.2.2.2.2.2.1, o_83.2.2.2.2.2.2.1, o_83.2.2.2.2.2.2.2))
    else
    some (.inr (x_92, (0 : Int32), o_83.2.1, o_83.2.2.1, o_83.2.2.2.1, o_83.2.2.2.2.1, o_83.2.2.2.2.2.1, o_83.2.2.2.2.2.2.1, o_83.2.2.2.2.2.2.2)))))))
    else none
def LX10_made_115 (a1 : Int32) (a3 : Int32) (v5_10 : Int32) (o_25 : Int64) (o_31 : Int64) : Nat → (Int32) → (Nat → Int32) → (Nat → Int32) → (Nat → Int32) → (Int32) → (Int32) → (Int64) → (Int64) → Option (((Nat → Int32) × (Nat → Int32) × (Nat → Int32) × Int32 × Int32 × Int64 × Int64) ⊕ (Int32 × Int32 × (Nat → Int32) × (Nat → Int32) × (Nat → Int32) × Int32 × Int32 × Int64 × Int64))
  | 0, _, _, _, _, _, _, _, _ => none
  | n + 1, v10_37, upper_38, lower_39, begins_40, size_41, hasShares_42, above_43, belo_44 =>
    if a1 < ((2 : Int32) * v10_37) then
    some (.inl (upper_38, lower_39, begins_40, size_41, hasShares_42, above_43, belo_44))
    else
    if jok v10_37 11 then
    jlet (begins_40 v10_37.toNatClampNeg) (fun x_53 => 
    (LX10_made_132 a1 a3 v5_10 o_25 o_31 v10_37 5000 x_53 upper_38 lower_39 begins_40 size_41 hasShares_42 above_43 belo_44).bind (fun o_62 => jex o_62 (fun x_67 => 
    jlet (v10_37 + (1 : Int32)) (fun x_98 => 
    LX10_made_115 a1 a3 v5_10 o_25 o_31 n x_98 x_67.1 x_67.2.1 x_67.2.2.1 x_67.2.2.2.1 x_67.2.2.2.2.1 x_67.2.2.2.2.2.1 x_67.2.2.2.2.2.2)) (fun r => some (.inr r))))
    else none
def LX10_made_54 (a1 : Int32) (a3 : Int32) (x_9 : Int32) : Nat → (Int32) → (Nat → Int32) → (Nat → Int32) → (Nat → Int32) → (Int32) → (Int32) → (Int64) → (Int64) → Option (((Nat → Int32) × (Nat → Int32) × (Nat → Int32) × Int32 × Int32 × Int64 × Int64) ⊕ (Int32 × Int32 × (Nat → Int32) × (Nat → Int32) × (Nat → Int32) × Int32 × Int32 × Int64 × Int64))
  | 0, _, _, _, _, _, _, _, _ => none
  | n + 1, v5_10, upper_11, lower_12, begins_13, size_14, hasShares_15, above_16, belo_17 =>
    if (2 : Int32) ≤ v5_10 then
    some (.inl (upper_11, lower_12, begins_13, size_14, hasShares_15, above_16, belo_17))
    else
    (if v5_10 = 0 then
    if jok x_9 1600 then
    some ((upper_11 x_9.toNatClampNeg).toInt64)
    else none
    else
    if jok x_9 1600 then
    some ((lower_12 x_9.toNatClampNeg).toInt64)
    else none).bind (fun o_25 => 
    (if v5_10 = 0 then
    if jok x_9 1600 then
    some ((lower_12 x_9.toNatClampNeg).toInt64)
    else none
    else
    if jok x_9 1600 then
    some ((upper_11 x_9.toNatClampNeg).toInt64)
    else none).bind (fun o_31 => 
    (LX10_made_115 a1 a3 v5_10 o_25 o_31 5000 (1 : Int32) upper_11 lower_12 begins_13 size_14 hasShares_15 above_16 belo_17).bind (fun o_45 => jex o_45 (fun x_50 => 
    jlet (v5_10 + (1 : Int32)) (fun x_99 => 
    LX10_made_54 a1 a3 x_9 n x_99 x_50.1 x_50.2.1 x_50.2.2.1 x_50.2.2.2.1 x_50.2.2.2.2.1 x_50.2.2.2.2.2.1 x_50.2.2.2.2.2.2)) (fun r => some (.inr r)))))
def fX10_made (a1 : Int32) (a2 : Int32) (a3 : Int32) (upper : Nat → Int32) (lower : Nat → Int32) (begins : Nat → Int32) (size : Int32) (hasShares : Int32) (above : Int64) (belo : Int64) : Option (Int32 × Int32 × (Nat → Int32) × (Nat → Int32) × (Nat → Int32) × Int32 × Int32 × Int64 × Int64) :=
  (fX10_isShare a1 a2 upper lower begins size hasShares above belo).bind (fun o_1 => 
  if o_1.1 = 0 then
  some ((-1 : Int32), (0 : Int32), o_1.2.1, o_1.2.2.1, o_1.2.2.2.1, o_1.2.2.2.2.1, o_1.2.2.2.2.2.1, o_1.2.2.2.2.2.2.1, o_1.2.2.2.2.2.2.2)
  else
  (fX10_in a3 (0 : Int32) (3 : Int32)).bind (fun o_4 => 
  if o_4 = 0 then
  some ((-1 : Int32), (0 : Int32), o_1.2.1, o_1.2.2.1, o_1.2.2.2.1, o_1.2.2.2.2.1, o_1.2.2.2.2.2.1, o_1.2.2.2.2.2.2.1, o_1.2.2.2.2.2.2.2)
  else
  if a1 = (1 : Int32) then
  if a3 = 0 then
  some ((0 : Int32), (0 : Int32), o_1.2.1, o_1.2.2.1, o_1.2.2.2.1, o_1.2.2.2.2.1, o_1.2.2.2.2.2.1, o_1.2.2.2.2.2.2.1, o_1.2.2.2.2.2.2.2)
  else
  some ((-9 : Int32), (0 : Int32), o_1.2.1, o_1.2.2.1, o_1.2.2.2.1, o_1.2.2.2.2.1, o_1.2.2.2.2.2.1, o_1.2.2.2.2.2.2.1, o_1.2.2.2.2.2.2.2)
  else
  if jok a1 11 then
  jlet ((o_1.2.2.2.1 a1.toNatClampNeg) + a2) (fun x_9 => 
  (LX10_made_54 a1 a3 x_9 5000 (0 : Int32) o_1.2.1 o_1.2.2.1 o_1.2.2.2.1 o_1.2.2.2.2.1 o_1.2.2.2.2.2.1 o_1.2.2.2.2.2.2.1 o_1.2.2.2.2.2.2.2).bind (fun o_18 => jex o_18 (fun x_23 => 
  some ((-1 : Int32), (0 : Int32), x_23.1, x_23.2.1, x_23.2.2.1, x_23.2.2.2.1, x_23.2.2.2.2.1, x_23.2.2.2.2.2.1, x_23.2.2.2.2.2.2)) some))
  else none))
abbrev rmX10_made : Room := { frames := 6, cells := 0, slots := 0, locals := 151 }
set_option maxHeartbeats 4000000 in
set_option maxRecDepth 100000 in
theorem tX10_made (l : Launch) (D : va_G) (ad : Nat → Nat) (cI cJ cZ cW cS cO cG : ClassId) (thrown : Int32) (trace : Int64) (upper : Nat → Int32) (lower : Nat → Int32) (begins : Nat → Int32) (size : Int32) (hasShares : Int32) (wires : Int32) (kind : Nat → Int32) (first : Nat → Int32) (second : Nat → Int32) (times : Nat → Int32) (byy : Nat → Int32) (group : Nat → Int32) (whole : Nat → Int32) (frm : Nat → Int32) (too : Nat → Int32) (isThere : Nat → Int32) (way : Nat → Int32) (sorts : Int32) (ohms : Nat → Int32) (price : Nat → Int32) (above : Int64) (belo : Int64) (a1 : Int32) (a2 : Int32) (a3 : Int32) {o : Int32 × Int32 × (Nat → Int32) × (Nat → Int32) × (Nat → Int32) × Int32 × Int32 × Int64 × Int64} (hE : fX10_made a1 a2 a3 upper lower begins size hasShares above belo = some o) : JMi l yX10_made wsX10_made rmX10_made D vwCl (TY cI cJ cZ cW cS cO cG) [.ref (ad 0), .int a1, .int a2, .int a3] (MW ad cI cZ thrown trace upper lower begins size hasShares wires kind first second times byy group whole frm too isThere way sorts ohms price above belo) (MW ad cI cZ o.2.1 trace o.2.2.1 o.2.2.2.1 o.2.2.2.2.1 o.2.2.2.2.2.1 o.2.2.2.2.2.2.1 wires kind first second times byy group whole frm too isThere way sorts ohms price o.2.2.2.2.2.2.2.1 o.2.2.2.2.2.2.2.2) o.1 := by
  refine JMi.of (cc := cX10_made) (maxL := 19) (by decide) rfl (Nat.le_of_ble_eq_true rfl) ?_
  intro p e s m args below meth c A ls Q C hK hA ret hS hl
  obtain ⟨⟨hx, hb, hml, hown, hts⟩, -⟩ := id C
  have hl : lv_has ls 19 [(0, .ref (ad 0)), (1, .int a1), (2, .int a2), (3, .int a3)] := hl
  have inX10 : ∀ w ∈ u_ws RX10 TX10 24, w ∈ wsX10_made := by decide +kernel
  have k0 := hts (.fieldLink RX10 59 "OhmNetsModel" "thrown" "I") (by decide +kernel)
  have k1 := hts (.fieldLink RX10 16 "OhmNetsModel" "begins" "[I") (by decide +kernel)
  have k2 := hts (.fieldLink RX10 13 "OhmNetsModel" "lower" "[I") (by decide +kernel)
  have k3 := hts (.fieldLink RX10 7 "OhmNetsModel" "upper" "[I") (by decide +kernel)
  refine lv_aload_n hx hb dX10_made_0 rfl (lv_at hl 0 rfl) ?_
  refine lv_iconst (v := (0 : Int32)) hx hb dX10_made_1 (by decide) ?_
  refine j_put (ci := 11) (v := .int (0 : Int32)) (ty := .int) (C := RX10) (T := TX10) (N := 24) (w' := MW ad cI cZ (0 : Int32) trace upper lower begins size hasShares wires kind first second times byy group whole frm too isThere way sorts ohms price above belo) hx hb hts inX10 tyX10 tyX10_ok nmX10 hown hK hS 0 rfl rfl 0 (by decide) k0 (fun _ h => h) rfl (by decide +kernel) rfl rfl (Nat.le_of_ble_eq_true rfl) rfl dX10_made_2 (fun H locs hS => ?_)
  refine lv_aload_n hx hb dX10_made_5 rfl (lv_at hl 0 rfl) ?_
  refine lv_iload_n hx hb dX10_made_6 rfl (lv_at hl 1 rfl) ?_
  refine lv_iload_n hx hb dX10_made_7 rfl (lv_at hl 2 rfl) ?_
  obtain ⟨o_1, h_2, hE⟩ := jbd hE
  refine j_Vi (As := [.int a1, .int a2]) (rest := []) (wf := MW ad cI cZ (0 : Int32) trace o_1.2.1 o_1.2.2.1 o_1.2.2.2.1 o_1.2.2.2.2.1 o_1.2.2.2.2.2.1 wires kind first second times byy group whole frm too isThere way sorts ohms price o_1.2.2.2.2.2.2.1 o_1.2.2.2.2.2.2.2) (vc := (RX10, TX10, 24)) C hK hS (jcut_all hA hS) (tX10_isShare l D ad cI cJ cZ cW cS cO cG (0 : Int32) trace upper lower begins size hasShares wires kind first second times byy group whole frm too isThere way sorts ohms price above belo a1 a2 h_2) (cwV 2 hts gX10_made_X10_isShare rfl rfl rfl (by decide +kernel) ⟨Nat.le_of_ble_eq_true rfl, Nat.le_of_ble_eq_true rfl⟩) (q0 := 0) rfl (ci := 11) rfl rfl hl.1 rfl (Nat.le_of_ble_eq_true rfl) dX10_made_8 ⟨Nat.zero_le _, Nat.zero_le _⟩ (fun H locs hS => ?_)
  refine lv_if_eq (tgt := 23) hx hb dX10_made_11 (by decide) (fun c_3 => ?_) (fun c_3 => ?_)
  · have hE := jt hE c_3
    refine lv_iconst (v := (-1 : Int32)) hx hb dX10_made_23 (by decide) ?_
    obtain rfl := jsm hE
    exact ret hS rfl dX10_made_24
  · have hE := jf hE c_3
    refine lv_iload_n hx hb dX10_made_14 rfl (lv_at hl 3 rfl) ?_
    refine lv_iconst (v := (0 : Int32)) hx hb dX10_made_15 (by decide) ?_
    refine lv_iconst (v := (3 : Int32)) hx hb dX10_made_16 (by decide) ?_
    obtain ⟨o_4, h_5, hE⟩ := jbd hE
    refine j_Si (As := [.int a3, .int (0 : Int32), .int (3 : Int32)]) (rest := []) (wf := MW ad cI cZ (0 : Int32) trace o_1.2.1 o_1.2.2.1 o_1.2.2.2.1 o_1.2.2.2.2.1 o_1.2.2.2.2.2.1 wires kind first second times byy group whole frm too isThere way sorts ohms price o_1.2.2.2.2.2.2.1 o_1.2.2.2.2.2.2.2) C hK hS (jcut_nil hA hS) (tX10_in l D cI cJ cZ cW cS cO cG a3 (0 : Int32) (3 : Int32) h_5) (va_cwS 3 hts gX10_made_X10_in rfl rfl rfl (by decide +kernel) ⟨Nat.le_of_ble_eq_true rfl, Nat.le_of_ble_eq_true rfl⟩) rfl hl.1 rfl (Nat.le_of_ble_eq_true rfl) dX10_made_17 ⟨Nat.zero_le _, Nat.zero_le _⟩ (fun H locs hS => ?_)
    refine lv_if_ne (tgt := 25) hx hb dX10_made_20 (by decide) (fun c_6 => ?_) (fun c_6 => ?_)
    · have hE := jf hE c_6
      refine lv_iload_n hx hb dX10_made_25 rfl (lv_at hl 1 rfl) ?_
      refine lv_iconst (v := (1 : Int32)) hx hb dX10_made_26 (by decide) ?_
      refine lv_icmp_ne (tgt := 41) hx hb dX10_made_27 (by decide) (fun c_7 => ?_) (fun c_7 => ?_)
      · have hE := jf hE c_7
        refine lv_aload_n hx hb dX10_made_41 rfl (lv_at hl 0 rfl) ?_
        refine va_get (D := D) (ci := 11) (v := .ref (ad 3)) (C := RX10) (T := TX10) (N := 24) hx hb hts inX10 hown hK hS.1 0 rfl rfl 4 (by decide) k1 (fun _ h => h) rfl dX10_made_42 ?_
        refine lv_iload_n hx hb dX10_made_45 rfl (lv_at hl 1 rfl) ?_
        obtain ⟨b_8, hE⟩ := jgd hE
        refine va_iald hx hb hK hS.1 3 0 rfl rfl (jin.mpr b_8) dX10_made_46 ?_
        refine lv_iload_n hx hb dX10_made_47 rfl (lv_at hl 2 rfl) ?_
        refine lv_iadd hx hb dX10_made_48 ?_
        refine lv_topi (fun x_9 ex_9 => ?_)
        have hE := jlv hE ex_9
        refine lv_istore (lv' := [(4, .int x_9), (0, .ref (ad 0)), (1, .int a1), (2, .int a2), (3, .int a3)]) hx hb dX10_made_49 hl (by decide) rfl (fun ls hl => ?_)
        refine lv_iconst (v := (0 : Int32)) hx hb dX10_made_51 (by decide) ?_
        refine lv_istore (lv' := [(5, .int (0 : Int32)), (4, .int x_9), (0, .ref (ad 0)), (1, .int a1), (2, .int a2), (3, .int a3)]) hx hb dX10_made_52 hl (by decide) rfl (fun ls hl => ?_)
        obtain ⟨o_18, L_19, hE⟩ := jbd hE
        have K_20 : ∀ x_23, o_18 = .inl x_23 → jW p l e rmX10_made s m args below meth c 0 0 Q D vwCl A (MW ad cI cZ (0 : Int32) trace x_23.1 x_23.2.1 x_23.2.2.1 x_23.2.2.2.1 x_23.2.2.2.2.1 wires kind first second times byy group whole frm too isThere way sorts ohms price x_23.2.2.2.2.2.1 x_23.2.2.2.2.2.2) 19 [] 328 [] := by
          intro x_23 ho H locs ls hS hl
          subst ho
          have hE := jexl hE
          refine lv_iconst (v := (-1 : Int32)) hx hb dX10_made_328 (by decide) ?_
          obtain rfl := jsm hE
          exact ret hS rfl dX10_made_329
        have loop_22 : ∀ (n : Nat) (v5_10 : Int32) (upper_11 : Nat → Int32) (lower_12 : Nat → Int32) (begins_13 : Nat → Int32) (size_14 : Int32) (hasShares_15 : Int32) (above_16 : Int64) (belo_17 : Int64), LX10_made_54 a1 a3 x_9 n v5_10 upper_11 lower_12 begins_13 size_14 hasShares_15 above_16 belo_17 = some o_18 → jW p l e rmX10_made s m args below meth c 0 0 Q D vwCl A (MW ad cI cZ (0 : Int32) trace upper_11 lower_12 begins_13 size_14 hasShares_15 wires kind first second times byy group whole frm too isThere way sorts ohms price above_16 belo_17) 19 [(0, .ref (ad 0)), (1, .int a1), (3, .int a3), (4, .int x_9), (5, .int v5_10)] 54 [] := by
          intro n
          induction n with
          | zero =>
            intro v5_10 upper_11 lower_12 begins_13 size_14 hasShares_15 above_16 belo_17 q_21
            have q_21 : none = some o_18 := q_21
            cases q_21
          | succ n ih =>
            intro v5_10 upper_11 lower_12 begins_13 size_14 hasShares_15 above_16 belo_17 q_21 H locs ls hS hl
            rw [LX10_made_54] at q_21
            refine lv_iload hx hb dX10_made_54 (lv_at hl 4 rfl) ?_
            refine lv_iconst (v := (2 : Int32)) hx hb dX10_made_56 (by decide) ?_
            refine lv_icmp_ge (tgt := 328) hx hb dX10_made_57 (by decide) (fun c_24 => ?_) (fun c_24 => ?_)
            · have q_21 := jt q_21 c_24
              obtain rfl := jsm q_21
              exact K_20 _ rfl _ _ _ hS (lv_sub hl [] rfl)
            · have q_21 := jf q_21 c_24
              refine lv_iload hx hb dX10_made_60 (lv_at hl 4 rfl) ?_
              obtain ⟨o_25, r_27, q_21⟩ := jbd q_21
              have K_26 : jW p l e rmX10_made s m args below meth c 0 0 Q D vwCl A (MW ad cI cZ (0 : Int32) trace upper_11 lower_12 begins_13 size_14 hasShares_15 wires kind first second times byy group whole frm too isThere way sorts ohms price above_16 belo_17) 19 [(0, .ref (ad 0)), (1, .int a1), (3, .int a3), (4, .int x_9), (5, .int v5_10)] 84 [.long o_25] := by
                intro H locs ls hS hl
                refine lv_lstore (lv' := [(6, .long o_25), (0, .ref (ad 0)), (1, .int a1), (3, .int a3), (4, .int x_9), (5, .int v5_10)]) hx hb dX10_made_84 hl (by decide) rfl (fun ls hl => ?_)
                refine lv_iload hx hb dX10_made_86 (lv_at hl 5 rfl) ?_
                obtain ⟨o_31, r_33, q_21⟩ := jbd q_21
                have K_32 : jW p l e rmX10_made s m args below meth c 0 0 Q D vwCl A (MW ad cI cZ (0 : Int32) trace upper_11 lower_12 begins_13 size_14 hasShares_15 wires kind first second times byy group whole frm too isThere way sorts ohms price above_16 belo_17) 19 [(0, .ref (ad 0)), (1, .int a1), (3, .int a3), (4, .int x_9), (5, .int v5_10), (6, .long o_25)] 110 [.long o_31] := by
                  intro H locs ls hS hl
                  refine lv_lstore (lv' := [(8, .long o_31), (0, .ref (ad 0)), (1, .int a1), (3, .int a3), (4, .int x_9), (5, .int v5_10), (6, .long o_25)]) hx hb dX10_made_110 hl (by decide) rfl (fun ls hl => ?_)
                  refine lv_iconst (v := (1 : Int32)) hx hb dX10_made_112 (by decide) ?_
                  refine lv_istore (lv' := [(10, .int (1 : Int32)), (8, .long o_31), (0, .ref (ad 0)), (1, .int a1), (3, .int a3), (4, .int x_9), (5, .int v5_10), (6, .long o_25)]) hx hb dX10_made_113 hl (by decide) rfl (fun ls hl => ?_)
                  obtain ⟨o_45, L_46, q_21⟩ := jbd q_21
                  have K_47 : ∀ x_50, o_45 = .inl x_50 → jW p l e rmX10_made s m args below meth c 0 0 Q D vwCl A (MW ad cI cZ (0 : Int32) trace x_50.1 x_50.2.1 x_50.2.2.1 x_50.2.2.2.1 x_50.2.2.2.2.1 wires kind first second times byy group whole frm too isThere way sorts ohms price x_50.2.2.2.2.2.1 x_50.2.2.2.2.2.2) 19 [(0, .ref (ad 0)), (1, .int a1), (3, .int a3), (4, .int x_9), (5, .int v5_10)] 322 [] := by
                    intro x_50 ho H locs ls hS hl
                    subst ho
                    have q_21 := jexl q_21
                    obtain ⟨x_99, ex_99⟩ : ∃ y : Int32, y = v5_10 + (1 : Int32) := ⟨_, rfl⟩
                    have q_21 := jlv q_21 ex_99
                    refine lv_iinc (v := x_99) (lv' := [(5, .int x_99), (0, .ref (ad 0)), (1, .int a1), (3, .int a3), (4, .int x_9)]) hx hb dX10_made_322 hl (k := 4) rfl (by rw [ex_99]; rfl) (by decide) rfl (fun ls hl => ?_)
                    refine lv_goto (tgt := 54) hx hb dX10_made_325 (by decide) ?_
                    exact ih x_99 x_50.1 x_50.2.1 x_50.2.2.1 x_50.2.2.2.1 x_50.2.2.2.2.1 x_50.2.2.2.2.2.1 x_50.2.2.2.2.2.2 q_21 _ _ _ hS (lv_sub hl [1, 2, 3, 4, 0] rfl)
                  have loop_49 : ∀ (n : Nat) (v10_37 : Int32) (upper_38 : Nat → Int32) (lower_39 : Nat → Int32) (begins_40 : Nat → Int32) (size_41 : Int32) (hasShares_42 : Int32) (above_43 : Int64) (belo_44 : Int64), LX10_made_115 a1 a3 v5_10 o_25 o_31 n v10_37 upper_38 lower_39 begins_40 size_41 hasShares_42 above_43 belo_44 = some o_45 → jW p l e rmX10_made s m args below meth c 0 0 Q D vwCl A (MW ad cI cZ (0 : Int32) trace upper_38 lower_39 begins_40 size_41 hasShares_42 wires kind first second times byy group whole frm too isThere way sorts ohms price above_43 belo_44) 19 [(0, .ref (ad 0)), (1, .int a1), (3, .int a3), (4, .int x_9), (5, .int v5_10), (6, .long o_25), (8, .long o_31), (10, .int v10_37)] 115 [] := by
                    intro n
                    induction n with
                    | zero =>
                      intro v10_37 upper_38 lower_39 begins_40 size_41 hasShares_42 above_43 belo_44 q_48
                      have q_48 : none = some o_45 := q_48
                      cases q_48
                    | succ n ih =>
                      intro v10_37 upper_38 lower_39 begins_40 size_41 hasShares_42 above_43 belo_44 q_48 H locs ls hS hl
                      rw [LX10_made_115] at q_48
                      refine lv_iconst (v := (2 : Int32)) hx hb dX10_made_115 (by decide) ?_
                      refine lv_iload hx hb dX10_made_116 (lv_at hl 7 rfl) ?_
                      refine lv_imul hx hb dX10_made_118 ?_
                      refine lv_iload_n hx hb dX10_made_119 rfl (lv_at hl 1 rfl) ?_
                      refine lv_icmp_gt (tgt := 322) hx hb dX10_made_120 (by decide) (fun c_51 => ?_) (fun c_51 => ?_)
                      · have q_48 := jt q_48 c_51
                        obtain rfl := jsm q_48
                        exact K_47 _ rfl _ _ _ hS (lv_sub hl [0, 1, 2, 3, 4] rfl)
                      · have q_48 := jf q_48 c_51
                        refine lv_aload_n hx hb dX10_made_123 rfl (lv_at hl 0 rfl) ?_
                        refine va_get (D := D) (ci := 11) (v := .ref (ad 3)) (C := RX10) (T := TX10) (N := 24) hx hb hts inX10 hown hK hS.1 0 rfl rfl 4 (by decide) k1 (fun _ h => h) rfl dX10_made_124 ?_
                        refine lv_iload hx hb dX10_made_127 (lv_at hl 7 rfl) ?_
                        obtain ⟨b_52, q_48⟩ := jgd q_48
                        refine va_iald hx hb hK hS.1 3 0 rfl rfl (jin.mpr b_52) dX10_made_129 ?_
                        refine lv_topi (fun x_53 ex_53 => ?_)
                        have q_48 := jlv q_48 ex_53
                        refine lv_istore (lv' := [(11, .int x_53), (0, .ref (ad 0)), (1, .int a1), (3, .int a3), (4, .int x_9), (5, .int v5_10), (6, .long o_25), (8, .long o_31), (10, .int v10_37)]) hx hb dX10_made_130 hl (by decide) rfl (fun ls hl => ?_)
                        obtain ⟨o_62, L_63, q_48⟩ := jbd q_48
                        have K_64 : ∀ x_67, o_62 = .inl x_67 → jW p l e rmX10_made s m args below meth c 0 0 Q D vwCl A (MW ad cI cZ (0 : Int32) trace x_67.1 x_67.2.1 x_67.2.2.1 x_67.2.2.2.1 x_67.2.2.2.2.1 wires kind first second times byy group whole frm too isThere way sorts ohms price x_67.2.2.2.2.2.1 x_67.2.2.2.2.2.2) 19 [(0, .ref (ad 0)), (1, .int a1), (3, .int a3), (4, .int x_9), (5, .int v5_10), (6, .long o_25), (8, .long o_31), (10, .int v10_37)] 316 [] := by
                          intro x_67 ho H locs ls hS hl
                          subst ho
                          have q_48 := jexl q_48
                          obtain ⟨x_98, ex_98⟩ : ∃ y : Int32, y = v10_37 + (1 : Int32) := ⟨_, rfl⟩
                          have q_48 := jlv q_48 ex_98
                          refine lv_iinc (v := x_98) (lv' := [(10, .int x_98), (0, .ref (ad 0)), (1, .int a1), (3, .int a3), (4, .int x_9), (5, .int v5_10), (6, .long o_25), (8, .long o_31)]) hx hb dX10_made_316 hl (k := 7) rfl (by rw [ex_98]; rfl) (by decide) rfl (fun ls hl => ?_)
                          refine lv_goto (tgt := 115) hx hb dX10_made_319 (by decide) ?_
                          exact ih x_98 x_67.1 x_67.2.1 x_67.2.2.1 x_67.2.2.2.1 x_67.2.2.2.2.1 x_67.2.2.2.2.2.1 x_67.2.2.2.2.2.2 q_48 _ _ _ hS (lv_sub hl [1, 2, 3, 4, 5, 6, 7, 0] rfl)
                        have loop_66 : ∀ (n : Nat) (v11_54 : Int32) (upper_55 : Nat → Int32) (lower_56 : Nat → Int32) (begins_57 : Nat → Int32) (size_58 : Int32) (hasShares_59 : Int32) (above_60 : Int64) (belo_61 : Int64), LX10_made_132 a1 a3 v5_10 o_25 o_31 v10_37 n v11_54 upper_55 lower_56 begins_57 size_58 hasShares_59 above_60 belo_61 = some o_62 → jW p l e rmX10_made s m args below meth c 0 0 Q D vwCl A (MW ad cI cZ (0 : Int32) trace upper_55 lower_56 begins_57 size_58 hasShares_59 wires kind first second times byy group whole frm too isThere way sorts ohms price above_60 belo_61) 19 [(0, .ref (ad 0)), (1, .int a1), (3, .int a3), (4, .int x_9), (5, .int v5_10), (6, .long o_25), (8, .long o_31), (10, .int v10_37), (11, .int v11_54)] 132 [] := by
                          intro n
                          induction n with
                          | zero =>
                            intro v11_54 upper_55 lower_56 begins_57 size_58 hasShares_59 above_60 belo_61 q_65
                            have q_65 : none = some o_62 := q_65
                            cases q_65
                          | succ n ih =>
                            intro v11_54 upper_55 lower_56 begins_57 size_58 hasShares_59 above_60 belo_61 q_65 H locs ls hS hl
                            rw [LX10_made_132] at q_65
                            refine lv_iload hx hb dX10_made_132 (lv_at hl 8 rfl) ?_
                            refine lv_aload_n hx hb dX10_made_134 rfl (lv_at hl 0 rfl) ?_
                            refine va_get (D := D) (ci := 11) (v := .ref (ad 3)) (C := RX10) (T := TX10) (N := 24) hx hb hts inX10 hown hK hS.1 0 rfl rfl 4 (by decide) k1 (fun _ h => h) rfl dX10_made_135 ?_
                            refine lv_iload hx hb dX10_made_138 (lv_at hl 7 rfl) ?_
                            refine lv_iconst (v := (1 : Int32)) hx hb dX10_made_140 (by decide) ?_
                            refine lv_iadd hx hb dX10_made_141 ?_
                            obtain ⟨b_68, q_65⟩ := jgd q_65
                            refine va_iald hx hb hK hS.1 3 0 rfl rfl (jin.mpr b_68) dX10_made_142 ?_
                            refine lv_icmp_ge (tgt := 316) hx hb dX10_made_143 (by decide) (fun c_69 => ?_) (fun c_69 => ?_)
                            · have q_65 := jt q_65 c_69
                              obtain rfl := jsm q_65
                              exact K_64 _ rfl _ _ _ hS (lv_sub hl [0, 1, 2, 3, 4, 5, 6, 7] rfl)
                            · have q_65 := jf q_65 c_69
                              refine lv_iload hx hb dX10_made_146 (lv_at hl 4 rfl) ?_
                              obtain ⟨o_70, r_72, q_65⟩ := jbd q_65
                              have K_71 : jW p l e rmX10_made s m args below meth c 0 0 Q D vwCl A (MW ad cI cZ (0 : Int32) trace upper_55 lower_56 begins_57 size_58 hasShares_59 wires kind first second times byy group whole frm too isThere way sorts ohms price above_60 belo_61) 19 [(0, .ref (ad 0)), (1, .int a1), (3, .int a3), (4, .int x_9), (5, .int v5_10), (6, .long o_25), (8, .long o_31), (10, .int v10_37), (11, .int v11_54)] 170 [.long o_70] := by
                                intro H locs ls hS hl
                                refine lv_lstore (lv' := [(12, .long o_70), (0, .ref (ad 0)), (1, .int a1), (3, .int a3), (4, .int x_9), (5, .int v5_10), (6, .long o_25), (8, .long o_31), (10, .int v10_37), (11, .int v11_54)]) hx hb dX10_made_170 hl (by decide) rfl (fun ls hl => ?_)
                                refine lv_iload hx hb dX10_made_172 (lv_at hl 5 rfl) ?_
                                obtain ⟨o_76, r_78, q_65⟩ := jbd q_65
                                have K_77 : jW p l e rmX10_made s m args below meth c 0 0 Q D vwCl A (MW ad cI cZ (0 : Int32) trace upper_55 lower_56 begins_57 size_58 hasShares_59 wires kind first second times byy group whole frm too isThere way sorts ohms price above_60 belo_61) 19 [(0, .ref (ad 0)), (1, .int a1), (3, .int a3), (4, .int x_9), (5, .int v5_10), (6, .long o_25), (8, .long o_31), (10, .int v10_37), (11, .int v11_54), (12, .long o_70)] 196 [.long o_76] := by
                                  intro H locs ls hS hl
                                  refine lv_lstore (lv' := [(14, .long o_76), (0, .ref (ad 0)), (1, .int a1), (3, .int a3), (4, .int x_9), (5, .int v5_10), (6, .long o_25), (8, .long o_31), (10, .int v10_37), (11, .int v11_54), (12, .long o_70)]) hx hb dX10_made_196 hl (by decide) rfl (fun ls hl => ?_)
                                  refine lv_lload hx hb dX10_made_198 (lv_at hl 6 rfl) ?_
                                  refine lv_lload hx hb dX10_made_200 (lv_at hl 0 rfl) ?_
                                  refine lv_lmul hx hb dX10_made_202 ?_
                                  refine lv_lload hx hb dX10_made_203 (lv_at hl 10 rfl) ?_
                                  refine lv_lload hx hb dX10_made_205 (lv_at hl 7 rfl) ?_
                                  refine lv_lmul hx hb dX10_made_207 ?_
                                  refine lv_lsub hx hb dX10_made_208 ?_
                                  refine lv_topl (fun x_82 ex_82 => ?_)
                                  have q_65 := jlv q_65 ex_82
                                  refine lv_lstore (lv' := [(16, .long x_82), (14, .long o_76), (0, .ref (ad 0)), (1, .int a1), (3, .int a3), (4, .int x_9), (5, .int v5_10), (6, .long o_25), (8, .long o_31), (10, .int v10_37), (11, .int v11_54), (12, .long o_70)]) hx hb dX10_made_209 hl (by decide) rfl (fun ls hl => ?_)
                                  refine lv_lload hx hb dX10_made_211 (lv_at hl 0 rfl) ?_
                                  refine lv_lconst (v := (0 : Int64)) hx hb dX10_made_213 (by decide) ?_
                                  obtain ⟨o_83, r_85, q_65⟩ := jbd q_65
                                  have K_84 : jW p l e rmX10_made s m args below meth c 0 0 Q D vwCl A (MW ad cI cZ (0 : Int32) trace o_83.2.1 o_83.2.2.1 o_83.2.2.2.1 o_83.2.2.2.2.1 o_83.2.2.2.2.2.1 wires kind first second times byy group whole frm too isThere way sorts ohms price o_83.2.2.2.2.2.2.1 o_83.2.2.2.2.2.2.2) 19 [(0, .ref (ad 0)), (1, .int a1), (3, .int a3), (4, .int x_9), (5, .int v5_10), (6, .long o_25), (8, .long o_31), (10, .int v10_37), (11, .int v11_54)] 261 [.int o_83.1] := by
                                    intro H locs ls hS hl
                                    refine lv_topi (fun x_92 ex_92 => ?_)
                                    have q_65 := jlv q_65 ex_92
                                    refine lv_istore (lv' := [(18, .int x_92), (0, .ref (ad 0)), (1, .int a1), (3, .int a3), (4, .int x_9), (5, .int v5_10), (6, .long o_25), (8, .long o_31), (10, .int v10_37), (11, .int v11_54)]) hx hb dX10_made_261 hl (by decide) rfl (fun ls hl => ?_)
                                    refine lv_iload hx hb dX10_made_263 (lv_at hl 0 rfl) ?_
                                    refine lv_if_lt (tgt := 310) hx hb dX10_made_265 (by decide) (fun c_93 => ?_) (fun c_93 => ?_)
                                    · have q_65 := jt q_65 c_93
                                      obtain ⟨x_94, ex_94⟩ : ∃ y : Int32, y = v11_54 + (1 : Int32) := ⟨_, rfl⟩
                                      have q_65 := jlv q_65 ex_94
                                      refine lv_iinc (v := x_94) (lv' := [(11, .int x_94), (18, .int x_92), (0, .ref (ad 0)), (1, .int a1), (3, .int a3), (4, .int x_9), (5, .int v5_10), (6, .long o_25), (8, .long o_31), (10, .int v10_37)]) hx hb dX10_made_310 hl (k := 9) rfl (by rw [ex_94]; rfl) (by decide) rfl (fun ls hl => ?_)
                                      refine lv_goto (tgt := 132) hx hb dX10_made_313 (by decide) ?_
                                      exact ih x_94 o_83.2.1 o_83.2.2.1 o_83.2.2.2.1 o_83.2.2.2.2.1 o_83.2.2.2.2.2.1 o_83.2.2.2.2.2.2.1 o_83.2.2.2.2.2.2.2 q_65 _ _ _ hS (lv_sub hl [2, 3, 4, 5, 6, 7, 8, 9, 0] rfl)
                                    · have q_65 := jf q_65 c_93
                                      refine lv_iload_n hx hb dX10_made_268 rfl (lv_at hl 3 rfl) ?_
                                      refine lv_if_ne (tgt := 279) hx hb dX10_made_269 (by decide) (fun c_95 => ?_) (fun c_95 => ?_)
                                      · have q_65 := jf q_65 c_95
                                        refine lv_iload_n hx hb dX10_made_279 rfl (lv_at hl 3 rfl) ?_
                                        refine lv_iconst (v := (1 : Int32)) hx hb dX10_made_280 (by decide) ?_
                                        refine lv_icmp_ne (tgt := 289) hx hb dX10_made_281 (by decide) (fun c_96 => ?_) (fun c_96 => ?_)
                                        · have q_65 := jf q_65 c_96
                                          refine lv_iload_n hx hb dX10_made_289 rfl (lv_at hl 3 rfl) ?_
                                          refine lv_iconst (v := (2 : Int32)) hx hb dX10_made_290 (by decide) ?_
                                          refine lv_icmp_ne (tgt := 307) hx hb dX10_made_291 (by decide) (fun c_97 => ?_) (fun c_97 => ?_)
                                          · have q_65 := jf q_65 c_97
                                            refine lv_iload hx hb dX10_made_307 (lv_at hl 0 rfl) ?_
                                            obtain rfl := jsm q_65
                                            have q_48 := jexr q_48
                                            obtain rfl := jsm q_48
                                            have q_21 := jexr q_21
                                            obtain rfl := jsm q_21
                                            have hE := jexr hE
                                            obtain rfl := jsm hE
                                            exact ret hS rfl dX10_made_309
                                          · have q_65 := jt q_65 c_97
                                            refine lv_iload hx hb dX10_made_294 (lv_at hl 9 rfl) ?_
                                            refine lv_aload_n hx hb dX10_made_296 rfl (lv_at hl 1 rfl) ?_
                                            refine va_get (D := D) (ci := 11) (v := .ref (ad 3)) (C := RX10) (T := TX10) (N := 24) hx hb hts inX10 hown hK hS.1 0 rfl rfl 4 (by decide) k1 (fun _ h => h) rfl dX10_made_297 ?_
                                            refine lv_iload hx hb dX10_made_300 (lv_at hl 8 rfl) ?_
                                            refine va_iald hx hb hK hS.1 3 0 rfl rfl (jin.mpr b_52) dX10_made_302 ?_
                                            refine lv_isub hx hb dX10_made_303 ?_
                                            refine lv_goto (tgt := 309) hx hb dX10_made_304 (by decide) ?_
                                            obtain rfl := jsm q_65
                                            have q_48 := jexr q_48
                                            obtain rfl := jsm q_48
                                            have q_21 := jexr q_21
                                            obtain rfl := jsm q_21
                                            have hE := jexr hE
                                            obtain rfl := jsm hE
                                            exact ret hS rfl dX10_made_309
                                        · have q_65 := jt q_65 c_96
                                          refine lv_iload hx hb dX10_made_284 (lv_at hl 8 rfl) ?_
                                          refine lv_goto (tgt := 309) hx hb dX10_made_286 (by decide) ?_
                                          obtain rfl := jsm q_65
                                          have q_48 := jexr q_48
                                          obtain rfl := jsm q_48
                                          have q_21 := jexr q_21
                                          obtain rfl := jsm q_21
                                          have hE := jexr hE
                                          obtain rfl := jsm hE
                                          exact ret hS rfl dX10_made_309
                                      · have q_65 := jt q_65 c_95
                                        refine lv_iconst (v := (1 : Int32)) hx hb dX10_made_272 (by decide) ?_
                                        refine lv_iload hx hb dX10_made_273 (lv_at hl 5 rfl) ?_
                                        refine lv_iadd hx hb dX10_made_275 ?_
                                        refine lv_goto (tgt := 309) hx hb dX10_made_276 (by decide) ?_
                                        obtain rfl := jsm q_65
                                        have q_48 := jexr q_48
                                        obtain rfl := jsm q_48
                                        have q_21 := jexr q_21
                                        obtain rfl := jsm q_21
                                        have hE := jexr hE
                                        obtain rfl := jsm hE
                                        exact ret hS rfl dX10_made_309
                                  refine jl_gt (tgt := 223) hx hb dX10_made_214 dX10_made_215 (by decide) (fun c_86 => ?_) (fun c_86 => ?_)
                                  · have r_85 := jt r_85 c_86
                                    refine lv_iload hx hb dX10_made_223 (lv_at hl 6 rfl) ?_
                                    refine lv_if_ne (tgt := 246) hx hb dX10_made_225 (by decide) (fun c_87 => ?_) (fun c_87 => ?_)
                                    · have r_85 := jf r_85 c_87
                                      refine lv_aload_n hx hb dX10_made_246 rfl (lv_at hl 2 rfl) ?_
                                      refine lv_iload_n hx hb dX10_made_247 rfl (lv_at hl 3 rfl) ?_
                                      refine lv_iload hx hb dX10_made_248 (lv_at hl 9 rfl) ?_
                                      refine lv_isub hx hb dX10_made_250 ?_
                                      refine lv_lload hx hb dX10_made_251 (lv_at hl 8 rfl) ?_
                                      refine lv_lload hx hb dX10_made_253 (lv_at hl 1 rfl) ?_
                                      refine lv_lmul hx hb dX10_made_255 ?_
                                      refine lv_lload hx hb dX10_made_256 (lv_at hl 0 rfl) ?_
                                      obtain ⟨o_88, h_89, r_85⟩ := jbd r_85
                                      refine j_Vi (As := [.int (a1 - v10_37), .long (o_31 * o_76), .long x_82]) (rest := []) (wf := MW ad cI cZ (0 : Int32) trace o_88.2.1 o_88.2.2.1 o_88.2.2.2.1 o_88.2.2.2.2.1 o_88.2.2.2.2.2.1 wires kind first second times byy group whole frm too isThere way sorts ohms price o_88.2.2.2.2.2.2.1 o_88.2.2.2.2.2.2.2) (vc := (RX10, TX10, 24)) C hK hS (jcut_all hA hS) (tX10_rankOf l D ad cI cJ cZ cW cS cO cG (0 : Int32) trace upper_55 lower_56 begins_57 size_58 hasShares_59 wires kind first second times byy group whole frm too isThere way sorts ohms price above_60 belo_61 (a1 - v10_37) (o_31 * o_76) x_82 h_89) (cwV 3 hts gX10_made_X10_rankOf rfl rfl rfl (by decide +kernel) ⟨Nat.le_of_ble_eq_true rfl, Nat.le_of_ble_eq_true rfl⟩) (q0 := 0) rfl (ci := 11) rfl rfl hl.1 rfl (Nat.le_of_ble_eq_true rfl) dX10_made_258 ⟨Nat.zero_le _, Nat.zero_le _⟩ (fun H locs hS => ?_)
                                      obtain rfl := jsm r_85
                                      exact K_84 _ _ _ hS (lv_sub hl [2, 3, 4, 5, 6, 7, 8, 9, 10] rfl)
                                    · have r_85 := jt r_85 c_87
                                      refine lv_aload_n hx hb dX10_made_228 rfl (lv_at hl 2 rfl) ?_
                                      refine lv_iload_n hx hb dX10_made_229 rfl (lv_at hl 3 rfl) ?_
                                      refine lv_iload hx hb dX10_made_230 (lv_at hl 9 rfl) ?_
                                      refine lv_isub hx hb dX10_made_232 ?_
                                      refine lv_lload hx hb dX10_made_233 (lv_at hl 0 rfl) ?_
                                      refine lv_lload hx hb dX10_made_235 (lv_at hl 8 rfl) ?_
                                      refine lv_lload hx hb dX10_made_237 (lv_at hl 1 rfl) ?_
                                      refine lv_lmul hx hb dX10_made_239 ?_
                                      obtain ⟨o_90, h_91, r_85⟩ := jbd r_85
                                      refine j_Vi (As := [.int (a1 - v10_37), .long x_82, .long (o_31 * o_76)]) (rest := []) (wf := MW ad cI cZ (0 : Int32) trace o_90.2.1 o_90.2.2.1 o_90.2.2.2.1 o_90.2.2.2.2.1 o_90.2.2.2.2.2.1 wires kind first second times byy group whole frm too isThere way sorts ohms price o_90.2.2.2.2.2.2.1 o_90.2.2.2.2.2.2.2) (vc := (RX10, TX10, 24)) C hK hS (jcut_all hA hS) (tX10_rankOf l D ad cI cJ cZ cW cS cO cG (0 : Int32) trace upper_55 lower_56 begins_57 size_58 hasShares_59 wires kind first second times byy group whole frm too isThere way sorts ohms price above_60 belo_61 (a1 - v10_37) x_82 (o_31 * o_76) h_91) (cwV 3 hts gX10_made_X10_rankOf rfl rfl rfl (by decide +kernel) ⟨Nat.le_of_ble_eq_true rfl, Nat.le_of_ble_eq_true rfl⟩) (q0 := 0) rfl (ci := 11) rfl rfl hl.1 rfl (Nat.le_of_ble_eq_true rfl) dX10_made_240 ⟨Nat.zero_le _, Nat.zero_le _⟩ (fun H locs hS => ?_)
                                      refine lv_goto (tgt := 261) hx hb dX10_made_243 (by decide) ?_
                                      obtain rfl := jsm r_85
                                      exact K_84 _ _ _ hS (lv_sub hl [2, 3, 4, 5, 6, 7, 8, 9, 10] rfl)
                                  · have r_85 := jf r_85 c_86
                                    refine lv_bipush (v := (-9 : Int32)) hx hb dX10_made_218 (by decide) ?_
                                    refine lv_goto (tgt := 261) hx hb dX10_made_220 (by decide) ?_
                                    obtain rfl := jsm r_85
                                    exact K_84 _ _ _ hS (lv_sub hl [2, 3, 4, 5, 6, 7, 8, 9, 10] rfl)
                                refine lv_if_ne (tgt := 188) hx hb dX10_made_174 (by decide) (fun c_79 => ?_) (fun c_79 => ?_)
                                · have r_78 := jf r_78 c_79
                                  refine lv_aload_n hx hb dX10_made_188 rfl (lv_at hl 1 rfl) ?_
                                  refine va_get (D := D) (ci := 11) (v := .ref (ad 1)) (C := RX10) (T := TX10) (N := 24) hx hb hts inX10 hown hK hS.1 0 rfl rfl 2 (by decide) k3 (fun _ h => h) rfl dX10_made_189 ?_
                                  refine lv_iload hx hb dX10_made_192 (lv_at hl 9 rfl) ?_
                                  obtain ⟨b_80, r_78⟩ := jgd r_78
                                  refine va_iald hx hb hK hS.1 1 0 rfl rfl (jin.mpr b_80) dX10_made_194 ?_
                                  refine lv_i2l (v := (upper_55 v11_54.toNatClampNeg).toInt64) hx hb dX10_made_195 rfl ?_
                                  obtain rfl := jsm r_78
                                  exact K_77 _ _ _ hS (lv_sub hl [1, 2, 3, 4, 5, 6, 7, 8, 9, 0] rfl)
                                · have r_78 := jt r_78 c_79
                                  refine lv_aload_n hx hb dX10_made_177 rfl (lv_at hl 1 rfl) ?_
                                  refine va_get (D := D) (ci := 11) (v := .ref (ad 2)) (C := RX10) (T := TX10) (N := 24) hx hb hts inX10 hown hK hS.1 0 rfl rfl 3 (by decide) k2 (fun _ h => h) rfl dX10_made_178 ?_
                                  refine lv_iload hx hb dX10_made_181 (lv_at hl 9 rfl) ?_
                                  obtain ⟨b_81, r_78⟩ := jgd r_78
                                  refine va_iald hx hb hK hS.1 2 0 rfl rfl (jin.mpr b_81) dX10_made_183 ?_
                                  refine lv_i2l (v := (lower_56 v11_54.toNatClampNeg).toInt64) hx hb dX10_made_184 rfl ?_
                                  refine lv_goto (tgt := 196) hx hb dX10_made_185 (by decide) ?_
                                  obtain rfl := jsm r_78
                                  exact K_77 _ _ _ hS (lv_sub hl [1, 2, 3, 4, 5, 6, 7, 8, 9, 0] rfl)
                              refine lv_if_ne (tgt := 162) hx hb dX10_made_148 (by decide) (fun c_73 => ?_) (fun c_73 => ?_)
                              · have r_72 := jf r_72 c_73
                                refine lv_aload_n hx hb dX10_made_162 rfl (lv_at hl 0 rfl) ?_
                                refine va_get (D := D) (ci := 11) (v := .ref (ad 2)) (C := RX10) (T := TX10) (N := 24) hx hb hts inX10 hown hK hS.1 0 rfl rfl 3 (by decide) k2 (fun _ h => h) rfl dX10_made_163 ?_
                                refine lv_iload hx hb dX10_made_166 (lv_at hl 8 rfl) ?_
                                obtain ⟨b_74, r_72⟩ := jgd r_72
                                refine va_iald hx hb hK hS.1 2 0 rfl rfl (jin.mpr b_74) dX10_made_168 ?_
                                refine lv_i2l (v := (lower_56 v11_54.toNatClampNeg).toInt64) hx hb dX10_made_169 rfl ?_
                                obtain rfl := jsm r_72
                                exact K_71 _ _ _ hS (lv_sub hl [0, 1, 2, 3, 4, 5, 6, 7, 8] rfl)
                              · have r_72 := jt r_72 c_73
                                refine lv_aload_n hx hb dX10_made_151 rfl (lv_at hl 0 rfl) ?_
                                refine va_get (D := D) (ci := 11) (v := .ref (ad 1)) (C := RX10) (T := TX10) (N := 24) hx hb hts inX10 hown hK hS.1 0 rfl rfl 2 (by decide) k3 (fun _ h => h) rfl dX10_made_152 ?_
                                refine lv_iload hx hb dX10_made_155 (lv_at hl 8 rfl) ?_
                                obtain ⟨b_75, r_72⟩ := jgd r_72
                                refine va_iald hx hb hK hS.1 1 0 rfl rfl (jin.mpr b_75) dX10_made_157 ?_
                                refine lv_i2l (v := (upper_55 v11_54.toNatClampNeg).toInt64) hx hb dX10_made_158 rfl ?_
                                refine lv_goto (tgt := 170) hx hb dX10_made_159 (by decide) ?_
                                obtain rfl := jsm r_72
                                exact K_71 _ _ _ hS (lv_sub hl [0, 1, 2, 3, 4, 5, 6, 7, 8] rfl)
                        exact loop_66 5000 x_53 upper_38 lower_39 begins_40 size_41 hasShares_42 above_43 belo_44 L_63 _ _ _ hS (lv_sub hl [1, 2, 3, 4, 5, 6, 7, 8, 0] rfl)
                  exact loop_49 5000 (1 : Int32) upper_11 lower_12 begins_13 size_14 hasShares_15 above_16 belo_17 L_46 _ _ _ hS (lv_sub hl [2, 3, 4, 5, 6, 7, 1, 0] rfl)
                refine lv_if_ne (tgt := 102) hx hb dX10_made_88 (by decide) (fun c_34 => ?_) (fun c_34 => ?_)
                · have r_33 := jf r_33 c_34
                  refine lv_aload_n hx hb dX10_made_102 rfl (lv_at hl 1 rfl) ?_
                  refine va_get (D := D) (ci := 11) (v := .ref (ad 1)) (C := RX10) (T := TX10) (N := 24) hx hb hts inX10 hown hK hS.1 0 rfl rfl 2 (by decide) k3 (fun _ h => h) rfl dX10_made_103 ?_
                  refine lv_iload hx hb dX10_made_106 (lv_at hl 4 rfl) ?_
                  obtain ⟨b_35, r_33⟩ := jgd r_33
                  refine va_iald hx hb hK hS.1 1 0 rfl rfl (jin.mpr b_35) dX10_made_108 ?_
                  refine lv_i2l (v := (upper_11 x_9.toNatClampNeg).toInt64) hx hb dX10_made_109 rfl ?_
                  obtain rfl := jsm r_33
                  exact K_32 _ _ _ hS (lv_sub hl [1, 2, 3, 4, 5, 0] rfl)
                · have r_33 := jt r_33 c_34
                  refine lv_aload_n hx hb dX10_made_91 rfl (lv_at hl 1 rfl) ?_
                  refine va_get (D := D) (ci := 11) (v := .ref (ad 2)) (C := RX10) (T := TX10) (N := 24) hx hb hts inX10 hown hK hS.1 0 rfl rfl 3 (by decide) k2 (fun _ h => h) rfl dX10_made_92 ?_
                  refine lv_iload hx hb dX10_made_95 (lv_at hl 4 rfl) ?_
                  obtain ⟨b_36, r_33⟩ := jgd r_33
                  refine va_iald hx hb hK hS.1 2 0 rfl rfl (jin.mpr b_36) dX10_made_97 ?_
                  refine lv_i2l (v := (lower_12 x_9.toNatClampNeg).toInt64) hx hb dX10_made_98 rfl ?_
                  refine lv_goto (tgt := 110) hx hb dX10_made_99 (by decide) ?_
                  obtain rfl := jsm r_33
                  exact K_32 _ _ _ hS (lv_sub hl [1, 2, 3, 4, 5, 0] rfl)
              refine lv_if_ne (tgt := 76) hx hb dX10_made_62 (by decide) (fun c_28 => ?_) (fun c_28 => ?_)
              · have r_27 := jf r_27 c_28
                refine lv_aload_n hx hb dX10_made_76 rfl (lv_at hl 0 rfl) ?_
                refine va_get (D := D) (ci := 11) (v := .ref (ad 2)) (C := RX10) (T := TX10) (N := 24) hx hb hts inX10 hown hK hS.1 0 rfl rfl 3 (by decide) k2 (fun _ h => h) rfl dX10_made_77 ?_
                refine lv_iload hx hb dX10_made_80 (lv_at hl 3 rfl) ?_
                obtain ⟨b_29, r_27⟩ := jgd r_27
                refine va_iald hx hb hK hS.1 2 0 rfl rfl (jin.mpr b_29) dX10_made_82 ?_
                refine lv_i2l (v := (lower_12 x_9.toNatClampNeg).toInt64) hx hb dX10_made_83 rfl ?_
                obtain rfl := jsm r_27
                exact K_26 _ _ _ hS (lv_sub hl [0, 1, 2, 3, 4] rfl)
              · have r_27 := jt r_27 c_28
                refine lv_aload_n hx hb dX10_made_65 rfl (lv_at hl 0 rfl) ?_
                refine va_get (D := D) (ci := 11) (v := .ref (ad 1)) (C := RX10) (T := TX10) (N := 24) hx hb hts inX10 hown hK hS.1 0 rfl rfl 2 (by decide) k3 (fun _ h => h) rfl dX10_made_66 ?_
                refine lv_iload hx hb dX10_made_69 (lv_at hl 3 rfl) ?_
                obtain ⟨b_30, r_27⟩ := jgd r_27
                refine va_iald hx hb hK hS.1 1 0 rfl rfl (jin.mpr b_30) dX10_made_71 ?_
                refine lv_i2l (v := (upper_11 x_9.toNatClampNeg).toInt64) hx hb dX10_made_72 rfl ?_
                refine lv_goto (tgt := 84) hx hb dX10_made_73 (by decide) ?_
                obtain rfl := jsm r_27
                exact K_26 _ _ _ hS (lv_sub hl [0, 1, 2, 3, 4] rfl)
        exact loop_22 5000 (0 : Int32) o_1.2.1 o_1.2.2.1 o_1.2.2.2.1 o_1.2.2.2.2.1 o_1.2.2.2.2.2.1 o_1.2.2.2.2.2.2.1 o_1.2.2.2.2.2.2.2 L_19 _ _ _ hS (lv_sub hl [2, 3, 5, 1, 0] rfl)
      · have hE := jt hE c_7
        refine lv_iload_n hx hb dX10_made_30 rfl (lv_at hl 3 rfl) ?_
        refine lv_if_ne (tgt := 38) hx hb dX10_made_31 (by decide) (fun c_100 => ?_) (fun c_100 => ?_)
        · have hE := jf hE c_100
          refine lv_bipush (v := (-9 : Int32)) hx hb dX10_made_38 (by decide) ?_
          obtain rfl := jsm hE
          exact ret hS rfl dX10_made_40
        · have hE := jt hE c_100
          refine lv_iconst (v := (0 : Int32)) hx hb dX10_made_34 (by decide) ?_
          refine lv_goto (tgt := 40) hx hb dX10_made_35 (by decide) ?_
          obtain rfl := jsm hE
          exact ret hS rfl dX10_made_40
    · have hE := jt hE c_6
      refine lv_iconst (v := (-1 : Int32)) hx hb dX10_made_23 (by decide) ?_
      obtain rfl := jsm hE
      exact ret hS rfl dX10_made_24
def fX10_turned (a1 : Int32) (a2 : Int32) (upper : Nat → Int32) (lower : Nat → Int32) (begins : Nat → Int32) (size : Int32) (hasShares : Int32) (above : Int64) (belo : Int64) : Option (Int32 × Int32 × (Nat → Int32) × (Nat → Int32) × (Nat → Int32) × Int32 × Int32 × Int64 × Int64) :=
  (fX10_isShare a1 a2 upper lower begins size hasShares above belo).bind (fun o_1 => 
  if o_1.1 = 0 then
  some ((-1 : Int32), (0 : Int32), o_1.2.1, o_1.2.2.1, o_1.2.2.2.1, o_1.2.2.2.2.1, o_1.2.2.2.2.2.1, o_1.2.2.2.2.2.2.1, o_1.2.2.2.2.2.2.2)
  else
  if jok a1 11 then
  if jok ((o_1.2.2.2.1 a1.toNatClampNeg) + a2) 1600 then
  (fX10_rankOf a1 ((o_1.2.2.1 ((o_1.2.2.2.1 a1.toNatClampNeg) + a2).toNatClampNeg).toInt64) ((o_1.2.1 ((o_1.2.2.2.1 a1.toNatClampNeg) + a2).toNatClampNeg).toInt64) o_1.2.1 o_1.2.2.1 o_1.2.2.2.1 o_1.2.2.2.2.1 o_1.2.2.2.2.2.1 o_1.2.2.2.2.2.2.1 o_1.2.2.2.2.2.2.2).bind (fun o_6 => 
  some (o_6.1, (0 : Int32), o_6.2.1, o_6.2.2.1, o_6.2.2.2.1, o_6.2.2.2.2.1, o_6.2.2.2.2.2.1, o_6.2.2.2.2.2.2.1, o_6.2.2.2.2.2.2.2))
  else none
  else none)
abbrev rmX10_turned : Room := { frames := 6, cells := 0, slots := 0, locals := 151 }
set_option maxHeartbeats 4000000 in
set_option maxRecDepth 100000 in
theorem tX10_turned (l : Launch) (D : va_G) (ad : Nat → Nat) (cI cJ cZ cW cS cO cG : ClassId) (thrown : Int32) (trace : Int64) (upper : Nat → Int32) (lower : Nat → Int32) (begins : Nat → Int32) (size : Int32) (hasShares : Int32) (wires : Int32) (kind : Nat → Int32) (first : Nat → Int32) (second : Nat → Int32) (times : Nat → Int32) (byy : Nat → Int32) (group : Nat → Int32) (whole : Nat → Int32) (frm : Nat → Int32) (too : Nat → Int32) (isThere : Nat → Int32) (way : Nat → Int32) (sorts : Int32) (ohms : Nat → Int32) (price : Nat → Int32) (above : Int64) (belo : Int64) (a1 : Int32) (a2 : Int32) {o : Int32 × Int32 × (Nat → Int32) × (Nat → Int32) × (Nat → Int32) × Int32 × Int32 × Int64 × Int64} (hE : fX10_turned a1 a2 upper lower begins size hasShares above belo = some o) : JMi l yX10_turned wsX10_turned rmX10_turned D vwCl (TY cI cJ cZ cW cS cO cG) [.ref (ad 0), .int a1, .int a2] (MW ad cI cZ thrown trace upper lower begins size hasShares wires kind first second times byy group whole frm too isThere way sorts ohms price above belo) (MW ad cI cZ o.2.1 trace o.2.2.1 o.2.2.2.1 o.2.2.2.2.1 o.2.2.2.2.2.1 o.2.2.2.2.2.2.1 wires kind first second times byy group whole frm too isThere way sorts ohms price o.2.2.2.2.2.2.2.1 o.2.2.2.2.2.2.2.2) o.1 := by
  refine JMi.of (cc := cX10_turned) (maxL := 3) (by decide) rfl (Nat.le_of_ble_eq_true rfl) ?_
  intro p e s m args below meth c A ls Q C hK hA ret hS hl
  obtain ⟨⟨hx, hb, hml, hown, hts⟩, -⟩ := id C
  have hl : lv_has ls 3 [(0, .ref (ad 0)), (1, .int a1), (2, .int a2)] := hl
  have inX10 : ∀ w ∈ u_ws RX10 TX10 24, w ∈ wsX10_turned := by decide +kernel
  have k0 := hts (.fieldLink RX10 59 "OhmNetsModel" "thrown" "I") (by decide +kernel)
  have k1 := hts (.fieldLink RX10 13 "OhmNetsModel" "lower" "[I") (by decide +kernel)
  have k2 := hts (.fieldLink RX10 16 "OhmNetsModel" "begins" "[I") (by decide +kernel)
  have k3 := hts (.fieldLink RX10 7 "OhmNetsModel" "upper" "[I") (by decide +kernel)
  refine lv_aload_n hx hb dX10_turned_0 rfl (lv_at hl 0 rfl) ?_
  refine lv_iconst (v := (0 : Int32)) hx hb dX10_turned_1 (by decide) ?_
  refine j_put (ci := 11) (v := .int (0 : Int32)) (ty := .int) (C := RX10) (T := TX10) (N := 24) (w' := MW ad cI cZ (0 : Int32) trace upper lower begins size hasShares wires kind first second times byy group whole frm too isThere way sorts ohms price above belo) hx hb hts inX10 tyX10 tyX10_ok nmX10 hown hK hS 0 rfl rfl 0 (by decide) k0 (fun _ h => h) rfl (by decide +kernel) rfl rfl (Nat.le_of_ble_eq_true rfl) rfl dX10_turned_2 (fun H locs hS => ?_)
  refine lv_aload_n hx hb dX10_turned_5 rfl (lv_at hl 0 rfl) ?_
  refine lv_iload_n hx hb dX10_turned_6 rfl (lv_at hl 1 rfl) ?_
  refine lv_iload_n hx hb dX10_turned_7 rfl (lv_at hl 2 rfl) ?_
  obtain ⟨o_1, h_2, hE⟩ := jbd hE
  refine j_Vi (As := [.int a1, .int a2]) (rest := []) (wf := MW ad cI cZ (0 : Int32) trace o_1.2.1 o_1.2.2.1 o_1.2.2.2.1 o_1.2.2.2.2.1 o_1.2.2.2.2.2.1 wires kind first second times byy group whole frm too isThere way sorts ohms price o_1.2.2.2.2.2.2.1 o_1.2.2.2.2.2.2.2) (vc := (RX10, TX10, 24)) C hK hS (jcut_all hA hS) (tX10_isShare l D ad cI cJ cZ cW cS cO cG (0 : Int32) trace upper lower begins size hasShares wires kind first second times byy group whole frm too isThere way sorts ohms price above belo a1 a2 h_2) (cwV 2 hts gX10_turned_X10_isShare rfl rfl rfl (by decide +kernel) ⟨Nat.le_of_ble_eq_true rfl, Nat.le_of_ble_eq_true rfl⟩) (q0 := 0) rfl (ci := 11) rfl rfl hl.1 rfl (Nat.le_of_ble_eq_true rfl) dX10_turned_8 ⟨Nat.zero_le _, Nat.zero_le _⟩ (fun H locs hS => ?_)
  refine lv_if_eq (tgt := 50) hx hb dX10_turned_11 (by decide) (fun c_3 => ?_) (fun c_3 => ?_)
  · have hE := jt hE c_3
    refine lv_iconst (v := (-1 : Int32)) hx hb dX10_turned_50 (by decide) ?_
    obtain rfl := jsm hE
    exact ret hS rfl dX10_turned_51
  · have hE := jf hE c_3
    refine lv_aload_n hx hb dX10_turned_14 rfl (lv_at hl 0 rfl) ?_
    refine lv_iload_n hx hb dX10_turned_15 rfl (lv_at hl 1 rfl) ?_
    refine lv_aload_n hx hb dX10_turned_16 rfl (lv_at hl 0 rfl) ?_
    refine va_get (D := D) (ci := 11) (v := .ref (ad 2)) (C := RX10) (T := TX10) (N := 24) hx hb hts inX10 hown hK hS.1 0 rfl rfl 3 (by decide) k1 (fun _ h => h) rfl dX10_turned_17 ?_
    refine lv_aload_n hx hb dX10_turned_20 rfl (lv_at hl 0 rfl) ?_
    refine va_get (D := D) (ci := 11) (v := .ref (ad 3)) (C := RX10) (T := TX10) (N := 24) hx hb hts inX10 hown hK hS.1 0 rfl rfl 4 (by decide) k2 (fun _ h => h) rfl dX10_turned_21 ?_
    refine lv_iload_n hx hb dX10_turned_24 rfl (lv_at hl 1 rfl) ?_
    obtain ⟨b_4, hE⟩ := jgd hE
    refine va_iald hx hb hK hS.1 3 0 rfl rfl (jin.mpr b_4) dX10_turned_25 ?_
    refine lv_iload_n hx hb dX10_turned_26 rfl (lv_at hl 2 rfl) ?_
    refine lv_iadd hx hb dX10_turned_27 ?_
    obtain ⟨b_5, hE⟩ := jgd hE
    refine va_iald hx hb hK hS.1 2 0 rfl rfl (jin.mpr b_5) dX10_turned_28 ?_
    refine lv_i2l (v := (o_1.2.2.1 ((o_1.2.2.2.1 a1.toNatClampNeg) + a2).toNatClampNeg).toInt64) hx hb dX10_turned_29 rfl ?_
    refine lv_aload_n hx hb dX10_turned_30 rfl (lv_at hl 0 rfl) ?_
    refine va_get (D := D) (ci := 11) (v := .ref (ad 1)) (C := RX10) (T := TX10) (N := 24) hx hb hts inX10 hown hK hS.1 0 rfl rfl 2 (by decide) k3 (fun _ h => h) rfl dX10_turned_31 ?_
    refine lv_aload_n hx hb dX10_turned_34 rfl (lv_at hl 0 rfl) ?_
    refine va_get (D := D) (ci := 11) (v := .ref (ad 3)) (C := RX10) (T := TX10) (N := 24) hx hb hts inX10 hown hK hS.1 0 rfl rfl 4 (by decide) k2 (fun _ h => h) rfl dX10_turned_35 ?_
    refine lv_iload_n hx hb dX10_turned_38 rfl (lv_at hl 1 rfl) ?_
    refine va_iald hx hb hK hS.1 3 0 rfl rfl (jin.mpr b_4) dX10_turned_39 ?_
    refine lv_iload_n hx hb dX10_turned_40 rfl (lv_at hl 2 rfl) ?_
    refine lv_iadd hx hb dX10_turned_41 ?_
    refine va_iald hx hb hK hS.1 1 0 rfl rfl (jin.mpr b_5) dX10_turned_42 ?_
    refine lv_i2l (v := (o_1.2.1 ((o_1.2.2.2.1 a1.toNatClampNeg) + a2).toNatClampNeg).toInt64) hx hb dX10_turned_43 rfl ?_
    obtain ⟨o_6, h_7, hE⟩ := jbd hE
    refine j_Vi (As := [.int a1, .long ((o_1.2.2.1 ((o_1.2.2.2.1 a1.toNatClampNeg) + a2).toNatClampNeg).toInt64), .long ((o_1.2.1 ((o_1.2.2.2.1 a1.toNatClampNeg) + a2).toNatClampNeg).toInt64)]) (rest := []) (wf := MW ad cI cZ (0 : Int32) trace o_6.2.1 o_6.2.2.1 o_6.2.2.2.1 o_6.2.2.2.2.1 o_6.2.2.2.2.2.1 wires kind first second times byy group whole frm too isThere way sorts ohms price o_6.2.2.2.2.2.2.1 o_6.2.2.2.2.2.2.2) (vc := (RX10, TX10, 24)) C hK hS (jcut_all hA hS) (tX10_rankOf l D ad cI cJ cZ cW cS cO cG (0 : Int32) trace o_1.2.1 o_1.2.2.1 o_1.2.2.2.1 o_1.2.2.2.2.1 o_1.2.2.2.2.2.1 wires kind first second times byy group whole frm too isThere way sorts ohms price o_1.2.2.2.2.2.2.1 o_1.2.2.2.2.2.2.2 a1 ((o_1.2.2.1 ((o_1.2.2.2.1 a1.toNatClampNeg) + a2).toNatClampNeg).toInt64) ((o_1.2.1 ((o_1.2.2.2.1 a1.toNatClampNeg) + a2).toNatClampNeg).toInt64) h_7) (cwV 3 hts gX10_turned_X10_rankOf rfl rfl rfl (by decide +kernel) ⟨Nat.le_of_ble_eq_true rfl, Nat.le_of_ble_eq_true rfl⟩) (q0 := 0) rfl (ci := 11) rfl rfl hl.1 rfl (Nat.le_of_ble_eq_true rfl) dX10_turned_44 ⟨Nat.zero_le _, Nat.zero_le _⟩ (fun H locs hS => ?_)
    refine lv_goto (tgt := 51) hx hb dX10_turned_47 (by decide) ?_
    obtain rfl := jsm hE
    exact ret hS rfl dX10_turned_51
