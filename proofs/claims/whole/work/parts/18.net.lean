def fX4_touches (a1 : Int32) (w1 : Int32) (w2 : Int32) : Option (Int32) :=
  if ((((1 : Int32) <<< (w1 &&& 31)) ||| ((1 : Int32) <<< (w2 &&& 31))) &&& a1) = 0 then
  some (0 : Int32)
  else
  some (1 : Int32)
abbrev rmX4_touches : Room := { frames := 0, cells := 0, slots := 0, locals := 0 }
set_option maxHeartbeats 4000000 in
set_option maxRecDepth 100000 in
theorem tX4_touches (l : Launch) (D : va_G) (h0 : Nat) (cI cJ cZ cW cS cO cG : ClassId) (wk : Int32) (w1 : Int32) (w2 : Int32) (wq : Int32) (wm : Int32) (a1 : Int32) {o : Int32} (hE : fX4_touches a1 w1 w2 = some o) : JMi l yX4_touches wsX4_touches rmX4_touches D vwCl (TY cI cJ cZ cW cS cO cG) [.ref h0, .int a1] ([(h0, jwc wk w1 w2 wq wm)]) ([(h0, jwc wk w1 w2 wq wm)]) o := by
  refine JMi.of (cc := cX4_touches) (maxL := 2) (by decide) rfl (Nat.le_of_ble_eq_true rfl) ?_
  intro p e s m args below meth c A ls Q C hK hA ret hS hl
  obtain ⟨⟨hx, hb, hml, hown, hts⟩, -⟩ := id C
  have hl : lv_has ls 2 [(0, .ref h0), (1, .int a1)] := hl
  have inX4 : ∀ w ∈ u_ws RX4 TX4 3, w ∈ wsX4_touches := by decide +kernel
  have inX2 : ∀ w ∈ u_ws RX2 TX2 4, w ∈ wsX4_touches := by decide +kernel
  have inX8 : ∀ w ∈ u_ws RX8 TX8 5, w ∈ wsX4_touches := by decide +kernel
  have k0 := hts (.fieldLink RX4 13 "OhmNets$OneWire" "first" "I") (by decide +kernel)
  have k1 := hts (.fieldLink RX4 16 "OhmNets$OneWire" "second" "I") (by decide +kernel)
  refine lv_iconst (v := (1 : Int32)) hx hb dX4_touches_0 (by decide) ?_
  refine lv_aload_n hx hb dX4_touches_1 rfl (lv_at hl 0 rfl) ?_
  refine jn_first (X := []) (L := [h0]) (f := fun _ => jwc wk w1 w2 wq wm) hx hb hts inX4 inX2 inX8 hown hK hS.1 (List.mem_singleton_self _) rfl k0 dX4_touches_2 ?_
  refine lv_ishl hx hb dX4_touches_5 ?_
  refine lv_iconst (v := (1 : Int32)) hx hb dX4_touches_6 (by decide) ?_
  refine lv_aload_n hx hb dX4_touches_7 rfl (lv_at hl 0 rfl) ?_
  refine jn_second (X := []) (L := [h0]) (f := fun _ => jwc wk w1 w2 wq wm) hx hb hts inX4 inX2 inX8 hown hK hS.1 (List.mem_singleton_self _) rfl k1 dX4_touches_8 ?_
  refine lv_ishl hx hb dX4_touches_11 ?_
  refine lv_ior hx hb dX4_touches_12 ?_
  refine lv_iload_n hx hb dX4_touches_13 rfl (lv_at hl 1 rfl) ?_
  refine lv_iand hx hb dX4_touches_14 ?_
  refine lv_if_eq (tgt := 22) hx hb dX4_touches_15 (by decide) (fun c_1 => ?_) (fun c_1 => ?_)
  · have hE := jt hE c_1
    refine lv_iconst (v := (0 : Int32)) hx hb dX4_touches_22 (by decide) ?_
    obtain rfl := jsm hE
    exact ret hS jb0 dX4_touches_23
  · have hE := jf hE c_1
    refine lv_iconst (v := (1 : Int32)) hx hb dX4_touches_18 (by decide) ?_
    refine lv_goto (tgt := 23) hx hb dX4_touches_19 (by decide) ?_
    obtain rfl := jsm hE
    exact ret hS jb1 dX4_touches_23
def fX3_size (size : Int32) : Option (Int32) :=
  some size
abbrev rmX3_size : Room := { frames := 0, cells := 0, slots := 0, locals := 0 }
set_option maxHeartbeats 4000000 in
set_option maxRecDepth 100000 in
theorem tX3_size (l : Launch) (D : va_G) (n0 n1 n2 n3 n4 n5 n6 : Nat) (cI cJ cZ cW cS cO cG : ClassId) (size : Int32) (wk : Nat → Int32) (w1 : Nat → Int32) (w2 : Nat → Int32) (wq : Nat → Int32) (wm : Nat → Int32) (flows : Nat → Int64) (mu : Int64) (ml : Int64) (nb : Nat → Int32) (lines : Nat → Nat → Int64) (lineOf : Nat → Int32) (lc : Int32) {o : Int32} (hE : fX3_size size = some o) {w : va_W} (hw : NP n0 n1 n2 n3 n4 n5 n6 cI cJ cW cG size wk w1 w2 wq wm flows mu ml nb lines lineOf lc w) : JQi l yX3_size wsX3_size rmX3_size D vwCl (TY cI cJ cZ cW cS cO cG) [.ref n0] w (fun x v => x = o ∧ NP n0 n1 n2 n3 n4 n5 n6 cI cJ cW cG size wk w1 w2 wq wm flows mu ml nb lines lineOf lc v) := by
  obtain ⟨hN, L, wa, ga, f, rfl, hW, hG⟩ := hw
  refine JQi.of (cc := cX3_size) (maxL := 1) (by decide) rfl (Nat.le_of_ble_eq_true rfl) ?_
  intro p e s m args below meth c A ls Q C hK hA ret hS hl
  obtain ⟨⟨hx, hb, hml, hown, hts⟩, -⟩ := id C
  have hl : lv_has ls 1 [(0, .ref n0)] := hl
  have inX3 : ∀ w ∈ u_ws RX3 TX3 8, w ∈ wsX3_size := by decide +kernel
  have k0 := hts (.fieldLink RX3 21 "OhmNets$Net" "size" "I") (by decide +kernel)
  refine lv_aload_n hx hb dX3_size_0 rfl (lv_at hl 0 rfl) ?_
  refine va_get (D := D) (ci := 4) (v := .int size) (C := RX3) (T := TX3) (N := 8) hx hb hts inX3 hown hK hS.1 0 rfl rfl 2 (by decide) k0 (fun _ h => h) rfl dX3_size_1 ?_
  obtain rfl := jsm hE
  exact ret ⟨rfl, hN, L, wa, ga, f, rfl, hW, hG⟩ hS rfl dX3_size_4
def LX3_knotsWithWires_4 (size : Int32) (w1 : Nat → Int32) (w2 : Nat → Int32) : Nat → (Int32) → (Int32) → Option (Int32)
  | 0, _, _ => none
  | n + 1, v1_1, v2_2 =>
    if size ≤ v2_2 then
    some v1_1
    else
    if jok v2_2 size.toNatClampNeg then
    jlet (v1_1 ||| (((1 : Int32) <<< ((w1 v2_2.toNatClampNeg) &&& 31)) ||| ((1 : Int32) <<< ((w2 v2_2.toNatClampNeg) &&& 31)))) (fun x_12 => 
    jlet (v2_2 + (1 : Int32)) (fun x_13 => 
    LX3_knotsWithWires_4 size w1 w2 n x_12 x_13))
    else none
def fX3_knotsWithWires (size : Int32) (w1 : Nat → Int32) (w2 : Nat → Int32) : Option (Int32) :=
  (LX3_knotsWithWires_4 size w1 w2 5000 (0 : Int32) (0 : Int32)).bind (fun o_3 => 
  some o_3)
abbrev rmX3_knotsWithWires : Room := { frames := 0, cells := 0, slots := 0, locals := 0 }
set_option maxHeartbeats 4000000 in
set_option maxRecDepth 100000 in
theorem tX3_knotsWithWires (l : Launch) (D : va_G) (n0 n1 n2 n3 n4 n5 n6 : Nat) (cI cJ cZ cW cS cO cG : ClassId) (size : Int32) (wk : Nat → Int32) (w1 : Nat → Int32) (w2 : Nat → Int32) (wq : Nat → Int32) (wm : Nat → Int32) (flows : Nat → Int64) (mu : Int64) (ml : Int64) (nb : Nat → Int32) (lines : Nat → Nat → Int64) (lineOf : Nat → Int32) (lc : Int32) {o : Int32} (hE : fX3_knotsWithWires size w1 w2 = some o) {w : va_W} (hw : NP n0 n1 n2 n3 n4 n5 n6 cI cJ cW cG size wk w1 w2 wq wm flows mu ml nb lines lineOf lc w) : JQi l yX3_knotsWithWires wsX3_knotsWithWires rmX3_knotsWithWires D vwCl (TY cI cJ cZ cW cS cO cG) [.ref n0] w (fun x v => x = o ∧ NP n0 n1 n2 n3 n4 n5 n6 cI cJ cW cG size wk w1 w2 wq wm flows mu ml nb lines lineOf lc v) := by
  obtain ⟨hN, L, wa, ga, f, rfl, hW, hG⟩ := hw
  refine JQi.of (cc := cX3_knotsWithWires) (maxL := 3) (by decide) rfl (Nat.le_of_ble_eq_true rfl) ?_
  intro p e s m args below meth c A ls Q C hK hA ret hS hl
  obtain ⟨⟨hx, hb, hml, hown, hts⟩, -⟩ := id C
  have hl : lv_has ls 3 [(0, .ref n0)] := hl
  have inX3 : ∀ w ∈ u_ws RX3 TX3 8, w ∈ wsX3_knotsWithWires := by decide +kernel
  have inX4 : ∀ w ∈ u_ws RX4 TX4 3, w ∈ wsX3_knotsWithWires := by decide +kernel
  have inX2 : ∀ w ∈ u_ws RX2 TX2 4, w ∈ wsX3_knotsWithWires := by decide +kernel
  have inX8 : ∀ w ∈ u_ws RX8 TX8 5, w ∈ wsX3_knotsWithWires := by decide +kernel
  have k0 := hts (.fieldLink RX3 21 "OhmNets$Net" "size" "I") (by decide +kernel)
  have k1 := hts (.fieldLink RX3 11 "OhmNets$Net" "wires" "[LOhmNets$OneWire;") (by decide +kernel)
  have k2 := hts (.fieldLink RX3 64 "OhmNets$OneWire" "first" "I") (by decide +kernel)
  have k3 := hts (.fieldLink RX3 67 "OhmNets$OneWire" "second" "I") (by decide +kernel)
  refine lv_iconst (v := (0 : Int32)) hx hb dX3_knotsWithWires_0 (by decide) ?_
  refine lv_istore_n (lv' := [(1, .int (0 : Int32)), (0, .ref n0)]) hx hb dX3_knotsWithWires_1 rfl hl (by decide) rfl (fun ls hl => ?_)
  refine lv_iconst (v := (0 : Int32)) hx hb dX3_knotsWithWires_2 (by decide) ?_
  refine lv_istore_n (lv' := [(2, .int (0 : Int32)), (1, .int (0 : Int32)), (0, .ref n0)]) hx hb dX3_knotsWithWires_3 rfl hl (by decide) rfl (fun ls hl => ?_)
  obtain ⟨o_3, L_4, hE⟩ := jbd hE
  have K_5 : jY p l e rmX3_knotsWithWires s m args below meth c 0 0 Q (NZ D vwCl A n0 n1 n2 n3 n4 n5 n6 cI cJ cW cG size wk w1 w2 wq wm flows mu ml nb lines lineOf lc s.heap) 3 [(1, .int o_3)] 44 [] := by
    intro H locs ls hZ hl
    obtain ⟨_, ⟨hN, L, wa, ga, f, rfl, hW, hG⟩, hS⟩ := hZ
    refine lv_iload_n hx hb dX3_knotsWithWires_44 rfl (lv_at hl 0 rfl) ?_
    obtain rfl := jsm hE
    exact ret ⟨rfl, hN, L, wa, ga, f, rfl, hW, hG⟩ hS rfl dX3_knotsWithWires_45
  have loop_7 : ∀ (n : Nat) (v1_1 : Int32) (v2_2 : Int32), LX3_knotsWithWires_4 size w1 w2 n v1_1 v2_2 = some o_3 → jY p l e rmX3_knotsWithWires s m args below meth c 0 0 Q (NZ D vwCl A n0 n1 n2 n3 n4 n5 n6 cI cJ cW cG size wk w1 w2 wq wm flows mu ml nb lines lineOf lc s.heap) 3 [(0, .ref n0), (1, .int v1_1), (2, .int v2_2)] 4 [] := by
    intro n
    induction n with
    | zero =>
      intro v1_1 v2_2 q_6
      have q_6 : none = some o_3 := q_6
      cases q_6
    | succ n ih =>
      intro v1_1 v2_2 q_6 H locs ls hZ hl
      obtain ⟨_, ⟨hN, L, wa, ga, f, rfl, hW, hG⟩, hS⟩ := hZ
      rw [LX3_knotsWithWires_4] at q_6
      refine lv_iload_n hx hb dX3_knotsWithWires_4 rfl (lv_at hl 2 rfl) ?_
      refine lv_aload_n hx hb dX3_knotsWithWires_5 rfl (lv_at hl 0 rfl) ?_
      refine va_get (D := D) (ci := 4) (v := .int size) (C := RX3) (T := TX3) (N := 8) hx hb hts inX3 hown hK hS.1 0 rfl rfl 2 (by decide) k0 (fun _ h => h) rfl dX3_knotsWithWires_6 ?_
      refine lv_icmp_ge (tgt := 44) hx hb dX3_knotsWithWires_9 (by decide) (fun c_8 => ?_) (fun c_8 => ?_)
      · have q_6 := jt q_6 c_8
        obtain rfl := jsm q_6
        exact K_5 _ _ _ ⟨_, ⟨hN, L, wa, ga, f, rfl, hW, hG⟩, hS⟩ (lv_sub hl [1] rfl)
      · have q_6 := jf q_6 c_8
        refine lv_iload_n hx hb dX3_knotsWithWires_12 rfl (lv_at hl 1 rfl) ?_
        refine lv_iconst (v := (1 : Int32)) hx hb dX3_knotsWithWires_13 (by decide) ?_
        refine lv_aload_n hx hb dX3_knotsWithWires_14 rfl (lv_at hl 0 rfl) ?_
        refine va_get (D := D) (ci := 4) (v := .ref n1) (C := RX3) (T := TX3) (N := 8) hx hb hts inX3 hown hK hS.1 0 rfl rfl 0 (by decide) k1 (fun _ h => h) rfl dX3_knotsWithWires_15 ?_
        refine lv_iload_n hx hb dX3_knotsWithWires_18 rfl (lv_at hl 2 rfl) ?_
        obtain ⟨b_9, q_6⟩ := jgd q_6
        obtain ⟨a_10, ea_10, ma_10, fa_10⟩ := hW _ b_9.2
        refine jn_ald hx hb hK hS.1 1 3 rfl rfl (jin.mpr ⟨b_9.1, Nat.lt_of_lt_of_le b_9.2 hN⟩) ea_10 dX3_knotsWithWires_19 (Or.inl ⟨_, rfl⟩) ?_
        refine jn_first hx hb hts inX4 inX2 inX8 hown hK hS.1 ma_10 fa_10 k2 dX3_knotsWithWires_20 ?_
        refine lv_ishl hx hb dX3_knotsWithWires_23 ?_
        refine lv_iconst (v := (1 : Int32)) hx hb dX3_knotsWithWires_24 (by decide) ?_
        refine lv_aload_n hx hb dX3_knotsWithWires_25 rfl (lv_at hl 0 rfl) ?_
        refine va_get (D := D) (ci := 4) (v := .ref n1) (C := RX3) (T := TX3) (N := 8) hx hb hts inX3 hown hK hS.1 0 rfl rfl 0 (by decide) k1 (fun _ h => h) rfl dX3_knotsWithWires_26 ?_
        refine lv_iload_n hx hb dX3_knotsWithWires_29 rfl (lv_at hl 2 rfl) ?_
        obtain ⟨a_11, ea_11, ma_11, fa_11⟩ := hW _ b_9.2
        refine jn_ald hx hb hK hS.1 1 3 rfl rfl (jin.mpr ⟨b_9.1, Nat.lt_of_lt_of_le b_9.2 hN⟩) ea_11 dX3_knotsWithWires_30 (Or.inl ⟨_, rfl⟩) ?_
        refine jn_second hx hb hts inX4 inX2 inX8 hown hK hS.1 ma_11 fa_11 k3 dX3_knotsWithWires_31 ?_
        refine lv_ishl hx hb dX3_knotsWithWires_34 ?_
        refine lv_ior hx hb dX3_knotsWithWires_35 ?_
        refine lv_ior hx hb dX3_knotsWithWires_36 ?_
        refine lv_topi (fun x_12 ex_12 => ?_)
        have q_6 := jlv q_6 ex_12
        refine lv_istore_n (lv' := [(1, .int x_12), (0, .ref n0), (2, .int v2_2)]) hx hb dX3_knotsWithWires_37 rfl hl (by decide) rfl (fun ls hl => ?_)
        obtain ⟨x_13, ex_13⟩ : ∃ y : Int32, y = v2_2 + (1 : Int32) := ⟨_, rfl⟩
        have q_6 := jlv q_6 ex_13
        refine lv_iinc (v := x_13) (lv' := [(2, .int x_13), (1, .int x_12), (0, .ref n0)]) hx hb dX3_knotsWithWires_38 hl (k := 2) rfl (by rw [ex_13]; rfl) (by decide) rfl (fun ls hl => ?_)
        refine lv_goto (tgt := 4) hx hb dX3_knotsWithWires_41 (by decide) ?_
        exact ih x_12 x_13 q_6 _ _ _ ⟨_, ⟨hN, L, wa, ga, f, rfl, hW, hG⟩, hS⟩ (lv_sub hl [2, 1, 0] rfl)
  exact loop_7 5000 (0 : Int32) (0 : Int32) L_4 _ _ _ ⟨_, ⟨hN, L, wa, ga, f, rfl, hW, hG⟩, hS⟩ (lv_sub hl [2, 1, 0] rfl)
def LX3_reachedFrom_15 (size : Int32) (w1 : Nat → Int32) (w2 : Nat → Int32) : Nat → (Int32) → (Int32) → Option (Int32)
  | 0, _, _ => none
  | n + 1, v2_10, v4_11 =>
    if size ≤ v4_11 then
    some v2_10
    else
    if jok v4_11 size.toNatClampNeg then
    (fX4_touches v2_10 (w1 v4_11.toNatClampNeg) (w2 v4_11.toNatClampNeg)).bind (fun o_20 => 
    jlet (if o_20 = 0 then
    v2_10
    else
    (v2_10 ||| (((1 : Int32) <<< ((w1 v4_11.toNatClampNeg) &&& 31)) ||| ((1 : Int32) <<< ((w2 v4_11.toNatClampNeg) &&& 31))))) (fun o_22 => 
    jlet (v4_11 + (1 : Int32)) (fun x_28 => 
    LX3_reachedFrom_15 size w1 w2 n o_22 x_28)))
    else none
def LX3_reachedFrom_6 (size : Int32) (w1 : Nat → Int32) (w2 : Nat → Int32) : Nat → (Int32) → (Int32) → Option (Int32)
  | 0, _, _ => none
  | n + 1, v2_2, v3_3 =>
    if (6 : Int32) ≤ v3_3 then
    some v2_2
    else
    (LX3_reachedFrom_15 size w1 w2 5000 v2_2 (0 : Int32)).bind (fun o_12 => 
    jlet (v3_3 + (1 : Int32)) (fun x_29 => 
    LX3_reachedFrom_6 size w1 w2 n o_12 x_29))
def fX3_reachedFrom (a1 : Int32) (size : Int32) (w1 : Nat → Int32) (w2 : Nat → Int32) : Option (Int32) :=
  jlet ((1 : Int32) <<< (a1 &&& 31)) (fun x_1 => 
  (LX3_reachedFrom_6 size w1 w2 5000 x_1 (1 : Int32)).bind (fun o_4 => 
  some o_4))
abbrev rmX3_reachedFrom : Room := { frames := 1, cells := 0, slots := 0, locals := 21 }
set_option maxHeartbeats 4000000 in
set_option maxRecDepth 100000 in
theorem tX3_reachedFrom (l : Launch) (D : va_G) (n0 n1 n2 n3 n4 n5 n6 : Nat) (cI cJ cZ cW cS cO cG : ClassId) (size : Int32) (wk : Nat → Int32) (w1 : Nat → Int32) (w2 : Nat → Int32) (wq : Nat → Int32) (wm : Nat → Int32) (flows : Nat → Int64) (mu : Int64) (ml : Int64) (nb : Nat → Int32) (lines : Nat → Nat → Int64) (lineOf : Nat → Int32) (lc : Int32) (a1 : Int32) {o : Int32} (hE : fX3_reachedFrom a1 size w1 w2 = some o) {w : va_W} (hw : NP n0 n1 n2 n3 n4 n5 n6 cI cJ cW cG size wk w1 w2 wq wm flows mu ml nb lines lineOf lc w) : JQi l yX3_reachedFrom wsX3_reachedFrom rmX3_reachedFrom D vwCl (TY cI cJ cZ cW cS cO cG) [.ref n0, .int a1] w (fun x v => x = o ∧ NP n0 n1 n2 n3 n4 n5 n6 cI cJ cW cG size wk w1 w2 wq wm flows mu ml nb lines lineOf lc v) := by
  obtain ⟨hN, L, wa, ga, f, rfl, hW, hG⟩ := hw
  refine JQi.of (cc := cX3_reachedFrom) (maxL := 5) (by decide) rfl (Nat.le_of_ble_eq_true rfl) ?_
  intro p e s m args below meth c A ls Q C hK hA ret hS hl
  obtain ⟨⟨hx, hb, hml, hown, hts⟩, -⟩ := id C
  have hl : lv_has ls 5 [(0, .ref n0), (1, .int a1)] := hl
  have inX3 : ∀ w ∈ u_ws RX3 TX3 8, w ∈ wsX3_reachedFrom := by decide +kernel
  have inX4 : ∀ w ∈ u_ws RX4 TX4 3, w ∈ wsX3_reachedFrom := by decide +kernel
  have inX2 : ∀ w ∈ u_ws RX2 TX2 4, w ∈ wsX3_reachedFrom := by decide +kernel
  have inX8 : ∀ w ∈ u_ws RX8 TX8 5, w ∈ wsX3_reachedFrom := by decide +kernel
  have k0 := hts (.fieldLink RX3 21 "OhmNets$Net" "size" "I") (by decide +kernel)
  have k1 := hts (.fieldLink RX3 11 "OhmNets$Net" "wires" "[LOhmNets$OneWire;") (by decide +kernel)
  have k2 := hts (.fieldLink RX3 64 "OhmNets$OneWire" "first" "I") (by decide +kernel)
  have k3 := hts (.fieldLink RX3 67 "OhmNets$OneWire" "second" "I") (by decide +kernel)
  refine lv_iconst (v := (1 : Int32)) hx hb dX3_reachedFrom_0 (by decide) ?_
  refine lv_iload_n hx hb dX3_reachedFrom_1 rfl (lv_at hl 1 rfl) ?_
  refine lv_ishl hx hb dX3_reachedFrom_2 ?_
  refine lv_topi (fun x_1 ex_1 => ?_)
  have hE := jlv hE ex_1
  refine lv_istore_n (lv' := [(2, .int x_1), (0, .ref n0), (1, .int a1)]) hx hb dX3_reachedFrom_3 rfl hl (by decide) rfl (fun ls hl => ?_)
  refine lv_iconst (v := (1 : Int32)) hx hb dX3_reachedFrom_4 (by decide) ?_
  refine lv_istore_n (lv' := [(3, .int (1 : Int32)), (2, .int x_1), (0, .ref n0), (1, .int a1)]) hx hb dX3_reachedFrom_5 rfl hl (by decide) rfl (fun ls hl => ?_)
  obtain ⟨o_4, L_5, hE⟩ := jbd hE
  have K_6 : jY p l e rmX3_reachedFrom s m args below meth c 0 0 Q (NZ D vwCl A n0 n1 n2 n3 n4 n5 n6 cI cJ cW cG size wk w1 w2 wq wm flows mu ml nb lines lineOf lc s.heap) 5 [(2, .int o_4)] 78 [] := by
    intro H locs ls hZ hl
    obtain ⟨_, ⟨hN, L, wa, ga, f, rfl, hW, hG⟩, hS⟩ := hZ
    refine lv_iload_n hx hb dX3_reachedFrom_78 rfl (lv_at hl 0 rfl) ?_
    obtain rfl := jsm hE
    exact ret ⟨rfl, hN, L, wa, ga, f, rfl, hW, hG⟩ hS rfl dX3_reachedFrom_79
  have loop_8 : ∀ (n : Nat) (v2_2 : Int32) (v3_3 : Int32), LX3_reachedFrom_6 size w1 w2 n v2_2 v3_3 = some o_4 → jY p l e rmX3_reachedFrom s m args below meth c 0 0 Q (NZ D vwCl A n0 n1 n2 n3 n4 n5 n6 cI cJ cW cG size wk w1 w2 wq wm flows mu ml nb lines lineOf lc s.heap) 5 [(0, .ref n0), (2, .int v2_2), (3, .int v3_3)] 6 [] := by
    intro n
    induction n with
    | zero =>
      intro v2_2 v3_3 q_7
      have q_7 : none = some o_4 := q_7
      cases q_7
    | succ n ih =>
      intro v2_2 v3_3 q_7 H locs ls hZ hl
      obtain ⟨_, ⟨hN, L, wa, ga, f, rfl, hW, hG⟩, hS⟩ := hZ
      rw [LX3_reachedFrom_6] at q_7
      refine lv_iload_n hx hb dX3_reachedFrom_6 rfl (lv_at hl 2 rfl) ?_
      refine lv_bipush (v := (6 : Int32)) hx hb dX3_reachedFrom_7 (by decide) ?_
      refine lv_icmp_ge (tgt := 78) hx hb dX3_reachedFrom_9 (by decide) (fun c_9 => ?_) (fun c_9 => ?_)
      · have q_7 := jt q_7 c_9
        obtain rfl := jsm q_7
        exact K_6 _ _ _ ⟨_, ⟨hN, L, wa, ga, f, rfl, hW, hG⟩, hS⟩ (lv_sub hl [1] rfl)
      · have q_7 := jf q_7 c_9
        refine lv_iconst (v := (0 : Int32)) hx hb dX3_reachedFrom_12 (by decide) ?_
        refine lv_istore (lv' := [(4, .int (0 : Int32)), (0, .ref n0), (2, .int v2_2), (3, .int v3_3)]) hx hb dX3_reachedFrom_13 hl (by decide) rfl (fun ls hl => ?_)
        obtain ⟨o_12, L_13, q_7⟩ := jbd q_7
        have K_14 : jY p l e rmX3_reachedFrom s m args below meth c 0 0 Q (NZ D vwCl A n0 n1 n2 n3 n4 n5 n6 cI cJ cW cG size wk w1 w2 wq wm flows mu ml nb lines lineOf lc s.heap) 5 [(0, .ref n0), (2, .int o_12), (3, .int v3_3)] 72 [] := by
          intro H locs ls hZ hl
          obtain ⟨_, ⟨hN, L, wa, ga, f, rfl, hW, hG⟩, hS⟩ := hZ
          obtain ⟨x_29, ex_29⟩ : ∃ y : Int32, y = v3_3 + (1 : Int32) := ⟨_, rfl⟩
          have q_7 := jlv q_7 ex_29
          refine lv_iinc (v := x_29) (lv' := [(3, .int x_29), (0, .ref n0), (2, .int o_12)]) hx hb dX3_reachedFrom_72 hl (k := 2) rfl (by rw [ex_29]; rfl) (by decide) rfl (fun ls hl => ?_)
          refine lv_goto (tgt := 6) hx hb dX3_reachedFrom_75 (by decide) ?_
          exact ih o_12 x_29 q_7 _ _ _ ⟨_, ⟨hN, L, wa, ga, f, rfl, hW, hG⟩, hS⟩ (lv_sub hl [1, 2, 0] rfl)
        have loop_16 : ∀ (n : Nat) (v2_10 : Int32) (v4_11 : Int32), LX3_reachedFrom_15 size w1 w2 n v2_10 v4_11 = some o_12 → jY p l e rmX3_reachedFrom s m args below meth c 0 0 Q (NZ D vwCl A n0 n1 n2 n3 n4 n5 n6 cI cJ cW cG size wk w1 w2 wq wm flows mu ml nb lines lineOf lc s.heap) 5 [(0, .ref n0), (2, .int v2_10), (3, .int v3_3), (4, .int v4_11)] 15 [] := by
          intro n
          induction n with
          | zero =>
            intro v2_10 v4_11 q_15
            have q_15 : none = some o_12 := q_15
            cases q_15
          | succ n ih =>
            intro v2_10 v4_11 q_15 H locs ls hZ hl
            obtain ⟨_, ⟨hN, L, wa, ga, f, rfl, hW, hG⟩, hS⟩ := hZ
            rw [LX3_reachedFrom_15] at q_15
            refine lv_iload hx hb dX3_reachedFrom_15 (lv_at hl 3 rfl) ?_
            refine lv_aload_n hx hb dX3_reachedFrom_17 rfl (lv_at hl 0 rfl) ?_
            refine va_get (D := D) (ci := 4) (v := .int size) (C := RX3) (T := TX3) (N := 8) hx hb hts inX3 hown hK hS.1 0 rfl rfl 2 (by decide) k0 (fun _ h => h) rfl dX3_reachedFrom_18 ?_
            refine lv_icmp_ge (tgt := 72) hx hb dX3_reachedFrom_21 (by decide) (fun c_17 => ?_) (fun c_17 => ?_)
            · have q_15 := jt q_15 c_17
              obtain rfl := jsm q_15
              exact K_14 _ _ _ ⟨_, ⟨hN, L, wa, ga, f, rfl, hW, hG⟩, hS⟩ (lv_sub hl [0, 1, 2] rfl)
            · have q_15 := jf q_15 c_17
              refine lv_aload_n hx hb dX3_reachedFrom_24 rfl (lv_at hl 0 rfl) ?_
              refine va_get (D := D) (ci := 4) (v := .ref n1) (C := RX3) (T := TX3) (N := 8) hx hb hts inX3 hown hK hS.1 0 rfl rfl 0 (by decide) k1 (fun _ h => h) rfl dX3_reachedFrom_25 ?_
              refine lv_iload hx hb dX3_reachedFrom_28 (lv_at hl 3 rfl) ?_
              obtain ⟨b_18, q_15⟩ := jgd q_15
              obtain ⟨a_19, ea_19, ma_19, fa_19⟩ := hW _ b_18.2
              refine jn_ald hx hb hK hS.1 1 3 rfl rfl (jin.mpr ⟨b_18.1, Nat.lt_of_lt_of_le b_18.2 hN⟩) ea_19 dX3_reachedFrom_30 (Or.inl ⟨_, rfl⟩) ?_
              refine lv_iload_n hx hb dX3_reachedFrom_31 rfl (lv_at hl 1 rfl) ?_
              obtain ⟨o_20, h_21, q_15⟩ := jbd q_15
              refine jn_touch (kn := v2_10) (rest := []) C hK hA hS ma_19 fa_19 (tX4_touches l D _ cI cJ cZ cW cS cO cG _ _ _ _ _ v2_10 h_21) (cwV 1 hts gX3_reachedFrom_X4_touches rfl rfl rfl (by decide +kernel) ⟨Nat.le_of_ble_eq_true rfl, Nat.le_of_ble_eq_true rfl⟩) (va_cwU 1 hts gX3_reachedFrom_X4_touches_u74X2 rfl rfl rfl rfl (by decide +kernel) ⟨Nat.le_of_ble_eq_true rfl, Nat.le_of_ble_eq_true rfl⟩) (va_cwU 1 hts gX3_reachedFrom_X4_touches_u74X8 rfl rfl rfl rfl (by decide +kernel) ⟨Nat.le_of_ble_eq_true rfl, Nat.le_of_ble_eq_true rfl⟩) hl.1 rfl (Nat.le_of_ble_eq_true rfl) dX3_reachedFrom_32 ⟨Nat.zero_le _, Nat.zero_le _⟩ (fun H locs hS => ?_)
              obtain ⟨o_22, r_24⟩ : ∃ y : Int32, y = (if o_20 = 0 then v2_10 else (v2_10 ||| (((1 : Int32) <<< ((w1 v4_11.toNatClampNeg) &&& 31)) ||| ((1 : Int32) <<< ((w2 v4_11.toNatClampNeg) &&& 31))))) := ⟨_, rfl⟩
              have q_15 := jlv q_15 r_24
              have K_23 : jY p l e rmX3_reachedFrom s m args below meth c 0 0 Q (NZ D vwCl A n0 n1 n2 n3 n4 n5 n6 cI cJ cW cG size wk w1 w2 wq wm flows mu ml nb lines lineOf lc s.heap) 5 [(0, .ref n0), (2, .int o_22), (3, .int v3_3), (4, .int v4_11)] 66 [] := by
                intro H locs ls hZ hl
                obtain ⟨_, ⟨hN, L, wa, ga, f, rfl, hW, hG⟩, hS⟩ := hZ
                obtain ⟨x_28, ex_28⟩ : ∃ y : Int32, y = v4_11 + (1 : Int32) := ⟨_, rfl⟩
                have q_15 := jlv q_15 ex_28
                refine lv_iinc (v := x_28) (lv' := [(4, .int x_28), (0, .ref n0), (2, .int o_22), (3, .int v3_3)]) hx hb dX3_reachedFrom_66 hl (k := 3) rfl (by rw [ex_28]; rfl) (by decide) rfl (fun ls hl => ?_)
                refine lv_goto (tgt := 15) hx hb dX3_reachedFrom_69 (by decide) ?_
                exact ih o_22 x_28 q_15 _ _ _ ⟨_, ⟨hN, L, wa, ga, f, rfl, hW, hG⟩, hS⟩ (lv_sub hl [1, 2, 3, 0] rfl)
              refine lv_if_eq (tgt := 66) hx hb dX3_reachedFrom_35 (by decide) (fun c_25 => ?_) (fun c_25 => ?_)
              · have r_24 := r_24.trans (if_pos c_25)
                subst r_24
                exact K_23 _ _ _ ⟨_, ⟨hN, L, wa, ga, f, rfl, hW, hG⟩, hS⟩ (lv_sub hl [0, 1, 2, 3] rfl)
              · have r_24 := r_24.trans (if_neg c_25)
                refine lv_iload_n hx hb dX3_reachedFrom_38 rfl (lv_at hl 1 rfl) ?_
                refine lv_iconst (v := (1 : Int32)) hx hb dX3_reachedFrom_39 (by decide) ?_
                refine lv_aload_n hx hb dX3_reachedFrom_40 rfl (lv_at hl 0 rfl) ?_
                refine va_get (D := D) (ci := 4) (v := .ref n1) (C := RX3) (T := TX3) (N := 8) hx hb hts inX3 hown hK hS.1 0 rfl rfl 0 (by decide) k1 (fun _ h => h) rfl dX3_reachedFrom_41 ?_
                refine lv_iload hx hb dX3_reachedFrom_44 (lv_at hl 3 rfl) ?_
                obtain ⟨a_26, ea_26, ma_26, fa_26⟩ := hW _ b_18.2
                refine jn_ald hx hb hK hS.1 1 3 rfl rfl (jin.mpr ⟨b_18.1, Nat.lt_of_lt_of_le b_18.2 hN⟩) ea_26 dX3_reachedFrom_46 (Or.inl ⟨_, rfl⟩) ?_
                refine jn_first hx hb hts inX4 inX2 inX8 hown hK hS.1 ma_26 fa_26 k2 dX3_reachedFrom_47 ?_
                refine lv_ishl hx hb dX3_reachedFrom_50 ?_
                refine lv_iconst (v := (1 : Int32)) hx hb dX3_reachedFrom_51 (by decide) ?_
                refine lv_aload_n hx hb dX3_reachedFrom_52 rfl (lv_at hl 0 rfl) ?_
                refine va_get (D := D) (ci := 4) (v := .ref n1) (C := RX3) (T := TX3) (N := 8) hx hb hts inX3 hown hK hS.1 0 rfl rfl 0 (by decide) k1 (fun _ h => h) rfl dX3_reachedFrom_53 ?_
                refine lv_iload hx hb dX3_reachedFrom_56 (lv_at hl 3 rfl) ?_
                obtain ⟨a_27, ea_27, ma_27, fa_27⟩ := hW _ b_18.2
                refine jn_ald hx hb hK hS.1 1 3 rfl rfl (jin.mpr ⟨b_18.1, Nat.lt_of_lt_of_le b_18.2 hN⟩) ea_27 dX3_reachedFrom_58 (Or.inl ⟨_, rfl⟩) ?_
                refine jn_second hx hb hts inX4 inX2 inX8 hown hK hS.1 ma_27 fa_27 k3 dX3_reachedFrom_59 ?_
                refine lv_ishl hx hb dX3_reachedFrom_62 ?_
                refine lv_ior hx hb dX3_reachedFrom_63 ?_
                refine lv_ior hx hb dX3_reachedFrom_64 ?_
                refine lv_istore_n (lv' := [(2, .int (v2_10 ||| (((1 : Int32) <<< ((w1 v4_11.toNatClampNeg) &&& 31)) ||| ((1 : Int32) <<< ((w2 v4_11.toNatClampNeg) &&& 31))))), (0, .ref n0), (3, .int v3_3), (4, .int v4_11)]) hx hb dX3_reachedFrom_65 rfl hl (by decide) rfl (fun ls hl => ?_)
                subst r_24
                exact K_23 _ _ _ ⟨_, ⟨hN, L, wa, ga, f, rfl, hW, hG⟩, hS⟩ (lv_sub hl [1, 0, 2, 3] rfl)
        exact loop_16 5000 v2_2 (0 : Int32) L_13 _ _ _ ⟨_, ⟨hN, L, wa, ga, f, rfl, hW, hG⟩, hS⟩ (lv_sub hl [1, 2, 3, 0] rfl)
  exact loop_8 5000 x_1 (1 : Int32) L_5 _ _ _ ⟨_, ⟨hN, L, wa, ga, f, rfl, hW, hG⟩, hS⟩ (lv_sub hl [2, 1, 0] rfl)
def fX3_hangTogether (a1 : Int32) (a2 : Int32) (size : Int32) (w1 : Nat → Int32) (w2 : Nat → Int32) : Option (Int32) :=
  (fX3_reachedFrom a1 size w1 w2).bind (fun o_1 => 
  if ((o_1 >>> (a2 &&& 31)) &&& (1 : Int32)) = (1 : Int32) then
  some (1 : Int32)
  else
  some (0 : Int32))
abbrev rmX3_hangTogether : Room := { frames := 2, cells := 0, slots := 0, locals := 45 }
set_option maxHeartbeats 4000000 in
set_option maxRecDepth 100000 in
theorem tX3_hangTogether (l : Launch) (D : va_G) (n0 n1 n2 n3 n4 n5 n6 : Nat) (cI cJ cZ cW cS cO cG : ClassId) (size : Int32) (wk : Nat → Int32) (w1 : Nat → Int32) (w2 : Nat → Int32) (wq : Nat → Int32) (wm : Nat → Int32) (flows : Nat → Int64) (mu : Int64) (ml : Int64) (nb : Nat → Int32) (lines : Nat → Nat → Int64) (lineOf : Nat → Int32) (lc : Int32) (a1 : Int32) (a2 : Int32) {o : Int32} (hE : fX3_hangTogether a1 a2 size w1 w2 = some o) {w : va_W} (hw : NP n0 n1 n2 n3 n4 n5 n6 cI cJ cW cG size wk w1 w2 wq wm flows mu ml nb lines lineOf lc w) : JQi l yX3_hangTogether wsX3_hangTogether rmX3_hangTogether D vwCl (TY cI cJ cZ cW cS cO cG) [.ref n0, .int a1, .int a2] w (fun x v => x = o ∧ NP n0 n1 n2 n3 n4 n5 n6 cI cJ cW cG size wk w1 w2 wq wm flows mu ml nb lines lineOf lc v) := by
  obtain ⟨hN, L, wa, ga, f, rfl, hW, hG⟩ := hw
  refine JQi.of (cc := cX3_hangTogether) (maxL := 3) (by decide) rfl (Nat.le_of_ble_eq_true rfl) ?_
  intro p e s m args below meth c A ls Q C hK hA ret hS hl
  obtain ⟨⟨hx, hb, hml, hown, hts⟩, -⟩ := id C
  have hl : lv_has ls 3 [(0, .ref n0), (1, .int a1), (2, .int a2)] := hl
  refine lv_aload_n hx hb dX3_hangTogether_0 rfl (lv_at hl 0 rfl) ?_
  refine lv_iload_n hx hb dX3_hangTogether_1 rfl (lv_at hl 1 rfl) ?_
  obtain ⟨o_1, h_2, hE⟩ := jbd hE
  refine j_QVi (As := [.int a1]) (rest := []) (vc := (RX3, TX3, 8)) C hK hA hS (tX3_reachedFrom l D n0 n1 n2 n3 n4 n5 n6 cI cJ cZ cW cS cO cG size wk w1 w2 wq wm flows mu ml nb lines lineOf lc a1 h_2 ⟨hN, L, wa, ga, f, rfl, hW, hG⟩) (cwV 1 hts gX3_hangTogether_X3_reachedFrom rfl rfl rfl (by decide +kernel) ⟨Nat.le_of_ble_eq_true rfl, Nat.le_of_ble_eq_true rfl⟩) (q0 := 0) rfl (ci := 4) rfl rfl hl.1 rfl (Nat.le_of_ble_eq_true rfl) dX3_hangTogether_2 ⟨Nat.zero_le _, Nat.zero_le _⟩ (fun r w H locs hp hS => ?_)
  obtain ⟨er, hN, L, wa, ga, f, rfl, hW, hG⟩ := hp
  subst r
  refine lv_iload_n hx hb dX3_hangTogether_5 rfl (lv_at hl 2 rfl) ?_
  refine lv_ishr hx hb dX3_hangTogether_6 ?_
  refine lv_iconst (v := (1 : Int32)) hx hb dX3_hangTogether_7 (by decide) ?_
  refine lv_iand hx hb dX3_hangTogether_8 ?_
  refine lv_iconst (v := (1 : Int32)) hx hb dX3_hangTogether_9 (by decide) ?_
  refine lv_icmp_ne (tgt := 17) hx hb dX3_hangTogether_10 (by decide) (fun c_3 => ?_) (fun c_3 => ?_)
  · have hE := jf hE c_3
    refine lv_iconst (v := (0 : Int32)) hx hb dX3_hangTogether_17 (by decide) ?_
    obtain rfl := jsm hE
    exact ret ⟨rfl, hN, L, wa, ga, f, rfl, hW, hG⟩ hS jb0 dX3_hangTogether_18
  · have hE := jt hE c_3
    refine lv_iconst (v := (1 : Int32)) hx hb dX3_hangTogether_13 (by decide) ?_
    refine lv_goto (tgt := 18) hx hb dX3_hangTogether_14 (by decide) ?_
    obtain rfl := jsm hE
    exact ret ⟨rfl, hN, L, wa, ga, f, rfl, hW, hG⟩ hS jb1 dX3_hangTogether_18
def fX3_numberOf (a1 : Int32) (lines : Nat → Nat → Int64) (lineOf : Nat → Int32) (lc : Int32) : Option (Int64) :=
  if jok a1 6 then
  jlet (lineOf a1.toNatClampNeg) (fun x_2 => 
  if 0 ≤ x_2 then
  if jok x_2 5 then
  if jok lc 6 then
  some (lines x_2.toNatClampNeg lc.toNatClampNeg)
  else none
  else none
  else
  some (0 : Int64))
  else none
abbrev rmX3_numberOf : Room := { frames := 0, cells := 0, slots := 0, locals := 0 }
set_option maxHeartbeats 4000000 in
set_option maxRecDepth 100000 in
theorem tX3_numberOf (l : Launch) (D : va_G) (n0 n1 n2 n3 n4 n5 n6 : Nat) (cI cJ cZ cW cS cO cG : ClassId) (size : Int32) (wk : Nat → Int32) (w1 : Nat → Int32) (w2 : Nat → Int32) (wq : Nat → Int32) (wm : Nat → Int32) (flows : Nat → Int64) (mu : Int64) (ml : Int64) (nb : Nat → Int32) (lines : Nat → Nat → Int64) (lineOf : Nat → Int32) (lc : Int32) (a1 : Int32) {o : Int64} (hE : fX3_numberOf a1 lines lineOf lc = some o) {w : va_W} (hw : NP n0 n1 n2 n3 n4 n5 n6 cI cJ cW cG size wk w1 w2 wq wm flows mu ml nb lines lineOf lc w) : JQl l yX3_numberOf wsX3_numberOf rmX3_numberOf D vwCl (TY cI cJ cZ cW cS cO cG) [.ref n0, .int a1] w (fun x v => x = o ∧ NP n0 n1 n2 n3 n4 n5 n6 cI cJ cW cG size wk w1 w2 wq wm flows mu ml nb lines lineOf lc v) := by
  obtain ⟨hN, L, wa, ga, f, rfl, hW, hG⟩ := hw
  refine JQl.of (cc := cX3_numberOf) (maxL := 3) (by decide) rfl (Nat.le_of_ble_eq_true rfl) ?_
  intro p e s m args below meth c A ls Q C hK hA ret hS hl
  obtain ⟨⟨hx, hb, hml, hown, hts⟩, -⟩ := id C
  have hl : lv_has ls 3 [(0, .ref n0), (1, .int a1)] := hl
  have inX3 : ∀ w ∈ u_ws RX3 TX3 8, w ∈ wsX3_numberOf := by decide +kernel
  have k0 := hts (.fieldLink RX3 41 "OhmNets$Net" "lineOf" "[I") (by decide +kernel)
  have k1 := hts (.fieldLink RX3 38 "OhmNets$Net" "lines" "[[J") (by decide +kernel)
  have k2 := hts (.fieldLink RX3 44 "OhmNets$Net" "lineCount" "I") (by decide +kernel)
  refine lv_aload_n hx hb dX3_numberOf_0 rfl (lv_at hl 0 rfl) ?_
  refine va_get (D := D) (ci := 4) (v := .ref n6) (C := RX3) (T := TX3) (N := 8) hx hb hts inX3 hown hK hS.1 0 rfl rfl 6 (by decide) k0 (fun _ h => h) rfl dX3_numberOf_1 ?_
  refine lv_iload_n hx hb dX3_numberOf_4 rfl (lv_at hl 1 rfl) ?_
  obtain ⟨b_1, hE⟩ := jgd hE
  refine va_iald hx hb hK hS.1 6 0 rfl rfl (jin.mpr b_1) dX3_numberOf_5 ?_
  refine lv_topi (fun x_2 ex_2 => ?_)
  have hE := jlv hE ex_2
  refine lv_istore_n (lv' := [(2, .int x_2), (0, .ref n0), (1, .int a1)]) hx hb dX3_numberOf_6 rfl hl (by decide) rfl (fun ls hl => ?_)
  refine lv_iload_n hx hb dX3_numberOf_7 rfl (lv_at hl 0 rfl) ?_
  refine lv_if_ge (tgt := 15) hx hb dX3_numberOf_8 (by decide) (fun c_3 => ?_) (fun c_3 => ?_)
  · have hE := jt hE c_3
    refine lv_aload_n hx hb dX3_numberOf_15 rfl (lv_at hl 1 rfl) ?_
    refine va_get (D := D) (ci := 4) (v := .ref n5) (C := RX3) (T := TX3) (N := 8) hx hb hts inX3 hown hK hS.1 0 rfl rfl 5 (by decide) k1 (fun _ h => h) rfl dX3_numberOf_16 ?_
    refine lv_iload_n hx hb dX3_numberOf_19 rfl (lv_at hl 0 rfl) ?_
    obtain ⟨b_4, hE⟩ := jgd hE
    obtain ⟨a_5, ea_5, ma_5, fa_5⟩ := hG.1 _ b_4.2
    refine jn_ald hx hb hK hS.1 5 6 rfl rfl (jin.mpr b_4) ea_5 dX3_numberOf_20 (Or.inr ⟨_, rfl⟩) ?_
    refine lv_aload_n hx hb dX3_numberOf_21 rfl (lv_at hl 1 rfl) ?_
    refine va_get (D := D) (ci := 4) (v := .int lc) (C := RX3) (T := TX3) (N := 8) hx hb hts inX3 hown hK hS.1 0 rfl rfl 7 (by decide) k2 (fun _ h => h) rfl dX3_numberOf_22 ?_
    obtain ⟨b_6, hE⟩ := jgd hE
    refine jn_lald hx hb hK hS.1 ma_5 1 fa_5 rfl (jin.mpr b_6) dX3_numberOf_25 ?_
    obtain rfl := jsm hE
    exact ret ⟨rfl, hN, L, wa, ga, f, rfl, hW, hG⟩ hS dX3_numberOf_26
  · have hE := jf hE c_3
    refine lv_lconst (v := (0 : Int64)) hx hb dX3_numberOf_11 (by decide) ?_
    refine lv_goto (tgt := 26) hx hb dX3_numberOf_12 (by decide) ?_
    obtain rfl := jsm hE
    exact ret ⟨rfl, hN, L, wa, ga, f, rfl, hW, hG⟩ hS dX3_numberOf_26
def LX3_numberLines_7 (a1 : Int32) : Nat → (Int32) → (Nat → Int32) → (Int32) → Option ((Nat → Int32) × Int32)
  | 0, _, _, _ => none
  | n + 1, v2_1, lineOf_2, lc_3 =>
    if (6 : Int32) ≤ v2_1 then
    some (lineOf_2, lc_3)
    else
    (if ((a1 >>> (v2_1 &&& 31)) &&& (1 : Int32)) = (1 : Int32) then
    if jok v2_1 6 then
    jlet (upd lineOf_2 v2_1.toNatClampNeg lc_3) (fun lineOf_17 => 
    some (lineOf_17, (lc_3 + (1 : Int32))))
    else none
    else
    if jok v2_1 6 then
    jlet (upd lineOf_2 v2_1.toNatClampNeg (-1 : Int32)) (fun lineOf_15 => 
    some (lineOf_15, lc_3))
    else none).bind (fun o_10 => 
    jlet (v2_1 + (1 : Int32)) (fun x_18 => 
    LX3_numberLines_7 a1 n x_18 o_10.1 o_10.2))
def fX3_numberLines (a1 : Int32) (lineOf : Nat → Int32) : Option ((Nat → Int32) × Int32) :=
  (LX3_numberLines_7 a1 5000 (0 : Int32) lineOf (0 : Int32)).bind (fun o_4 => 
  some (o_4.1, o_4.2))
abbrev rmX3_numberLines : Room := { frames := 0, cells := 0, slots := 0, locals := 0 }
set_option maxHeartbeats 4000000 in
set_option maxRecDepth 100000 in
theorem tX3_numberLines (l : Launch) (D : va_G) (n0 n1 n2 n3 n4 n5 n6 : Nat) (cI cJ cZ cW cS cO cG : ClassId) (size : Int32) (wk : Nat → Int32) (w1 : Nat → Int32) (w2 : Nat → Int32) (wq : Nat → Int32) (wm : Nat → Int32) (flows : Nat → Int64) (mu : Int64) (ml : Int64) (nb : Nat → Int32) (lines : Nat → Nat → Int64) (lineOf : Nat → Int32) (lc : Int32) (a1 : Int32) {o : (Nat → Int32) × Int32} (hE : fX3_numberLines a1 lineOf = some o) {w : va_W} (hw : NP n0 n1 n2 n3 n4 n5 n6 cI cJ cW cG size wk w1 w2 wq wm flows mu ml nb lines lineOf lc w) : JQv l yX3_numberLines wsX3_numberLines rmX3_numberLines D vwCl (TY cI cJ cZ cW cS cO cG) [.ref n0, .int a1] w (fun v => NP n0 n1 n2 n3 n4 n5 n6 cI cJ cW cG size wk w1 w2 wq wm flows mu ml nb lines o.1 o.2 v) := by
  obtain ⟨hN, L, wa, ga, f, rfl, hW, hG⟩ := hw
  refine JQv.of (cc := cX3_numberLines) (maxL := 3) (by decide) rfl (Nat.le_of_ble_eq_true rfl) ?_
  intro p e s m args below meth c A ls Q C hK hA ret hS hl
  obtain ⟨⟨hx, hb, hml, hown, hts⟩, -⟩ := id C
  have hl : lv_has ls 3 [(0, .ref n0), (1, .int a1)] := hl
  have inX3 : ∀ w ∈ u_ws RX3 TX3 8, w ∈ wsX3_numberLines := by decide +kernel
  have k0 := hts (.fieldLink RX3 44 "OhmNets$Net" "lineCount" "I") (by decide +kernel)
  have k1 := hts (.fieldLink RX3 41 "OhmNets$Net" "lineOf" "[I") (by decide +kernel)
  refine lv_aload_n hx hb dX3_numberLines_0 rfl (lv_at hl 0 rfl) ?_
  refine lv_iconst (v := (0 : Int32)) hx hb dX3_numberLines_1 (by decide) ?_
  refine j_put (ci := 4) (v := .int (0 : Int32)) (ty := .int) (C := RX3) (T := TX3) (N := 8) (w' := NWX n0 n1 n2 n3 n4 n5 n6 cI cJ cW cG wa ga size flows mu ml nb lineOf (0 : Int32) ++ va_pl L f) hx hb hts inX3 tyX3 tyX3_ok nmX3 hown hK hS 0 rfl rfl 7 (by decide) k0 (fun _ h => h) rfl (by decide +kernel) rfl rfl (Nat.le_of_ble_eq_true rfl) rfl dX3_numberLines_2 (fun H locs hS => ?_)
  refine lv_iconst (v := (0 : Int32)) hx hb dX3_numberLines_5 (by decide) ?_
  refine lv_istore_n (lv' := [(2, .int (0 : Int32)), (0, .ref n0), (1, .int a1)]) hx hb dX3_numberLines_6 rfl hl (by decide) rfl (fun ls hl => ?_)
  obtain ⟨o_4, L_5, hE⟩ := jbd hE
  have K_6 : jY p l e rmX3_numberLines s m args below meth c 0 0 Q (NZ D vwCl A n0 n1 n2 n3 n4 n5 n6 cI cJ cW cG size wk w1 w2 wq wm flows mu ml nb lines o_4.1 o_4.2 s.heap) 3 [] 58 [] := by
    intro H locs ls hZ hl
    obtain ⟨_, ⟨hN, L, wa, ga, f, rfl, hW, hG⟩, hS⟩ := hZ
    obtain rfl := jsm hE
    exact ret ⟨hN, L, wa, ga, f, rfl, hW, hG⟩ hS dX3_numberLines_58
  have loop_8 : ∀ (n : Nat) (v2_1 : Int32) (lineOf_2 : Nat → Int32) (lc_3 : Int32), LX3_numberLines_7 a1 n v2_1 lineOf_2 lc_3 = some o_4 → jY p l e rmX3_numberLines s m args below meth c 0 0 Q (NZ D vwCl A n0 n1 n2 n3 n4 n5 n6 cI cJ cW cG size wk w1 w2 wq wm flows mu ml nb lines lineOf_2 lc_3 s.heap) 3 [(0, .ref n0), (1, .int a1), (2, .int v2_1)] 7 [] := by
    intro n
    induction n with
    | zero =>
      intro v2_1 lineOf_2 lc_3 q_7
      have q_7 : none = some o_4 := q_7
      cases q_7
    | succ n ih =>
      intro v2_1 lineOf_2 lc_3 q_7 H locs ls hZ hl
      obtain ⟨_, ⟨hN, L, wa, ga, f, rfl, hW, hG⟩, hS⟩ := hZ
      rw [LX3_numberLines_7] at q_7
      refine lv_iload_n hx hb dX3_numberLines_7 rfl (lv_at hl 2 rfl) ?_
      refine lv_bipush (v := (6 : Int32)) hx hb dX3_numberLines_8 (by decide) ?_
      refine lv_icmp_ge (tgt := 58) hx hb dX3_numberLines_10 (by decide) (fun c_9 => ?_) (fun c_9 => ?_)
      · have q_7 := jt q_7 c_9
        obtain rfl := jsm q_7
        exact K_6 _ _ _ ⟨_, ⟨hN, L, wa, ga, f, rfl, hW, hG⟩, hS⟩ (lv_sub hl [] rfl)
      · have q_7 := jf q_7 c_9
        refine lv_iload_n hx hb dX3_numberLines_13 rfl (lv_at hl 1 rfl) ?_
        refine lv_iload_n hx hb dX3_numberLines_14 rfl (lv_at hl 2 rfl) ?_
        refine lv_ishr hx hb dX3_numberLines_15 ?_
        refine lv_iconst (v := (1 : Int32)) hx hb dX3_numberLines_16 (by decide) ?_
        refine lv_iand hx hb dX3_numberLines_17 ?_
        refine lv_iconst (v := (1 : Int32)) hx hb dX3_numberLines_18 (by decide) ?_
        obtain ⟨o_10, r_12, q_7⟩ := jbd q_7
        have K_11 : jY p l e rmX3_numberLines s m args below meth c 0 0 Q (NZ D vwCl A n0 n1 n2 n3 n4 n5 n6 cI cJ cW cG size wk w1 w2 wq wm flows mu ml nb lines o_10.1 o_10.2 s.heap) 3 [(0, .ref n0), (1, .int a1), (2, .int v2_1)] 52 [] := by
          intro H locs ls hZ hl
          obtain ⟨_, ⟨hN, L, wa, ga, f, rfl, hW, hG⟩, hS⟩ := hZ
          obtain ⟨x_18, ex_18⟩ : ∃ y : Int32, y = v2_1 + (1 : Int32) := ⟨_, rfl⟩
          have q_7 := jlv q_7 ex_18
          refine lv_iinc (v := x_18) (lv' := [(2, .int x_18), (0, .ref n0), (1, .int a1)]) hx hb dX3_numberLines_52 hl (k := 2) rfl (by rw [ex_18]; rfl) (by decide) rfl (fun ls hl => ?_)
          refine lv_goto (tgt := 7) hx hb dX3_numberLines_55 (by decide) ?_
          exact ih x_18 o_10.1 o_10.2 q_7 _ _ _ ⟨_, ⟨hN, L, wa, ga, f, rfl, hW, hG⟩, hS⟩ (lv_sub hl [1, 2, 0] rfl)
        refine lv_icmp_ne (tgt := 45) hx hb dX3_numberLines_19 (by decide) (fun c_13 => ?_) (fun c_13 => ?_)
        · have r_12 := jf r_12 c_13
          refine lv_aload_n hx hb dX3_numberLines_45 rfl (lv_at hl 0 rfl) ?_
          refine va_get (D := D) (ci := 4) (v := .ref n6) (C := RX3) (T := TX3) (N := 8) hx hb hts inX3 hown hK hS.1 0 rfl rfl 6 (by decide) k1 (fun _ h => h) rfl dX3_numberLines_46 ?_
          refine lv_iload_n hx hb dX3_numberLines_49 rfl (lv_at hl 2 rfl) ?_
          refine lv_iconst (v := (-1 : Int32)) hx hb dX3_numberLines_50 (by decide) ?_
          obtain ⟨b_14, r_12⟩ := jgd r_12
          obtain ⟨lineOf_15, elineOf_15⟩ : ∃ y : Nat → Int32, y = upd lineOf_2 v2_1.toNatClampNeg (-1 : Int32) := ⟨_, rfl⟩
          have r_12 := jlv r_12 elineOf_15
          refine j_iast (w' := NWX n0 n1 n2 n3 n4 n5 n6 cI cJ cW cG wa ga size flows mu ml nb lineOf_15 lc_3 ++ va_pl L f) hx hb hK hS 6 0 rfl rfl (jin.mpr b_14) (by rw [elineOf_15]; rfl) dX3_numberLines_51 (fun H locs hS => ?_)
          obtain rfl := jsm r_12
          exact K_11 _ _ _ ⟨_, ⟨hN, L, wa, ga, f, rfl, hW, hG⟩, hS⟩ (lv_sub hl [0, 1, 2] rfl)
        · have r_12 := jt r_12 c_13
          refine lv_aload_n hx hb dX3_numberLines_22 rfl (lv_at hl 0 rfl) ?_
          refine va_get (D := D) (ci := 4) (v := .ref n6) (C := RX3) (T := TX3) (N := 8) hx hb hts inX3 hown hK hS.1 0 rfl rfl 6 (by decide) k1 (fun _ h => h) rfl dX3_numberLines_23 ?_
          refine lv_iload_n hx hb dX3_numberLines_26 rfl (lv_at hl 2 rfl) ?_
          refine lv_aload_n hx hb dX3_numberLines_27 rfl (lv_at hl 0 rfl) ?_
          refine va_get (D := D) (ci := 4) (v := .int lc_3) (C := RX3) (T := TX3) (N := 8) hx hb hts inX3 hown hK hS.1 0 rfl rfl 7 (by decide) k0 (fun _ h => h) rfl dX3_numberLines_28 ?_
          obtain ⟨b_16, r_12⟩ := jgd r_12
          obtain ⟨lineOf_17, elineOf_17⟩ : ∃ y : Nat → Int32, y = upd lineOf_2 v2_1.toNatClampNeg lc_3 := ⟨_, rfl⟩
          have r_12 := jlv r_12 elineOf_17
          refine j_iast (w' := NWX n0 n1 n2 n3 n4 n5 n6 cI cJ cW cG wa ga size flows mu ml nb lineOf_17 lc_3 ++ va_pl L f) hx hb hK hS 6 0 rfl rfl (jin.mpr b_16) (by rw [elineOf_17]; rfl) dX3_numberLines_31 (fun H locs hS => ?_)
          refine lv_aload_n hx hb dX3_numberLines_32 rfl (lv_at hl 0 rfl) ?_
          refine lv_dup hx hb dX3_numberLines_33 rfl ?_
          refine va_get (D := D) (ci := 4) (v := .int lc_3) (C := RX3) (T := TX3) (N := 8) hx hb hts inX3 hown hK hS.1 0 rfl rfl 7 (by decide) k0 (fun _ h => h) rfl dX3_numberLines_34 ?_
          refine lv_iconst (v := (1 : Int32)) hx hb dX3_numberLines_37 (by decide) ?_
          refine lv_iadd hx hb dX3_numberLines_38 ?_
          refine j_put (ci := 4) (v := .int (lc_3 + (1 : Int32))) (ty := .int) (C := RX3) (T := TX3) (N := 8) (w' := NWX n0 n1 n2 n3 n4 n5 n6 cI cJ cW cG wa ga size flows mu ml nb lineOf_17 (lc_3 + (1 : Int32)) ++ va_pl L f) hx hb hts inX3 tyX3 tyX3_ok nmX3 hown hK hS 0 rfl rfl 7 (by decide) k0 (fun _ h => h) rfl (by decide +kernel) rfl rfl (Nat.le_of_ble_eq_true rfl) rfl dX3_numberLines_39 (fun H locs hS => ?_)
          refine lv_goto (tgt := 52) hx hb dX3_numberLines_42 (by decide) ?_
          obtain rfl := jsm r_12
          exact K_11 _ _ _ ⟨_, ⟨hN, L, wa, ga, f, rfl, hW, hG⟩, hS⟩ (lv_sub hl [0, 1, 2] rfl)
  exact loop_8 5000 (0 : Int32) lineOf (0 : Int32) L_5 _ _ _ ⟨_, ⟨hN, L, wa, ga, f, rfl, hW, hG⟩, hS⟩ (lv_sub hl [1, 2, 0] rfl)
def fX3_layEnd (a1 : Int32) (a2 : Int32) (a3 : Int64) (lines : Nat → Nat → Int64) : Option ((Nat → Nat → Int64)) :=
  if 0 ≤ a1 then
  if jok a1 5 then
  if jok a1 6 then
  jlet (jgup lines a1.toNatClampNeg a1.toNatClampNeg ((lines a1.toNatClampNeg a1.toNatClampNeg) + a3)) (fun lines_5 => 
  if a2 < 0 then
  some lines_5
  else
  if jok a2 6 then
  jlet (jgup lines_5 a1.toNatClampNeg a2.toNatClampNeg ((lines_5 a1.toNatClampNeg a2.toNatClampNeg) - a3)) (fun lines_9 => 
  some lines_9)
  else none)
  else none
  else none
  else
  some lines
abbrev rmX3_layEnd : Room := { frames := 0, cells := 0, slots := 0, locals := 0 }
set_option maxHeartbeats 4000000 in
set_option maxRecDepth 100000 in
theorem tX3_layEnd (l : Launch) (D : va_G) (n0 n1 n2 n3 n4 n5 n6 : Nat) (cI cJ cZ cW cS cO cG : ClassId) (size : Int32) (wk : Nat → Int32) (w1 : Nat → Int32) (w2 : Nat → Int32) (wq : Nat → Int32) (wm : Nat → Int32) (flows : Nat → Int64) (mu : Int64) (ml : Int64) (nb : Nat → Int32) (lines : Nat → Nat → Int64) (lineOf : Nat → Int32) (lc : Int32) (a1 : Int32) (a2 : Int32) (a3 : Int64) {o : (Nat → Nat → Int64)} (hE : fX3_layEnd a1 a2 a3 lines = some o) {w : va_W} (hw : NP n0 n1 n2 n3 n4 n5 n6 cI cJ cW cG size wk w1 w2 wq wm flows mu ml nb lines lineOf lc w) : JQv l yX3_layEnd wsX3_layEnd rmX3_layEnd D vwCl (TY cI cJ cZ cW cS cO cG) [.ref n0, .int a1, .int a2, .long a3] w (fun v => NP n0 n1 n2 n3 n4 n5 n6 cI cJ cW cG size wk w1 w2 wq wm flows mu ml nb o lineOf lc v) := by
  obtain ⟨hN, L, wa, ga, f, rfl, hW, hG⟩ := hw
  refine JQv.of (cc := cX3_layEnd) (maxL := 5) (by decide) rfl (Nat.le_of_ble_eq_true rfl) ?_
  intro p e s m args below meth c A ls Q C hK hA ret hS hl
  obtain ⟨⟨hx, hb, hml, hown, hts⟩, -⟩ := id C
  have hl : lv_has ls 5 [(0, .ref n0), (1, .int a1), (2, .int a2), (3, .long a3)] := hl
  have inX3 : ∀ w ∈ u_ws RX3 TX3 8, w ∈ wsX3_layEnd := by decide +kernel
  have k0 := hts (.fieldLink RX3 38 "OhmNets$Net" "lines" "[[J") (by decide +kernel)
  refine lv_iload_n hx hb dX3_layEnd_0 rfl (lv_at hl 1 rfl) ?_
  refine lv_if_ge (tgt := 5) hx hb dX3_layEnd_1 (by decide) (fun c_1 => ?_) (fun c_1 => ?_)
  · have hE := jt hE c_1
    refine lv_aload_n hx hb dX3_layEnd_5 rfl (lv_at hl 0 rfl) ?_
    refine va_get (D := D) (ci := 4) (v := .ref n5) (C := RX3) (T := TX3) (N := 8) hx hb hts inX3 hown hK hS.1 0 rfl rfl 5 (by decide) k0 (fun _ h => h) rfl dX3_layEnd_6 ?_
    refine lv_iload_n hx hb dX3_layEnd_9 rfl (lv_at hl 1 rfl) ?_
    obtain ⟨b_2, hE⟩ := jgd hE
    obtain ⟨a_3, ea_3, ma_3, fa_3⟩ := hG.1 _ b_2.2
    refine jn_ald hx hb hK hS.1 5 6 rfl rfl (jin.mpr b_2) ea_3 dX3_layEnd_10 (Or.inr ⟨_, rfl⟩) ?_
    refine lv_iload_n hx hb dX3_layEnd_11 rfl (lv_at hl 1 rfl) ?_
    refine lv_dup2_11 hx hb dX3_layEnd_12 rfl rfl ?_
    obtain ⟨b_4, hE⟩ := jgd hE
    refine jn_lald hx hb hK hS.1 ma_3 1 fa_3 rfl (jin.mpr b_4) dX3_layEnd_13 ?_
    refine lv_lload_n hx hb dX3_layEnd_14 rfl (lv_at hl 3 rfl) ?_
    refine lv_ladd hx hb dX3_layEnd_15 ?_
    obtain ⟨lines_5, elines_5⟩ : ∃ y : Nat → Nat → Int64, y = jgup lines a1.toNatClampNeg a1.toNatClampNeg ((lines a1.toNatClampNeg a1.toNatClampNeg) + a3) := ⟨_, rfl⟩
    have hE := jlv hE elines_5
    refine jn_last hx hb hK hS ma_3 1 fa_3 b_2.2 ea_3 hG hW rfl (jin.mpr b_4) dX3_layEnd_16 (fun H locs f hW hG hS => ?_)
    rw [← elines_5] at hG
    refine lv_iload_n hx hb dX3_layEnd_17 rfl (lv_at hl 2 rfl) ?_
    refine lv_if_lt (tgt := 33) hx hb dX3_layEnd_18 (by decide) (fun c_6 => ?_) (fun c_6 => ?_)
    · have hE := jt hE c_6
      obtain rfl := jsm hE
      exact ret ⟨hN, L, wa, ga, f, rfl, hW, hG⟩ hS dX3_layEnd_33
    · have hE := jf hE c_6
      refine lv_aload_n hx hb dX3_layEnd_21 rfl (lv_at hl 0 rfl) ?_
      refine va_get (D := D) (ci := 4) (v := .ref n5) (C := RX3) (T := TX3) (N := 8) hx hb hts inX3 hown hK hS.1 0 rfl rfl 5 (by decide) k0 (fun _ h => h) rfl dX3_layEnd_22 ?_
      refine lv_iload_n hx hb dX3_layEnd_25 rfl (lv_at hl 1 rfl) ?_
      obtain ⟨a_7, ea_7, ma_7, fa_7⟩ := hG.1 _ b_2.2
      refine jn_ald hx hb hK hS.1 5 6 rfl rfl (jin.mpr b_2) ea_7 dX3_layEnd_26 (Or.inr ⟨_, rfl⟩) ?_
      refine lv_iload_n hx hb dX3_layEnd_27 rfl (lv_at hl 2 rfl) ?_
      refine lv_dup2_11 hx hb dX3_layEnd_28 rfl rfl ?_
      obtain ⟨b_8, hE⟩ := jgd hE
      refine jn_lald hx hb hK hS.1 ma_7 1 fa_7 rfl (jin.mpr b_8) dX3_layEnd_29 ?_
      refine lv_lload_n hx hb dX3_layEnd_30 rfl (lv_at hl 3 rfl) ?_
      refine lv_lsub hx hb dX3_layEnd_31 ?_
      obtain ⟨lines_9, elines_9⟩ : ∃ y : Nat → Nat → Int64, y = jgup lines_5 a1.toNatClampNeg a2.toNatClampNeg ((lines_5 a1.toNatClampNeg a2.toNatClampNeg) - a3) := ⟨_, rfl⟩
      have hE := jlv hE elines_9
      refine jn_last hx hb hK hS ma_7 1 fa_7 b_2.2 ea_7 hG hW rfl (jin.mpr b_8) dX3_layEnd_32 (fun H locs f hW hG hS => ?_)
      rw [← elines_9] at hG
      obtain rfl := jsm hE
      exact ret ⟨hN, L, wa, ga, f, rfl, hW, hG⟩ hS dX3_layEnd_33
  · have hE := jf hE c_1
    obtain rfl := jsm hE
    exact ret ⟨hN, L, wa, ga, f, rfl, hW, hG⟩ hS dX3_layEnd_4
def LX3_layLines_26 (o_1 : (Nat → Int32) × Int32) (v4_3 : Int32) : Nat → (Int32) → (Nat → Nat → Int64) → Option ((Nat → Nat → Int64))
  | 0, _, _ => none
  | n + 1, v5_11, lines_12 =>
    if o_1.2 < v5_11 then
    some lines_12
    else
    if jok v4_3 5 then
    if jok v5_11 6 then
    jlet (jgup lines_12 v4_3.toNatClampNeg v5_11.toNatClampNeg (0 : Int64)) (fun lines_22 => 
    jlet (v5_11 + (1 : Int32)) (fun x_23 => 
    LX3_layLines_26 o_1 v4_3 n x_23 lines_22))
    else none
    else none
def LX3_layLines_14 (o_1 : (Nat → Int32) × Int32) : Nat → (Int32) → (Nat → Nat → Int64) → Option ((Nat → Nat → Int64))
  | 0, _, _ => none
  | n + 1, v4_3, lines_4 =>
    if o_1.2 ≤ v4_3 then
    some lines_4
    else
    (LX3_layLines_26 o_1 v4_3 5000 (0 : Int32) lines_4).bind (fun o_13 => 
    jlet (v4_3 + (1 : Int32)) (fun x_24 => 
    LX3_layLines_14 o_1 n x_24 o_13))
def LX3_layLines_61 (size : Int32) (w1 : Nat → Int32) (w2 : Nat → Int32) (flows : Nat → Int64) (a3 : Int32) (o_1 : (Nat → Int32) × Int32) : Nat → (Int32) → (Nat → Nat → Int64) → Option ((Nat → Nat → Int64))
  | 0, _, _ => none
  | n + 1, v4_25, lines_26 =>
    if size ≤ v4_25 then
    some lines_26
    else
    if jok v4_25 size.toNatClampNeg then
    if jok (w1 v4_25.toNatClampNeg) 6 then
    jlet (o_1.1 (w1 v4_25.toNatClampNeg).toNatClampNeg) (fun x_36 => 
    if jok (w2 v4_25.toNatClampNeg) 6 then
    jlet (o_1.1 (w2 v4_25.toNatClampNeg).toNatClampNeg) (fun x_39 => 
    (if a3 = 0 then
    if jok v4_25 12 then
    some (flows v4_25.toNatClampNeg)
    else none
    else
    some (1 : Int64)).bind (fun o_40 => 
    (fX3_layEnd x_36 x_39 o_40 lines_26).bind (fun o_45 => 
    (fX3_layEnd x_39 x_36 o_40 o_45).bind (fun o_47 => 
    jlet (v4_25 + (1 : Int32)) (fun x_49 => 
    LX3_layLines_61 size w1 w2 flows a3 o_1 n x_49 o_47)))))
    else none)
    else none
    else none
def fX3_layLines (a1 : Int32) (a2 : Int32) (a3 : Int32) (size : Int32) (w1 : Nat → Int32) (w2 : Nat → Int32) (flows : Nat → Int64) (lines : Nat → Nat → Int64) (lineOf : Nat → Int32) : Option ((Nat → Nat → Int64) × (Nat → Int32) × Int32) :=
  (fX3_numberLines (a1 &&& (((1 : Int32) <<< (a2 &&& 31)) ^^^ (-1 : Int32))) lineOf).bind (fun o_1 => 
  (LX3_layLines_14 o_1 5000 (0 : Int32) lines).bind (fun o_5 => 
  (LX3_layLines_61 size w1 w2 flows a3 o_1 5000 (0 : Int32) o_5).bind (fun o_27 => 
  some (o_27, o_1.1, o_1.2))))
abbrev rmX3_layLines : Room := { frames := 1, cells := 0, slots := 0, locals := 24 }
set_option maxHeartbeats 4000000 in
set_option maxRecDepth 100000 in
theorem tX3_layLines (l : Launch) (D : va_G) (n0 n1 n2 n3 n4 n5 n6 : Nat) (cI cJ cZ cW cS cO cG : ClassId) (size : Int32) (wk : Nat → Int32) (w1 : Nat → Int32) (w2 : Nat → Int32) (wq : Nat → Int32) (wm : Nat → Int32) (flows : Nat → Int64) (mu : Int64) (ml : Int64) (nb : Nat → Int32) (lines : Nat → Nat → Int64) (lineOf : Nat → Int32) (lc : Int32) (a1 : Int32) (a2 : Int32) (a3 : Int32) {o : (Nat → Nat → Int64) × (Nat → Int32) × Int32} (hE : fX3_layLines a1 a2 a3 size w1 w2 flows lines lineOf = some o) {w : va_W} (hw : NP n0 n1 n2 n3 n4 n5 n6 cI cJ cW cG size wk w1 w2 wq wm flows mu ml nb lines lineOf lc w) : JQv l yX3_layLines wsX3_layLines rmX3_layLines D vwCl (TY cI cJ cZ cW cS cO cG) [.ref n0, .int a1, .int a2, .int a3] w (fun v => NP n0 n1 n2 n3 n4 n5 n6 cI cJ cW cG size wk w1 w2 wq wm flows mu ml nb o.1 o.2.1 o.2.2 v) := by
  obtain ⟨hN, L, wa, ga, f, rfl, hW, hG⟩ := hw
  refine JQv.of (cc := cX3_layLines) (maxL := 9) (by decide) rfl (Nat.le_of_ble_eq_true rfl) ?_
  intro p e s m args below meth c A ls Q C hK hA ret hS hl
  obtain ⟨⟨hx, hb, hml, hown, hts⟩, -⟩ := id C
  have hl : lv_has ls 9 [(0, .ref n0), (1, .int a1), (2, .int a2), (3, .int a3)] := hl
  have inX3 : ∀ w ∈ u_ws RX3 TX3 8, w ∈ wsX3_layLines := by decide +kernel
  have inX4 : ∀ w ∈ u_ws RX4 TX4 3, w ∈ wsX3_layLines := by decide +kernel
  have inX2 : ∀ w ∈ u_ws RX2 TX2 4, w ∈ wsX3_layLines := by decide +kernel
  have inX8 : ∀ w ∈ u_ws RX8 TX8 5, w ∈ wsX3_layLines := by decide +kernel
  have k0 := hts (.fieldLink RX3 44 "OhmNets$Net" "lineCount" "I") (by decide +kernel)
  have k1 := hts (.fieldLink RX3 38 "OhmNets$Net" "lines" "[[J") (by decide +kernel)
  have k2 := hts (.fieldLink RX3 21 "OhmNets$Net" "size" "I") (by decide +kernel)
  have k3 := hts (.fieldLink RX3 41 "OhmNets$Net" "lineOf" "[I") (by decide +kernel)
  have k4 := hts (.fieldLink RX3 11 "OhmNets$Net" "wires" "[LOhmNets$OneWire;") (by decide +kernel)
  have k5 := hts (.fieldLink RX3 64 "OhmNets$OneWire" "first" "I") (by decide +kernel)
  have k6 := hts (.fieldLink RX3 67 "OhmNets$OneWire" "second" "I") (by decide +kernel)
  have k7 := hts (.fieldLink RX3 17 "OhmNets$Net" "flows" "[J") (by decide +kernel)
  refine lv_aload_n hx hb dX3_layLines_0 rfl (lv_at hl 0 rfl) ?_
  refine lv_iload_n hx hb dX3_layLines_1 rfl (lv_at hl 1 rfl) ?_
  refine lv_iconst (v := (1 : Int32)) hx hb dX3_layLines_2 (by decide) ?_
  refine lv_iload_n hx hb dX3_layLines_3 rfl (lv_at hl 2 rfl) ?_
  refine lv_ishl hx hb dX3_layLines_4 ?_
  refine lv_iconst (v := (-1 : Int32)) hx hb dX3_layLines_5 (by decide) ?_
  refine lv_ixor hx hb dX3_layLines_6 ?_
  refine lv_iand hx hb dX3_layLines_7 ?_
  obtain ⟨o_1, h_2, hE⟩ := jbd hE
  refine j_QVv (As := [.int (a1 &&& (((1 : Int32) <<< (a2 &&& 31)) ^^^ (-1 : Int32)))]) (rest := []) (vc := (RX3, TX3, 8)) C hK hA hS (tX3_numberLines l D n0 n1 n2 n3 n4 n5 n6 cI cJ cZ cW cS cO cG size wk w1 w2 wq wm flows mu ml nb lines lineOf lc (a1 &&& (((1 : Int32) <<< (a2 &&& 31)) ^^^ (-1 : Int32))) h_2 ⟨hN, L, wa, ga, f, rfl, hW, hG⟩) (cwV 1 hts gX3_layLines_X3_numberLines rfl rfl rfl (by decide +kernel) ⟨Nat.le_of_ble_eq_true rfl, Nat.le_of_ble_eq_true rfl⟩) (q0 := 0) rfl (ci := 4) rfl rfl hl.1 rfl (Nat.le_of_ble_eq_true rfl) dX3_layLines_8 ⟨Nat.zero_le _, Nat.zero_le _⟩ (fun w H locs hp hS => ?_)
  obtain ⟨hN, L, wa, ga, f, rfl, hW, hG⟩ := hp
  refine lv_iconst (v := (0 : Int32)) hx hb dX3_layLines_11 (by decide) ?_
  refine lv_istore (lv' := [(4, .int (0 : Int32)), (0, .ref n0), (1, .int a1), (2, .int a2), (3, .int a3)]) hx hb dX3_layLines_12 hl (by decide) rfl (fun ls hl => ?_)
  obtain ⟨o_5, L_6, hE⟩ := jbd hE
  have K_7 : jY p l e rmX3_layLines s m args below meth c 0 0 Q (NZ D vwCl A n0 n1 n2 n3 n4 n5 n6 cI cJ cW cG size wk w1 w2 wq wm flows mu ml nb o_5 o_1.1 o_1.2 s.heap) 9 [(0, .ref n0), (3, .int a3)] 58 [] := by
    intro H locs ls hZ hl
    obtain ⟨_, ⟨hN, L, wa, ga, f, rfl, hW, hG⟩, hS⟩ := hZ
    refine lv_iconst (v := (0 : Int32)) hx hb dX3_layLines_58 (by decide) ?_
    refine lv_istore (lv' := [(4, .int (0 : Int32)), (0, .ref n0), (3, .int a3)]) hx hb dX3_layLines_59 hl (by decide) rfl (fun ls hl => ?_)
    obtain ⟨o_27, L_28, hE⟩ := jbd hE
    have K_29 : jY p l e rmX3_layLines s m args below meth c 0 0 Q (NZ D vwCl A n0 n1 n2 n3 n4 n5 n6 cI cJ cW cG size wk w1 w2 wq wm flows mu ml nb o_27 o_1.1 o_1.2 s.heap) 9 [] 147 [] := by
      intro H locs ls hZ hl
      obtain ⟨_, ⟨hN, L, wa, ga, f, rfl, hW, hG⟩, hS⟩ := hZ
      obtain rfl := jsm hE
      exact ret ⟨hN, L, wa, ga, f, rfl, hW, hG⟩ hS dX3_layLines_147
    have loop_31 : ∀ (n : Nat) (v4_25 : Int32) (lines_26 : Nat → Nat → Int64), LX3_layLines_61 size w1 w2 flows a3 o_1 n v4_25 lines_26 = some o_27 → jY p l e rmX3_layLines s m args below meth c 0 0 Q (NZ D vwCl A n0 n1 n2 n3 n4 n5 n6 cI cJ cW cG size wk w1 w2 wq wm flows mu ml nb lines_26 o_1.1 o_1.2 s.heap) 9 [(0, .ref n0), (3, .int a3), (4, .int v4_25)] 61 [] := by
      intro n
      induction n with
      | zero =>
        intro v4_25 lines_26 q_30
        have q_30 : none = some o_27 := q_30
        cases q_30
      | succ n ih =>
        intro v4_25 lines_26 q_30 H locs ls hZ hl
        obtain ⟨_, ⟨hN, L, wa, ga, f, rfl, hW, hG⟩, hS⟩ := hZ
        rw [LX3_layLines_61] at q_30
        refine lv_iload hx hb dX3_layLines_61 (lv_at hl 2 rfl) ?_
        refine lv_aload_n hx hb dX3_layLines_63 rfl (lv_at hl 0 rfl) ?_
        refine va_get (D := D) (ci := 4) (v := .int size) (C := RX3) (T := TX3) (N := 8) hx hb hts inX3 hown hK hS.1 0 rfl rfl 2 (by decide) k2 (fun _ h => h) rfl dX3_layLines_64 ?_
        refine lv_icmp_ge (tgt := 147) hx hb dX3_layLines_67 (by decide) (fun c_32 => ?_) (fun c_32 => ?_)
        · have q_30 := jt q_30 c_32
          obtain rfl := jsm q_30
          exact K_29 _ _ _ ⟨_, ⟨hN, L, wa, ga, f, rfl, hW, hG⟩, hS⟩ (lv_sub hl [] rfl)
        · have q_30 := jf q_30 c_32
          refine lv_aload_n hx hb dX3_layLines_70 rfl (lv_at hl 0 rfl) ?_
          refine va_get (D := D) (ci := 4) (v := .ref n6) (C := RX3) (T := TX3) (N := 8) hx hb hts inX3 hown hK hS.1 0 rfl rfl 6 (by decide) k3 (fun _ h => h) rfl dX3_layLines_71 ?_
          refine lv_aload_n hx hb dX3_layLines_74 rfl (lv_at hl 0 rfl) ?_
          refine va_get (D := D) (ci := 4) (v := .ref n1) (C := RX3) (T := TX3) (N := 8) hx hb hts inX3 hown hK hS.1 0 rfl rfl 0 (by decide) k4 (fun _ h => h) rfl dX3_layLines_75 ?_
          refine lv_iload hx hb dX3_layLines_78 (lv_at hl 2 rfl) ?_
          obtain ⟨b_33, q_30⟩ := jgd q_30
          obtain ⟨a_34, ea_34, ma_34, fa_34⟩ := hW _ b_33.2
          refine jn_ald hx hb hK hS.1 1 3 rfl rfl (jin.mpr ⟨b_33.1, Nat.lt_of_lt_of_le b_33.2 hN⟩) ea_34 dX3_layLines_80 (Or.inl ⟨_, rfl⟩) ?_
          refine jn_first hx hb hts inX4 inX2 inX8 hown hK hS.1 ma_34 fa_34 k5 dX3_layLines_81 ?_
          obtain ⟨b_35, q_30⟩ := jgd q_30
          refine va_iald hx hb hK hS.1 6 0 rfl rfl (jin.mpr b_35) dX3_layLines_84 ?_
          refine lv_topi (fun x_36 ex_36 => ?_)
          have q_30 := jlv q_30 ex_36
          refine lv_istore (lv' := [(5, .int x_36), (0, .ref n0), (3, .int a3), (4, .int v4_25)]) hx hb dX3_layLines_85 hl (by decide) rfl (fun ls hl => ?_)
          refine lv_aload_n hx hb dX3_layLines_87 rfl (lv_at hl 1 rfl) ?_
          refine va_get (D := D) (ci := 4) (v := .ref n6) (C := RX3) (T := TX3) (N := 8) hx hb hts inX3 hown hK hS.1 0 rfl rfl 6 (by decide) k3 (fun _ h => h) rfl dX3_layLines_88 ?_
          refine lv_aload_n hx hb dX3_layLines_91 rfl (lv_at hl 1 rfl) ?_
          refine va_get (D := D) (ci := 4) (v := .ref n1) (C := RX3) (T := TX3) (N := 8) hx hb hts inX3 hown hK hS.1 0 rfl rfl 0 (by decide) k4 (fun _ h => h) rfl dX3_layLines_92 ?_
          refine lv_iload hx hb dX3_layLines_95 (lv_at hl 3 rfl) ?_
          obtain ⟨a_37, ea_37, ma_37, fa_37⟩ := hW _ b_33.2
          refine jn_ald hx hb hK hS.1 1 3 rfl rfl (jin.mpr ⟨b_33.1, Nat.lt_of_lt_of_le b_33.2 hN⟩) ea_37 dX3_layLines_97 (Or.inl ⟨_, rfl⟩) ?_
          refine jn_second hx hb hts inX4 inX2 inX8 hown hK hS.1 ma_37 fa_37 k6 dX3_layLines_98 ?_
          obtain ⟨b_38, q_30⟩ := jgd q_30
          refine va_iald hx hb hK hS.1 6 0 rfl rfl (jin.mpr b_38) dX3_layLines_101 ?_
          refine lv_topi (fun x_39 ex_39 => ?_)
          have q_30 := jlv q_30 ex_39
          refine lv_istore (lv' := [(6, .int x_39), (5, .int x_36), (0, .ref n0), (3, .int a3), (4, .int v4_25)]) hx hb dX3_layLines_102 hl (by decide) rfl (fun ls hl => ?_)
          refine lv_iload_n hx hb dX3_layLines_104 rfl (lv_at hl 3 rfl) ?_
          obtain ⟨o_40, r_42, q_30⟩ := jbd q_30
          have K_41 : jY p l e rmX3_layLines s m args below meth c 0 0 Q (NZ D vwCl A n0 n1 n2 n3 n4 n5 n6 cI cJ cW cG size wk w1 w2 wq wm flows mu ml nb lines_26 o_1.1 o_1.2 s.heap) 9 [(0, .ref n0), (3, .int a3), (4, .int v4_25), (5, .int x_36), (6, .int x_39)] 119 [.long o_40] := by
            intro H locs ls hZ hl
            obtain ⟨_, ⟨hN, L, wa, ga, f, rfl, hW, hG⟩, hS⟩ := hZ
            refine lv_lstore (lv' := [(7, .long o_40), (0, .ref n0), (3, .int a3), (4, .int v4_25), (5, .int x_36), (6, .int x_39)]) hx hb dX3_layLines_119 hl (by decide) rfl (fun ls hl => ?_)
            refine lv_aload_n hx hb dX3_layLines_121 rfl (lv_at hl 1 rfl) ?_
            refine lv_iload hx hb dX3_layLines_122 (lv_at hl 4 rfl) ?_
            refine lv_iload hx hb dX3_layLines_124 (lv_at hl 5 rfl) ?_
            refine lv_lload hx hb dX3_layLines_126 (lv_at hl 0 rfl) ?_
            obtain ⟨o_45, h_46, q_30⟩ := jbd q_30
            refine j_QVv (As := [.int x_36, .int x_39, .long o_40]) (rest := []) (vc := (RX3, TX3, 8)) C hK hA hS (tX3_layEnd l D n0 n1 n2 n3 n4 n5 n6 cI cJ cZ cW cS cO cG size wk w1 w2 wq wm flows mu ml nb lines_26 o_1.1 o_1.2 x_36 x_39 o_40 h_46 ⟨hN, L, wa, ga, f, rfl, hW, hG⟩) (cwV 3 hts gX3_layLines_X3_layEnd rfl rfl rfl (by decide +kernel) ⟨Nat.le_of_ble_eq_true rfl, Nat.le_of_ble_eq_true rfl⟩) (q0 := 0) rfl (ci := 4) rfl rfl hl.1 rfl (Nat.le_of_ble_eq_true rfl) dX3_layLines_128 ⟨Nat.zero_le _, Nat.zero_le _⟩ (fun w H locs hp hS => ?_)
            obtain ⟨hN, L, wa, ga, f, rfl, hW, hG⟩ := hp
            refine lv_aload_n hx hb dX3_layLines_131 rfl (lv_at hl 1 rfl) ?_
            refine lv_iload hx hb dX3_layLines_132 (lv_at hl 5 rfl) ?_
            refine lv_iload hx hb dX3_layLines_134 (lv_at hl 4 rfl) ?_
            refine lv_lload hx hb dX3_layLines_136 (lv_at hl 0 rfl) ?_
            obtain ⟨o_47, h_48, q_30⟩ := jbd q_30
            refine j_QVv (As := [.int x_39, .int x_36, .long o_40]) (rest := []) (vc := (RX3, TX3, 8)) C hK hA hS (tX3_layEnd l D n0 n1 n2 n3 n4 n5 n6 cI cJ cZ cW cS cO cG size wk w1 w2 wq wm flows mu ml nb o_45 o_1.1 o_1.2 x_39 x_36 o_40 h_48 ⟨hN, L, wa, ga, f, rfl, hW, hG⟩) (cwV 3 hts gX3_layLines_X3_layEnd rfl rfl rfl (by decide +kernel) ⟨Nat.le_of_ble_eq_true rfl, Nat.le_of_ble_eq_true rfl⟩) (q0 := 0) rfl (ci := 4) rfl rfl hl.1 rfl (Nat.le_of_ble_eq_true rfl) dX3_layLines_138 ⟨Nat.zero_le _, Nat.zero_le _⟩ (fun w H locs hp hS => ?_)
            obtain ⟨hN, L, wa, ga, f, rfl, hW, hG⟩ := hp
            obtain ⟨x_49, ex_49⟩ : ∃ y : Int32, y = v4_25 + (1 : Int32) := ⟨_, rfl⟩
            have q_30 := jlv q_30 ex_49
            refine lv_iinc (v := x_49) (lv' := [(4, .int x_49), (7, .long o_40), (0, .ref n0), (3, .int a3), (5, .int x_36), (6, .int x_39)]) hx hb dX3_layLines_141 hl (k := 3) rfl (by rw [ex_49]; rfl) (by decide) rfl (fun ls hl => ?_)
            refine lv_goto (tgt := 61) hx hb dX3_layLines_144 (by decide) ?_
            exact ih x_49 o_47 q_30 _ _ _ ⟨_, ⟨hN, L, wa, ga, f, rfl, hW, hG⟩, hS⟩ (lv_sub hl [2, 3, 0] rfl)
          refine lv_if_eq (tgt := 112) hx hb dX3_layLines_105 (by decide) (fun c_43 => ?_) (fun c_43 => ?_)
          · have r_42 := jt r_42 c_43
            refine lv_aload_n hx hb dX3_layLines_112 rfl (lv_at hl 2 rfl) ?_
            refine va_get (D := D) (ci := 4) (v := .ref n2) (C := RX3) (T := TX3) (N := 8) hx hb hts inX3 hown hK hS.1 0 rfl rfl 1 (by decide) k7 (fun _ h => h) rfl dX3_layLines_113 ?_
            refine lv_iload hx hb dX3_layLines_116 (lv_at hl 4 rfl) ?_
            obtain ⟨b_44, r_42⟩ := jgd r_42
            refine va_lald hx hb hK hS.1 2 1 rfl rfl (jin.mpr b_44) dX3_layLines_118 ?_
            obtain rfl := jsm r_42
            exact K_41 _ _ _ ⟨_, ⟨hN, L, wa, ga, f, rfl, hW, hG⟩, hS⟩ (lv_sub hl [2, 3, 4, 1, 0] rfl)
          · have r_42 := jf r_42 c_43
            refine lv_lconst (v := (1 : Int64)) hx hb dX3_layLines_108 (by decide) ?_
            refine lv_goto (tgt := 119) hx hb dX3_layLines_109 (by decide) ?_
            obtain rfl := jsm r_42
            exact K_41 _ _ _ ⟨_, ⟨hN, L, wa, ga, f, rfl, hW, hG⟩, hS⟩ (lv_sub hl [2, 3, 4, 1, 0] rfl)
    exact loop_31 5000 (0 : Int32) o_5 L_28 _ _ _ ⟨_, ⟨hN, L, wa, ga, f, rfl, hW, hG⟩, hS⟩ (lv_sub hl [1, 2, 0] rfl)
  have loop_9 : ∀ (n : Nat) (v4_3 : Int32) (lines_4 : Nat → Nat → Int64), LX3_layLines_14 o_1 n v4_3 lines_4 = some o_5 → jY p l e rmX3_layLines s m args below meth c 0 0 Q (NZ D vwCl A n0 n1 n2 n3 n4 n5 n6 cI cJ cW cG size wk w1 w2 wq wm flows mu ml nb lines_4 o_1.1 o_1.2 s.heap) 9 [(0, .ref n0), (3, .int a3), (4, .int v4_3)] 14 [] := by
    intro n
    induction n with
    | zero =>
      intro v4_3 lines_4 q_8
      have q_8 : none = some o_5 := q_8
      cases q_8
    | succ n ih =>
      intro v4_3 lines_4 q_8 H locs ls hZ hl
      obtain ⟨_, ⟨hN, L, wa, ga, f, rfl, hW, hG⟩, hS⟩ := hZ
      rw [LX3_layLines_14] at q_8
      refine lv_iload hx hb dX3_layLines_14 (lv_at hl 2 rfl) ?_
      refine lv_aload_n hx hb dX3_layLines_16 rfl (lv_at hl 0 rfl) ?_
      refine va_get (D := D) (ci := 4) (v := .int o_1.2) (C := RX3) (T := TX3) (N := 8) hx hb hts inX3 hown hK hS.1 0 rfl rfl 7 (by decide) k0 (fun _ h => h) rfl dX3_layLines_17 ?_
      refine lv_icmp_ge (tgt := 58) hx hb dX3_layLines_20 (by decide) (fun c_10 => ?_) (fun c_10 => ?_)
      · have q_8 := jt q_8 c_10
        obtain rfl := jsm q_8
        exact K_7 _ _ _ ⟨_, ⟨hN, L, wa, ga, f, rfl, hW, hG⟩, hS⟩ (lv_sub hl [0, 1] rfl)
      · have q_8 := jf q_8 c_10
        refine lv_iconst (v := (0 : Int32)) hx hb dX3_layLines_23 (by decide) ?_
        refine lv_istore (lv' := [(5, .int (0 : Int32)), (0, .ref n0), (3, .int a3), (4, .int v4_3)]) hx hb dX3_layLines_24 hl (by decide) rfl (fun ls hl => ?_)
        obtain ⟨o_13, L_14, q_8⟩ := jbd q_8
        have K_15 : jY p l e rmX3_layLines s m args below meth c 0 0 Q (NZ D vwCl A n0 n1 n2 n3 n4 n5 n6 cI cJ cW cG size wk w1 w2 wq wm flows mu ml nb o_13 o_1.1 o_1.2 s.heap) 9 [(0, .ref n0), (3, .int a3), (4, .int v4_3)] 52 [] := by
          intro H locs ls hZ hl
          obtain ⟨_, ⟨hN, L, wa, ga, f, rfl, hW, hG⟩, hS⟩ := hZ
          obtain ⟨x_24, ex_24⟩ : ∃ y : Int32, y = v4_3 + (1 : Int32) := ⟨_, rfl⟩
          have q_8 := jlv q_8 ex_24
          refine lv_iinc (v := x_24) (lv' := [(4, .int x_24), (0, .ref n0), (3, .int a3)]) hx hb dX3_layLines_52 hl (k := 2) rfl (by rw [ex_24]; rfl) (by decide) rfl (fun ls hl => ?_)
          refine lv_goto (tgt := 14) hx hb dX3_layLines_55 (by decide) ?_
          exact ih x_24 o_13 q_8 _ _ _ ⟨_, ⟨hN, L, wa, ga, f, rfl, hW, hG⟩, hS⟩ (lv_sub hl [1, 2, 0] rfl)
        have loop_17 : ∀ (n : Nat) (v5_11 : Int32) (lines_12 : Nat → Nat → Int64), LX3_layLines_26 o_1 v4_3 n v5_11 lines_12 = some o_13 → jY p l e rmX3_layLines s m args below meth c 0 0 Q (NZ D vwCl A n0 n1 n2 n3 n4 n5 n6 cI cJ cW cG size wk w1 w2 wq wm flows mu ml nb lines_12 o_1.1 o_1.2 s.heap) 9 [(0, .ref n0), (3, .int a3), (4, .int v4_3), (5, .int v5_11)] 26 [] := by
          intro n
          induction n with
          | zero =>
            intro v5_11 lines_12 q_16
            have q_16 : none = some o_13 := q_16
            cases q_16
          | succ n ih =>
            intro v5_11 lines_12 q_16 H locs ls hZ hl
            obtain ⟨_, ⟨hN, L, wa, ga, f, rfl, hW, hG⟩, hS⟩ := hZ
            rw [LX3_layLines_26] at q_16
            refine lv_iload hx hb dX3_layLines_26 (lv_at hl 3 rfl) ?_
            refine lv_aload_n hx hb dX3_layLines_28 rfl (lv_at hl 0 rfl) ?_
            refine va_get (D := D) (ci := 4) (v := .int o_1.2) (C := RX3) (T := TX3) (N := 8) hx hb hts inX3 hown hK hS.1 0 rfl rfl 7 (by decide) k0 (fun _ h => h) rfl dX3_layLines_29 ?_
            refine lv_icmp_gt (tgt := 52) hx hb dX3_layLines_32 (by decide) (fun c_18 => ?_) (fun c_18 => ?_)
            · have q_16 := jt q_16 c_18
              obtain rfl := jsm q_16
              exact K_15 _ _ _ ⟨_, ⟨hN, L, wa, ga, f, rfl, hW, hG⟩, hS⟩ (lv_sub hl [0, 1, 2] rfl)
            · have q_16 := jf q_16 c_18
              refine lv_aload_n hx hb dX3_layLines_35 rfl (lv_at hl 0 rfl) ?_
              refine va_get (D := D) (ci := 4) (v := .ref n5) (C := RX3) (T := TX3) (N := 8) hx hb hts inX3 hown hK hS.1 0 rfl rfl 5 (by decide) k1 (fun _ h => h) rfl dX3_layLines_36 ?_
              refine lv_iload hx hb dX3_layLines_39 (lv_at hl 2 rfl) ?_
              obtain ⟨b_19, q_16⟩ := jgd q_16
              obtain ⟨a_20, ea_20, ma_20, fa_20⟩ := hG.1 _ b_19.2
              refine jn_ald hx hb hK hS.1 5 6 rfl rfl (jin.mpr b_19) ea_20 dX3_layLines_41 (Or.inr ⟨_, rfl⟩) ?_
              refine lv_iload hx hb dX3_layLines_42 (lv_at hl 3 rfl) ?_
              refine lv_lconst (v := (0 : Int64)) hx hb dX3_layLines_44 (by decide) ?_
              obtain ⟨b_21, q_16⟩ := jgd q_16
              obtain ⟨lines_22, elines_22⟩ : ∃ y : Nat → Nat → Int64, y = jgup lines_12 v4_3.toNatClampNeg v5_11.toNatClampNeg (0 : Int64) := ⟨_, rfl⟩
              have q_16 := jlv q_16 elines_22
              refine jn_last hx hb hK hS ma_20 1 fa_20 b_19.2 ea_20 hG hW rfl (jin.mpr b_21) dX3_layLines_45 (fun H locs f hW hG hS => ?_)
              rw [← elines_22] at hG
              obtain ⟨x_23, ex_23⟩ : ∃ y : Int32, y = v5_11 + (1 : Int32) := ⟨_, rfl⟩
              have q_16 := jlv q_16 ex_23
              refine lv_iinc (v := x_23) (lv' := [(5, .int x_23), (0, .ref n0), (3, .int a3), (4, .int v4_3)]) hx hb dX3_layLines_46 hl (k := 3) rfl (by rw [ex_23]; rfl) (by decide) rfl (fun ls hl => ?_)
              refine lv_goto (tgt := 26) hx hb dX3_layLines_49 (by decide) ?_
              exact ih x_23 lines_22 q_16 _ _ _ ⟨_, ⟨hN, L, wa, ga, f, rfl, hW, hG⟩, hS⟩ (lv_sub hl [1, 2, 3, 0] rfl)
        exact loop_17 5000 (0 : Int32) lines_4 L_14 _ _ _ ⟨_, ⟨hN, L, wa, ga, f, rfl, hW, hG⟩, hS⟩ (lv_sub hl [1, 2, 3, 0] rfl)
  exact loop_9 5000 (0 : Int32) lines L_6 _ _ _ ⟨_, ⟨hN, L, wa, ga, f, rfl, hW, hG⟩, hS⟩ (lv_sub hl [1, 4, 0] rfl)
def LX3_subtract_32 (lc : Int32) (a1 : Int32) (a2 : Int32) (a3 : Int64) (x_5 : Int64) (x_8 : Int64) : Nat → (Int32) → (Nat → Nat → Int64) → Option ((Nat → Nat → Int64))
  | 0, _, _ => none
  | n + 1, v9_10, lines_11 =>
    if lc < v9_10 then
    some lines_11
    else
    if jok v9_10 6 then
    if ¬ a3 = 0 then
    jlet (jgup lines_11 a1.toNatClampNeg v9_10.toNatClampNeg (((x_5 * (lines_11 a1.toNatClampNeg v9_10.toNatClampNeg)) - (x_8 * (lines_11 a2.toNatClampNeg v9_10.toNatClampNeg))) / a3)) (fun lines_23 => 
    jlet (v9_10 + (1 : Int32)) (fun x_24 => 
    LX3_subtract_32 lc a1 a2 a3 x_5 x_8 n x_24 lines_23))
    else none
    else none
def fX3_subtract (a1 : Int32) (a2 : Int32) (a3 : Int64) (lines : Nat → Nat → Int64) (lc : Int32) : Option ((Nat → Nat → Int64)) :=
  if a3 = (0 : Int64) then
  some lines
  else
  if jok a2 5 then
  if jok a2 6 then
  jlet (lines a2.toNatClampNeg a2.toNatClampNeg) (fun x_5 => 
  if jok a1 5 then
  jlet (lines a1.toNatClampNeg a2.toNatClampNeg) (fun x_8 => 
  jlet (a2 + (1 : Int32)) (fun x_9 => 
  (LX3_subtract_32 lc a1 a2 a3 x_5 x_8 5000 x_9 lines).bind (fun o_12 => 
  some o_12)))
  else none)
  else none
  else none
abbrev rmX3_subtract : Room := { frames := 0, cells := 0, slots := 0, locals := 0 }
set_option maxHeartbeats 4000000 in
set_option maxRecDepth 100000 in
theorem tX3_subtract (l : Launch) (D : va_G) (n0 n1 n2 n3 n4 n5 n6 : Nat) (cI cJ cZ cW cS cO cG : ClassId) (size : Int32) (wk : Nat → Int32) (w1 : Nat → Int32) (w2 : Nat → Int32) (wq : Nat → Int32) (wm : Nat → Int32) (flows : Nat → Int64) (mu : Int64) (ml : Int64) (nb : Nat → Int32) (lines : Nat → Nat → Int64) (lineOf : Nat → Int32) (lc : Int32) (a1 : Int32) (a2 : Int32) (a3 : Int64) {o : (Nat → Nat → Int64)} (hE : fX3_subtract a1 a2 a3 lines lc = some o) {w : va_W} (hw : NP n0 n1 n2 n3 n4 n5 n6 cI cJ cW cG size wk w1 w2 wq wm flows mu ml nb lines lineOf lc w) : JQv l yX3_subtract wsX3_subtract rmX3_subtract D vwCl (TY cI cJ cZ cW cS cO cG) [.ref n0, .int a1, .int a2, .long a3] w (fun v => NP n0 n1 n2 n3 n4 n5 n6 cI cJ cW cG size wk w1 w2 wq wm flows mu ml nb o lineOf lc v) := by
  obtain ⟨hN, L, wa, ga, f, rfl, hW, hG⟩ := hw
  refine JQv.of (cc := cX3_subtract) (maxL := 10) (by decide) rfl (Nat.le_of_ble_eq_true rfl) ?_
  intro p e s m args below meth c A ls Q C hK hA ret hS hl
  obtain ⟨⟨hx, hb, hml, hown, hts⟩, -⟩ := id C
  have hl : lv_has ls 10 [(0, .ref n0), (1, .int a1), (2, .int a2), (3, .long a3)] := hl
  have inX3 : ∀ w ∈ u_ws RX3 TX3 8, w ∈ wsX3_subtract := by decide +kernel
  have k0 := hts (.fieldLink RX3 38 "OhmNets$Net" "lines" "[[J") (by decide +kernel)
  have k1 := hts (.fieldLink RX3 44 "OhmNets$Net" "lineCount" "I") (by decide +kernel)
  refine lv_lload_n hx hb dX3_subtract_0 rfl (lv_at hl 3 rfl) ?_
  refine lv_lconst (v := (0 : Int64)) hx hb dX3_subtract_1 (by decide) ?_
  refine jl_ne (tgt := 7) hx hb dX3_subtract_2 dX3_subtract_3 (by decide) (fun c_1 => ?_) (fun c_1 => ?_)
  · have hE := jf hE c_1
    refine lv_aload_n hx hb dX3_subtract_7 rfl (lv_at hl 0 rfl) ?_
    refine va_get (D := D) (ci := 4) (v := .ref n5) (C := RX3) (T := TX3) (N := 8) hx hb hts inX3 hown hK hS.1 0 rfl rfl 5 (by decide) k0 (fun _ h => h) rfl dX3_subtract_8 ?_
    refine lv_iload_n hx hb dX3_subtract_11 rfl (lv_at hl 2 rfl) ?_
    obtain ⟨b_2, hE⟩ := jgd hE
    obtain ⟨a_3, ea_3, ma_3, fa_3⟩ := hG.1 _ b_2.2
    refine jn_ald hx hb hK hS.1 5 6 rfl rfl (jin.mpr b_2) ea_3 dX3_subtract_12 (Or.inr ⟨_, rfl⟩) ?_
    refine lv_iload_n hx hb dX3_subtract_13 rfl (lv_at hl 2 rfl) ?_
    obtain ⟨b_4, hE⟩ := jgd hE
    refine jn_lald hx hb hK hS.1 ma_3 1 fa_3 rfl (jin.mpr b_4) dX3_subtract_14 ?_
    refine lv_topl (fun x_5 ex_5 => ?_)
    have hE := jlv hE ex_5
    refine lv_lstore (lv' := [(5, .long x_5), (0, .ref n0), (1, .int a1), (2, .int a2), (3, .long a3)]) hx hb dX3_subtract_15 hl (by decide) rfl (fun ls hl => ?_)
    refine lv_aload_n hx hb dX3_subtract_17 rfl (lv_at hl 1 rfl) ?_
    refine va_get (D := D) (ci := 4) (v := .ref n5) (C := RX3) (T := TX3) (N := 8) hx hb hts inX3 hown hK hS.1 0 rfl rfl 5 (by decide) k0 (fun _ h => h) rfl dX3_subtract_18 ?_
    refine lv_iload_n hx hb dX3_subtract_21 rfl (lv_at hl 2 rfl) ?_
    obtain ⟨b_6, hE⟩ := jgd hE
    obtain ⟨a_7, ea_7, ma_7, fa_7⟩ := hG.1 _ b_6.2
    refine jn_ald hx hb hK hS.1 5 6 rfl rfl (jin.mpr b_6) ea_7 dX3_subtract_22 (Or.inr ⟨_, rfl⟩) ?_
    refine lv_iload_n hx hb dX3_subtract_23 rfl (lv_at hl 3 rfl) ?_
    refine jn_lald hx hb hK hS.1 ma_7 1 fa_7 rfl (jin.mpr b_4) dX3_subtract_24 ?_
    refine lv_topl (fun x_8 ex_8 => ?_)
    have hE := jlv hE ex_8
    refine lv_lstore (lv' := [(7, .long x_8), (5, .long x_5), (0, .ref n0), (1, .int a1), (2, .int a2), (3, .long a3)]) hx hb dX3_subtract_25 hl (by decide) rfl (fun ls hl => ?_)
    refine lv_iload_n hx hb dX3_subtract_27 rfl (lv_at hl 4 rfl) ?_
    refine lv_iconst (v := (1 : Int32)) hx hb dX3_subtract_28 (by decide) ?_
    refine lv_iadd hx hb dX3_subtract_29 ?_
    refine lv_topi (fun x_9 ex_9 => ?_)
    have hE := jlv hE ex_9
    refine lv_istore (lv' := [(9, .int x_9), (7, .long x_8), (5, .long x_5), (0, .ref n0), (1, .int a1), (2, .int a2), (3, .long a3)]) hx hb dX3_subtract_30 hl (by decide) rfl (fun ls hl => ?_)
    obtain ⟨o_12, L_13, hE⟩ := jbd hE
    have K_14 : jY p l e rmX3_subtract s m args below meth c 0 0 Q (NZ D vwCl A n0 n1 n2 n3 n4 n5 n6 cI cJ cW cG size wk w1 w2 wq wm flows mu ml nb o_12 lineOf lc s.heap) 10 [] 83 [] := by
      intro H locs ls hZ hl
      obtain ⟨_, ⟨hN, L, wa, ga, f, rfl, hW, hG⟩, hS⟩ := hZ
      obtain rfl := jsm hE
      exact ret ⟨hN, L, wa, ga, f, rfl, hW, hG⟩ hS dX3_subtract_83
    have loop_16 : ∀ (n : Nat) (v9_10 : Int32) (lines_11 : Nat → Nat → Int64), LX3_subtract_32 lc a1 a2 a3 x_5 x_8 n v9_10 lines_11 = some o_12 → jY p l e rmX3_subtract s m args below meth c 0 0 Q (NZ D vwCl A n0 n1 n2 n3 n4 n5 n6 cI cJ cW cG size wk w1 w2 wq wm flows mu ml nb lines_11 lineOf lc s.heap) 10 [(0, .ref n0), (1, .int a1), (2, .int a2), (3, .long a3), (5, .long x_5), (7, .long x_8), (9, .int v9_10)] 32 [] := by
      intro n
      induction n with
      | zero =>
        intro v9_10 lines_11 q_15
        have q_15 : none = some o_12 := q_15
        cases q_15
      | succ n ih =>
        intro v9_10 lines_11 q_15 H locs ls hZ hl
        obtain ⟨_, ⟨hN, L, wa, ga, f, rfl, hW, hG⟩, hS⟩ := hZ
        rw [LX3_subtract_32] at q_15
        refine lv_iload hx hb dX3_subtract_32 (lv_at hl 6 rfl) ?_
        refine lv_aload_n hx hb dX3_subtract_34 rfl (lv_at hl 0 rfl) ?_
        refine va_get (D := D) (ci := 4) (v := .int lc) (C := RX3) (T := TX3) (N := 8) hx hb hts inX3 hown hK hS.1 0 rfl rfl 7 (by decide) k1 (fun _ h => h) rfl dX3_subtract_35 ?_
        refine lv_icmp_gt (tgt := 83) hx hb dX3_subtract_38 (by decide) (fun c_17 => ?_) (fun c_17 => ?_)
        · have q_15 := jt q_15 c_17
          obtain rfl := jsm q_15
          exact K_14 _ _ _ ⟨_, ⟨hN, L, wa, ga, f, rfl, hW, hG⟩, hS⟩ (lv_sub hl [] rfl)
        · have q_15 := jf q_15 c_17
          refine lv_aload_n hx hb dX3_subtract_41 rfl (lv_at hl 0 rfl) ?_
          refine va_get (D := D) (ci := 4) (v := .ref n5) (C := RX3) (T := TX3) (N := 8) hx hb hts inX3 hown hK hS.1 0 rfl rfl 5 (by decide) k0 (fun _ h => h) rfl dX3_subtract_42 ?_
          refine lv_iload_n hx hb dX3_subtract_45 rfl (lv_at hl 1 rfl) ?_
          obtain ⟨a_18, ea_18, ma_18, fa_18⟩ := hG.1 _ b_6.2
          refine jn_ald hx hb hK hS.1 5 6 rfl rfl (jin.mpr b_6) ea_18 dX3_subtract_46 (Or.inr ⟨_, rfl⟩) ?_
          refine lv_iload hx hb dX3_subtract_47 (lv_at hl 6 rfl) ?_
          refine lv_lload hx hb dX3_subtract_49 (lv_at hl 4 rfl) ?_
          refine lv_aload_n hx hb dX3_subtract_51 rfl (lv_at hl 0 rfl) ?_
          refine va_get (D := D) (ci := 4) (v := .ref n5) (C := RX3) (T := TX3) (N := 8) hx hb hts inX3 hown hK hS.1 0 rfl rfl 5 (by decide) k0 (fun _ h => h) rfl dX3_subtract_52 ?_
          refine lv_iload_n hx hb dX3_subtract_55 rfl (lv_at hl 1 rfl) ?_
          obtain ⟨a_19, ea_19, ma_19, fa_19⟩ := hG.1 _ b_6.2
          refine jn_ald hx hb hK hS.1 5 6 rfl rfl (jin.mpr b_6) ea_19 dX3_subtract_56 (Or.inr ⟨_, rfl⟩) ?_
          refine lv_iload hx hb dX3_subtract_57 (lv_at hl 6 rfl) ?_
          obtain ⟨b_20, q_15⟩ := jgd q_15
          refine jn_lald hx hb hK hS.1 ma_19 1 fa_19 rfl (jin.mpr b_20) dX3_subtract_59 ?_
          refine lv_lmul hx hb dX3_subtract_60 ?_
          refine lv_lload hx hb dX3_subtract_61 (lv_at hl 5 rfl) ?_
          refine lv_aload_n hx hb dX3_subtract_63 rfl (lv_at hl 0 rfl) ?_
          refine va_get (D := D) (ci := 4) (v := .ref n5) (C := RX3) (T := TX3) (N := 8) hx hb hts inX3 hown hK hS.1 0 rfl rfl 5 (by decide) k0 (fun _ h => h) rfl dX3_subtract_64 ?_
          refine lv_iload_n hx hb dX3_subtract_67 rfl (lv_at hl 2 rfl) ?_
          obtain ⟨a_21, ea_21, ma_21, fa_21⟩ := hG.1 _ b_2.2
          refine jn_ald hx hb hK hS.1 5 6 rfl rfl (jin.mpr b_2) ea_21 dX3_subtract_68 (Or.inr ⟨_, rfl⟩) ?_
          refine lv_iload hx hb dX3_subtract_69 (lv_at hl 6 rfl) ?_
          refine jn_lald hx hb hK hS.1 ma_21 1 fa_21 rfl (jin.mpr b_20) dX3_subtract_71 ?_
          refine lv_lmul hx hb dX3_subtract_72 ?_
          refine lv_lsub hx hb dX3_subtract_73 ?_
          refine lv_lload_n hx hb dX3_subtract_74 rfl (lv_at hl 3 rfl) ?_
          obtain ⟨z_22, q_15⟩ := jgd q_15
          refine lv_ldiv hx hb dX3_subtract_75 z_22 ?_
          obtain ⟨lines_23, elines_23⟩ : ∃ y : Nat → Nat → Int64, y = jgup lines_11 a1.toNatClampNeg v9_10.toNatClampNeg (((x_5 * (lines_11 a1.toNatClampNeg v9_10.toNatClampNeg)) - (x_8 * (lines_11 a2.toNatClampNeg v9_10.toNatClampNeg))) / a3) := ⟨_, rfl⟩
          have q_15 := jlv q_15 elines_23
          refine jn_last hx hb hK hS ma_18 1 fa_18 b_6.2 ea_18 hG hW rfl (jin.mpr b_20) dX3_subtract_76 (fun H locs f hW hG hS => ?_)
          rw [← elines_23] at hG
          obtain ⟨x_24, ex_24⟩ : ∃ y : Int32, y = v9_10 + (1 : Int32) := ⟨_, rfl⟩
          have q_15 := jlv q_15 ex_24
          refine lv_iinc (v := x_24) (lv' := [(9, .int x_24), (0, .ref n0), (1, .int a1), (2, .int a2), (3, .long a3), (5, .long x_5), (7, .long x_8)]) hx hb dX3_subtract_77 hl (k := 6) rfl (by rw [ex_24]; rfl) (by decide) rfl (fun ls hl => ?_)
          refine lv_goto (tgt := 32) hx hb dX3_subtract_80 (by decide) ?_
          exact ih x_24 lines_23 q_15 _ _ _ ⟨_, ⟨hN, L, wa, ga, f, rfl, hW, hG⟩, hS⟩ (lv_sub hl [1, 2, 3, 4, 5, 6, 0] rfl)
    exact loop_16 5000 x_9 lines L_13 _ _ _ ⟨_, ⟨hN, L, wa, ga, f, rfl, hW, hG⟩, hS⟩ (lv_sub hl [3, 4, 5, 6, 2, 1, 0] rfl)
  · have hE := jt hE c_1
    obtain rfl := jsm hE
    exact ret ⟨hN, L, wa, ga, f, rfl, hW, hG⟩ hS dX3_subtract_6
def LX3_eliminate_34 (lc : Int32) (v1_1 : Int64) (v3_2 : Int32) : Nat → (Int32) → (Nat → Nat → Int64) → Option ((Nat → Nat → Int64))
  | 0, _, _ => none
  | n + 1, v6_16, lines_17 =>
    if lc ≤ v6_16 then
    some lines_17
    else
    (if v6_16 = v3_2 then
    some lines_17
    else
    (fX3_subtract v6_16 v3_2 v1_1 lines_17 lc).bind (fun o_28 => 
    some o_28)).bind (fun o_24 => 
    jlet (v6_16 + (1 : Int32)) (fun x_30 => 
    LX3_eliminate_34 lc v1_1 v3_2 n x_30 o_24))
def LX3_eliminate_4 (lc : Int32) : Nat → (Int64) → (Int32) → (Nat → Nat → Int64) → Option ((Int64 × (Nat → Nat → Int64)) ⊕ (Int64 × (Nat → Nat → Int64)))
  | 0, _, _, _ => none
  | n + 1, v1_1, v3_2, lines_3 =>
    if lc ≤ v3_2 then
    some (.inl (v1_1, lines_3))
    else
    if jok v3_2 5 then
    if jok v3_2 6 then
    jlet (lines_3 v3_2.toNatClampNeg v3_2.toNatClampNeg) (fun x_14 => 
    if x_14 = (0 : Int64) then
    some (.inr ((0 : Int64), lines_3))
    else
    (LX3_eliminate_34 lc v1_1 v3_2 5000 (0 : Int32) lines_3).bind (fun o_18 => 
    jlet (v3_2 + (1 : Int32)) (fun x_31 => 
    LX3_eliminate_4 lc n x_14 x_31 o_18)))
    else none
    else none
def fX3_eliminate (lines : Nat → Nat → Int64) (lc : Int32) : Option (Int64 × (Nat → Nat → Int64)) :=
  (LX3_eliminate_4 lc 5000 (1 : Int64) (0 : Int32) lines).bind (fun o_4 => jex o_4 (fun x_9 => 
  some (x_9.1, x_9.2)) some)
abbrev rmX3_eliminate : Room := { frames := 1, cells := 0, slots := 0, locals := 29 }
set_option maxHeartbeats 4000000 in
set_option maxRecDepth 100000 in
theorem tX3_eliminate (l : Launch) (D : va_G) (n0 n1 n2 n3 n4 n5 n6 : Nat) (cI cJ cZ cW cS cO cG : ClassId) (size : Int32) (wk : Nat → Int32) (w1 : Nat → Int32) (w2 : Nat → Int32) (wq : Nat → Int32) (wm : Nat → Int32) (flows : Nat → Int64) (mu : Int64) (ml : Int64) (nb : Nat → Int32) (lines : Nat → Nat → Int64) (lineOf : Nat → Int32) (lc : Int32) {o : Int64 × (Nat → Nat → Int64)} (hE : fX3_eliminate lines lc = some o) {w : va_W} (hw : NP n0 n1 n2 n3 n4 n5 n6 cI cJ cW cG size wk w1 w2 wq wm flows mu ml nb lines lineOf lc w) : JQl l yX3_eliminate wsX3_eliminate rmX3_eliminate D vwCl (TY cI cJ cZ cW cS cO cG) [.ref n0] w (fun x v => x = o.1 ∧ NP n0 n1 n2 n3 n4 n5 n6 cI cJ cW cG size wk w1 w2 wq wm flows mu ml nb o.2 lineOf lc v) := by
  obtain ⟨hN, L, wa, ga, f, rfl, hW, hG⟩ := hw
  refine JQl.of (cc := cX3_eliminate) (maxL := 7) (by decide) rfl (Nat.le_of_ble_eq_true rfl) ?_
  intro p e s m args below meth c A ls Q C hK hA ret hS hl
  obtain ⟨⟨hx, hb, hml, hown, hts⟩, -⟩ := id C
  have hl : lv_has ls 7 [(0, .ref n0)] := hl
  have inX3 : ∀ w ∈ u_ws RX3 TX3 8, w ∈ wsX3_eliminate := by decide +kernel
  have k0 := hts (.fieldLink RX3 44 "OhmNets$Net" "lineCount" "I") (by decide +kernel)
  have k1 := hts (.fieldLink RX3 38 "OhmNets$Net" "lines" "[[J") (by decide +kernel)
  refine lv_lconst (v := (1 : Int64)) hx hb dX3_eliminate_0 (by decide) ?_
  refine lv_lstore_n (lv' := [(1, .long (1 : Int64)), (0, .ref n0)]) hx hb dX3_eliminate_1 rfl hl (by decide) rfl (fun ls hl => ?_)
  refine lv_iconst (v := (0 : Int32)) hx hb dX3_eliminate_2 (by decide) ?_
  refine lv_istore_n (lv' := [(3, .int (0 : Int32)), (1, .long (1 : Int64)), (0, .ref n0)]) hx hb dX3_eliminate_3 rfl hl (by decide) rfl (fun ls hl => ?_)
  obtain ⟨o_4, L_5, hE⟩ := jbd hE
  have K_6 : ∀ x_9, o_4 = .inl x_9 → jY p l e rmX3_eliminate s m args below meth c 0 0 Q (NZ D vwCl A n0 n1 n2 n3 n4 n5 n6 cI cJ cW cG size wk w1 w2 wq wm flows mu ml nb x_9.2 lineOf lc s.heap) 7 [(1, .long x_9.1)] 72 [] := by
    intro x_9 ho H locs ls hZ hl
    obtain ⟨_, ⟨hN, L, wa, ga, f, rfl, hW, hG⟩, hS⟩ := hZ
    subst ho
    have hE := jexl hE
    refine lv_lload_n hx hb dX3_eliminate_72 rfl (lv_at hl 0 rfl) ?_
    obtain rfl := jsm hE
    exact ret ⟨rfl, hN, L, wa, ga, f, rfl, hW, hG⟩ hS dX3_eliminate_73
  have loop_8 : ∀ (n : Nat) (v1_1 : Int64) (v3_2 : Int32) (lines_3 : Nat → Nat → Int64), LX3_eliminate_4 lc n v1_1 v3_2 lines_3 = some o_4 → jY p l e rmX3_eliminate s m args below meth c 0 0 Q (NZ D vwCl A n0 n1 n2 n3 n4 n5 n6 cI cJ cW cG size wk w1 w2 wq wm flows mu ml nb lines_3 lineOf lc s.heap) 7 [(0, .ref n0), (1, .long v1_1), (3, .int v3_2)] 4 [] := by
    intro n
    induction n with
    | zero =>
      intro v1_1 v3_2 lines_3 q_7
      have q_7 : none = some o_4 := q_7
      cases q_7
    | succ n ih =>
      intro v1_1 v3_2 lines_3 q_7 H locs ls hZ hl
      obtain ⟨_, ⟨hN, L, wa, ga, f, rfl, hW, hG⟩, hS⟩ := hZ
      rw [LX3_eliminate_4] at q_7
      refine lv_iload_n hx hb dX3_eliminate_4 rfl (lv_at hl 2 rfl) ?_
      refine lv_aload_n hx hb dX3_eliminate_5 rfl (lv_at hl 0 rfl) ?_
      refine va_get (D := D) (ci := 4) (v := .int lc) (C := RX3) (T := TX3) (N := 8) hx hb hts inX3 hown hK hS.1 0 rfl rfl 7 (by decide) k0 (fun _ h => h) rfl dX3_eliminate_6 ?_
      refine lv_icmp_ge (tgt := 72) hx hb dX3_eliminate_9 (by decide) (fun c_10 => ?_) (fun c_10 => ?_)
      · have q_7 := jt q_7 c_10
        obtain rfl := jsm q_7
        exact K_6 _ rfl _ _ _ ⟨_, ⟨hN, L, wa, ga, f, rfl, hW, hG⟩, hS⟩ (lv_sub hl [1] rfl)
      · have q_7 := jf q_7 c_10
        refine lv_aload_n hx hb dX3_eliminate_12 rfl (lv_at hl 0 rfl) ?_
        refine va_get (D := D) (ci := 4) (v := .ref n5) (C := RX3) (T := TX3) (N := 8) hx hb hts inX3 hown hK hS.1 0 rfl rfl 5 (by decide) k1 (fun _ h => h) rfl dX3_eliminate_13 ?_
        refine lv_iload_n hx hb dX3_eliminate_16 rfl (lv_at hl 2 rfl) ?_
        obtain ⟨b_11, q_7⟩ := jgd q_7
        obtain ⟨a_12, ea_12, ma_12, fa_12⟩ := hG.1 _ b_11.2
        refine jn_ald hx hb hK hS.1 5 6 rfl rfl (jin.mpr b_11) ea_12 dX3_eliminate_17 (Or.inr ⟨_, rfl⟩) ?_
        refine lv_iload_n hx hb dX3_eliminate_18 rfl (lv_at hl 2 rfl) ?_
        obtain ⟨b_13, q_7⟩ := jgd q_7
        refine jn_lald hx hb hK hS.1 ma_12 1 fa_12 rfl (jin.mpr b_13) dX3_eliminate_19 ?_
        refine lv_topl (fun x_14 ex_14 => ?_)
        have q_7 := jlv q_7 ex_14
        refine lv_lstore (lv' := [(4, .long x_14), (0, .ref n0), (1, .long v1_1), (3, .int v3_2)]) hx hb dX3_eliminate_20 hl (by decide) rfl (fun ls hl => ?_)
        refine lv_lload hx hb dX3_eliminate_22 (lv_at hl 0 rfl) ?_
        refine lv_lconst (v := (0 : Int64)) hx hb dX3_eliminate_24 (by decide) ?_
        refine jl_ne (tgt := 31) hx hb dX3_eliminate_25 dX3_eliminate_26 (by decide) (fun c_15 => ?_) (fun c_15 => ?_)
        · have q_7 := jf q_7 c_15
          refine lv_iconst (v := (0 : Int32)) hx hb dX3_eliminate_31 (by decide) ?_
          refine lv_istore (lv' := [(6, .int (0 : Int32)), (4, .long x_14), (0, .ref n0), (1, .long v1_1), (3, .int v3_2)]) hx hb dX3_eliminate_32 hl (by decide) rfl (fun ls hl => ?_)
          obtain ⟨o_18, L_19, q_7⟩ := jbd q_7
          have K_20 : jY p l e rmX3_eliminate s m args below meth c 0 0 Q (NZ D vwCl A n0 n1 n2 n3 n4 n5 n6 cI cJ cW cG size wk w1 w2 wq wm flows mu ml nb o_18 lineOf lc s.heap) 7 [(0, .ref n0), (3, .int v3_2), (4, .long x_14)] 63 [] := by
            intro H locs ls hZ hl
            obtain ⟨_, ⟨hN, L, wa, ga, f, rfl, hW, hG⟩, hS⟩ := hZ
            refine lv_lload hx hb dX3_eliminate_63 (lv_at hl 2 rfl) ?_
            refine lv_lstore_n (lv' := [(1, .long x_14), (0, .ref n0), (3, .int v3_2), (4, .long x_14)]) hx hb dX3_eliminate_65 rfl hl (by decide) rfl (fun ls hl => ?_)
            obtain ⟨x_31, ex_31⟩ : ∃ y : Int32, y = v3_2 + (1 : Int32) := ⟨_, rfl⟩
            have q_7 := jlv q_7 ex_31
            refine lv_iinc (v := x_31) (lv' := [(3, .int x_31), (1, .long x_14), (0, .ref n0), (4, .long x_14)]) hx hb dX3_eliminate_66 hl (k := 2) rfl (by rw [ex_31]; rfl) (by decide) rfl (fun ls hl => ?_)
            refine lv_goto (tgt := 4) hx hb dX3_eliminate_69 (by decide) ?_
            exact ih x_14 x_31 o_18 q_7 _ _ _ ⟨_, ⟨hN, L, wa, ga, f, rfl, hW, hG⟩, hS⟩ (lv_sub hl [2, 1, 0] rfl)
          have loop_22 : ∀ (n : Nat) (v6_16 : Int32) (lines_17 : Nat → Nat → Int64), LX3_eliminate_34 lc v1_1 v3_2 n v6_16 lines_17 = some o_18 → jY p l e rmX3_eliminate s m args below meth c 0 0 Q (NZ D vwCl A n0 n1 n2 n3 n4 n5 n6 cI cJ cW cG size wk w1 w2 wq wm flows mu ml nb lines_17 lineOf lc s.heap) 7 [(0, .ref n0), (1, .long v1_1), (3, .int v3_2), (4, .long x_14), (6, .int v6_16)] 34 [] := by
            intro n
            induction n with
            | zero =>
              intro v6_16 lines_17 q_21
              have q_21 : none = some o_18 := q_21
              cases q_21
            | succ n ih =>
              intro v6_16 lines_17 q_21 H locs ls hZ hl
              obtain ⟨_, ⟨hN, L, wa, ga, f, rfl, hW, hG⟩, hS⟩ := hZ
              rw [LX3_eliminate_34] at q_21
              refine lv_iload hx hb dX3_eliminate_34 (lv_at hl 4 rfl) ?_
              refine lv_aload_n hx hb dX3_eliminate_36 rfl (lv_at hl 0 rfl) ?_
              refine va_get (D := D) (ci := 4) (v := .int lc) (C := RX3) (T := TX3) (N := 8) hx hb hts inX3 hown hK hS.1 0 rfl rfl 7 (by decide) k0 (fun _ h => h) rfl dX3_eliminate_37 ?_
              refine lv_icmp_ge (tgt := 63) hx hb dX3_eliminate_40 (by decide) (fun c_23 => ?_) (fun c_23 => ?_)
              · have q_21 := jt q_21 c_23
                obtain rfl := jsm q_21
                exact K_20 _ _ _ ⟨_, ⟨hN, L, wa, ga, f, rfl, hW, hG⟩, hS⟩ (lv_sub hl [0, 2, 3] rfl)
              · have q_21 := jf q_21 c_23
                refine lv_iload hx hb dX3_eliminate_43 (lv_at hl 4 rfl) ?_
                refine lv_iload_n hx hb dX3_eliminate_45 rfl (lv_at hl 2 rfl) ?_
                obtain ⟨o_24, r_26, q_21⟩ := jbd q_21
                have K_25 : jY p l e rmX3_eliminate s m args below meth c 0 0 Q (NZ D vwCl A n0 n1 n2 n3 n4 n5 n6 cI cJ cW cG size wk w1 w2 wq wm flows mu ml nb o_24 lineOf lc s.heap) 7 [(0, .ref n0), (1, .long v1_1), (3, .int v3_2), (4, .long x_14), (6, .int v6_16)] 57 [] := by
                  intro H locs ls hZ hl
                  obtain ⟨_, ⟨hN, L, wa, ga, f, rfl, hW, hG⟩, hS⟩ := hZ
                  obtain ⟨x_30, ex_30⟩ : ∃ y : Int32, y = v6_16 + (1 : Int32) := ⟨_, rfl⟩
                  have q_21 := jlv q_21 ex_30
                  refine lv_iinc (v := x_30) (lv' := [(6, .int x_30), (0, .ref n0), (1, .long v1_1), (3, .int v3_2), (4, .long x_14)]) hx hb dX3_eliminate_57 hl (k := 4) rfl (by rw [ex_30]; rfl) (by decide) rfl (fun ls hl => ?_)
                  refine lv_goto (tgt := 34) hx hb dX3_eliminate_60 (by decide) ?_
                  exact ih x_30 o_24 q_21 _ _ _ ⟨_, ⟨hN, L, wa, ga, f, rfl, hW, hG⟩, hS⟩ (lv_sub hl [1, 2, 3, 4, 0] rfl)
                refine lv_icmp_eq (tgt := 57) hx hb dX3_eliminate_46 (by decide) (fun c_27 => ?_) (fun c_27 => ?_)
                · have r_26 := jt r_26 c_27
                  obtain rfl := jsm r_26
                  exact K_25 _ _ _ ⟨_, ⟨hN, L, wa, ga, f, rfl, hW, hG⟩, hS⟩ (lv_sub hl [0, 1, 2, 3, 4] rfl)
                · have r_26 := jf r_26 c_27
                  refine lv_aload_n hx hb dX3_eliminate_49 rfl (lv_at hl 0 rfl) ?_
                  refine lv_iload hx hb dX3_eliminate_50 (lv_at hl 4 rfl) ?_
                  refine lv_iload_n hx hb dX3_eliminate_52 rfl (lv_at hl 2 rfl) ?_
                  refine lv_lload_n hx hb dX3_eliminate_53 rfl (lv_at hl 1 rfl) ?_
                  obtain ⟨o_28, h_29, r_26⟩ := jbd r_26
                  refine j_QVv (As := [.int v6_16, .int v3_2, .long v1_1]) (rest := []) (vc := (RX3, TX3, 8)) C hK hA hS (tX3_subtract l D n0 n1 n2 n3 n4 n5 n6 cI cJ cZ cW cS cO cG size wk w1 w2 wq wm flows mu ml nb lines_17 lineOf lc v6_16 v3_2 v1_1 h_29 ⟨hN, L, wa, ga, f, rfl, hW, hG⟩) (cwV 3 hts gX3_eliminate_X3_subtract rfl rfl rfl (by decide +kernel) ⟨Nat.le_of_ble_eq_true rfl, Nat.le_of_ble_eq_true rfl⟩) (q0 := 0) rfl (ci := 4) rfl rfl hl.1 rfl (Nat.le_of_ble_eq_true rfl) dX3_eliminate_54 ⟨Nat.zero_le _, Nat.zero_le _⟩ (fun w H locs hp hS => ?_)
                  obtain ⟨hN, L, wa, ga, f, rfl, hW, hG⟩ := hp
                  obtain rfl := jsm r_26
                  exact K_25 _ _ _ ⟨_, ⟨hN, L, wa, ga, f, rfl, hW, hG⟩, hS⟩ (lv_sub hl [0, 1, 2, 3, 4] rfl)
          exact loop_22 5000 (0 : Int32) lines_3 L_19 _ _ _ ⟨_, ⟨hN, L, wa, ga, f, rfl, hW, hG⟩, hS⟩ (lv_sub hl [2, 3, 4, 1, 0] rfl)
        · have q_7 := jt q_7 c_15
          refine lv_lconst (v := (0 : Int64)) hx hb dX3_eliminate_29 (by decide) ?_
          obtain rfl := jsm q_7
          have hE := jexr hE
          obtain rfl := jsm hE
          exact ret ⟨rfl, hN, L, wa, ga, f, rfl, hW, hG⟩ hS dX3_eliminate_30
  exact loop_8 5000 (1 : Int64) (0 : Int32) lines L_5 _ _ _ ⟨_, ⟨hN, L, wa, ga, f, rfl, hW, hG⟩, hS⟩ (lv_sub hl [2, 1, 0] rfl)
def fX3_solve (a1 : Int32) (a2 : Int32) (size : Int32) (w1 : Nat → Int32) (w2 : Nat → Int32) (flows : Nat → Int64) (lines : Nat → Nat → Int64) (lineOf : Nat → Int32) : Option (Int64 × (Nat → Nat → Int64) × (Nat → Int32) × Int32) :=
  (fX3_reachedFrom a1 size w1 w2).bind (fun o_1 => 
  (fX3_layLines o_1 a2 (0 : Int32) size w1 w2 flows lines lineOf).bind (fun o_3 => 
  if jok a1 6 then
  jlet (o_3.2.1 a1.toNatClampNeg) (fun x_6 => 
  (if x_6 < 0 then
  some o_3.1
  else
  if jok x_6 5 then
  if jok o_3.2.2 6 then
  jlet (jgup o_3.1 x_6.toNatClampNeg o_3.2.2.toNatClampNeg (1 : Int64)) (fun lines_14 => 
  some lines_14)
  else none
  else none).bind (fun o_7 => 
  (fX3_eliminate o_7 o_3.2.2).bind (fun o_15 => 
  some (o_15.1, o_15.2, o_3.2.1, o_3.2.2))))
  else none))
abbrev rmX3_solve : Room := { frames := 2, cells := 0, slots := 0, locals := 55 }
set_option maxHeartbeats 4000000 in
set_option maxRecDepth 100000 in
theorem tX3_solve (l : Launch) (D : va_G) (n0 n1 n2 n3 n4 n5 n6 : Nat) (cI cJ cZ cW cS cO cG : ClassId) (size : Int32) (wk : Nat → Int32) (w1 : Nat → Int32) (w2 : Nat → Int32) (wq : Nat → Int32) (wm : Nat → Int32) (flows : Nat → Int64) (mu : Int64) (ml : Int64) (nb : Nat → Int32) (lines : Nat → Nat → Int64) (lineOf : Nat → Int32) (lc : Int32) (a1 : Int32) (a2 : Int32) {o : Int64 × (Nat → Nat → Int64) × (Nat → Int32) × Int32} (hE : fX3_solve a1 a2 size w1 w2 flows lines lineOf = some o) {w : va_W} (hw : NP n0 n1 n2 n3 n4 n5 n6 cI cJ cW cG size wk w1 w2 wq wm flows mu ml nb lines lineOf lc w) : JQl l yX3_solve wsX3_solve rmX3_solve D vwCl (TY cI cJ cZ cW cS cO cG) [.ref n0, .int a1, .int a2] w (fun x v => x = o.1 ∧ NP n0 n1 n2 n3 n4 n5 n6 cI cJ cW cG size wk w1 w2 wq wm flows mu ml nb o.2.1 o.2.2.1 o.2.2.2 v) := by
  obtain ⟨hN, L, wa, ga, f, rfl, hW, hG⟩ := hw
  refine JQl.of (cc := cX3_solve) (maxL := 4) (by decide) rfl (Nat.le_of_ble_eq_true rfl) ?_
  intro p e s m args below meth c A ls Q C hK hA ret hS hl
  obtain ⟨⟨hx, hb, hml, hown, hts⟩, -⟩ := id C
  have hl : lv_has ls 4 [(0, .ref n0), (1, .int a1), (2, .int a2)] := hl
  have inX3 : ∀ w ∈ u_ws RX3 TX3 8, w ∈ wsX3_solve := by decide +kernel
  have k0 := hts (.fieldLink RX3 41 "OhmNets$Net" "lineOf" "[I") (by decide +kernel)
  have k1 := hts (.fieldLink RX3 38 "OhmNets$Net" "lines" "[[J") (by decide +kernel)
  have k2 := hts (.fieldLink RX3 44 "OhmNets$Net" "lineCount" "I") (by decide +kernel)
  refine lv_aload_n hx hb dX3_solve_0 rfl (lv_at hl 0 rfl) ?_
  refine lv_aload_n hx hb dX3_solve_1 rfl (lv_at hl 0 rfl) ?_
  refine lv_iload_n hx hb dX3_solve_2 rfl (lv_at hl 1 rfl) ?_
  obtain ⟨o_1, h_2, hE⟩ := jbd hE
  refine j_QVi (As := [.int a1]) (rest := [.ref n0]) (vc := (RX3, TX3, 8)) C hK hA hS (tX3_reachedFrom l D n0 n1 n2 n3 n4 n5 n6 cI cJ cZ cW cS cO cG size wk w1 w2 wq wm flows mu ml nb lines lineOf lc a1 h_2 ⟨hN, L, wa, ga, f, rfl, hW, hG⟩) (cwV 1 hts gX3_solve_X3_reachedFrom rfl rfl rfl (by decide +kernel) ⟨Nat.le_of_ble_eq_true rfl, Nat.le_of_ble_eq_true rfl⟩) (q0 := 0) rfl (ci := 4) rfl rfl hl.1 rfl (Nat.le_of_ble_eq_true rfl) dX3_solve_3 ⟨Nat.zero_le _, Nat.zero_le _⟩ (fun r w H locs hp hS => ?_)
  obtain ⟨er, hN, L, wa, ga, f, rfl, hW, hG⟩ := hp
  subst r
  refine lv_iload_n hx hb dX3_solve_6 rfl (lv_at hl 2 rfl) ?_
  refine lv_iconst (v := (0 : Int32)) hx hb dX3_solve_7 (by decide) ?_
  obtain ⟨o_3, h_4, hE⟩ := jbd hE
  refine j_QVv (As := [.int o_1, .int a2, .int (0 : Int32)]) (rest := []) (vc := (RX3, TX3, 8)) C hK hA hS (tX3_layLines l D n0 n1 n2 n3 n4 n5 n6 cI cJ cZ cW cS cO cG size wk w1 w2 wq wm flows mu ml nb lines lineOf lc o_1 a2 (0 : Int32) h_4 ⟨hN, L, wa, ga, f, rfl, hW, hG⟩) (cwV 3 hts gX3_solve_X3_layLines rfl rfl rfl (by decide +kernel) ⟨Nat.le_of_ble_eq_true rfl, Nat.le_of_ble_eq_true rfl⟩) (q0 := 0) rfl (ci := 4) rfl rfl hl.1 rfl (Nat.le_of_ble_eq_true rfl) dX3_solve_8 ⟨Nat.zero_le _, Nat.zero_le _⟩ (fun w H locs hp hS => ?_)
  obtain ⟨hN, L, wa, ga, f, rfl, hW, hG⟩ := hp
  refine lv_aload_n hx hb dX3_solve_11 rfl (lv_at hl 0 rfl) ?_
  refine va_get (D := D) (ci := 4) (v := .ref n6) (C := RX3) (T := TX3) (N := 8) hx hb hts inX3 hown hK hS.1 0 rfl rfl 6 (by decide) k0 (fun _ h => h) rfl dX3_solve_12 ?_
  refine lv_iload_n hx hb dX3_solve_15 rfl (lv_at hl 1 rfl) ?_
  obtain ⟨b_5, hE⟩ := jgd hE
  refine va_iald hx hb hK hS.1 6 0 rfl rfl (jin.mpr b_5) dX3_solve_16 ?_
  refine lv_topi (fun x_6 ex_6 => ?_)
  have hE := jlv hE ex_6
  refine lv_istore_n (lv' := [(3, .int x_6), (0, .ref n0), (1, .int a1), (2, .int a2)]) hx hb dX3_solve_17 rfl hl (by decide) rfl (fun ls hl => ?_)
  refine lv_iload_n hx hb dX3_solve_18 rfl (lv_at hl 0 rfl) ?_
  obtain ⟨o_7, r_9, hE⟩ := jbd hE
  have K_8 : jY p l e rmX3_solve s m args below meth c 0 0 Q (NZ D vwCl A n0 n1 n2 n3 n4 n5 n6 cI cJ cW cG size wk w1 w2 wq wm flows mu ml nb o_7 o_3.2.1 o_3.2.2 s.heap) 4 [(0, .ref n0)] 34 [] := by
    intro H locs ls hZ hl
    obtain ⟨_, ⟨hN, L, wa, ga, f, rfl, hW, hG⟩, hS⟩ := hZ
    refine lv_aload_n hx hb dX3_solve_34 rfl (lv_at hl 0 rfl) ?_
    obtain ⟨o_15, h_16, hE⟩ := jbd hE
    refine j_QVl (As := []) (rest := []) (vc := (RX3, TX3, 8)) C hK hA hS (tX3_eliminate l D n0 n1 n2 n3 n4 n5 n6 cI cJ cZ cW cS cO cG size wk w1 w2 wq wm flows mu ml nb o_7 o_3.2.1 o_3.2.2 h_16 ⟨hN, L, wa, ga, f, rfl, hW, hG⟩) (cwV 0 hts gX3_solve_X3_eliminate rfl rfl rfl (by decide +kernel) ⟨Nat.le_of_ble_eq_true rfl, Nat.le_of_ble_eq_true rfl⟩) (q0 := 0) rfl (ci := 4) rfl rfl hl.1 rfl (Nat.le_of_ble_eq_true rfl) dX3_solve_35 ⟨Nat.zero_le _, Nat.zero_le _⟩ (fun r w H locs hp hS => ?_)
    obtain ⟨er, hN, L, wa, ga, f, rfl, hW, hG⟩ := hp
    subst r
    obtain rfl := jsm hE
    exact ret ⟨rfl, hN, L, wa, ga, f, rfl, hW, hG⟩ hS dX3_solve_38
  refine lv_if_lt (tgt := 34) hx hb dX3_solve_19 (by decide) (fun c_10 => ?_) (fun c_10 => ?_)
  · have r_9 := jt r_9 c_10
    obtain rfl := jsm r_9
    exact K_8 _ _ _ ⟨_, ⟨hN, L, wa, ga, f, rfl, hW, hG⟩, hS⟩ (lv_sub hl [1] rfl)
  · have r_9 := jf r_9 c_10
    refine lv_aload_n hx hb dX3_solve_22 rfl (lv_at hl 1 rfl) ?_
    refine va_get (D := D) (ci := 4) (v := .ref n5) (C := RX3) (T := TX3) (N := 8) hx hb hts inX3 hown hK hS.1 0 rfl rfl 5 (by decide) k1 (fun _ h => h) rfl dX3_solve_23 ?_
    refine lv_iload_n hx hb dX3_solve_26 rfl (lv_at hl 0 rfl) ?_
    obtain ⟨b_11, r_9⟩ := jgd r_9
    obtain ⟨a_12, ea_12, ma_12, fa_12⟩ := hG.1 _ b_11.2
    refine jn_ald hx hb hK hS.1 5 6 rfl rfl (jin.mpr b_11) ea_12 dX3_solve_27 (Or.inr ⟨_, rfl⟩) ?_
    refine lv_aload_n hx hb dX3_solve_28 rfl (lv_at hl 1 rfl) ?_
    refine va_get (D := D) (ci := 4) (v := .int o_3.2.2) (C := RX3) (T := TX3) (N := 8) hx hb hts inX3 hown hK hS.1 0 rfl rfl 7 (by decide) k2 (fun _ h => h) rfl dX3_solve_29 ?_
    refine lv_lconst (v := (1 : Int64)) hx hb dX3_solve_32 (by decide) ?_
    obtain ⟨b_13, r_9⟩ := jgd r_9
    obtain ⟨lines_14, elines_14⟩ : ∃ y : Nat → Nat → Int64, y = jgup o_3.1 x_6.toNatClampNeg o_3.2.2.toNatClampNeg (1 : Int64) := ⟨_, rfl⟩
    have r_9 := jlv r_9 elines_14
    refine jn_last hx hb hK hS ma_12 1 fa_12 b_11.2 ea_12 hG hW rfl (jin.mpr b_13) dX3_solve_33 (fun H locs f hW hG hS => ?_)
    rw [← elines_14] at hG
    obtain rfl := jsm r_9
    exact K_8 _ _ _ ⟨_, ⟨hN, L, wa, ga, f, rfl, hW, hG⟩, hS⟩ (lv_sub hl [1] rfl)
def fX3_countTrees (size : Int32) (w1 : Nat → Int32) (w2 : Nat → Int32) (flows : Nat → Int64) (lines : Nat → Nat → Int64) (lineOf : Nat → Int32) (lc : Int32) : Option (Int32 × (Nat → Nat → Int64) × (Nat → Int32) × Int32) :=
  (fX3_knotsWithWires size w1 w2).bind (fun o_1 => 
  if o_1 = 0 then
  some ((1 : Int32), lines, lineOf, lc)
  else
  (fJ6_numberOfTrailingZeros_0f7a4 o_1).bind (fun o_4 => 
  (fX3_layLines o_1 o_4 (1 : Int32) size w1 w2 flows lines lineOf).bind (fun o_6 => 
  (fX3_eliminate o_6.1 o_6.2.2).bind (fun o_8 => 
  some (o_8.1.toInt32, o_8.2, o_6.2.1, o_6.2.2)))))
abbrev rmX3_countTrees : Room := { frames := 2, cells := 0, slots := 0, locals := 55 }
set_option maxHeartbeats 4000000 in
set_option maxRecDepth 100000 in
theorem tX3_countTrees (l : Launch) (D : va_G) (n0 n1 n2 n3 n4 n5 n6 : Nat) (cI cJ cZ cW cS cO cG : ClassId) (size : Int32) (wk : Nat → Int32) (w1 : Nat → Int32) (w2 : Nat → Int32) (wq : Nat → Int32) (wm : Nat → Int32) (flows : Nat → Int64) (mu : Int64) (ml : Int64) (nb : Nat → Int32) (lines : Nat → Nat → Int64) (lineOf : Nat → Int32) (lc : Int32) {o : Int32 × (Nat → Nat → Int64) × (Nat → Int32) × Int32} (hE : fX3_countTrees size w1 w2 flows lines lineOf lc = some o) {w : va_W} (hw : NP n0 n1 n2 n3 n4 n5 n6 cI cJ cW cG size wk w1 w2 wq wm flows mu ml nb lines lineOf lc w) : JQi l yX3_countTrees wsX3_countTrees rmX3_countTrees D vwCl (TY cI cJ cZ cW cS cO cG) [.ref n0] w (fun x v => x = o.1 ∧ NP n0 n1 n2 n3 n4 n5 n6 cI cJ cW cG size wk w1 w2 wq wm flows mu ml nb o.2.1 o.2.2.1 o.2.2.2 v) := by
  obtain ⟨hN, L, wa, ga, f, rfl, hW, hG⟩ := hw
  refine JQi.of (cc := cX3_countTrees) (maxL := 2) (by decide) rfl (Nat.le_of_ble_eq_true rfl) ?_
  intro p e s m args below meth c A ls Q C hK hA ret hS hl
  obtain ⟨⟨hx, hb, hml, hown, hts⟩, -⟩ := id C
  have hl : lv_has ls 2 [(0, .ref n0)] := hl
  refine lv_aload_n hx hb dX3_countTrees_0 rfl (lv_at hl 0 rfl) ?_
  obtain ⟨o_1, h_2, hE⟩ := jbd hE
  refine j_QVi (As := []) (rest := []) (vc := (RX3, TX3, 8)) C hK hA hS (tX3_knotsWithWires l D n0 n1 n2 n3 n4 n5 n6 cI cJ cZ cW cS cO cG size wk w1 w2 wq wm flows mu ml nb lines lineOf lc h_2 ⟨hN, L, wa, ga, f, rfl, hW, hG⟩) (cwV 0 hts gX3_countTrees_X3_knotsWithWires rfl rfl rfl (by decide +kernel) ⟨Nat.le_of_ble_eq_true rfl, Nat.le_of_ble_eq_true rfl⟩) (q0 := 0) rfl (ci := 4) rfl rfl hl.1 rfl (Nat.le_of_ble_eq_true rfl) dX3_countTrees_1 ⟨Nat.zero_le _, Nat.zero_le _⟩ (fun r w H locs hp hS => ?_)
  obtain ⟨er, hN, L, wa, ga, f, rfl, hW, hG⟩ := hp
  subst r
  refine lv_istore_n (lv' := [(1, .int o_1), (0, .ref n0)]) hx hb dX3_countTrees_4 rfl hl (by decide) rfl (fun ls hl => ?_)
  refine lv_iload_n hx hb dX3_countTrees_5 rfl (lv_at hl 0 rfl) ?_
  refine lv_if_ne (tgt := 11) hx hb dX3_countTrees_6 (by decide) (fun c_3 => ?_) (fun c_3 => ?_)
  · have hE := jf hE c_3
    refine lv_aload_n hx hb dX3_countTrees_11 rfl (lv_at hl 1 rfl) ?_
    refine lv_iload_n hx hb dX3_countTrees_12 rfl (lv_at hl 0 rfl) ?_
    refine lv_iload_n hx hb dX3_countTrees_13 rfl (lv_at hl 0 rfl) ?_
    obtain ⟨o_4, h_5, hE⟩ := jbd hE
    refine j_Si (As := [.int o_1]) (rest := [.int o_1, .ref n0]) (wf := NWX n0 n1 n2 n3 n4 n5 n6 cI cJ cW cG wa ga size flows mu ml nb lineOf lc ++ va_pl L f) C hK hS (jcut_nil hA hS) (tJ6_numberOfTrailingZeros_0f7a4 l D cI cJ cZ cW cS cO cG o_1 h_5) (va_cwS 1 hts gX3_countTrees_J6_numberOfTrailingZeros_0f7a4 rfl rfl rfl (by decide +kernel) ⟨Nat.le_of_ble_eq_true rfl, Nat.le_of_ble_eq_true rfl⟩) rfl hl.1 rfl (Nat.le_of_ble_eq_true rfl) dX3_countTrees_14 ⟨Nat.zero_le _, Nat.zero_le _⟩ (fun H locs hS => ?_)
    refine lv_iconst (v := (1 : Int32)) hx hb dX3_countTrees_17 (by decide) ?_
    obtain ⟨o_6, h_7, hE⟩ := jbd hE
    refine j_QVv (As := [.int o_1, .int o_4, .int (1 : Int32)]) (rest := []) (vc := (RX3, TX3, 8)) C hK hA hS (tX3_layLines l D n0 n1 n2 n3 n4 n5 n6 cI cJ cZ cW cS cO cG size wk w1 w2 wq wm flows mu ml nb lines lineOf lc o_1 o_4 (1 : Int32) h_7 ⟨hN, L, wa, ga, f, rfl, hW, hG⟩) (cwV 3 hts gX3_countTrees_X3_layLines rfl rfl rfl (by decide +kernel) ⟨Nat.le_of_ble_eq_true rfl, Nat.le_of_ble_eq_true rfl⟩) (q0 := 0) rfl (ci := 4) rfl rfl hl.1 rfl (Nat.le_of_ble_eq_true rfl) dX3_countTrees_18 ⟨Nat.zero_le _, Nat.zero_le _⟩ (fun w H locs hp hS => ?_)
    obtain ⟨hN, L, wa, ga, f, rfl, hW, hG⟩ := hp
    refine lv_aload_n hx hb dX3_countTrees_21 rfl (lv_at hl 1 rfl) ?_
    obtain ⟨o_8, h_9, hE⟩ := jbd hE
    refine j_QVl (As := []) (rest := []) (vc := (RX3, TX3, 8)) C hK hA hS (tX3_eliminate l D n0 n1 n2 n3 n4 n5 n6 cI cJ cZ cW cS cO cG size wk w1 w2 wq wm flows mu ml nb o_6.1 o_6.2.1 o_6.2.2 h_9 ⟨hN, L, wa, ga, f, rfl, hW, hG⟩) (cwV 0 hts gX3_countTrees_X3_eliminate rfl rfl rfl (by decide +kernel) ⟨Nat.le_of_ble_eq_true rfl, Nat.le_of_ble_eq_true rfl⟩) (q0 := 0) rfl (ci := 4) rfl rfl hl.1 rfl (Nat.le_of_ble_eq_true rfl) dX3_countTrees_22 ⟨Nat.zero_le _, Nat.zero_le _⟩ (fun r w H locs hp hS => ?_)
    obtain ⟨er, hN, L, wa, ga, f, rfl, hW, hG⟩ := hp
    subst r
    refine lv_l2i (v := o_8.1.toInt32) hx hb dX3_countTrees_25 rfl ?_
    obtain rfl := jsm hE
    exact ret ⟨rfl, hN, L, wa, ga, f, rfl, hW, hG⟩ hS rfl dX3_countTrees_26
  · have hE := jt hE c_3
    refine lv_iconst (v := (1 : Int32)) hx hb dX3_countTrees_9 (by decide) ?_
    obtain rfl := jsm hE
    exact ret ⟨rfl, hN, L, wa, ga, f, rfl, hW, hG⟩ hS rfl dX3_countTrees_10
def fX3_link (a1 : Int32) (a2 : Int32) (nb : Nat → Int32) : Option ((Nat → Int32)) :=
  if jok a1 6 then
  jlet (upd nb a1.toNatClampNeg ((nb a1.toNatClampNeg) ||| ((1 : Int32) <<< (a2 &&& 31)))) (fun nb_2 => 
  if jok a2 6 then
  jlet (upd nb_2 a2.toNatClampNeg ((nb_2 a2.toNatClampNeg) ||| ((1 : Int32) <<< (a1 &&& 31)))) (fun nb_4 => 
  some nb_4)
  else none)
  else none
abbrev rmX3_link : Room := { frames := 0, cells := 0, slots := 0, locals := 0 }
set_option maxHeartbeats 4000000 in
set_option maxRecDepth 100000 in
theorem tX3_link (l : Launch) (D : va_G) (n0 n1 n2 n3 n4 n5 n6 : Nat) (cI cJ cZ cW cS cO cG : ClassId) (size : Int32) (wk : Nat → Int32) (w1 : Nat → Int32) (w2 : Nat → Int32) (wq : Nat → Int32) (wm : Nat → Int32) (flows : Nat → Int64) (mu : Int64) (ml : Int64) (nb : Nat → Int32) (lines : Nat → Nat → Int64) (lineOf : Nat → Int32) (lc : Int32) (a1 : Int32) (a2 : Int32) {o : (Nat → Int32)} (hE : fX3_link a1 a2 nb = some o) {w : va_W} (hw : NP n0 n1 n2 n3 n4 n5 n6 cI cJ cW cG size wk w1 w2 wq wm flows mu ml nb lines lineOf lc w) : JQv l yX3_link wsX3_link rmX3_link D vwCl (TY cI cJ cZ cW cS cO cG) [.ref n0, .int a1, .int a2] w (fun v => NP n0 n1 n2 n3 n4 n5 n6 cI cJ cW cG size wk w1 w2 wq wm flows mu ml o lines lineOf lc v) := by
  obtain ⟨hN, L, wa, ga, f, rfl, hW, hG⟩ := hw
  refine JQv.of (cc := cX3_link) (maxL := 3) (by decide) rfl (Nat.le_of_ble_eq_true rfl) ?_
  intro p e s m args below meth c A ls Q C hK hA ret hS hl
  obtain ⟨⟨hx, hb, hml, hown, hts⟩, -⟩ := id C
  have hl : lv_has ls 3 [(0, .ref n0), (1, .int a1), (2, .int a2)] := hl
  have inX3 : ∀ w ∈ u_ws RX3 TX3 8, w ∈ wsX3_link := by decide +kernel
  have k0 := hts (.fieldLink RX3 32 "OhmNets$Net" "neighbours" "[I") (by decide +kernel)
  refine lv_aload_n hx hb dX3_link_0 rfl (lv_at hl 0 rfl) ?_
  refine va_get (D := D) (ci := 4) (v := .ref n4) (C := RX3) (T := TX3) (N := 8) hx hb hts inX3 hown hK hS.1 0 rfl rfl 4 (by decide) k0 (fun _ h => h) rfl dX3_link_1 ?_
  refine lv_iload_n hx hb dX3_link_4 rfl (lv_at hl 1 rfl) ?_
  refine lv_dup2_11 hx hb dX3_link_5 rfl rfl ?_
  obtain ⟨b_1, hE⟩ := jgd hE
  refine va_iald hx hb hK hS.1 4 0 rfl rfl (jin.mpr b_1) dX3_link_6 ?_
  refine lv_iconst (v := (1 : Int32)) hx hb dX3_link_7 (by decide) ?_
  refine lv_iload_n hx hb dX3_link_8 rfl (lv_at hl 2 rfl) ?_
  refine lv_ishl hx hb dX3_link_9 ?_
  refine lv_ior hx hb dX3_link_10 ?_
  obtain ⟨nb_2, enb_2⟩ : ∃ y : Nat → Int32, y = upd nb a1.toNatClampNeg ((nb a1.toNatClampNeg) ||| ((1 : Int32) <<< (a2 &&& 31))) := ⟨_, rfl⟩
  have hE := jlv hE enb_2
  refine j_iast (w' := NWX n0 n1 n2 n3 n4 n5 n6 cI cJ cW cG wa ga size flows mu ml nb_2 lineOf lc ++ va_pl L f) hx hb hK hS 4 0 rfl rfl (jin.mpr b_1) (by rw [enb_2]; rfl) dX3_link_11 (fun H locs hS => ?_)
  refine lv_aload_n hx hb dX3_link_12 rfl (lv_at hl 0 rfl) ?_
  refine va_get (D := D) (ci := 4) (v := .ref n4) (C := RX3) (T := TX3) (N := 8) hx hb hts inX3 hown hK hS.1 0 rfl rfl 4 (by decide) k0 (fun _ h => h) rfl dX3_link_13 ?_
  refine lv_iload_n hx hb dX3_link_16 rfl (lv_at hl 2 rfl) ?_
  refine lv_dup2_11 hx hb dX3_link_17 rfl rfl ?_
  obtain ⟨b_3, hE⟩ := jgd hE
  refine va_iald hx hb hK hS.1 4 0 rfl rfl (jin.mpr b_3) dX3_link_18 ?_
  refine lv_iconst (v := (1 : Int32)) hx hb dX3_link_19 (by decide) ?_
  refine lv_iload_n hx hb dX3_link_20 rfl (lv_at hl 1 rfl) ?_
  refine lv_ishl hx hb dX3_link_21 ?_
  refine lv_ior hx hb dX3_link_22 ?_
  obtain ⟨nb_4, enb_4⟩ : ∃ y : Nat → Int32, y = upd nb_2 a2.toNatClampNeg ((nb_2 a2.toNatClampNeg) ||| ((1 : Int32) <<< (a1 &&& 31))) := ⟨_, rfl⟩
  have hE := jlv hE enb_4
  refine j_iast (w' := NWX n0 n1 n2 n3 n4 n5 n6 cI cJ cW cG wa ga size flows mu ml nb_4 lineOf lc ++ va_pl L f) hx hb hK hS 4 0 rfl rfl (jin.mpr b_3) (by rw [enb_4]; rfl) dX3_link_23 (fun H locs hS => ?_)
  obtain rfl := jsm hE
  exact ret ⟨hN, L, wa, ga, f, rfl, hW, hG⟩ hS dX3_link_24
def LX3_layNeighbours_2 : Nat → (Int32) → (Nat → Int32) → Option ((Nat → Int32))
  | 0, _, _ => none
  | n + 1, v2_1, nb_2 =>
    if (6 : Int32) ≤ v2_1 then
    some nb_2
    else
    if jok v2_1 6 then
    jlet (upd nb_2 v2_1.toNatClampNeg (0 : Int32)) (fun nb_10 => 
    jlet (v2_1 + (1 : Int32)) (fun x_11 => 
    LX3_layNeighbours_2 n x_11 nb_10))
    else none
def LX3_layNeighbours_23 (size : Int32) (w1 : Nat → Int32) (w2 : Nat → Int32) (a1 : Int32) : Nat → (Int32) → (Nat → Int32) → Option ((Nat → Int32))
  | 0, _, _ => none
  | n + 1, v2_12, nb_13 =>
    if size ≤ v2_12 then
    some nb_13
    else
    if jok v2_12 size.toNatClampNeg then
    (fX4_touches a1 (w1 v2_12.toNatClampNeg) (w2 v2_12.toNatClampNeg)).bind (fun o_22 => 
    (if o_22 = 0 then
    some nb_13
    else
    (fX3_link (w1 v2_12.toNatClampNeg) (w2 v2_12.toNatClampNeg) nb_13).bind (fun o_30 => 
    some o_30)).bind (fun o_24 => 
    jlet (v2_12 + (1 : Int32)) (fun x_32 => 
    LX3_layNeighbours_23 size w1 w2 a1 n x_32 o_24)))
    else none
def fX3_layNeighbours (a1 : Int32) (size : Int32) (w1 : Nat → Int32) (w2 : Nat → Int32) (nb : Nat → Int32) : Option ((Nat → Int32)) :=
  (LX3_layNeighbours_2 5000 (0 : Int32) nb).bind (fun o_3 => 
  (LX3_layNeighbours_23 size w1 w2 a1 5000 (0 : Int32) o_3).bind (fun o_14 => 
  some o_14))
abbrev rmX3_layNeighbours : Room := { frames := 1, cells := 0, slots := 0, locals := 22 }
set_option maxHeartbeats 4000000 in
set_option maxRecDepth 100000 in
theorem tX3_layNeighbours (l : Launch) (D : va_G) (n0 n1 n2 n3 n4 n5 n6 : Nat) (cI cJ cZ cW cS cO cG : ClassId) (size : Int32) (wk : Nat → Int32) (w1 : Nat → Int32) (w2 : Nat → Int32) (wq : Nat → Int32) (wm : Nat → Int32) (flows : Nat → Int64) (mu : Int64) (ml : Int64) (nb : Nat → Int32) (lines : Nat → Nat → Int64) (lineOf : Nat → Int32) (lc : Int32) (a1 : Int32) {o : (Nat → Int32)} (hE : fX3_layNeighbours a1 size w1 w2 nb = some o) {w : va_W} (hw : NP n0 n1 n2 n3 n4 n5 n6 cI cJ cW cG size wk w1 w2 wq wm flows mu ml nb lines lineOf lc w) : JQv l yX3_layNeighbours wsX3_layNeighbours rmX3_layNeighbours D vwCl (TY cI cJ cZ cW cS cO cG) [.ref n0, .int a1] w (fun v => NP n0 n1 n2 n3 n4 n5 n6 cI cJ cW cG size wk w1 w2 wq wm flows mu ml o lines lineOf lc v) := by
  obtain ⟨hN, L, wa, ga, f, rfl, hW, hG⟩ := hw
  refine JQv.of (cc := cX3_layNeighbours) (maxL := 3) (by decide) rfl (Nat.le_of_ble_eq_true rfl) ?_
  intro p e s m args below meth c A ls Q C hK hA ret hS hl
  obtain ⟨⟨hx, hb, hml, hown, hts⟩, -⟩ := id C
  have hl : lv_has ls 3 [(0, .ref n0), (1, .int a1)] := hl
  have inX3 : ∀ w ∈ u_ws RX3 TX3 8, w ∈ wsX3_layNeighbours := by decide +kernel
  have inX4 : ∀ w ∈ u_ws RX4 TX4 3, w ∈ wsX3_layNeighbours := by decide +kernel
  have inX2 : ∀ w ∈ u_ws RX2 TX2 4, w ∈ wsX3_layNeighbours := by decide +kernel
  have inX8 : ∀ w ∈ u_ws RX8 TX8 5, w ∈ wsX3_layNeighbours := by decide +kernel
  have k0 := hts (.fieldLink RX3 32 "OhmNets$Net" "neighbours" "[I") (by decide +kernel)
  have k1 := hts (.fieldLink RX3 21 "OhmNets$Net" "size" "I") (by decide +kernel)
  have k2 := hts (.fieldLink RX3 11 "OhmNets$Net" "wires" "[LOhmNets$OneWire;") (by decide +kernel)
  have k3 := hts (.fieldLink RX3 64 "OhmNets$OneWire" "first" "I") (by decide +kernel)
  have k4 := hts (.fieldLink RX3 67 "OhmNets$OneWire" "second" "I") (by decide +kernel)
  refine lv_iconst (v := (0 : Int32)) hx hb dX3_layNeighbours_0 (by decide) ?_
  refine lv_istore_n (lv' := [(2, .int (0 : Int32)), (0, .ref n0), (1, .int a1)]) hx hb dX3_layNeighbours_1 rfl hl (by decide) rfl (fun ls hl => ?_)
  obtain ⟨o_3, L_4, hE⟩ := jbd hE
  have K_5 : jY p l e rmX3_layNeighbours s m args below meth c 0 0 Q (NZ D vwCl A n0 n1 n2 n3 n4 n5 n6 cI cJ cW cG size wk w1 w2 wq wm flows mu ml o_3 lines lineOf lc s.heap) 3 [(0, .ref n0), (1, .int a1)] 21 [] := by
    intro H locs ls hZ hl
    obtain ⟨_, ⟨hN, L, wa, ga, f, rfl, hW, hG⟩, hS⟩ := hZ
    refine lv_iconst (v := (0 : Int32)) hx hb dX3_layNeighbours_21 (by decide) ?_
    refine lv_istore_n (lv' := [(2, .int (0 : Int32)), (0, .ref n0), (1, .int a1)]) hx hb dX3_layNeighbours_22 rfl hl (by decide) rfl (fun ls hl => ?_)
    obtain ⟨o_14, L_15, hE⟩ := jbd hE
    have K_16 : jY p l e rmX3_layNeighbours s m args below meth c 0 0 Q (NZ D vwCl A n0 n1 n2 n3 n4 n5 n6 cI cJ cW cG size wk w1 w2 wq wm flows mu ml o_14 lines lineOf lc s.heap) 3 [] 72 [] := by
      intro H locs ls hZ hl
      obtain ⟨_, ⟨hN, L, wa, ga, f, rfl, hW, hG⟩, hS⟩ := hZ
      obtain rfl := jsm hE
      exact ret ⟨hN, L, wa, ga, f, rfl, hW, hG⟩ hS dX3_layNeighbours_72
    have loop_18 : ∀ (n : Nat) (v2_12 : Int32) (nb_13 : Nat → Int32), LX3_layNeighbours_23 size w1 w2 a1 n v2_12 nb_13 = some o_14 → jY p l e rmX3_layNeighbours s m args below meth c 0 0 Q (NZ D vwCl A n0 n1 n2 n3 n4 n5 n6 cI cJ cW cG size wk w1 w2 wq wm flows mu ml nb_13 lines lineOf lc s.heap) 3 [(0, .ref n0), (1, .int a1), (2, .int v2_12)] 23 [] := by
      intro n
      induction n with
      | zero =>
        intro v2_12 nb_13 q_17
        have q_17 : none = some o_14 := q_17
        cases q_17
      | succ n ih =>
        intro v2_12 nb_13 q_17 H locs ls hZ hl
        obtain ⟨_, ⟨hN, L, wa, ga, f, rfl, hW, hG⟩, hS⟩ := hZ
        rw [LX3_layNeighbours_23] at q_17
        refine lv_iload_n hx hb dX3_layNeighbours_23 rfl (lv_at hl 2 rfl) ?_
        refine lv_aload_n hx hb dX3_layNeighbours_24 rfl (lv_at hl 0 rfl) ?_
        refine va_get (D := D) (ci := 4) (v := .int size) (C := RX3) (T := TX3) (N := 8) hx hb hts inX3 hown hK hS.1 0 rfl rfl 2 (by decide) k1 (fun _ h => h) rfl dX3_layNeighbours_25 ?_
        refine lv_icmp_ge (tgt := 72) hx hb dX3_layNeighbours_28 (by decide) (fun c_19 => ?_) (fun c_19 => ?_)
        · have q_17 := jt q_17 c_19
          obtain rfl := jsm q_17
          exact K_16 _ _ _ ⟨_, ⟨hN, L, wa, ga, f, rfl, hW, hG⟩, hS⟩ (lv_sub hl [] rfl)
        · have q_17 := jf q_17 c_19
          refine lv_aload_n hx hb dX3_layNeighbours_31 rfl (lv_at hl 0 rfl) ?_
          refine va_get (D := D) (ci := 4) (v := .ref n1) (C := RX3) (T := TX3) (N := 8) hx hb hts inX3 hown hK hS.1 0 rfl rfl 0 (by decide) k2 (fun _ h => h) rfl dX3_layNeighbours_32 ?_
          refine lv_iload_n hx hb dX3_layNeighbours_35 rfl (lv_at hl 2 rfl) ?_
          obtain ⟨b_20, q_17⟩ := jgd q_17
          obtain ⟨a_21, ea_21, ma_21, fa_21⟩ := hW _ b_20.2
          refine jn_ald hx hb hK hS.1 1 3 rfl rfl (jin.mpr ⟨b_20.1, Nat.lt_of_lt_of_le b_20.2 hN⟩) ea_21 dX3_layNeighbours_36 (Or.inl ⟨_, rfl⟩) ?_
          refine lv_iload_n hx hb dX3_layNeighbours_37 rfl (lv_at hl 1 rfl) ?_
          obtain ⟨o_22, h_23, q_17⟩ := jbd q_17
          refine jn_touch (kn := a1) (rest := []) C hK hA hS ma_21 fa_21 (tX4_touches l D _ cI cJ cZ cW cS cO cG _ _ _ _ _ a1 h_23) (cwV 1 hts gX3_layNeighbours_X4_touches rfl rfl rfl (by decide +kernel) ⟨Nat.le_of_ble_eq_true rfl, Nat.le_of_ble_eq_true rfl⟩) (va_cwU 1 hts gX3_layNeighbours_X4_touches_u74X2 rfl rfl rfl rfl (by decide +kernel) ⟨Nat.le_of_ble_eq_true rfl, Nat.le_of_ble_eq_true rfl⟩) (va_cwU 1 hts gX3_layNeighbours_X4_touches_u74X8 rfl rfl rfl rfl (by decide +kernel) ⟨Nat.le_of_ble_eq_true rfl, Nat.le_of_ble_eq_true rfl⟩) hl.1 rfl (Nat.le_of_ble_eq_true rfl) dX3_layNeighbours_38 ⟨Nat.zero_le _, Nat.zero_le _⟩ (fun H locs hS => ?_)
          obtain ⟨o_24, r_26, q_17⟩ := jbd q_17
          have K_25 : jY p l e rmX3_layNeighbours s m args below meth c 0 0 Q (NZ D vwCl A n0 n1 n2 n3 n4 n5 n6 cI cJ cW cG size wk w1 w2 wq wm flows mu ml o_24 lines lineOf lc s.heap) 3 [(0, .ref n0), (1, .int a1), (2, .int v2_12)] 66 [] := by
            intro H locs ls hZ hl
            obtain ⟨_, ⟨hN, L, wa, ga, f, rfl, hW, hG⟩, hS⟩ := hZ
            obtain ⟨x_32, ex_32⟩ : ∃ y : Int32, y = v2_12 + (1 : Int32) := ⟨_, rfl⟩
            have q_17 := jlv q_17 ex_32
            refine lv_iinc (v := x_32) (lv' := [(2, .int x_32), (0, .ref n0), (1, .int a1)]) hx hb dX3_layNeighbours_66 hl (k := 2) rfl (by rw [ex_32]; rfl) (by decide) rfl (fun ls hl => ?_)
            refine lv_goto (tgt := 23) hx hb dX3_layNeighbours_69 (by decide) ?_
            exact ih x_32 o_24 q_17 _ _ _ ⟨_, ⟨hN, L, wa, ga, f, rfl, hW, hG⟩, hS⟩ (lv_sub hl [1, 2, 0] rfl)
          refine lv_if_eq (tgt := 66) hx hb dX3_layNeighbours_41 (by decide) (fun c_27 => ?_) (fun c_27 => ?_)
          · have r_26 := jt r_26 c_27
            obtain rfl := jsm r_26
            exact K_25 _ _ _ ⟨_, ⟨hN, L, wa, ga, f, rfl, hW, hG⟩, hS⟩ (lv_sub hl [0, 1, 2] rfl)
          · have r_26 := jf r_26 c_27
            refine lv_aload_n hx hb dX3_layNeighbours_44 rfl (lv_at hl 0 rfl) ?_
            refine lv_aload_n hx hb dX3_layNeighbours_45 rfl (lv_at hl 0 rfl) ?_
            refine va_get (D := D) (ci := 4) (v := .ref n1) (C := RX3) (T := TX3) (N := 8) hx hb hts inX3 hown hK hS.1 0 rfl rfl 0 (by decide) k2 (fun _ h => h) rfl dX3_layNeighbours_46 ?_
            refine lv_iload_n hx hb dX3_layNeighbours_49 rfl (lv_at hl 2 rfl) ?_
            obtain ⟨a_28, ea_28, ma_28, fa_28⟩ := hW _ b_20.2
            refine jn_ald hx hb hK hS.1 1 3 rfl rfl (jin.mpr ⟨b_20.1, Nat.lt_of_lt_of_le b_20.2 hN⟩) ea_28 dX3_layNeighbours_50 (Or.inl ⟨_, rfl⟩) ?_
            refine jn_first hx hb hts inX4 inX2 inX8 hown hK hS.1 ma_28 fa_28 k3 dX3_layNeighbours_51 ?_
            refine lv_aload_n hx hb dX3_layNeighbours_54 rfl (lv_at hl 0 rfl) ?_
            refine va_get (D := D) (ci := 4) (v := .ref n1) (C := RX3) (T := TX3) (N := 8) hx hb hts inX3 hown hK hS.1 0 rfl rfl 0 (by decide) k2 (fun _ h => h) rfl dX3_layNeighbours_55 ?_
            refine lv_iload_n hx hb dX3_layNeighbours_58 rfl (lv_at hl 2 rfl) ?_
            obtain ⟨a_29, ea_29, ma_29, fa_29⟩ := hW _ b_20.2
            refine jn_ald hx hb hK hS.1 1 3 rfl rfl (jin.mpr ⟨b_20.1, Nat.lt_of_lt_of_le b_20.2 hN⟩) ea_29 dX3_layNeighbours_59 (Or.inl ⟨_, rfl⟩) ?_
            refine jn_second hx hb hts inX4 inX2 inX8 hown hK hS.1 ma_29 fa_29 k4 dX3_layNeighbours_60 ?_
            obtain ⟨o_30, h_31, r_26⟩ := jbd r_26
            refine j_QVv (As := [.int (w1 v2_12.toNatClampNeg), .int (w2 v2_12.toNatClampNeg)]) (rest := []) (vc := (RX3, TX3, 8)) C hK hA hS (tX3_link l D n0 n1 n2 n3 n4 n5 n6 cI cJ cZ cW cS cO cG size wk w1 w2 wq wm flows mu ml nb_13 lines lineOf lc (w1 v2_12.toNatClampNeg) (w2 v2_12.toNatClampNeg) h_31 ⟨hN, L, wa, ga, f, rfl, hW, hG⟩) (cwV 2 hts gX3_layNeighbours_X3_link rfl rfl rfl (by decide +kernel) ⟨Nat.le_of_ble_eq_true rfl, Nat.le_of_ble_eq_true rfl⟩) (q0 := 0) rfl (ci := 4) rfl rfl hl.1 rfl (Nat.le_of_ble_eq_true rfl) dX3_layNeighbours_63 ⟨Nat.zero_le _, Nat.zero_le _⟩ (fun w H locs hp hS => ?_)
            obtain ⟨hN, L, wa, ga, f, rfl, hW, hG⟩ := hp
            obtain rfl := jsm r_26
            exact K_25 _ _ _ ⟨_, ⟨hN, L, wa, ga, f, rfl, hW, hG⟩, hS⟩ (lv_sub hl [0, 1, 2] rfl)
    exact loop_18 5000 (0 : Int32) o_3 L_15 _ _ _ ⟨_, ⟨hN, L, wa, ga, f, rfl, hW, hG⟩, hS⟩ (lv_sub hl [1, 2, 0] rfl)
  have loop_7 : ∀ (n : Nat) (v2_1 : Int32) (nb_2 : Nat → Int32), LX3_layNeighbours_2 n v2_1 nb_2 = some o_3 → jY p l e rmX3_layNeighbours s m args below meth c 0 0 Q (NZ D vwCl A n0 n1 n2 n3 n4 n5 n6 cI cJ cW cG size wk w1 w2 wq wm flows mu ml nb_2 lines lineOf lc s.heap) 3 [(0, .ref n0), (1, .int a1), (2, .int v2_1)] 2 [] := by
    intro n
    induction n with
    | zero =>
      intro v2_1 nb_2 q_6
      have q_6 : none = some o_3 := q_6
      cases q_6
    | succ n ih =>
      intro v2_1 nb_2 q_6 H locs ls hZ hl
      obtain ⟨_, ⟨hN, L, wa, ga, f, rfl, hW, hG⟩, hS⟩ := hZ
      rw [LX3_layNeighbours_2] at q_6
      refine lv_iload_n hx hb dX3_layNeighbours_2 rfl (lv_at hl 2 rfl) ?_
      refine lv_bipush (v := (6 : Int32)) hx hb dX3_layNeighbours_3 (by decide) ?_
      refine lv_icmp_ge (tgt := 21) hx hb dX3_layNeighbours_5 (by decide) (fun c_8 => ?_) (fun c_8 => ?_)
      · have q_6 := jt q_6 c_8
        obtain rfl := jsm q_6
        exact K_5 _ _ _ ⟨_, ⟨hN, L, wa, ga, f, rfl, hW, hG⟩, hS⟩ (lv_sub hl [0, 1] rfl)
      · have q_6 := jf q_6 c_8
        refine lv_aload_n hx hb dX3_layNeighbours_8 rfl (lv_at hl 0 rfl) ?_
        refine va_get (D := D) (ci := 4) (v := .ref n4) (C := RX3) (T := TX3) (N := 8) hx hb hts inX3 hown hK hS.1 0 rfl rfl 4 (by decide) k0 (fun _ h => h) rfl dX3_layNeighbours_9 ?_
        refine lv_iload_n hx hb dX3_layNeighbours_12 rfl (lv_at hl 2 rfl) ?_
        refine lv_iconst (v := (0 : Int32)) hx hb dX3_layNeighbours_13 (by decide) ?_
        obtain ⟨b_9, q_6⟩ := jgd q_6
        obtain ⟨nb_10, enb_10⟩ : ∃ y : Nat → Int32, y = upd nb_2 v2_1.toNatClampNeg (0 : Int32) := ⟨_, rfl⟩
        have q_6 := jlv q_6 enb_10
        refine j_iast (w' := NWX n0 n1 n2 n3 n4 n5 n6 cI cJ cW cG wa ga size flows mu ml nb_10 lineOf lc ++ va_pl L f) hx hb hK hS 4 0 rfl rfl (jin.mpr b_9) (by rw [enb_10]; rfl) dX3_layNeighbours_14 (fun H locs hS => ?_)
        obtain ⟨x_11, ex_11⟩ : ∃ y : Int32, y = v2_1 + (1 : Int32) := ⟨_, rfl⟩
        have q_6 := jlv q_6 ex_11
        refine lv_iinc (v := x_11) (lv' := [(2, .int x_11), (0, .ref n0), (1, .int a1)]) hx hb dX3_layNeighbours_15 hl (k := 2) rfl (by rw [ex_11]; rfl) (by decide) rfl (fun ls hl => ?_)
        refine lv_goto (tgt := 2) hx hb dX3_layNeighbours_18 (by decide) ?_
        exact ih x_11 nb_10 q_6 _ _ _ ⟨_, ⟨hN, L, wa, ga, f, rfl, hW, hG⟩, hS⟩ (lv_sub hl [1, 2, 0] rfl)
  exact loop_7 5000 (0 : Int32) nb L_4 _ _ _ ⟨_, ⟨hN, L, wa, ga, f, rfl, hW, hG⟩, hS⟩ (lv_sub hl [1, 2, 0] rfl)
def LX3_takeAway_16 (a1 : Int32) : Nat → (Int32) → (Nat → Int32) → Option ((Nat → Int32))
  | 0, _, _ => none
  | n + 1, v3_4, nb_5 =>
    if (6 : Int32) ≤ v3_4 then
    some nb_5
    else
    if jok v3_4 6 then
    jlet (upd nb_5 v3_4.toNatClampNeg ((nb_5 v3_4.toNatClampNeg) &&& (((1 : Int32) <<< (a1 &&& 31)) ^^^ (-1 : Int32)))) (fun nb_13 => 
    jlet (v3_4 + (1 : Int32)) (fun x_14 => 
    LX3_takeAway_16 a1 n x_14 nb_13))
    else none
def fX3_takeAway (a1 : Int32) (nb : Nat → Int32) : Option ((Nat → Int32)) :=
  if jok a1 6 then
  jlet (nb a1.toNatClampNeg) (fun x_2 => 
  jlet (upd nb a1.toNatClampNeg (0 : Int32)) (fun nb_3 => 
  (LX3_takeAway_16 a1 5000 (0 : Int32) nb_3).bind (fun o_6 => 
  (fJ6_bitCount_0f7a4 x_2).bind (fun o_15 => 
  if o_15 = (2 : Int32) then
  (fJ6_numberOfTrailingZeros_0f7a4 x_2).bind (fun o_18 => 
  (fJ6_numberOfTrailingZeros_0f7a4 (x_2 &&& (((1 : Int32) <<< (o_18 &&& 31)) ^^^ (-1 : Int32)))).bind (fun o_20 => 
  (fX3_link o_18 o_20 o_6).bind (fun o_22 => 
  some o_22)))
  else
  some o_6))))
  else none
abbrev rmX3_takeAway : Room := { frames := 1, cells := 0, slots := 0, locals := 22 }
set_option maxHeartbeats 4000000 in
set_option maxRecDepth 100000 in
theorem tX3_takeAway (l : Launch) (D : va_G) (n0 n1 n2 n3 n4 n5 n6 : Nat) (cI cJ cZ cW cS cO cG : ClassId) (size : Int32) (wk : Nat → Int32) (w1 : Nat → Int32) (w2 : Nat → Int32) (wq : Nat → Int32) (wm : Nat → Int32) (flows : Nat → Int64) (mu : Int64) (ml : Int64) (nb : Nat → Int32) (lines : Nat → Nat → Int64) (lineOf : Nat → Int32) (lc : Int32) (a1 : Int32) {o : (Nat → Int32)} (hE : fX3_takeAway a1 nb = some o) {w : va_W} (hw : NP n0 n1 n2 n3 n4 n5 n6 cI cJ cW cG size wk w1 w2 wq wm flows mu ml nb lines lineOf lc w) : JQv l yX3_takeAway wsX3_takeAway rmX3_takeAway D vwCl (TY cI cJ cZ cW cS cO cG) [.ref n0, .int a1] w (fun v => NP n0 n1 n2 n3 n4 n5 n6 cI cJ cW cG size wk w1 w2 wq wm flows mu ml o lines lineOf lc v) := by
  obtain ⟨hN, L, wa, ga, f, rfl, hW, hG⟩ := hw
  refine JQv.of (cc := cX3_takeAway) (maxL := 5) (by decide) rfl (Nat.le_of_ble_eq_true rfl) ?_
  intro p e s m args below meth c A ls Q C hK hA ret hS hl
  obtain ⟨⟨hx, hb, hml, hown, hts⟩, -⟩ := id C
  have hl : lv_has ls 5 [(0, .ref n0), (1, .int a1)] := hl
  have inX3 : ∀ w ∈ u_ws RX3 TX3 8, w ∈ wsX3_takeAway := by decide +kernel
  have k0 := hts (.fieldLink RX3 32 "OhmNets$Net" "neighbours" "[I") (by decide +kernel)
  refine lv_aload_n hx hb dX3_takeAway_0 rfl (lv_at hl 0 rfl) ?_
  refine va_get (D := D) (ci := 4) (v := .ref n4) (C := RX3) (T := TX3) (N := 8) hx hb hts inX3 hown hK hS.1 0 rfl rfl 4 (by decide) k0 (fun _ h => h) rfl dX3_takeAway_1 ?_
  refine lv_iload_n hx hb dX3_takeAway_4 rfl (lv_at hl 1 rfl) ?_
  obtain ⟨b_1, hE⟩ := jgd hE
  refine va_iald hx hb hK hS.1 4 0 rfl rfl (jin.mpr b_1) dX3_takeAway_5 ?_
  refine lv_topi (fun x_2 ex_2 => ?_)
  have hE := jlv hE ex_2
  refine lv_istore_n (lv' := [(2, .int x_2), (0, .ref n0), (1, .int a1)]) hx hb dX3_takeAway_6 rfl hl (by decide) rfl (fun ls hl => ?_)
  refine lv_aload_n hx hb dX3_takeAway_7 rfl (lv_at hl 1 rfl) ?_
  refine va_get (D := D) (ci := 4) (v := .ref n4) (C := RX3) (T := TX3) (N := 8) hx hb hts inX3 hown hK hS.1 0 rfl rfl 4 (by decide) k0 (fun _ h => h) rfl dX3_takeAway_8 ?_
  refine lv_iload_n hx hb dX3_takeAway_11 rfl (lv_at hl 2 rfl) ?_
  refine lv_iconst (v := (0 : Int32)) hx hb dX3_takeAway_12 (by decide) ?_
  obtain ⟨nb_3, enb_3⟩ : ∃ y : Nat → Int32, y = upd nb a1.toNatClampNeg (0 : Int32) := ⟨_, rfl⟩
  have hE := jlv hE enb_3
  refine j_iast (w' := NWX n0 n1 n2 n3 n4 n5 n6 cI cJ cW cG wa ga size flows mu ml nb_3 lineOf lc ++ va_pl L f) hx hb hK hS 4 0 rfl rfl (jin.mpr b_1) (by rw [enb_3]; rfl) dX3_takeAway_13 (fun H locs hS => ?_)
  refine lv_iconst (v := (0 : Int32)) hx hb dX3_takeAway_14 (by decide) ?_
  refine lv_istore_n (lv' := [(3, .int (0 : Int32)), (2, .int x_2), (0, .ref n0), (1, .int a1)]) hx hb dX3_takeAway_15 rfl hl (by decide) rfl (fun ls hl => ?_)
  obtain ⟨o_6, L_7, hE⟩ := jbd hE
  have K_8 : jY p l e rmX3_takeAway s m args below meth c 0 0 Q (NZ D vwCl A n0 n1 n2 n3 n4 n5 n6 cI cJ cW cG size wk w1 w2 wq wm flows mu ml o_6 lines lineOf lc s.heap) 5 [(0, .ref n0), (2, .int x_2)] 42 [] := by
    intro H locs ls hZ hl
    obtain ⟨_, ⟨hN, L, wa, ga, f, rfl, hW, hG⟩, hS⟩ := hZ
    refine lv_iload_n hx hb dX3_takeAway_42 rfl (lv_at hl 1 rfl) ?_
    obtain ⟨o_15, h_16, hE⟩ := jbd hE
    refine j_Si (As := [.int x_2]) (rest := []) (wf := NWX n0 n1 n2 n3 n4 n5 n6 cI cJ cW cG wa ga size flows mu ml o_6 lineOf lc ++ va_pl L f) C hK hS (jcut_nil hA hS) (tJ6_bitCount_0f7a4 l D cI cJ cZ cW cS cO cG x_2 h_16) (va_cwS 1 hts gX3_takeAway_J6_bitCount_0f7a4 rfl rfl rfl (by decide +kernel) ⟨Nat.le_of_ble_eq_true rfl, Nat.le_of_ble_eq_true rfl⟩) rfl hl.1 rfl (Nat.le_of_ble_eq_true rfl) dX3_takeAway_43 ⟨Nat.zero_le _, Nat.zero_le _⟩ (fun H locs hS => ?_)
    refine lv_iconst (v := (2 : Int32)) hx hb dX3_takeAway_46 (by decide) ?_
    refine lv_icmp_ne (tgt := 74) hx hb dX3_takeAway_47 (by decide) (fun c_17 => ?_) (fun c_17 => ?_)
    · have hE := jf hE c_17
      obtain rfl := jsm hE
      exact ret ⟨hN, L, wa, ga, f, rfl, hW, hG⟩ hS dX3_takeAway_74
    · have hE := jt hE c_17
      refine lv_iload_n hx hb dX3_takeAway_50 rfl (lv_at hl 1 rfl) ?_
      obtain ⟨o_18, h_19, hE⟩ := jbd hE
      refine j_Si (As := [.int x_2]) (rest := []) (wf := NWX n0 n1 n2 n3 n4 n5 n6 cI cJ cW cG wa ga size flows mu ml o_6 lineOf lc ++ va_pl L f) C hK hS (jcut_nil hA hS) (tJ6_numberOfTrailingZeros_0f7a4 l D cI cJ cZ cW cS cO cG x_2 h_19) (va_cwS 1 hts gX3_takeAway_J6_numberOfTrailingZeros_0f7a4 rfl rfl rfl (by decide +kernel) ⟨Nat.le_of_ble_eq_true rfl, Nat.le_of_ble_eq_true rfl⟩) rfl hl.1 rfl (Nat.le_of_ble_eq_true rfl) dX3_takeAway_51 ⟨Nat.zero_le _, Nat.zero_le _⟩ (fun H locs hS => ?_)
      refine lv_istore_n (lv' := [(3, .int o_18), (0, .ref n0), (2, .int x_2)]) hx hb dX3_takeAway_54 rfl hl (by decide) rfl (fun ls hl => ?_)
      refine lv_iload_n hx hb dX3_takeAway_55 rfl (lv_at hl 2 rfl) ?_
      refine lv_iconst (v := (1 : Int32)) hx hb dX3_takeAway_56 (by decide) ?_
      refine lv_iload_n hx hb dX3_takeAway_57 rfl (lv_at hl 0 rfl) ?_
      refine lv_ishl hx hb dX3_takeAway_58 ?_
      refine lv_iconst (v := (-1 : Int32)) hx hb dX3_takeAway_59 (by decide) ?_
      refine lv_ixor hx hb dX3_takeAway_60 ?_
      refine lv_iand hx hb dX3_takeAway_61 ?_
      obtain ⟨o_20, h_21, hE⟩ := jbd hE
      refine j_Si (As := [.int (x_2 &&& (((1 : Int32) <<< (o_18 &&& 31)) ^^^ (-1 : Int32)))]) (rest := []) (wf := NWX n0 n1 n2 n3 n4 n5 n6 cI cJ cW cG wa ga size flows mu ml o_6 lineOf lc ++ va_pl L f) C hK hS (jcut_nil hA hS) (tJ6_numberOfTrailingZeros_0f7a4 l D cI cJ cZ cW cS cO cG (x_2 &&& (((1 : Int32) <<< (o_18 &&& 31)) ^^^ (-1 : Int32))) h_21) (va_cwS 1 hts gX3_takeAway_J6_numberOfTrailingZeros_0f7a4 rfl rfl rfl (by decide +kernel) ⟨Nat.le_of_ble_eq_true rfl, Nat.le_of_ble_eq_true rfl⟩) rfl hl.1 rfl (Nat.le_of_ble_eq_true rfl) dX3_takeAway_62 ⟨Nat.zero_le _, Nat.zero_le _⟩ (fun H locs hS => ?_)
      refine lv_istore (lv' := [(4, .int o_20), (3, .int o_18), (0, .ref n0), (2, .int x_2)]) hx hb dX3_takeAway_65 hl (by decide) rfl (fun ls hl => ?_)
      refine lv_aload_n hx hb dX3_takeAway_67 rfl (lv_at hl 2 rfl) ?_
      refine lv_iload_n hx hb dX3_takeAway_68 rfl (lv_at hl 1 rfl) ?_
      refine lv_iload hx hb dX3_takeAway_69 (lv_at hl 0 rfl) ?_
      obtain ⟨o_22, h_23, hE⟩ := jbd hE
      refine j_QVv (As := [.int o_18, .int o_20]) (rest := []) (vc := (RX3, TX3, 8)) C hK hA hS (tX3_link l D n0 n1 n2 n3 n4 n5 n6 cI cJ cZ cW cS cO cG size wk w1 w2 wq wm flows mu ml o_6 lines lineOf lc o_18 o_20 h_23 ⟨hN, L, wa, ga, f, rfl, hW, hG⟩) (cwV 2 hts gX3_takeAway_X3_link rfl rfl rfl (by decide +kernel) ⟨Nat.le_of_ble_eq_true rfl, Nat.le_of_ble_eq_true rfl⟩) (q0 := 0) rfl (ci := 4) rfl rfl hl.1 rfl (Nat.le_of_ble_eq_true rfl) dX3_takeAway_71 ⟨Nat.zero_le _, Nat.zero_le _⟩ (fun w H locs hp hS => ?_)
      obtain ⟨hN, L, wa, ga, f, rfl, hW, hG⟩ := hp
      obtain rfl := jsm hE
      exact ret ⟨hN, L, wa, ga, f, rfl, hW, hG⟩ hS dX3_takeAway_74
  have loop_10 : ∀ (n : Nat) (v3_4 : Int32) (nb_5 : Nat → Int32), LX3_takeAway_16 a1 n v3_4 nb_5 = some o_6 → jY p l e rmX3_takeAway s m args below meth c 0 0 Q (NZ D vwCl A n0 n1 n2 n3 n4 n5 n6 cI cJ cW cG size wk w1 w2 wq wm flows mu ml nb_5 lines lineOf lc s.heap) 5 [(0, .ref n0), (1, .int a1), (2, .int x_2), (3, .int v3_4)] 16 [] := by
    intro n
    induction n with
    | zero =>
      intro v3_4 nb_5 q_9
      have q_9 : none = some o_6 := q_9
      cases q_9
    | succ n ih =>
      intro v3_4 nb_5 q_9 H locs ls hZ hl
      obtain ⟨_, ⟨hN, L, wa, ga, f, rfl, hW, hG⟩, hS⟩ := hZ
      rw [LX3_takeAway_16] at q_9
      refine lv_iload_n hx hb dX3_takeAway_16 rfl (lv_at hl 3 rfl) ?_
      refine lv_bipush (v := (6 : Int32)) hx hb dX3_takeAway_17 (by decide) ?_
      refine lv_icmp_ge (tgt := 42) hx hb dX3_takeAway_19 (by decide) (fun c_11 => ?_) (fun c_11 => ?_)
      · have q_9 := jt q_9 c_11
        obtain rfl := jsm q_9
        exact K_8 _ _ _ ⟨_, ⟨hN, L, wa, ga, f, rfl, hW, hG⟩, hS⟩ (lv_sub hl [0, 2] rfl)
      · have q_9 := jf q_9 c_11
        refine lv_aload_n hx hb dX3_takeAway_22 rfl (lv_at hl 0 rfl) ?_
        refine va_get (D := D) (ci := 4) (v := .ref n4) (C := RX3) (T := TX3) (N := 8) hx hb hts inX3 hown hK hS.1 0 rfl rfl 4 (by decide) k0 (fun _ h => h) rfl dX3_takeAway_23 ?_
        refine lv_iload_n hx hb dX3_takeAway_26 rfl (lv_at hl 3 rfl) ?_
        refine lv_dup2_11 hx hb dX3_takeAway_27 rfl rfl ?_
        obtain ⟨b_12, q_9⟩ := jgd q_9
        refine va_iald hx hb hK hS.1 4 0 rfl rfl (jin.mpr b_12) dX3_takeAway_28 ?_
        refine lv_iconst (v := (1 : Int32)) hx hb dX3_takeAway_29 (by decide) ?_
        refine lv_iload_n hx hb dX3_takeAway_30 rfl (lv_at hl 1 rfl) ?_
        refine lv_ishl hx hb dX3_takeAway_31 ?_
        refine lv_iconst (v := (-1 : Int32)) hx hb dX3_takeAway_32 (by decide) ?_
        refine lv_ixor hx hb dX3_takeAway_33 ?_
        refine lv_iand hx hb dX3_takeAway_34 ?_
        obtain ⟨nb_13, enb_13⟩ : ∃ y : Nat → Int32, y = upd nb_5 v3_4.toNatClampNeg ((nb_5 v3_4.toNatClampNeg) &&& (((1 : Int32) <<< (a1 &&& 31)) ^^^ (-1 : Int32))) := ⟨_, rfl⟩
        have q_9 := jlv q_9 enb_13
        refine j_iast (w' := NWX n0 n1 n2 n3 n4 n5 n6 cI cJ cW cG wa ga size flows mu ml nb_13 lineOf lc ++ va_pl L f) hx hb hK hS 4 0 rfl rfl (jin.mpr b_12) (by rw [enb_13]; rfl) dX3_takeAway_35 (fun H locs hS => ?_)
        obtain ⟨x_14, ex_14⟩ : ∃ y : Int32, y = v3_4 + (1 : Int32) := ⟨_, rfl⟩
        have q_9 := jlv q_9 ex_14
        refine lv_iinc (v := x_14) (lv' := [(3, .int x_14), (0, .ref n0), (1, .int a1), (2, .int x_2)]) hx hb dX3_takeAway_36 hl (k := 3) rfl (by rw [ex_14]; rfl) (by decide) rfl (fun ls hl => ?_)
        refine lv_goto (tgt := 16) hx hb dX3_takeAway_39 (by decide) ?_
        exact ih x_14 nb_13 q_9 _ _ _ ⟨_, ⟨hN, L, wa, ga, f, rfl, hW, hG⟩, hS⟩ (lv_sub hl [1, 2, 3, 0] rfl)
  exact loop_10 5000 (0 : Int32) nb_3 L_7 _ _ _ ⟨_, ⟨hN, L, wa, ga, f, rfl, hW, hG⟩, hS⟩ (lv_sub hl [2, 3, 1, 0] rfl)
def LX3_fallsTogether_30 (x_5 : Int32) : Nat → (Int32) → (Nat → Int32) → Option ((Nat → Int32))
  | 0, _, _ => none
  | n + 1, v5_14, nb_15 =>
    if (6 : Int32) ≤ v5_14 then
    some nb_15
    else
    (if ((x_5 >>> (v5_14 &&& 31)) &&& (1 : Int32)) = 0 then
    if jok v5_14 6 then
    (fJ6_bitCount_0f7a4 (nb_15 v5_14.toNatClampNeg)).bind (fun o_27 => 
    if (2 : Int32) < o_27 then
    some nb_15
    else
    (fX3_takeAway v5_14 nb_15).bind (fun o_30 => 
    some o_30))
    else none
    else
    some nb_15).bind (fun o_22 => 
    jlet (v5_14 + (1 : Int32)) (fun x_32 => 
    LX3_fallsTogether_30 x_5 n x_32 o_22))
def LX3_fallsTogether_20 (x_5 : Int32) : Nat → (Int32) → (Nat → Int32) → Option ((Nat → Int32))
  | 0, _, _ => none
  | n + 1, v4_6, nb_7 =>
    if (6 : Int32) ≤ v4_6 then
    some nb_7
    else
    (LX3_fallsTogether_30 x_5 5000 (0 : Int32) nb_7).bind (fun o_16 => 
    jlet (v4_6 + (1 : Int32)) (fun x_33 => 
    LX3_fallsTogether_20 x_5 n x_33 o_16))
def fX3_fallsTogether (a1 : Int32) (a2 : Int32) (size : Int32) (w1 : Nat → Int32) (w2 : Nat → Int32) (nb : Nat → Int32) : Option (Int32 × (Nat → Int32)) :=
  (fX3_reachedFrom a1 size w1 w2).bind (fun o_1 => 
  (fX3_layNeighbours o_1 size w1 w2 nb).bind (fun o_3 => 
  jlet (((1 : Int32) <<< (a1 &&& 31)) ||| ((1 : Int32) <<< (a2 &&& 31))) (fun x_5 => 
  (LX3_fallsTogether_20 x_5 5000 (0 : Int32) o_3).bind (fun o_8 => 
  if jok a1 6 then
  if (o_8 a1.toNatClampNeg) = ((1 : Int32) <<< (a2 &&& 31)) then
  if jok a2 6 then
  if (o_8 a2.toNatClampNeg) = ((1 : Int32) <<< (a1 &&& 31)) then
  some ((1 : Int32), o_8)
  else
  some ((0 : Int32), o_8)
  else none
  else
  some ((0 : Int32), o_8)
  else none))))
abbrev rmX3_fallsTogether : Room := { frames := 2, cells := 0, slots := 0, locals := 46 }
set_option maxHeartbeats 4000000 in
set_option maxRecDepth 100000 in
theorem tX3_fallsTogether (l : Launch) (D : va_G) (n0 n1 n2 n3 n4 n5 n6 : Nat) (cI cJ cZ cW cS cO cG : ClassId) (size : Int32) (wk : Nat → Int32) (w1 : Nat → Int32) (w2 : Nat → Int32) (wq : Nat → Int32) (wm : Nat → Int32) (flows : Nat → Int64) (mu : Int64) (ml : Int64) (nb : Nat → Int32) (lines : Nat → Nat → Int64) (lineOf : Nat → Int32) (lc : Int32) (a1 : Int32) (a2 : Int32) {o : Int32 × (Nat → Int32)} (hE : fX3_fallsTogether a1 a2 size w1 w2 nb = some o) {w : va_W} (hw : NP n0 n1 n2 n3 n4 n5 n6 cI cJ cW cG size wk w1 w2 wq wm flows mu ml nb lines lineOf lc w) : JQi l yX3_fallsTogether wsX3_fallsTogether rmX3_fallsTogether D vwCl (TY cI cJ cZ cW cS cO cG) [.ref n0, .int a1, .int a2] w (fun x v => x = o.1 ∧ NP n0 n1 n2 n3 n4 n5 n6 cI cJ cW cG size wk w1 w2 wq wm flows mu ml o.2 lines lineOf lc v) := by
  obtain ⟨hN, L, wa, ga, f, rfl, hW, hG⟩ := hw
  refine JQi.of (cc := cX3_fallsTogether) (maxL := 6) (by decide) rfl (Nat.le_of_ble_eq_true rfl) ?_
  intro p e s m args below meth c A ls Q C hK hA ret hS hl
  obtain ⟨⟨hx, hb, hml, hown, hts⟩, -⟩ := id C
  have hl : lv_has ls 6 [(0, .ref n0), (1, .int a1), (2, .int a2)] := hl
  have inX3 : ∀ w ∈ u_ws RX3 TX3 8, w ∈ wsX3_fallsTogether := by decide +kernel
  have k0 := hts (.fieldLink RX3 32 "OhmNets$Net" "neighbours" "[I") (by decide +kernel)
  refine lv_aload_n hx hb dX3_fallsTogether_0 rfl (lv_at hl 0 rfl) ?_
  refine lv_aload_n hx hb dX3_fallsTogether_1 rfl (lv_at hl 0 rfl) ?_
  refine lv_iload_n hx hb dX3_fallsTogether_2 rfl (lv_at hl 1 rfl) ?_
  obtain ⟨o_1, h_2, hE⟩ := jbd hE
  refine j_QVi (As := [.int a1]) (rest := [.ref n0]) (vc := (RX3, TX3, 8)) C hK hA hS (tX3_reachedFrom l D n0 n1 n2 n3 n4 n5 n6 cI cJ cZ cW cS cO cG size wk w1 w2 wq wm flows mu ml nb lines lineOf lc a1 h_2 ⟨hN, L, wa, ga, f, rfl, hW, hG⟩) (cwV 1 hts gX3_fallsTogether_X3_reachedFrom rfl rfl rfl (by decide +kernel) ⟨Nat.le_of_ble_eq_true rfl, Nat.le_of_ble_eq_true rfl⟩) (q0 := 0) rfl (ci := 4) rfl rfl hl.1 rfl (Nat.le_of_ble_eq_true rfl) dX3_fallsTogether_3 ⟨Nat.zero_le _, Nat.zero_le _⟩ (fun r w H locs hp hS => ?_)
  obtain ⟨er, hN, L, wa, ga, f, rfl, hW, hG⟩ := hp
  subst r
  obtain ⟨o_3, h_4, hE⟩ := jbd hE
  refine j_QVv (As := [.int o_1]) (rest := []) (vc := (RX3, TX3, 8)) C hK hA hS (tX3_layNeighbours l D n0 n1 n2 n3 n4 n5 n6 cI cJ cZ cW cS cO cG size wk w1 w2 wq wm flows mu ml nb lines lineOf lc o_1 h_4 ⟨hN, L, wa, ga, f, rfl, hW, hG⟩) (cwV 1 hts gX3_fallsTogether_X3_layNeighbours rfl rfl rfl (by decide +kernel) ⟨Nat.le_of_ble_eq_true rfl, Nat.le_of_ble_eq_true rfl⟩) (q0 := 0) rfl (ci := 4) rfl rfl hl.1 rfl (Nat.le_of_ble_eq_true rfl) dX3_fallsTogether_6 ⟨Nat.zero_le _, Nat.zero_le _⟩ (fun w H locs hp hS => ?_)
  obtain ⟨hN, L, wa, ga, f, rfl, hW, hG⟩ := hp
  refine lv_iconst (v := (1 : Int32)) hx hb dX3_fallsTogether_9 (by decide) ?_
  refine lv_iload_n hx hb dX3_fallsTogether_10 rfl (lv_at hl 1 rfl) ?_
  refine lv_ishl hx hb dX3_fallsTogether_11 ?_
  refine lv_iconst (v := (1 : Int32)) hx hb dX3_fallsTogether_12 (by decide) ?_
  refine lv_iload_n hx hb dX3_fallsTogether_13 rfl (lv_at hl 2 rfl) ?_
  refine lv_ishl hx hb dX3_fallsTogether_14 ?_
  refine lv_ior hx hb dX3_fallsTogether_15 ?_
  refine lv_topi (fun x_5 ex_5 => ?_)
  have hE := jlv hE ex_5
  refine lv_istore_n (lv' := [(3, .int x_5), (0, .ref n0), (1, .int a1), (2, .int a2)]) hx hb dX3_fallsTogether_16 rfl hl (by decide) rfl (fun ls hl => ?_)
  refine lv_iconst (v := (0 : Int32)) hx hb dX3_fallsTogether_17 (by decide) ?_
  refine lv_istore (lv' := [(4, .int (0 : Int32)), (3, .int x_5), (0, .ref n0), (1, .int a1), (2, .int a2)]) hx hb dX3_fallsTogether_18 hl (by decide) rfl (fun ls hl => ?_)
  obtain ⟨o_8, L_9, hE⟩ := jbd hE
  have K_10 : jY p l e rmX3_fallsTogether s m args below meth c 0 0 Q (NZ D vwCl A n0 n1 n2 n3 n4 n5 n6 cI cJ cW cG size wk w1 w2 wq wm flows mu ml o_8 lines lineOf lc s.heap) 6 [(0, .ref n0), (1, .int a1), (2, .int a2)] 78 [] := by
    intro H locs ls hZ hl
    obtain ⟨_, ⟨hN, L, wa, ga, f, rfl, hW, hG⟩, hS⟩ := hZ
    refine lv_aload_n hx hb dX3_fallsTogether_78 rfl (lv_at hl 0 rfl) ?_
    refine va_get (D := D) (ci := 4) (v := .ref n4) (C := RX3) (T := TX3) (N := 8) hx hb hts inX3 hown hK hS.1 0 rfl rfl 4 (by decide) k0 (fun _ h => h) rfl dX3_fallsTogether_79 ?_
    refine lv_iload_n hx hb dX3_fallsTogether_82 rfl (lv_at hl 1 rfl) ?_
    obtain ⟨b_34, hE⟩ := jgd hE
    refine va_iald hx hb hK hS.1 4 0 rfl rfl (jin.mpr b_34) dX3_fallsTogether_83 ?_
    refine lv_iconst (v := (1 : Int32)) hx hb dX3_fallsTogether_84 (by decide) ?_
    refine lv_iload_n hx hb dX3_fallsTogether_85 rfl (lv_at hl 2 rfl) ?_
    refine lv_ishl hx hb dX3_fallsTogether_86 ?_
    refine lv_icmp_ne (tgt := 106) hx hb dX3_fallsTogether_87 (by decide) (fun c_35 => ?_) (fun c_35 => ?_)
    · have hE := jf hE c_35
      refine lv_iconst (v := (0 : Int32)) hx hb dX3_fallsTogether_106 (by decide) ?_
      obtain rfl := jsm hE
      exact ret ⟨rfl, hN, L, wa, ga, f, rfl, hW, hG⟩ hS jb0 dX3_fallsTogether_107
    · have hE := jt hE c_35
      refine lv_aload_n hx hb dX3_fallsTogether_90 rfl (lv_at hl 0 rfl) ?_
      refine va_get (D := D) (ci := 4) (v := .ref n4) (C := RX3) (T := TX3) (N := 8) hx hb hts inX3 hown hK hS.1 0 rfl rfl 4 (by decide) k0 (fun _ h => h) rfl dX3_fallsTogether_91 ?_
      refine lv_iload_n hx hb dX3_fallsTogether_94 rfl (lv_at hl 2 rfl) ?_
      obtain ⟨b_36, hE⟩ := jgd hE
      refine va_iald hx hb hK hS.1 4 0 rfl rfl (jin.mpr b_36) dX3_fallsTogether_95 ?_
      refine lv_iconst (v := (1 : Int32)) hx hb dX3_fallsTogether_96 (by decide) ?_
      refine lv_iload_n hx hb dX3_fallsTogether_97 rfl (lv_at hl 1 rfl) ?_
      refine lv_ishl hx hb dX3_fallsTogether_98 ?_
      refine lv_icmp_ne (tgt := 106) hx hb dX3_fallsTogether_99 (by decide) (fun c_37 => ?_) (fun c_37 => ?_)
      · have hE := jf hE c_37
        refine lv_iconst (v := (0 : Int32)) hx hb dX3_fallsTogether_106 (by decide) ?_
        obtain rfl := jsm hE
        exact ret ⟨rfl, hN, L, wa, ga, f, rfl, hW, hG⟩ hS jb0 dX3_fallsTogether_107
      · have hE := jt hE c_37
        refine lv_iconst (v := (1 : Int32)) hx hb dX3_fallsTogether_102 (by decide) ?_
        refine lv_goto (tgt := 107) hx hb dX3_fallsTogether_103 (by decide) ?_
        obtain rfl := jsm hE
        exact ret ⟨rfl, hN, L, wa, ga, f, rfl, hW, hG⟩ hS jb1 dX3_fallsTogether_107
  have loop_12 : ∀ (n : Nat) (v4_6 : Int32) (nb_7 : Nat → Int32), LX3_fallsTogether_20 x_5 n v4_6 nb_7 = some o_8 → jY p l e rmX3_fallsTogether s m args below meth c 0 0 Q (NZ D vwCl A n0 n1 n2 n3 n4 n5 n6 cI cJ cW cG size wk w1 w2 wq wm flows mu ml nb_7 lines lineOf lc s.heap) 6 [(0, .ref n0), (1, .int a1), (2, .int a2), (3, .int x_5), (4, .int v4_6)] 20 [] := by
    intro n
    induction n with
    | zero =>
      intro v4_6 nb_7 q_11
      have q_11 : none = some o_8 := q_11
      cases q_11
    | succ n ih =>
      intro v4_6 nb_7 q_11 H locs ls hZ hl
      obtain ⟨_, ⟨hN, L, wa, ga, f, rfl, hW, hG⟩, hS⟩ := hZ
      rw [LX3_fallsTogether_20] at q_11
      refine lv_iload hx hb dX3_fallsTogether_20 (lv_at hl 4 rfl) ?_
      refine lv_bipush (v := (6 : Int32)) hx hb dX3_fallsTogether_22 (by decide) ?_
      refine lv_icmp_ge (tgt := 78) hx hb dX3_fallsTogether_24 (by decide) (fun c_13 => ?_) (fun c_13 => ?_)
      · have q_11 := jt q_11 c_13
        obtain rfl := jsm q_11
        exact K_10 _ _ _ ⟨_, ⟨hN, L, wa, ga, f, rfl, hW, hG⟩, hS⟩ (lv_sub hl [0, 1, 2] rfl)
      · have q_11 := jf q_11 c_13
        refine lv_iconst (v := (0 : Int32)) hx hb dX3_fallsTogether_27 (by decide) ?_
        refine lv_istore (lv' := [(5, .int (0 : Int32)), (0, .ref n0), (1, .int a1), (2, .int a2), (3, .int x_5), (4, .int v4_6)]) hx hb dX3_fallsTogether_28 hl (by decide) rfl (fun ls hl => ?_)
        obtain ⟨o_16, L_17, q_11⟩ := jbd q_11
        have K_18 : jY p l e rmX3_fallsTogether s m args below meth c 0 0 Q (NZ D vwCl A n0 n1 n2 n3 n4 n5 n6 cI cJ cW cG size wk w1 w2 wq wm flows mu ml o_16 lines lineOf lc s.heap) 6 [(0, .ref n0), (1, .int a1), (2, .int a2), (3, .int x_5), (4, .int v4_6)] 72 [] := by
          intro H locs ls hZ hl
          obtain ⟨_, ⟨hN, L, wa, ga, f, rfl, hW, hG⟩, hS⟩ := hZ
          obtain ⟨x_33, ex_33⟩ : ∃ y : Int32, y = v4_6 + (1 : Int32) := ⟨_, rfl⟩
          have q_11 := jlv q_11 ex_33
          refine lv_iinc (v := x_33) (lv' := [(4, .int x_33), (0, .ref n0), (1, .int a1), (2, .int a2), (3, .int x_5)]) hx hb dX3_fallsTogether_72 hl (k := 4) rfl (by rw [ex_33]; rfl) (by decide) rfl (fun ls hl => ?_)
          refine lv_goto (tgt := 20) hx hb dX3_fallsTogether_75 (by decide) ?_
          exact ih x_33 o_16 q_11 _ _ _ ⟨_, ⟨hN, L, wa, ga, f, rfl, hW, hG⟩, hS⟩ (lv_sub hl [1, 2, 3, 4, 0] rfl)
        have loop_20 : ∀ (n : Nat) (v5_14 : Int32) (nb_15 : Nat → Int32), LX3_fallsTogether_30 x_5 n v5_14 nb_15 = some o_16 → jY p l e rmX3_fallsTogether s m args below meth c 0 0 Q (NZ D vwCl A n0 n1 n2 n3 n4 n5 n6 cI cJ cW cG size wk w1 w2 wq wm flows mu ml nb_15 lines lineOf lc s.heap) 6 [(0, .ref n0), (1, .int a1), (2, .int a2), (3, .int x_5), (4, .int v4_6), (5, .int v5_14)] 30 [] := by
          intro n
          induction n with
          | zero =>
            intro v5_14 nb_15 q_19
            have q_19 : none = some o_16 := q_19
            cases q_19
          | succ n ih =>
            intro v5_14 nb_15 q_19 H locs ls hZ hl
            obtain ⟨_, ⟨hN, L, wa, ga, f, rfl, hW, hG⟩, hS⟩ := hZ
            rw [LX3_fallsTogether_30] at q_19
            refine lv_iload hx hb dX3_fallsTogether_30 (lv_at hl 5 rfl) ?_
            refine lv_bipush (v := (6 : Int32)) hx hb dX3_fallsTogether_32 (by decide) ?_
            refine lv_icmp_ge (tgt := 72) hx hb dX3_fallsTogether_34 (by decide) (fun c_21 => ?_) (fun c_21 => ?_)
            · have q_19 := jt q_19 c_21
              obtain rfl := jsm q_19
              exact K_18 _ _ _ ⟨_, ⟨hN, L, wa, ga, f, rfl, hW, hG⟩, hS⟩ (lv_sub hl [0, 1, 2, 3, 4] rfl)
            · have q_19 := jf q_19 c_21
              refine lv_iload_n hx hb dX3_fallsTogether_37 rfl (lv_at hl 3 rfl) ?_
              refine lv_iload hx hb dX3_fallsTogether_38 (lv_at hl 5 rfl) ?_
              refine lv_ishr hx hb dX3_fallsTogether_40 ?_
              refine lv_iconst (v := (1 : Int32)) hx hb dX3_fallsTogether_41 (by decide) ?_
              refine lv_iand hx hb dX3_fallsTogether_42 ?_
              obtain ⟨o_22, r_24, q_19⟩ := jbd q_19
              have K_23 : jY p l e rmX3_fallsTogether s m args below meth c 0 0 Q (NZ D vwCl A n0 n1 n2 n3 n4 n5 n6 cI cJ cW cG size wk w1 w2 wq wm flows mu ml o_22 lines lineOf lc s.heap) 6 [(0, .ref n0), (1, .int a1), (2, .int a2), (3, .int x_5), (4, .int v4_6), (5, .int v5_14)] 66 [] := by
                intro H locs ls hZ hl
                obtain ⟨_, ⟨hN, L, wa, ga, f, rfl, hW, hG⟩, hS⟩ := hZ
                obtain ⟨x_32, ex_32⟩ : ∃ y : Int32, y = v5_14 + (1 : Int32) := ⟨_, rfl⟩
                have q_19 := jlv q_19 ex_32
                refine lv_iinc (v := x_32) (lv' := [(5, .int x_32), (0, .ref n0), (1, .int a1), (2, .int a2), (3, .int x_5), (4, .int v4_6)]) hx hb dX3_fallsTogether_66 hl (k := 5) rfl (by rw [ex_32]; rfl) (by decide) rfl (fun ls hl => ?_)
                refine lv_goto (tgt := 30) hx hb dX3_fallsTogether_69 (by decide) ?_
                exact ih x_32 o_22 q_19 _ _ _ ⟨_, ⟨hN, L, wa, ga, f, rfl, hW, hG⟩, hS⟩ (lv_sub hl [1, 2, 3, 4, 5, 0] rfl)
              refine lv_if_ne (tgt := 66) hx hb dX3_fallsTogether_43 (by decide) (fun c_25 => ?_) (fun c_25 => ?_)
              · have r_24 := jf r_24 c_25
                obtain rfl := jsm r_24
                exact K_23 _ _ _ ⟨_, ⟨hN, L, wa, ga, f, rfl, hW, hG⟩, hS⟩ (lv_sub hl [0, 1, 2, 3, 4, 5] rfl)
              · have r_24 := jt r_24 c_25
                refine lv_aload_n hx hb dX3_fallsTogether_46 rfl (lv_at hl 0 rfl) ?_
                refine va_get (D := D) (ci := 4) (v := .ref n4) (C := RX3) (T := TX3) (N := 8) hx hb hts inX3 hown hK hS.1 0 rfl rfl 4 (by decide) k0 (fun _ h => h) rfl dX3_fallsTogether_47 ?_
                refine lv_iload hx hb dX3_fallsTogether_50 (lv_at hl 5 rfl) ?_
                obtain ⟨b_26, r_24⟩ := jgd r_24
                refine va_iald hx hb hK hS.1 4 0 rfl rfl (jin.mpr b_26) dX3_fallsTogether_52 ?_
                obtain ⟨o_27, h_28, r_24⟩ := jbd r_24
                refine j_Si (As := [.int (nb_15 v5_14.toNatClampNeg)]) (rest := []) (wf := NWX n0 n1 n2 n3 n4 n5 n6 cI cJ cW cG wa ga size flows mu ml nb_15 lineOf lc ++ va_pl L f) C hK hS (jcut_nil hA hS) (tJ6_bitCount_0f7a4 l D cI cJ cZ cW cS cO cG (nb_15 v5_14.toNatClampNeg) h_28) (va_cwS 1 hts gX3_fallsTogether_J6_bitCount_0f7a4 rfl rfl rfl (by decide +kernel) ⟨Nat.le_of_ble_eq_true rfl, Nat.le_of_ble_eq_true rfl⟩) rfl hl.1 rfl (Nat.le_of_ble_eq_true rfl) dX3_fallsTogether_53 ⟨Nat.zero_le _, Nat.zero_le _⟩ (fun H locs hS => ?_)
                refine lv_iconst (v := (2 : Int32)) hx hb dX3_fallsTogether_56 (by decide) ?_
                refine lv_icmp_gt (tgt := 66) hx hb dX3_fallsTogether_57 (by decide) (fun c_29 => ?_) (fun c_29 => ?_)
                · have r_24 := jt r_24 c_29
                  obtain rfl := jsm r_24
                  exact K_23 _ _ _ ⟨_, ⟨hN, L, wa, ga, f, rfl, hW, hG⟩, hS⟩ (lv_sub hl [0, 1, 2, 3, 4, 5] rfl)
                · have r_24 := jf r_24 c_29
                  refine lv_aload_n hx hb dX3_fallsTogether_60 rfl (lv_at hl 0 rfl) ?_
                  refine lv_iload hx hb dX3_fallsTogether_61 (lv_at hl 5 rfl) ?_
                  obtain ⟨o_30, h_31, r_24⟩ := jbd r_24
                  refine j_QVv (As := [.int v5_14]) (rest := []) (vc := (RX3, TX3, 8)) C hK hA hS (tX3_takeAway l D n0 n1 n2 n3 n4 n5 n6 cI cJ cZ cW cS cO cG size wk w1 w2 wq wm flows mu ml nb_15 lines lineOf lc v5_14 h_31 ⟨hN, L, wa, ga, f, rfl, hW, hG⟩) (cwV 1 hts gX3_fallsTogether_X3_takeAway rfl rfl rfl (by decide +kernel) ⟨Nat.le_of_ble_eq_true rfl, Nat.le_of_ble_eq_true rfl⟩) (q0 := 0) rfl (ci := 4) rfl rfl hl.1 rfl (Nat.le_of_ble_eq_true rfl) dX3_fallsTogether_63 ⟨Nat.zero_le _, Nat.zero_le _⟩ (fun w H locs hp hS => ?_)
                  obtain ⟨hN, L, wa, ga, f, rfl, hW, hG⟩ := hp
                  obtain rfl := jsm r_24
                  exact K_23 _ _ _ ⟨_, ⟨hN, L, wa, ga, f, rfl, hW, hG⟩, hS⟩ (lv_sub hl [0, 1, 2, 3, 4, 5] rfl)
        exact loop_20 5000 (0 : Int32) nb_7 L_17 _ _ _ ⟨_, ⟨hN, L, wa, ga, f, rfl, hW, hG⟩, hS⟩ (lv_sub hl [1, 2, 3, 4, 5, 0] rfl)
  exact loop_12 5000 (0 : Int32) o_3 L_9 _ _ _ ⟨_, ⟨hN, L, wa, ga, f, rfl, hW, hG⟩, hS⟩ (lv_sub hl [2, 3, 4, 1, 0] rfl)
