theorem jok_lt {a b : Int32} (h0 : ¬ a < 0) (h : a < b) : jok a b.toNatClampNeg := by
  rw [Int32.lt_iff_toInt_lt] at h0 h
  have e0 : (0 : Int32).toInt = 0 := rfl
  refine ⟨by rw [Int32.le_iff_toInt_le]; omega, ?_⟩
  unfold Int32.toNatClampNeg
  omega
theorem jok_not {a b : Int32} (h : a < 0 ∨ b ≤ a) : ¬ jok a b.toNatClampNeg := by
  rintro ⟨h1, h2⟩
  rw [Int32.le_iff_toInt_le] at h1
  have e0 : (0 : Int32).toInt = 0 := rfl
  unfold Int32.toNatClampNeg at h2
  rcases h with h | h
  · rw [Int32.lt_iff_toInt_lt] at h
    omega
  · rw [Int32.le_iff_toInt_le] at h
    omega
/-- what at(i) answers: a wire of the pool, or null -/
def NAt (n0 n1 n2 n3 n4 n5 n6 : Nat) (cI cJ cW cG : ClassId) (size : Int32) (wk w1 w2 wq wm : Nat → Int32) (flows : Nat → Int64) (mu ml : Int64) (nb : Nat → Int32) (lines : Nat → Nat → Int64) (lineOf : Nat → Int32) (lc : Int32) (i : Int32) (r : Option Nat) (v : va_W) : Prop :=
  size.toNatClampNeg ≤ 12 ∧ ∃ (L : List Nat) (wa ga : Nat → Option Nat) (f : Nat → va_E), v = NWX n0 n1 n2 n3 n4 n5 n6 cI cJ cW cG wa ga size flows mu ml nb lineOf lc ++ va_pl L f ∧ jWr L f wa size.toNatClampNeg wk w1 w2 wq wm ∧ jGr L f cJ ga lines ∧ ((jok i size.toNatClampNeg ∧ ∃ a, r = some a ∧ a ∈ L ∧ f a = jwc (wk i.toNatClampNeg) (w1 i.toNatClampNeg) (w2 i.toNatClampNeg) (wq i.toNatClampNeg) (wm i.toNatClampNeg)) ∨ (¬ jok i size.toNatClampNeg ∧ r = none))
abbrev rmX3_at : Room := { frames := 0, cells := 0, slots := 0, locals := 0 }
set_option maxHeartbeats 4000000 in
set_option maxRecDepth 100000 in
theorem tX3_at (l : Launch) (D : va_G) (n0 n1 n2 n3 n4 n5 n6 : Nat) (cI cJ cZ cW cS cO cG : ClassId) (size : Int32) (wk w1 w2 wq wm : Nat → Int32) (flows : Nat → Int64) (mu ml : Int64) (nb : Nat → Int32) (lines : Nat → Nat → Int64) (lineOf : Nat → Int32) (lc : Int32) (a1 : Int32) {w : va_W} (hw : NP n0 n1 n2 n3 n4 n5 n6 cI cJ cW cG size wk w1 w2 wq wm flows mu ml nb lines lineOf lc w) : JQq l yX3_at wsX3_at rmX3_at D vwCl (TY cI cJ cZ cW cS cO cG) [.ref n0, .int a1] w (NAt n0 n1 n2 n3 n4 n5 n6 cI cJ cW cG size wk w1 w2 wq wm flows mu ml nb lines lineOf lc a1) := by
  obtain ⟨hN, L, wa, ga, f, rfl, hW, hG⟩ := hw
  refine JQq.of (cc := cX3_at) (maxL := 2) (by decide) rfl (Nat.le_of_ble_eq_true rfl) ?_
  intro p e s m args below meth c A ls Q C hK hA ret hS hl
  obtain ⟨⟨hx, hb, hml, hown, hts⟩, -⟩ := id C
  have hl : lv_has ls 2 [(0, .ref n0), (1, .int a1)] := hl
  have inX3 : ∀ w ∈ u_ws RX3 TX3 8, w ∈ wsX3_at := by decide +kernel
  have k0 := hts (.fieldLink RX3 21 "OhmNets$Net" "size" "I") (by decide +kernel)
  have k1 := hts (.fieldLink RX3 11 "OhmNets$Net" "wires" "[LOhmNets$OneWire;") (by decide +kernel)
  refine lv_iload_n hx hb dX3_at_0 rfl (lv_at hl 1 rfl) ?_
  refine lv_if_lt (tgt := 12) hx hb dX3_at_1 (by decide) (fun c1 => ?_) (fun c1 => ?_)
  · refine lv_null hx hb dX3_at_12 ?_
    exact ret (r := none) ⟨hN, L, wa, ga, f, rfl, hW, hG, Or.inr ⟨jok_not (Or.inl c1), rfl⟩⟩ hS (Or.inl ⟨_, rfl⟩) dX3_at_13
  · refine lv_iload_n hx hb dX3_at_4 rfl (lv_at hl 1 rfl) ?_
    refine lv_aload_n hx hb dX3_at_5 rfl (lv_at hl 0 rfl) ?_
    refine va_get (D := D) (ci := 4) (v := .int size) (C := RX3) (T := TX3) (N := 8) hx hb hts inX3 hown hK hS.1 0 rfl rfl 2 (by decide) k0 (fun _ h => h) rfl dX3_at_6 ?_
    refine lv_icmp_lt (tgt := 14) hx hb dX3_at_9 (by decide) (fun c2 => ?_) (fun c2 => ?_)
    · have hj := jok_lt c1 c2
      obtain ⟨a, ea, hm, hf⟩ := hW _ hj.2
      refine lv_aload_n hx hb dX3_at_14 rfl (lv_at hl 0 rfl) ?_
      refine va_get (D := D) (ci := 4) (v := .ref n1) (C := RX3) (T := TX3) (N := 8) hx hb hts inX3 hown hK hS.1 0 rfl rfl 0 (by decide) k1 (fun _ h => h) rfl dX3_at_15 ?_
      refine lv_iload_n hx hb dX3_at_18 rfl (lv_at hl 1 rfl) ?_
      refine jn_ald hx hb hK hS.1 1 3 rfl rfl (jin.mpr ⟨hj.1, Nat.lt_of_lt_of_le hj.2 hN⟩) ea dX3_at_19 (Or.inl ⟨_, rfl⟩) ?_
      exact ret (r := some a) ⟨hN, L, wa, ga, f, rfl, hW, hG, Or.inl ⟨hj, a, rfl, hm, hf⟩⟩ hS (Or.inl ⟨_, rfl⟩) dX3_at_20
    · refine lv_null hx hb dX3_at_12 ?_
      exact ret (r := none) ⟨hN, L, wa, ga, f, rfl, hW, hG, Or.inr ⟨jok_not (Or.inr (by rw [Int32.le_iff_toInt_le]; rw [Int32.lt_iff_toInt_lt] at c2; omega)), rfl⟩⟩ hS (Or.inl ⟨_, rfl⟩) dX3_at_13
abbrev rmX3_removeLatest : Room := { frames := 0, cells := 0, slots := 0, locals := 0 }
set_option maxHeartbeats 4000000 in
set_option maxRecDepth 100000 in
theorem tX3_removeLatest (l : Launch) (D : va_G) (n0 n1 n2 n3 n4 n5 n6 : Nat) (cI cJ cZ cW cS cO cG : ClassId) (size : Int32) (wk w1 w2 wq wm : Nat → Int32) (flows : Nat → Int64) (mu ml : Int64) (nb : Nat → Int32) (lines : Nat → Nat → Int64) (lineOf : Nat → Int32) (lc : Int32) (h1 : jok (size - 1) 12) (h2 : (size - 1).toNatClampNeg ≤ size.toNatClampNeg) {w : va_W} (hw : NP n0 n1 n2 n3 n4 n5 n6 cI cJ cW cG size wk w1 w2 wq wm flows mu ml nb lines lineOf lc w) : JQi l yX3_removeLatest wsX3_removeLatest rmX3_removeLatest D vwCl (TY cI cJ cZ cW cS cO cG) [.ref n0] w (fun x v => x = size - 1 ∧ NP n0 n1 n2 n3 n4 n5 n6 cI cJ cW cG (size - 1) wk w1 w2 wq wm flows mu ml nb lines lineOf lc v) := by
  obtain ⟨hN, L, wa, ga, f, rfl, hW, hG⟩ := hw
  refine JQi.of (cc := cX3_removeLatest) (maxL := 1) (by decide) rfl (Nat.le_of_ble_eq_true rfl) ?_
  intro p e s m args below meth c A ls Q C hK hA ret hS hl
  obtain ⟨⟨hx, hb, hml, hown, hts⟩, -⟩ := id C
  have hl : lv_has ls 1 [(0, .ref n0)] := hl
  have inX3 : ∀ w ∈ u_ws RX3 TX3 8, w ∈ wsX3_removeLatest := by decide +kernel
  have k0 := hts (.fieldLink RX3 21 "OhmNets$Net" "size" "I") (by decide +kernel)
  have k1 := hts (.fieldLink RX3 11 "OhmNets$Net" "wires" "[LOhmNets$OneWire;") (by decide +kernel)
  refine lv_aload_n hx hb dX3_removeLatest_0 rfl (lv_at hl 0 rfl) ?_
  refine lv_dup hx hb dX3_removeLatest_1 rfl ?_
  refine va_get (D := D) (ci := 4) (v := .int size) (C := RX3) (T := TX3) (N := 8) hx hb hts inX3 hown hK hS.1 0 rfl rfl 2 (by decide) k0 (fun _ h => h) rfl dX3_removeLatest_2 ?_
  refine lv_iconst (v := (1 : Int32)) hx hb dX3_removeLatest_5 (by decide) ?_
  refine lv_isub hx hb dX3_removeLatest_6 ?_
  refine j_put (ci := 4) (v := .int (size - 1)) (ty := .int) (C := RX3) (T := TX3) (N := 8) (w' := NWX n0 n1 n2 n3 n4 n5 n6 cI cJ cW cG wa ga (size - 1) flows mu ml nb lineOf lc ++ va_pl L f) hx hb hts inX3 tyX3 tyX3_ok nmX3 hown hK hS 0 rfl rfl 2 (by decide) k0 (fun _ h => h) rfl (by decide +kernel) rfl rfl (Nat.le_of_ble_eq_true rfl) rfl dX3_removeLatest_7 (fun H locs hS => ?_)
  refine lv_aload_n hx hb dX3_removeLatest_10 rfl (lv_at hl 0 rfl) ?_
  refine va_get (D := D) (ci := 4) (v := .ref n1) (C := RX3) (T := TX3) (N := 8) hx hb hts inX3 hown hK hS.1 0 rfl rfl 0 (by decide) k1 (fun _ h => h) rfl dX3_removeLatest_11 ?_
  refine lv_aload_n hx hb dX3_removeLatest_14 rfl (lv_at hl 0 rfl) ?_
  refine va_get (D := D) (ci := 4) (v := .int (size - 1)) (C := RX3) (T := TX3) (N := 8) hx hb hts inX3 hown hK hS.1 0 rfl rfl 2 (by decide) k0 (fun _ h => h) rfl dX3_removeLatest_15 ?_
  refine lv_null hx hb dX3_removeLatest_18 ?_
  refine va_astqN hx hb hK hS.1 hS.2.1 hS.2.2 1 3 rfl rfl (jin.mpr h1) dX3_removeLatest_19 (fun H locs p1 p2 p3 => ?_)
  have hS : jS D vwCl A (NWX n0 n1 n2 n3 n4 n5 n6 cI cJ cW cG (va_up wa (size - 1).toNatClampNeg none) ga (size - 1) flows mu ml nb lineOf lc ++ va_pl L f) s.heap H locs := ⟨p1, p2, p3⟩
  refine lv_aload_n hx hb dX3_removeLatest_20 rfl (lv_at hl 0 rfl) ?_
  refine va_get (D := D) (ci := 4) (v := .int (size - 1)) (C := RX3) (T := TX3) (N := 8) hx hb hts inX3 hown hK hS.1 0 rfl rfl 2 (by decide) k0 (fun _ h => h) rfl dX3_removeLatest_21 ?_
  refine ret ⟨rfl, Nat.le_trans h2 hN, L, _, ga, f, rfl, fun j hj => ?_, hG⟩ hS rfl dX3_removeLatest_24
  obtain ⟨a, b1, b2, b3⟩ := hW j (Nat.lt_of_lt_of_le hj h2)
  exact ⟨a, by rw [va_up_ne _ _ (Nat.ne_of_lt hj)]; exact b1, b2, b3⟩
abbrev rmX9_newWire : Room := { frames := 4, cells := 1, slots := 5, locals := 84 }
set_option maxHeartbeats 4000000 in
set_option maxRecDepth 100000 in
theorem tX9_newWire (l : Launch) (D : va_G) (cI cJ cZ cW cS cO cG : ClassId) (a1 a2 a3 a4 a5 : Int32) (hk : a1 = 0 ∨ a1 = 1 ∨ a1 = 2) : JQq l yX9_newWire wsX9_newWire rmX9_newWire D vwCl (TY cI cJ cZ cW cS cO cG) [.int a1, .int a2, .int a3, .int a4, .int a5] [] (fun r v => ∃ q, r = some q ∧ v = [(q, jwc a1 a2 a3 a4 a5)]) := by
  refine JQq.of (cc := cX9_newWire) (maxL := 5) (by decide) rfl (Nat.le_of_ble_eq_true rfl) ?_
  intro p e s m args below meth c A ls Q C hK hA ret hS hl
  obtain ⟨⟨hx, hb, hml, hown, hts⟩, -⟩ := id C
  have hl : lv_has ls 5 [(0, .int a1), (1, .int a2), (2, .int a3), (3, .int a4), (4, .int a5)] := hl
  refine lv_iload_n hx hb dX9_newWire_0 rfl (lv_at hl 0 rfl) ?_
  refine lv_iconst (v := (2 : Int32)) hx hb dX9_newWire_1 (by decide) ?_
  refine lv_icmp_ne (tgt := 19) hx hb dX9_newWire_2 (by decide) (fun c1 => ?_) (fun c1 => ?_)
  · refine lv_iload_n hx hb dX9_newWire_19 rfl (lv_at hl 0 rfl) ?_
    refine lv_iconst (v := (1 : Int32)) hx hb dX9_newWire_20 (by decide) ?_
    refine lv_icmp_ne (tgt := 36) hx hb dX9_newWire_21 (by decide) (fun c2 => ?_) (fun c2 => ?_)
    · have e0 : a1 = 0 := hk.resolve_right (fun h => h.elim c2 c1)
      have inX4 : ∀ w ∈ u_ws RX4 TX4 3, w ∈ wsX9_newWire := by decide +kernel
      refine va_new (ci := 5) (fs := [.int 0, .int 0, .int 0]) (C := RX4) (T := TX4) (N := 3) hx hb hts inX4 tyX4 tyX4_ok hown (hts (.classLink RX9 115 RX4) (by decide +kernel)) (hts (.instantiable RX4 3) (by decide +kernel)) (hts (.initialized RX4) (by decide +kernel)) hK hS.1 hS.2.1 hS.2.2 hA rfl (fun j hj => by rcases (show j = 0 ∨ j = 1 ∨ j = 2 by omega) with rfl | rfl | rfl <;> rfl) (Nat.le_of_ble_eq_true rfl) (Nat.le_of_ble_eq_true rfl) dX9_newWire_36 (fun q H p1 p2 p3 => ?_)
      have hS : jS D vwCl A [(q, .inr (5, [.int 0, .int 0, .int 0]))] s.heap H [] := ⟨p1, p2, p3⟩
      refine lv_dup hx hb dX9_newWire_39 rfl ?_
      refine lv_iload_n hx hb dX9_newWire_40 rfl (lv_at hl 0 rfl) ?_
      refine lv_iload_n hx hb dX9_newWire_41 rfl (lv_at hl 1 rfl) ?_
      refine lv_iload_n hx hb dX9_newWire_42 rfl (lv_at hl 2 rfl) ?_
      refine j_Iv (As := [.int a1, .int a2, .int a3]) (rest := [.ref q]) (wf := [(q, .inr (5, [.int a1, .int a2, .int a3]))]) C hK hS (jcut_all hA hS) (tX4_init_4 l D q cI cJ cZ cW cS cO cG 0 0 0 a1 a2 a3 rfl) (cwI 3 hts gX9_newWire_X4_init rfl rfl rfl (hts (.initialized RX4) (by decide +kernel)) (hts (.methodLink RX9 117 yX4_init) (by decide +kernel)) (hts (.instanceMethod yX4_init) (by decide +kernel)) rfl (by decide +kernel) ⟨Nat.le_of_ble_eq_true rfl, Nat.le_of_ble_eq_true rfl⟩) rfl hl.1 rfl (Nat.le_of_ble_eq_true rfl) dX9_newWire_43 ⟨Nat.le_of_ble_eq_true rfl, Nat.le_of_ble_eq_true rfl⟩ (fun H locs hS => ?_)
      refine W.widen (k := 1) (n := 5) (Nat.le_of_ble_eq_true rfl) (Nat.le_of_ble_eq_true rfl) ?_
      refine ret (r := some q) ⟨q, rfl, ?_⟩ hS (Or.inl ⟨_, rfl⟩) dX9_newWire_46
      unfold jwc
      rw [if_pos e0]
    · have inX2 : ∀ w ∈ u_ws RX2 TX2 4, w ∈ wsX9_newWire := by decide +kernel
      refine va_new (ci := 3) (fs := [.int 0, .int 0, .int 0, .int 0]) (C := RX2) (T := TX2) (N := 4) hx hb hts inX2 tyX2 tyX2_ok hown (hts (.classLink RX9 110 RX2) (by decide +kernel)) (hts (.instantiable RX2 4) (by decide +kernel)) (hts (.initialized RX2) (by decide +kernel)) hK hS.1 hS.2.1 hS.2.2 hA rfl (fun j hj => by rcases (show j = 0 ∨ j = 1 ∨ j = 2 ∨ j = 3 by omega) with rfl | rfl | rfl | rfl <;> rfl) (Nat.le_of_ble_eq_true rfl) (Nat.le_of_ble_eq_true rfl) dX9_newWire_24 (fun q H p1 p2 p3 => ?_)
      have hS : jS D vwCl A [(q, .inr (3, [.int 0, .int 0, .int 0, .int 0]))] s.heap H [] := ⟨p1, p2, p3⟩
      refine lv_dup hx hb dX9_newWire_27 rfl ?_
      refine lv_iload_n hx hb dX9_newWire_28 rfl (lv_at hl 0 rfl) ?_
      refine lv_iload_n hx hb dX9_newWire_29 rfl (lv_at hl 1 rfl) ?_
      refine lv_iload_n hx hb dX9_newWire_30 rfl (lv_at hl 2 rfl) ?_
      refine lv_iload_n hx hb dX9_newWire_31 rfl (lv_at hl 3 rfl) ?_
      refine j_Iv (As := [.int a1, .int a2, .int a3, .int a4]) (rest := [.ref q]) (wf := [(q, .inr (3, [.int a1, .int a2, .int a3, .int a4]))]) C hK hS (jcut_all hA hS) (tX2_init_2 l D q cI cJ cZ cW cS cO cG 0 0 0 0 a1 a2 a3 a4 rfl) (cwI 4 hts gX9_newWire_X2_init rfl rfl rfl (hts (.initialized RX2) (by decide +kernel)) (hts (.methodLink RX9 112 yX2_init) (by decide +kernel)) (hts (.instanceMethod yX2_init) (by decide +kernel)) rfl (by decide +kernel) ⟨Nat.le_of_ble_eq_true rfl, Nat.le_of_ble_eq_true rfl⟩) rfl hl.1 rfl (Nat.le_of_ble_eq_true rfl) dX9_newWire_32 ⟨Nat.le_of_ble_eq_true rfl, Nat.le_of_ble_eq_true rfl⟩ (fun H locs hS => ?_)
      refine W.widen (k := 1) (n := 5) (Nat.le_of_ble_eq_true rfl) (Nat.le_of_ble_eq_true rfl) ?_
      refine ret (r := some q) ⟨q, rfl, ?_⟩ hS (Or.inl ⟨_, rfl⟩) dX9_newWire_35
      unfold jwc
      rw [if_neg (by rw [c2]; decide), if_pos c2]
  · have inX8 : ∀ w ∈ u_ws RX8 TX8 5, w ∈ wsX9_newWire := by decide +kernel
    refine va_new (ci := 9) (fs := [.int 0, .int 0, .int 0, .int 0, .int 0]) (C := RX8) (T := TX8) (N := 5) hx hb hts inX8 tyX8 tyX8_ok hown (hts (.classLink RX9 105 RX8) (by decide +kernel)) (hts (.instantiable RX8 5) (by decide +kernel)) (hts (.initialized RX8) (by decide +kernel)) hK hS.1 hS.2.1 hS.2.2 hA rfl (fun j hj => by rcases (show j = 0 ∨ j = 1 ∨ j = 2 ∨ j = 3 ∨ j = 4 by omega) with rfl | rfl | rfl | rfl | rfl <;> rfl) (Nat.le_of_ble_eq_true rfl) (Nat.le_of_ble_eq_true rfl) dX9_newWire_5 (fun q H p1 p2 p3 => ?_)
    have hS : jS D vwCl A [(q, .inr (9, [.int 0, .int 0, .int 0, .int 0, .int 0]))] s.heap H [] := ⟨p1, p2, p3⟩
    refine lv_dup hx hb dX9_newWire_8 rfl ?_
    refine lv_iload_n hx hb dX9_newWire_9 rfl (lv_at hl 0 rfl) ?_
    refine lv_iload_n hx hb dX9_newWire_10 rfl (lv_at hl 1 rfl) ?_
    refine lv_iload_n hx hb dX9_newWire_11 rfl (lv_at hl 2 rfl) ?_
    refine lv_iload_n hx hb dX9_newWire_12 rfl (lv_at hl 3 rfl) ?_
    refine lv_iload hx hb dX9_newWire_13 (lv_at hl 4 rfl) ?_
    refine j_Iv (As := [.int a1, .int a2, .int a3, .int a4, .int a5]) (rest := [.ref q]) (wf := [(q, .inr (9, [.int a4, .int a1, .int a2, .int a3, .int a5]))]) C hK hS (jcut_all hA hS) (tX8_init_8 l D q cI cJ cZ cW cS cO cG 0 0 0 0 0 a1 a2 a3 a4 a5 rfl) (cwI 5 hts gX9_newWire_X8_init rfl rfl rfl (hts (.initialized RX8) (by decide +kernel)) (hts (.methodLink RX9 107 yX8_init) (by decide +kernel)) (hts (.instanceMethod yX8_init) (by decide +kernel)) rfl (by decide +kernel) ⟨Nat.le_of_ble_eq_true rfl, Nat.le_of_ble_eq_true rfl⟩) rfl hl.1 rfl (Nat.le_of_ble_eq_true rfl) dX9_newWire_15 ⟨Nat.le_of_ble_eq_true rfl, Nat.le_of_ble_eq_true rfl⟩ (fun H locs hS => ?_)
    refine W.widen (k := 1) (n := 5) (Nat.le_of_ble_eq_true rfl) (Nat.le_of_ble_eq_true rfl) ?_
    refine ret (r := some q) ⟨q, rfl, ?_⟩ hS (Or.inl ⟨_, rfl⟩) dX9_newWire_18
    unfold jwc
    rw [if_neg (by rw [c1]; decide), if_neg (by rw [c1]; decide)]
