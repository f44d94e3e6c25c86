def fmeas (k q mm : Int32) : Option (Int32 × Int64 × Int64) := if k = 0 then fX4_measure else if k = 1 then fX2_measure q else fX8_measure q mm
abbrev NWR (n0 n1 n2 n3 n4 n5 n6 : Nat) (cI cJ cW cG : ClassId) (wa ga : Nat → Option Nat) (size : Int32) (flows : Nat → Int64) (nb lineOf : Nat → Int32) (lc : Int32) : va_W := [(n0, .inr (4, [.ref n1, .ref n2, .int size, .ref n3, .ref n4, .ref n5, .ref n6, .int lc])), (n1, .inl (cW, 12, .inr (.inr (.inr (.inr wa))))), (n2, .inl (cJ, 12, .inr (.inl flows))), (n4, .inl (cI, 6, .inl nb)), (n5, .inl (cG, 5, .inr (.inr (.inr (.inr ga))))), (n6, .inl (cI, 6, .inl lineOf))]
theorem NWX_perm {n0 n1 n2 n3 n4 n5 n6 : Nat} {cI cJ cW cG : ClassId} {wa ga : Nat → Option Nat} {size : Int32} {flows : Nat → Int64} {mu ml : Int64} {nb lineOf : Nat → Int32} {lc : Int32} : (NWX n0 n1 n2 n3 n4 n5 n6 cI cJ cW cG wa ga size flows mu ml nb lineOf lc).Perm (((n3, .inr (1, [.long mu, .long ml])) : Nat × va_E) :: NWR n0 n1 n2 n3 n4 n5 n6 cI cJ cW cG wa ga size flows nb lineOf lc) :=
  List.perm_middle (l₁ := ([(n0, .inr (4, [.ref n1, .ref n2, .int size, .ref n3, .ref n4, .ref n5, .ref n6, .int lc])), (n1, .inl (cW, 12, .inr (.inr (.inr (.inr wa))))), (n2, .inl (cJ, 12, .inr (.inl flows)))] : va_W)) (l₂ := ([(n4, .inl (cI, 6, .inl nb)), (n5, .inl (cG, 5, .inr (.inr (.inr (.inr ga))))), (n6, .inl (cI, 6, .inl lineOf))] : va_W))
section JMEAS
variable {p : Program} {l : Launch} {e : Env} {R : Room} {s : State} {m : MethodId} {args : Array Value} {below : List Frame} {meth : Method} {c : Code} {H : Heap} {locs : List Loc} {cells slots : Nat} {Q : State → Prop}
variable {cc : ByteArray} {pc nL : Nat} {ls : Array Slot} {rest : List Value} {D : va_G} {A : Nat → Prop} {Ts : List Cond} {y0 : MethodName} {rtt : Option FieldType} {index : Nat} {owner : String} {x : MethodName} {st0 : List Value}
/-- measure of a wire out of the pool into one fixed cell -/
theorem jn_meas {cI cJ cZ cW cS cO cG : ClassId} {X X1 X' : va_W} {L : List Nat} {f : Nat → va_E} {a h : Nat} {k a1 a2 q mm : Int32} {fu fl : Int64} {o : Int32 × Int64 × Int64} (C : jC p s m meth c cc nL args Ts y0 rtt) (hK : va_K D vwCl (TY cI cJ cZ cW cS cO cG) s) (hA : ∀ q, s.heap.size ≤ q → A q) (hS : jS D vwCl A (X ++ va_pl L f) s.heap H locs) (hm : a ∈ L) (hf : f a = jwc k a1 a2 q mm) (hE : fmeas k q mm = some o)
    (hX : X.Perm ((h, .inr (1, [.long fu, .long fl])) :: X')) (hX1 : X1.Perm ((h, .inr (1, [.long o.2.1, .long o.2.2])) :: X'))
    (cw4 : CallW R s args y0.cls RX4 index yX4_measure cX4_measure 2 (some .int) wsX4_measure rmX4_measure 0 0 1) (cw2 : va_CU R s args y0.cls RX2 owner index x yX2_measure cX2_measure 3 (some .int) wsX2_measure rmX2_measure 0 0 1) (cw8 : va_CU R s args y0.cls RX8 owner index x yX8_measure cX8_measure 3 (some .int) wsX8_measure rmX8_measure 0 0 1)
    (hsz : ls.size = nL) (hst : st0 = .ref h :: .ref a :: rest) (hW : (rest.map fun v => v.category).sum ≤ 8) (hdg : decode cc pc = .ok (.invokevirtual index, 3)) (hf2 : cells ≤ R.cells ∧ slots ≤ R.slots)
    (kk : ∀ (H1 : Heap) (locs1 : List Loc), jS D vwCl A (X1 ++ va_pl L f) s.heap H1 locs1 → W p l e R s m args below meth c H1 locs1 cells slots Q (F0 m (pc + 3) ls (.int o.1 :: rest))) : W p l e R s m args below meth c H locs cells slots Q (F0 m pc ls st0) := by
  obtain ⟨⟨hPc, hDc⟩, hF, hJ⟩ := jcut_pool2 hA hS hm hf hX hX1
  subst hst
  have hpre : ∀ U : State, U.heap = H → s.WarmedH U.vm → va_Pc [.ref a, .ref h] (jPre D vwCl (TY cI cJ cZ cW cS cO cG) [(a, jwc k a1 a2 q mm), (h, .inr (1, [.long fu, .long fl]))] H.size) (Value.ref a :: [Value.ref h]).toArray U := fun U hU hWm => ⟨rfl, by rw [hU], by rw [hU]; exact hPc, va_K.moved hWm.alike hK, hDc⟩
  have run : va_Run p l e R s m args below meth c H locs cells slots 0 0 (F0 m pc ls (.ref h :: .ref a :: rest)) rest (jQi D vwCl (TY cI cJ cZ cW cS cO cG) (va_A [(a, jwc k a1 a2 q mm), (h, .inr (1, [.long fu, .long fl]))] H.size) [(a, jwc k a1 a2 q mm), (h, .inr (1, [.long o.2.1, .long o.2.2]))] o.1 (Value.ref a :: [Value.ref h]).toArray) (va_A [(a, jwc k a1 a2 q mm), (h, .inr (1, [.long fu, .long fl]))] H.size) := by
    unfold fmeas at hE
    by_cases e0 : k = 0
    · rw [if_pos e0] at hE
      exact va_runV (C := RX4) (b := a) (As := [.ref h]) (rest := rest) C.1 (tX4_measure l D a h cI cJ cZ cW cS cO cG k a1 a2 q mm fu fl hE H.size) cw4 ⟨jPre_blind, jwc_recv (q0 := 0) hK hPc rfl RX4 (by rw [if_pos e0]), hpre⟩ rfl rfl hsz rfl (lv_room hW) hdg hf2
    · rw [if_neg e0] at hE
      by_cases e1 : k = 1
      · rw [if_pos e1] at hE
        exact va_runU (C := RX2) (b := a) (As := [.ref h]) (rest := rest) C.1 (tX2_measure l D a h cI cJ cZ cW cS cO cG k a1 a2 q mm fu fl hE e0 H.size) cw2 ⟨jPre_blind, jwc_recv (q0 := 0) hK hPc rfl RX2 (by rw [if_neg e0, if_pos e1]), hpre⟩ rfl rfl hsz rfl (lv_room hW) hdg hf2
      · rw [if_neg e1] at hE
        exact va_runU (C := RX8) (b := a) (As := [.ref h]) (rest := rest) C.1 (tX8_measure l D a h cI cJ cZ cW cS cO cG k a1 a2 q mm fu fl hE e0 e1 H.size) cw8 ⟨jPre_blind, jwc_recv (q0 := 0) hK hPc rfl RX8 (by rw [if_neg e0, if_neg e1]), hpre⟩ rfl rfl hsz rfl (lv_room hW) hdg hf2
  refine va_calli run hS.2.2 (fun q _ h => hF q h) hF (fun r' u t H1 locs1 ht hvm hw hB hz hk hS1 => ?_)
  subst hw
  exact kk H1 locs1 (hJ H1 locs1 hk (by rw [← ht]; exact hB.1) hB.2.2 hS1)
end JMEAS

def fX3_flowOf (k q mm : Int32) : Option (Int64 × Int64 × Int64) :=
  (fmeas k q mm).bind (fun o_1 => 
  if o_1.2.1 = (0 : Int64) then
  some ((0 : Int64), o_1.2.1, o_1.2.2)
  else
  if ¬ o_1.2.1 = 0 then
  some ((((12 : Int64) * o_1.2.2) / o_1.2.1), o_1.2.1, o_1.2.2)
  else none)
abbrev rmX3_flowOf : Room := { frames := 4, cells := 0, slots := 0, locals := 89 }
set_option maxHeartbeats 4000000 in
set_option maxRecDepth 100000 in
theorem tX3_flowOf (l : Launch) (D : va_G) (n0 n1 n2 n3 n4 n5 n6 : Nat) (cI cJ cZ cW cS cO cG : ClassId) (wa ga : Nat → Option Nat) (L : List Nat) (f : Nat → va_E) (size : Int32) (flows : Nat → Int64) (mu : Int64) (ml : Int64) (nb : Nat → Int32) (lineOf : Nat → Int32) (lc : Int32) (a : Nat) (k a1 a2 q mm : Int32) (hm : a ∈ L) (hf : f a = jwc k a1 a2 q mm) {o : Int64 × Int64 × Int64} (hE : fX3_flowOf k q mm = some o) : JMl l yX3_flowOf wsX3_flowOf rmX3_flowOf D vwCl (TY cI cJ cZ cW cS cO cG) [.ref n0, .ref a] (NWX n0 n1 n2 n3 n4 n5 n6 cI cJ cW cG wa ga size flows mu ml nb lineOf lc ++ va_pl L f) (NWX n0 n1 n2 n3 n4 n5 n6 cI cJ cW cG wa ga size flows o.2.1 o.2.2 nb lineOf lc ++ va_pl L f) o.1 := by
  refine JMl.of (cc := cX3_flowOf) (maxL := 2) (by decide) rfl (Nat.le_of_ble_eq_true rfl) ?_
  intro p e s m args below meth c A ls Q C hK hA ret hS hl
  obtain ⟨⟨hx, hb, hml, hown, hts⟩, -⟩ := id C
  have hl : lv_has ls 2 [(0, .ref n0), (1, .ref a)] := hl
  have inX3 : ∀ w ∈ u_ws RX3 TX3 8, w ∈ wsX3_flowOf := by decide +kernel
  have inX0 : ∀ w ∈ u_ws RX0 TX0 2, w ∈ wsX3_flowOf := by decide +kernel
  have k0 := hts (.fieldLink RX3 28 "OhmNets$Net" "measured" "LOhmNets$Fraction;") (by decide +kernel)
  have k1 := hts (.fieldLink RX3 55 "OhmNets$Fraction" "upper" "J") (by decide +kernel)
  have k2 := hts (.constantLong RX3 59 (12)) (by decide +kernel)
  have k3 := hts (.fieldLink RX3 61 "OhmNets$Fraction" "lower" "J") (by decide +kernel)
  refine lv_aload_n hx hb dX3_flowOf_0 rfl (lv_at hl 1 rfl) ?_
  refine lv_aload_n hx hb dX3_flowOf_1 rfl (lv_at hl 0 rfl) ?_
  refine va_get (D := D) (ci := 4) (v := .ref n3) (C := RX3) (T := TX3) (N := 8) hx hb hts inX3 hown hK hS.1 0 rfl rfl 3 (by decide) k0 (fun _ h => h) rfl dX3_flowOf_2 ?_
  obtain ⟨o_1, h_2, hE⟩ := jbd hE
  refine jn_meas (X := NWX n0 n1 n2 n3 n4 n5 n6 cI cJ cW cG wa ga size flows mu ml nb lineOf lc) (X1 := NWX n0 n1 n2 n3 n4 n5 n6 cI cJ cW cG wa ga size flows o_1.2.1 o_1.2.2 nb lineOf lc) (X' := NWR n0 n1 n2 n3 n4 n5 n6 cI cJ cW cG wa ga size flows nb lineOf lc) (h := n3) (rest := []) C hK hA hS hm hf h_2 NWX_perm NWX_perm (cwV 1 hts gX3_flowOf_X4_measure rfl rfl rfl (by decide +kernel) ⟨Nat.le_of_ble_eq_true rfl, Nat.le_of_ble_eq_true rfl⟩) (va_cwO 1 hts gX3_flowOf_X2_measure_u51X2 rfl rfl rfl (b0 := cX4_measure) (m0 := 2) (r0 := some .int) (by decide +kernel) (by decide +kernel) ⟨Nat.le_of_ble_eq_true rfl, Nat.le_of_ble_eq_true rfl⟩) (va_cwO 1 hts gX3_flowOf_X8_measure_u51X8 rfl rfl rfl (b0 := cX4_measure) (m0 := 2) (r0 := some .int) (by decide +kernel) (by decide +kernel) ⟨Nat.le_of_ble_eq_true rfl, Nat.le_of_ble_eq_true rfl⟩) hl.1 rfl (Nat.le_of_ble_eq_true rfl) dX3_flowOf_5 ⟨Nat.zero_le _, Nat.zero_le _⟩ (fun H locs hS => ?_)
  refine lv_pop hx hb dX3_flowOf_8 rfl ?_
  refine lv_aload_n hx hb dX3_flowOf_9 rfl (lv_at hl 0 rfl) ?_
  refine va_get (D := D) (ci := 4) (v := .ref n3) (C := RX3) (T := TX3) (N := 8) hx hb hts inX3 hown hK hS.1 0 rfl rfl 3 (by decide) k0 (fun _ h => h) rfl dX3_flowOf_10 ?_
  refine va_get (D := D) (ci := 1) (v := .long o_1.2.1) (C := RX0) (T := TX0) (N := 2) hx hb hts inX0 hown hK hS.1 3 rfl rfl 0 (by decide) k1 (fun _ h => h) rfl dX3_flowOf_13 ?_
  refine lv_lconst (v := (0 : Int64)) hx hb dX3_flowOf_16 (by decide) ?_
  refine jl_ne (tgt := 25) hx hb dX3_flowOf_17 dX3_flowOf_18 (by decide) (fun c_3 => ?_) (fun c_3 => ?_)
  · have hE := jf hE c_3
    refine lv_ldc2 (v := (12 : Int64)) hx hb hown k2 dX3_flowOf_25 ?_
    refine lv_aload_n hx hb dX3_flowOf_28 rfl (lv_at hl 0 rfl) ?_
    refine va_get (D := D) (ci := 4) (v := .ref n3) (C := RX3) (T := TX3) (N := 8) hx hb hts inX3 hown hK hS.1 0 rfl rfl 3 (by decide) k0 (fun _ h => h) rfl dX3_flowOf_29 ?_
    refine va_get (D := D) (ci := 1) (v := .long o_1.2.2) (C := RX0) (T := TX0) (N := 2) hx hb hts inX0 hown hK hS.1 3 rfl rfl 1 (by decide) k3 (fun _ h => h) rfl dX3_flowOf_32 ?_
    refine lv_lmul hx hb dX3_flowOf_35 ?_
    refine lv_aload_n hx hb dX3_flowOf_36 rfl (lv_at hl 0 rfl) ?_
    refine va_get (D := D) (ci := 4) (v := .ref n3) (C := RX3) (T := TX3) (N := 8) hx hb hts inX3 hown hK hS.1 0 rfl rfl 3 (by decide) k0 (fun _ h => h) rfl dX3_flowOf_37 ?_
    refine va_get (D := D) (ci := 1) (v := .long o_1.2.1) (C := RX0) (T := TX0) (N := 2) hx hb hts inX0 hown hK hS.1 3 rfl rfl 0 (by decide) k1 (fun _ h => h) rfl dX3_flowOf_40 ?_
    obtain ⟨z_4, hE⟩ := jgd hE
    refine lv_ldiv hx hb dX3_flowOf_43 z_4 ?_
    obtain rfl := jsm hE
    exact ret hS dX3_flowOf_44
  · have hE := jt hE c_3
    refine lv_lconst (v := (0 : Int64)) hx hb dX3_flowOf_21 (by decide) ?_
    refine lv_goto (tgt := 44) hx hb dX3_flowOf_22 (by decide) ?_
    obtain rfl := jsm hE
    exact ret hS dX3_flowOf_44
