abbrev FRW (h0 : Nat) (upper : Int64) (lower : Int64) : va_W := [(h0, .inr (1, [.long upper, .long lower]))]
abbrev SHW (h0 h1 h2 h3 h4 : Nat) (cI : ClassId) (size : Int32) (ohms : Nat → Int32) (prices : Nat → Int32) (tu : Int64) (tl : Int64) (ku : Int64) (kl : Int64) : va_W := [(h0, .inr (8, [.ref h1, .ref h2, .int size, .ref h3, .ref h4])), (h1, .inl (cI, 6, .inl ohms)), (h2, .inl (cI, 6, .inl prices)), (h3, .inr (1, [.long tu, .long tl])), (h4, .inr (1, [.long ku, .long kl]))]
abbrev SMW (h0 h1 h2 h3 h4 h5 : Nat) (cI : ClassId) (size : Int32) (ohms : Nat → Int32) (ru : Int64) (rl : Int64) : va_W := [(h0, .inr (8, [.ref h1, .ref h2, .int size, .ref h3, .ref h4])), (h1, .inl (cI, 6, .inl ohms)), (h5, .inr (1, [.long ru, .long rl]))]
def fJ6_bitCount_0f7a4 (a1 : Int32) : Option (Int32) :=
  jlet (a1 - ((a1.toUInt32 >>> ((1 : Int32).toUInt32 &&& Int32.toUInt32 31)).toInt32 &&& (1431655765 : Int32))) (fun x_1 => 
  jlet ((x_1 &&& (858993459 : Int32)) + ((x_1.toUInt32 >>> ((2 : Int32).toUInt32 &&& Int32.toUInt32 31)).toInt32 &&& (858993459 : Int32))) (fun x_2 => 
  jlet ((x_2 + (x_2.toUInt32 >>> ((4 : Int32).toUInt32 &&& Int32.toUInt32 31)).toInt32) &&& (252645135 : Int32)) (fun x_3 => 
  jlet (x_3 + (x_3.toUInt32 >>> ((8 : Int32).toUInt32 &&& Int32.toUInt32 31)).toInt32) (fun x_4 => 
  jlet (x_4 + (x_4.toUInt32 >>> ((16 : Int32).toUInt32 &&& Int32.toUInt32 31)).toInt32) (fun x_5 => 
  some (x_5 &&& (63 : Int32)))))))
abbrev rmJ6_bitCount_0f7a4 : Room := { frames := 0, cells := 0, slots := 0, locals := 0 }
set_option maxHeartbeats 4000000 in
set_option maxRecDepth 100000 in
theorem tJ6_bitCount_0f7a4 (l : Launch) (D : va_G) (cI cJ cZ cW cS cO cG : ClassId) (a1 : Int32) {o : Int32} (hE : fJ6_bitCount_0f7a4 a1 = some o) : JMi l yJ6_bitCount_0f7a4 wsJ6_bitCount_0f7a4 rmJ6_bitCount_0f7a4 D vwCl (TY cI cJ cZ cW cS cO cG) [.int a1] ([]) ([]) o := by
  refine JMi.of (cc := cJ6_bitCount_0f7a4) (maxL := 1) (by decide) rfl (Nat.le_of_ble_eq_true rfl) ?_
  intro p e s m args below meth c A ls Q C hK hA ret hS hl
  obtain ⟨⟨hx, hb, hml, hown, hts⟩, -⟩ := id C
  have hl : lv_has ls 1 [(0, .int a1)] := hl
  have k0 := hts (.constant RJ6 265 (1431655765)) (by decide +kernel)
  have k1 := hts (.constant RJ6 266 (858993459)) (by decide +kernel)
  have k2 := hts (.constant RJ6 267 (252645135)) (by decide +kernel)
  refine lv_iload_n hx hb dJ6_bitCount_0f7a4_0 rfl (lv_at hl 0 rfl) ?_
  refine lv_iload_n hx hb dJ6_bitCount_0f7a4_1 rfl (lv_at hl 0 rfl) ?_
  refine lv_iconst (v := (1 : Int32)) hx hb dJ6_bitCount_0f7a4_2 (by decide) ?_
  refine lv_iushr (v := (a1.toUInt32 >>> ((1 : Int32).toUInt32 &&& Int32.toUInt32 31)).toInt32) hx hb dJ6_bitCount_0f7a4_3 rfl ?_
  refine lv_ldcw (v := (1431655765 : Int32)) hx hb hown k0 dJ6_bitCount_0f7a4_4 ?_
  refine lv_iand hx hb dJ6_bitCount_0f7a4_7 ?_
  refine lv_isub hx hb dJ6_bitCount_0f7a4_8 ?_
  refine lv_topi (fun x_1 ex_1 => ?_)
  have hE := jlv hE ex_1
  refine lv_istore_n (lv' := [(0, .int x_1)]) hx hb dJ6_bitCount_0f7a4_9 rfl hl (by decide) rfl (fun ls hl => ?_)
  refine lv_iload_n hx hb dJ6_bitCount_0f7a4_10 rfl (lv_at hl 0 rfl) ?_
  refine lv_ldcw (v := (858993459 : Int32)) hx hb hown k1 dJ6_bitCount_0f7a4_11 ?_
  refine lv_iand hx hb dJ6_bitCount_0f7a4_14 ?_
  refine lv_iload_n hx hb dJ6_bitCount_0f7a4_15 rfl (lv_at hl 0 rfl) ?_
  refine lv_iconst (v := (2 : Int32)) hx hb dJ6_bitCount_0f7a4_16 (by decide) ?_
  refine lv_iushr (v := (x_1.toUInt32 >>> ((2 : Int32).toUInt32 &&& Int32.toUInt32 31)).toInt32) hx hb dJ6_bitCount_0f7a4_17 rfl ?_
  refine lv_ldcw (v := (858993459 : Int32)) hx hb hown k1 dJ6_bitCount_0f7a4_18 ?_
  refine lv_iand hx hb dJ6_bitCount_0f7a4_21 ?_
  refine lv_iadd hx hb dJ6_bitCount_0f7a4_22 ?_
  refine lv_topi (fun x_2 ex_2 => ?_)
  have hE := jlv hE ex_2
  refine lv_istore_n (lv' := [(0, .int x_2)]) hx hb dJ6_bitCount_0f7a4_23 rfl hl (by decide) rfl (fun ls hl => ?_)
  refine lv_iload_n hx hb dJ6_bitCount_0f7a4_24 rfl (lv_at hl 0 rfl) ?_
  refine lv_iload_n hx hb dJ6_bitCount_0f7a4_25 rfl (lv_at hl 0 rfl) ?_
  refine lv_iconst (v := (4 : Int32)) hx hb dJ6_bitCount_0f7a4_26 (by decide) ?_
  refine lv_iushr (v := (x_2.toUInt32 >>> ((4 : Int32).toUInt32 &&& Int32.toUInt32 31)).toInt32) hx hb dJ6_bitCount_0f7a4_27 rfl ?_
  refine lv_iadd hx hb dJ6_bitCount_0f7a4_28 ?_
  refine lv_ldcw (v := (252645135 : Int32)) hx hb hown k2 dJ6_bitCount_0f7a4_29 ?_
  refine lv_iand hx hb dJ6_bitCount_0f7a4_32 ?_
  refine lv_topi (fun x_3 ex_3 => ?_)
  have hE := jlv hE ex_3
  refine lv_istore_n (lv' := [(0, .int x_3)]) hx hb dJ6_bitCount_0f7a4_33 rfl hl (by decide) rfl (fun ls hl => ?_)
  refine lv_iload_n hx hb dJ6_bitCount_0f7a4_34 rfl (lv_at hl 0 rfl) ?_
  refine lv_iload_n hx hb dJ6_bitCount_0f7a4_35 rfl (lv_at hl 0 rfl) ?_
  refine lv_bipush (v := (8 : Int32)) hx hb dJ6_bitCount_0f7a4_36 (by decide) ?_
  refine lv_iushr (v := (x_3.toUInt32 >>> ((8 : Int32).toUInt32 &&& Int32.toUInt32 31)).toInt32) hx hb dJ6_bitCount_0f7a4_38 rfl ?_
  refine lv_iadd hx hb dJ6_bitCount_0f7a4_39 ?_
  refine lv_topi (fun x_4 ex_4 => ?_)
  have hE := jlv hE ex_4
  refine lv_istore_n (lv' := [(0, .int x_4)]) hx hb dJ6_bitCount_0f7a4_40 rfl hl (by decide) rfl (fun ls hl => ?_)
  refine lv_iload_n hx hb dJ6_bitCount_0f7a4_41 rfl (lv_at hl 0 rfl) ?_
  refine lv_iload_n hx hb dJ6_bitCount_0f7a4_42 rfl (lv_at hl 0 rfl) ?_
  refine lv_bipush (v := (16 : Int32)) hx hb dJ6_bitCount_0f7a4_43 (by decide) ?_
  refine lv_iushr (v := (x_4.toUInt32 >>> ((16 : Int32).toUInt32 &&& Int32.toUInt32 31)).toInt32) hx hb dJ6_bitCount_0f7a4_45 rfl ?_
  refine lv_iadd hx hb dJ6_bitCount_0f7a4_46 ?_
  refine lv_topi (fun x_5 ex_5 => ?_)
  have hE := jlv hE ex_5
  refine lv_istore_n (lv' := [(0, .int x_5)]) hx hb dJ6_bitCount_0f7a4_47 rfl hl (by decide) rfl (fun ls hl => ?_)
  refine lv_iload_n hx hb dJ6_bitCount_0f7a4_48 rfl (lv_at hl 0 rfl) ?_
  refine lv_bipush (v := (63 : Int32)) hx hb dJ6_bitCount_0f7a4_49 (by decide) ?_
  refine lv_iand hx hb dJ6_bitCount_0f7a4_51 ?_
  obtain rfl := jsm hE
  exact ret hS rfl dJ6_bitCount_0f7a4_52
def fJ6_numberOfTrailingZeros_0f7a4 (a1 : Int32) : Option (Int32) :=
  jlet ((a1 ^^^ (-1 : Int32)) &&& (a1 - (1 : Int32))) (fun x_1 => 
  if 0 < x_1 then
  jlet (if x_1 ≤ (65536 : Int32) then
  (x_1, (1 : Int32))
  else
  ((x_1.toUInt32 >>> ((16 : Int32).toUInt32 &&& Int32.toUInt32 31)).toInt32, ((1 : Int32) + (16 : Int32)))) (fun o_3 => 
  jlet (if o_3.1 ≤ (256 : Int32) then
  (o_3.1, o_3.2)
  else
  ((o_3.1.toUInt32 >>> ((8 : Int32).toUInt32 &&& Int32.toUInt32 31)).toInt32, (o_3.2 + (8 : Int32)))) (fun o_7 => 
  jlet (if o_7.1 ≤ (16 : Int32) then
  (o_7.1, o_7.2)
  else
  ((o_7.1.toUInt32 >>> ((4 : Int32).toUInt32 &&& Int32.toUInt32 31)).toInt32, (o_7.2 + (4 : Int32)))) (fun o_11 => 
  jlet (if o_11.1 ≤ (4 : Int32) then
  (o_11.1, o_11.2)
  else
  ((o_11.1.toUInt32 >>> ((2 : Int32).toUInt32 &&& Int32.toUInt32 31)).toInt32, (o_11.2 + (2 : Int32)))) (fun o_15 => 
  some (o_15.2 + (o_15.1.toUInt32 >>> ((1 : Int32).toUInt32 &&& Int32.toUInt32 31)).toInt32)))))
  else
  some (x_1 &&& (32 : Int32)))
abbrev rmJ6_numberOfTrailingZeros_0f7a4 : Room := { frames := 0, cells := 0, slots := 0, locals := 0 }
set_option maxHeartbeats 4000000 in
set_option maxRecDepth 100000 in
theorem tJ6_numberOfTrailingZeros_0f7a4 (l : Launch) (D : va_G) (cI cJ cZ cW cS cO cG : ClassId) (a1 : Int32) {o : Int32} (hE : fJ6_numberOfTrailingZeros_0f7a4 a1 = some o) : JMi l yJ6_numberOfTrailingZeros_0f7a4 wsJ6_numberOfTrailingZeros_0f7a4 rmJ6_numberOfTrailingZeros_0f7a4 D vwCl (TY cI cJ cZ cW cS cO cG) [.int a1] ([]) ([]) o := by
  refine JMi.of (cc := cJ6_numberOfTrailingZeros_0f7a4) (maxL := 2) (by decide) rfl (Nat.le_of_ble_eq_true rfl) ?_
  intro p e s m args below meth c A ls Q C hK hA ret hS hl
  obtain ⟨⟨hx, hb, hml, hown, hts⟩, -⟩ := id C
  have hl : lv_has ls 2 [(0, .int a1)] := hl
  have k0 := hts (.constant RJ6 264 (65536)) (by decide +kernel)
  refine lv_iload_n hx hb dJ6_numberOfTrailingZeros_0f7a4_0 rfl (lv_at hl 0 rfl) ?_
  refine lv_iconst (v := (-1 : Int32)) hx hb dJ6_numberOfTrailingZeros_0f7a4_1 (by decide) ?_
  refine lv_ixor hx hb dJ6_numberOfTrailingZeros_0f7a4_2 ?_
  refine lv_iload_n hx hb dJ6_numberOfTrailingZeros_0f7a4_3 rfl (lv_at hl 0 rfl) ?_
  refine lv_iconst (v := (1 : Int32)) hx hb dJ6_numberOfTrailingZeros_0f7a4_4 (by decide) ?_
  refine lv_isub hx hb dJ6_numberOfTrailingZeros_0f7a4_5 ?_
  refine lv_iand hx hb dJ6_numberOfTrailingZeros_0f7a4_6 ?_
  refine lv_topi (fun x_1 ex_1 => ?_)
  have hE := jlv hE ex_1
  refine lv_istore_n (lv' := [(0, .int x_1)]) hx hb dJ6_numberOfTrailingZeros_0f7a4_7 rfl hl (by decide) rfl (fun ls hl => ?_)
  refine lv_iload_n hx hb dJ6_numberOfTrailingZeros_0f7a4_8 rfl (lv_at hl 0 rfl) ?_
  refine lv_if_gt (tgt := 17) hx hb dJ6_numberOfTrailingZeros_0f7a4_9 (by decide) (fun c_2 => ?_) (fun c_2 => ?_)
  · have hE := jt hE c_2
    refine lv_iconst (v := (1 : Int32)) hx hb dJ6_numberOfTrailingZeros_0f7a4_17 (by decide) ?_
    refine lv_istore_n (lv' := [(1, .int (1 : Int32)), (0, .int x_1)]) hx hb dJ6_numberOfTrailingZeros_0f7a4_18 rfl hl (by decide) rfl (fun ls hl => ?_)
    refine lv_iload_n hx hb dJ6_numberOfTrailingZeros_0f7a4_19 rfl (lv_at hl 1 rfl) ?_
    refine lv_ldcw (v := (65536 : Int32)) hx hb hown k0 dJ6_numberOfTrailingZeros_0f7a4_20 ?_
    obtain ⟨o_3, r_5⟩ : ∃ y : Int32 × Int32, y = (if x_1 ≤ (65536 : Int32) then (x_1, (1 : Int32)) else ((x_1.toUInt32 >>> ((16 : Int32).toUInt32 &&& Int32.toUInt32 31)).toInt32, ((1 : Int32) + (16 : Int32)))) := ⟨_, rfl⟩
    have hE := jlv hE r_5
    have K_4 : jW p l e rmJ6_numberOfTrailingZeros_0f7a4 s m args below meth c 0 0 Q D vwCl A ([]) 2 [(0, .int o_3.1), (1, .int o_3.2)] 34 [] := by
      intro H locs ls hS hl
      refine lv_iload_n hx hb dJ6_numberOfTrailingZeros_0f7a4_34 rfl (lv_at hl 0 rfl) ?_
      refine lv_sipush (v := (256 : Int32)) hx hb dJ6_numberOfTrailingZeros_0f7a4_35 (by decide) ?_
      obtain ⟨o_7, r_9⟩ : ∃ y : Int32 × Int32, y = (if o_3.1 ≤ (256 : Int32) then (o_3.1, o_3.2) else ((o_3.1.toUInt32 >>> ((8 : Int32).toUInt32 &&& Int32.toUInt32 31)).toInt32, (o_3.2 + (8 : Int32)))) := ⟨_, rfl⟩
      have hE := jlv hE r_9
      have K_8 : jW p l e rmJ6_numberOfTrailingZeros_0f7a4 s m args below meth c 0 0 Q D vwCl A ([]) 2 [(0, .int o_7.1), (1, .int o_7.2)] 49 [] := by
        intro H locs ls hS hl
        refine lv_iload_n hx hb dJ6_numberOfTrailingZeros_0f7a4_49 rfl (lv_at hl 0 rfl) ?_
        refine lv_bipush (v := (16 : Int32)) hx hb dJ6_numberOfTrailingZeros_0f7a4_50 (by decide) ?_
        obtain ⟨o_11, r_13⟩ : ∃ y : Int32 × Int32, y = (if o_7.1 ≤ (16 : Int32) then (o_7.1, o_7.2) else ((o_7.1.toUInt32 >>> ((4 : Int32).toUInt32 &&& Int32.toUInt32 31)).toInt32, (o_7.2 + (4 : Int32)))) := ⟨_, rfl⟩
        have hE := jlv hE r_13
        have K_12 : jW p l e rmJ6_numberOfTrailingZeros_0f7a4 s m args below meth c 0 0 Q D vwCl A ([]) 2 [(0, .int o_11.1), (1, .int o_11.2)] 62 [] := by
          intro H locs ls hS hl
          refine lv_iload_n hx hb dJ6_numberOfTrailingZeros_0f7a4_62 rfl (lv_at hl 0 rfl) ?_
          refine lv_iconst (v := (4 : Int32)) hx hb dJ6_numberOfTrailingZeros_0f7a4_63 (by decide) ?_
          obtain ⟨o_15, r_17⟩ : ∃ y : Int32 × Int32, y = (if o_11.1 ≤ (4 : Int32) then (o_11.1, o_11.2) else ((o_11.1.toUInt32 >>> ((2 : Int32).toUInt32 &&& Int32.toUInt32 31)).toInt32, (o_11.2 + (2 : Int32)))) := ⟨_, rfl⟩
          have hE := jlv hE r_17
          have K_16 : jW p l e rmJ6_numberOfTrailingZeros_0f7a4 s m args below meth c 0 0 Q D vwCl A ([]) 2 [(0, .int o_15.1), (1, .int o_15.2)] 74 [] := by
            intro H locs ls hS hl
            refine lv_iload_n hx hb dJ6_numberOfTrailingZeros_0f7a4_74 rfl (lv_at hl 1 rfl) ?_
            refine lv_iload_n hx hb dJ6_numberOfTrailingZeros_0f7a4_75 rfl (lv_at hl 0 rfl) ?_
            refine lv_iconst (v := (1 : Int32)) hx hb dJ6_numberOfTrailingZeros_0f7a4_76 (by decide) ?_
            refine lv_iushr (v := (o_15.1.toUInt32 >>> ((1 : Int32).toUInt32 &&& Int32.toUInt32 31)).toInt32) hx hb dJ6_numberOfTrailingZeros_0f7a4_77 rfl ?_
            refine lv_iadd hx hb dJ6_numberOfTrailingZeros_0f7a4_78 ?_
            obtain rfl := jsm hE
            exact ret hS rfl dJ6_numberOfTrailingZeros_0f7a4_79
          refine lv_icmp_le (tgt := 74) hx hb dJ6_numberOfTrailingZeros_0f7a4_64 (by decide) (fun c_18 => ?_) (fun c_18 => ?_)
          · have r_17 := r_17.trans (if_pos c_18)
            subst r_17
            exact K_16 _ _ _ hS (lv_sub hl [0, 1] rfl)
          · have r_17 := r_17.trans (if_neg c_18)
            refine lv_iinc (v := (o_11.2 + (2 : Int32))) (lv' := [(1, .int (o_11.2 + (2 : Int32))), (0, .int o_11.1)]) hx hb dJ6_numberOfTrailingZeros_0f7a4_67 hl (k := 1) rfl rfl (by decide) rfl (fun ls hl => ?_)
            refine lv_iload_n hx hb dJ6_numberOfTrailingZeros_0f7a4_70 rfl (lv_at hl 1 rfl) ?_
            refine lv_iconst (v := (2 : Int32)) hx hb dJ6_numberOfTrailingZeros_0f7a4_71 (by decide) ?_
            refine lv_iushr (v := (o_11.1.toUInt32 >>> ((2 : Int32).toUInt32 &&& Int32.toUInt32 31)).toInt32) hx hb dJ6_numberOfTrailingZeros_0f7a4_72 rfl ?_
            refine lv_istore_n (lv' := [(0, .int ((o_11.1.toUInt32 >>> ((2 : Int32).toUInt32 &&& Int32.toUInt32 31)).toInt32)), (1, .int (o_11.2 + (2 : Int32)))]) hx hb dJ6_numberOfTrailingZeros_0f7a4_73 rfl hl (by decide) rfl (fun ls hl => ?_)
            subst r_17
            exact K_16 _ _ _ hS (lv_sub hl [0, 1] rfl)
        refine lv_icmp_le (tgt := 62) hx hb dJ6_numberOfTrailingZeros_0f7a4_52 (by decide) (fun c_14 => ?_) (fun c_14 => ?_)
        · have r_13 := r_13.trans (if_pos c_14)
          subst r_13
          exact K_12 _ _ _ hS (lv_sub hl [0, 1] rfl)
        · have r_13 := r_13.trans (if_neg c_14)
          refine lv_iinc (v := (o_7.2 + (4 : Int32))) (lv' := [(1, .int (o_7.2 + (4 : Int32))), (0, .int o_7.1)]) hx hb dJ6_numberOfTrailingZeros_0f7a4_55 hl (k := 1) rfl rfl (by decide) rfl (fun ls hl => ?_)
          refine lv_iload_n hx hb dJ6_numberOfTrailingZeros_0f7a4_58 rfl (lv_at hl 1 rfl) ?_
          refine lv_iconst (v := (4 : Int32)) hx hb dJ6_numberOfTrailingZeros_0f7a4_59 (by decide) ?_
          refine lv_iushr (v := (o_7.1.toUInt32 >>> ((4 : Int32).toUInt32 &&& Int32.toUInt32 31)).toInt32) hx hb dJ6_numberOfTrailingZeros_0f7a4_60 rfl ?_
          refine lv_istore_n (lv' := [(0, .int ((o_7.1.toUInt32 >>> ((4 : Int32).toUInt32 &&& Int32.toUInt32 31)).toInt32)), (1, .int (o_7.2 + (4 : Int32)))]) hx hb dJ6_numberOfTrailingZeros_0f7a4_61 rfl hl (by decide) rfl (fun ls hl => ?_)
          subst r_13
          exact K_12 _ _ _ hS (lv_sub hl [0, 1] rfl)
      refine lv_icmp_le (tgt := 49) hx hb dJ6_numberOfTrailingZeros_0f7a4_38 (by decide) (fun c_10 => ?_) (fun c_10 => ?_)
      · have r_9 := r_9.trans (if_pos c_10)
        subst r_9
        exact K_8 _ _ _ hS (lv_sub hl [0, 1] rfl)
      · have r_9 := r_9.trans (if_neg c_10)
        refine lv_iinc (v := (o_3.2 + (8 : Int32))) (lv' := [(1, .int (o_3.2 + (8 : Int32))), (0, .int o_3.1)]) hx hb dJ6_numberOfTrailingZeros_0f7a4_41 hl (k := 1) rfl rfl (by decide) rfl (fun ls hl => ?_)
        refine lv_iload_n hx hb dJ6_numberOfTrailingZeros_0f7a4_44 rfl (lv_at hl 1 rfl) ?_
        refine lv_bipush (v := (8 : Int32)) hx hb dJ6_numberOfTrailingZeros_0f7a4_45 (by decide) ?_
        refine lv_iushr (v := (o_3.1.toUInt32 >>> ((8 : Int32).toUInt32 &&& Int32.toUInt32 31)).toInt32) hx hb dJ6_numberOfTrailingZeros_0f7a4_47 rfl ?_
        refine lv_istore_n (lv' := [(0, .int ((o_3.1.toUInt32 >>> ((8 : Int32).toUInt32 &&& Int32.toUInt32 31)).toInt32)), (1, .int (o_3.2 + (8 : Int32)))]) hx hb dJ6_numberOfTrailingZeros_0f7a4_48 rfl hl (by decide) rfl (fun ls hl => ?_)
        subst r_9
        exact K_8 _ _ _ hS (lv_sub hl [0, 1] rfl)
    refine lv_icmp_le (tgt := 34) hx hb dJ6_numberOfTrailingZeros_0f7a4_23 (by decide) (fun c_6 => ?_) (fun c_6 => ?_)
    · have r_5 := r_5.trans (if_pos c_6)
      subst r_5
      exact K_4 _ _ _ hS (lv_sub hl [1, 0] rfl)
    · have r_5 := r_5.trans (if_neg c_6)
      refine lv_iinc (v := ((1 : Int32) + (16 : Int32))) (lv' := [(1, .int ((1 : Int32) + (16 : Int32))), (0, .int x_1)]) hx hb dJ6_numberOfTrailingZeros_0f7a4_26 hl (k := 0) rfl rfl (by decide) rfl (fun ls hl => ?_)
      refine lv_iload_n hx hb dJ6_numberOfTrailingZeros_0f7a4_29 rfl (lv_at hl 1 rfl) ?_
      refine lv_bipush (v := (16 : Int32)) hx hb dJ6_numberOfTrailingZeros_0f7a4_30 (by decide) ?_
      refine lv_iushr (v := (x_1.toUInt32 >>> ((16 : Int32).toUInt32 &&& Int32.toUInt32 31)).toInt32) hx hb dJ6_numberOfTrailingZeros_0f7a4_32 rfl ?_
      refine lv_istore_n (lv' := [(0, .int ((x_1.toUInt32 >>> ((16 : Int32).toUInt32 &&& Int32.toUInt32 31)).toInt32)), (1, .int ((1 : Int32) + (16 : Int32)))]) hx hb dJ6_numberOfTrailingZeros_0f7a4_33 rfl hl (by decide) rfl (fun ls hl => ?_)
      subst r_5
      exact K_4 _ _ _ hS (lv_sub hl [0, 1] rfl)
  · have hE := jf hE c_2
    refine lv_iload_n hx hb dJ6_numberOfTrailingZeros_0f7a4_12 rfl (lv_at hl 0 rfl) ?_
    refine lv_bipush (v := (32 : Int32)) hx hb dJ6_numberOfTrailingZeros_0f7a4_13 (by decide) ?_
    refine lv_iand hx hb dJ6_numberOfTrailingZeros_0f7a4_15 ?_
    obtain rfl := jsm hE
    exact ret hS rfl dJ6_numberOfTrailingZeros_0f7a4_16
def fX0_set (a1 : Int64) (a2 : Int64) : Option (Int64 × Int64) :=
  some (a1, a2)
abbrev rmX0_set : Room := { frames := 0, cells := 0, slots := 0, locals := 0 }
set_option maxHeartbeats 4000000 in
set_option maxRecDepth 100000 in
theorem tX0_set (l : Launch) (D : va_G) (h0 : Nat) (cI cJ cZ cW cS cO cG : ClassId) (upper : Int64) (lower : Int64) (a1 : Int64) (a2 : Int64) {o : Int64 × Int64} (hE : fX0_set a1 a2 = some o) : JMv l yX0_set wsX0_set rmX0_set D vwCl (TY cI cJ cZ cW cS cO cG) [.ref h0, .long a1, .long a2] (FRW h0 upper lower) (FRW h0 o.1 o.2) := by
  refine JMv.of (cc := cX0_set) (maxL := 5) (by decide) rfl (Nat.le_of_ble_eq_true rfl) ?_
  intro p e s m args below meth c A ls Q C hK hA ret hS hl
  obtain ⟨⟨hx, hb, hml, hown, hts⟩, -⟩ := id C
  have hl : lv_has ls 5 [(0, .ref h0), (1, .long a1), (3, .long a2)] := hl
  have inX0 : ∀ w ∈ u_ws RX0 TX0 2, w ∈ wsX0_set := by decide +kernel
  have k0 := hts (.fieldLink RX0 7 "OhmNets$Fraction" "upper" "J") (by decide +kernel)
  have k1 := hts (.fieldLink RX0 13 "OhmNets$Fraction" "lower" "J") (by decide +kernel)
  refine lv_aload_n hx hb dX0_set_0 rfl (lv_at hl 0 rfl) ?_
  refine lv_lload_n hx hb dX0_set_1 rfl (lv_at hl 1 rfl) ?_
  refine j_put (ci := 1) (v := .long a1) (ty := .long) (C := RX0) (T := TX0) (N := 2) (w' := FRW h0 a1 lower) hx hb hts inX0 tyX0 tyX0_ok nmX0 hown hK hS 0 rfl rfl 0 (by decide) k0 (fun _ h => h) rfl (by decide +kernel) rfl rfl (Nat.le_of_ble_eq_true rfl) rfl dX0_set_2 (fun H locs hS => ?_)
  refine lv_aload_n hx hb dX0_set_5 rfl (lv_at hl 0 rfl) ?_
  refine lv_lload_n hx hb dX0_set_6 rfl (lv_at hl 2 rfl) ?_
  refine j_put (ci := 1) (v := .long a2) (ty := .long) (C := RX0) (T := TX0) (N := 2) (w' := FRW h0 a1 a2) hx hb hts inX0 tyX0 tyX0_ok nmX0 hown hK hS 0 rfl rfl 1 (by decide) k1 (fun _ h => h) rfl (by decide +kernel) rfl rfl (Nat.le_of_ble_eq_true rfl) rfl dX0_set_7 (fun H locs hS => ?_)
  obtain rfl := jsm hE
  exact ret hS dX0_set_10
def LX0_commonDivisor_9 : Nat → (Int64) → (Int64) → (Int32) → Option (Int64)
  | 0, _, _, _ => none
  | n + 1, v4_1, v6_2, v8_3 =>
    if (100 : Int32) ≤ v8_3 then
    some v4_1
    else
    if v6_2 = (0 : Int64) then
    some v4_1
    else
    if ¬ v6_2 = 0 then
    jlet (v4_1 - v4_1 / v6_2 * v6_2) (fun x_12 => 
    jlet (v8_3 + (1 : Int32)) (fun x_13 => 
    LX0_commonDivisor_9 n v6_2 x_12 x_13))
    else none
def fX0_commonDivisor (a1 : Int64) (a2 : Int64) : Option (Int64) :=
  (LX0_commonDivisor_9 5000 a1 a2 (0 : Int32)).bind (fun o_4 => 
  some o_4)
abbrev rmX0_commonDivisor : Room := { frames := 0, cells := 0, slots := 0, locals := 0 }
set_option maxHeartbeats 4000000 in
set_option maxRecDepth 100000 in
theorem tX0_commonDivisor (l : Launch) (D : va_G) (cI cJ cZ cW cS cO cG : ClassId) (a1 : Int64) (a2 : Int64) {o : Int64} (hE : fX0_commonDivisor a1 a2 = some o) : JMl l yX0_commonDivisor wsX0_commonDivisor rmX0_commonDivisor D vwCl (TY cI cJ cZ cW cS cO cG) [.long a1, .long a2] ([]) ([]) o := by
  refine JMl.of (cc := cX0_commonDivisor) (maxL := 11) (by decide) rfl (Nat.le_of_ble_eq_true rfl) ?_
  intro p e s m args below meth c A ls Q C hK hA ret hS hl
  obtain ⟨⟨hx, hb, hml, hown, hts⟩, -⟩ := id C
  have hl : lv_has ls 11 [(0, .long a1), (2, .long a2)] := hl
  refine lv_lload_n hx hb dX0_commonDivisor_0 rfl (lv_at hl 0 rfl) ?_
  refine lv_lstore (lv' := [(4, .long a1), (0, .long a1), (2, .long a2)]) hx hb dX0_commonDivisor_1 hl (by decide) rfl (fun ls hl => ?_)
  refine lv_lload_n hx hb dX0_commonDivisor_3 rfl (lv_at hl 2 rfl) ?_
  refine lv_lstore (lv' := [(6, .long a2), (4, .long a1), (0, .long a1), (2, .long a2)]) hx hb dX0_commonDivisor_4 hl (by decide) rfl (fun ls hl => ?_)
  refine lv_iconst (v := (0 : Int32)) hx hb dX0_commonDivisor_6 (by decide) ?_
  refine lv_istore (lv' := [(8, .int (0 : Int32)), (6, .long a2), (4, .long a1), (0, .long a1), (2, .long a2)]) hx hb dX0_commonDivisor_7 hl (by decide) rfl (fun ls hl => ?_)
  obtain ⟨o_4, L_5, hE⟩ := jbd hE
  have K_6 : jW p l e rmX0_commonDivisor s m args below meth c 0 0 Q D vwCl A ([]) 11 [(4, .long o_4)] 44 [] := by
    intro H locs ls hS hl
    refine lv_lload hx hb dX0_commonDivisor_44 (lv_at hl 0 rfl) ?_
    obtain rfl := jsm hE
    exact ret hS dX0_commonDivisor_46
  have loop_8 : ∀ (n : Nat) (v4_1 : Int64) (v6_2 : Int64) (v8_3 : Int32), LX0_commonDivisor_9 n v4_1 v6_2 v8_3 = some o_4 → jW p l e rmX0_commonDivisor s m args below meth c 0 0 Q D vwCl A ([]) 11 [(4, .long v4_1), (6, .long v6_2), (8, .int v8_3)] 9 [] := by
    intro n
    induction n with
    | zero =>
      intro v4_1 v6_2 v8_3 q_7
      have q_7 : none = some o_4 := q_7
      cases q_7
    | succ n ih =>
      intro v4_1 v6_2 v8_3 q_7 H locs ls hS hl
      rw [LX0_commonDivisor_9] at q_7
      refine lv_iload hx hb dX0_commonDivisor_9 (lv_at hl 2 rfl) ?_
      refine lv_bipush (v := (100 : Int32)) hx hb dX0_commonDivisor_11 (by decide) ?_
      refine lv_icmp_ge (tgt := 44) hx hb dX0_commonDivisor_13 (by decide) (fun c_9 => ?_) (fun c_9 => ?_)
      · have q_7 := jt q_7 c_9
        obtain rfl := jsm q_7
        exact K_6 _ _ _ hS (lv_sub hl [0] rfl)
      · have q_7 := jf q_7 c_9
        refine lv_lload hx hb dX0_commonDivisor_16 (lv_at hl 1 rfl) ?_
        refine lv_lconst (v := (0 : Int64)) hx hb dX0_commonDivisor_18 (by decide) ?_
        refine jl_eq (tgt := 44) hx hb dX0_commonDivisor_19 dX0_commonDivisor_20 (by decide) (fun c_10 => ?_) (fun c_10 => ?_)
        · have q_7 := jt q_7 c_10
          obtain rfl := jsm q_7
          exact K_6 _ _ _ hS (lv_sub hl [0] rfl)
        · have q_7 := jf q_7 c_10
          refine lv_lload hx hb dX0_commonDivisor_23 (lv_at hl 0 rfl) ?_
          refine lv_lload hx hb dX0_commonDivisor_25 (lv_at hl 1 rfl) ?_
          obtain ⟨z_11, q_7⟩ := jgd q_7
          refine lv_lrem hx hb dX0_commonDivisor_27 z_11 ?_
          refine lv_topl (fun x_12 ex_12 => ?_)
          have q_7 := jlv q_7 ex_12
          refine lv_lstore (lv' := [(9, .long x_12), (4, .long v4_1), (6, .long v6_2), (8, .int v8_3)]) hx hb dX0_commonDivisor_28 hl (by decide) rfl (fun ls hl => ?_)
          refine lv_lload hx hb dX0_commonDivisor_30 (lv_at hl 2 rfl) ?_
          refine lv_lstore (lv' := [(4, .long v6_2), (9, .long x_12), (6, .long v6_2), (8, .int v8_3)]) hx hb dX0_commonDivisor_32 hl (by decide) rfl (fun ls hl => ?_)
          refine lv_lload hx hb dX0_commonDivisor_34 (lv_at hl 1 rfl) ?_
          refine lv_lstore (lv' := [(6, .long x_12), (4, .long v6_2), (9, .long x_12), (8, .int v8_3)]) hx hb dX0_commonDivisor_36 hl (by decide) rfl (fun ls hl => ?_)
          obtain ⟨x_13, ex_13⟩ : ∃ y : Int32, y = v8_3 + (1 : Int32) := ⟨_, rfl⟩
          have q_7 := jlv q_7 ex_13
          refine lv_iinc (v := x_13) (lv' := [(8, .int x_13), (6, .long x_12), (4, .long v6_2), (9, .long x_12)]) hx hb dX0_commonDivisor_38 hl (k := 3) rfl (by rw [ex_13]; rfl) (by decide) rfl (fun ls hl => ?_)
          refine lv_goto (tgt := 9) hx hb dX0_commonDivisor_41 (by decide) ?_
          exact ih v6_2 x_12 x_13 q_7 _ _ _ hS (lv_sub hl [2, 1, 0] rfl)
  exact loop_8 5000 a1 a2 (0 : Int32) L_5 _ _ _ hS (lv_sub hl [2, 1, 0] rfl)
def fX0_reduce (upper : Int64) (lower : Int64) : Option (Int64 × Int64) :=
  (fX0_commonDivisor (if 0 < upper then upper else -upper) lower).bind (fun o_1 => 
  if o_1 ≤ (1 : Int64) then
  some (upper, lower)
  else
  if ¬ o_1 = 0 then
  some ((upper / o_1), (lower / o_1))
  else none)
abbrev rmX0_reduce : Room := { frames := 1, cells := 0, slots := 0, locals := 30 }
set_option maxHeartbeats 4000000 in
set_option maxRecDepth 100000 in
theorem tX0_reduce (l : Launch) (D : va_G) (h0 : Nat) (cI cJ cZ cW cS cO cG : ClassId) (upper : Int64) (lower : Int64) {o : Int64 × Int64} (hE : fX0_reduce upper lower = some o) : JMv l yX0_reduce wsX0_reduce rmX0_reduce D vwCl (TY cI cJ cZ cW cS cO cG) [.ref h0] (FRW h0 upper lower) (FRW h0 o.1 o.2) := by
  refine JMv.of (cc := cX0_reduce) (maxL := 3) (by decide) rfl (Nat.le_of_ble_eq_true rfl) ?_
  intro p e s m args below meth c A ls Q C hK hA ret hS hl
  obtain ⟨⟨hx, hb, hml, hown, hts⟩, -⟩ := id C
  have hl : lv_has ls 3 [(0, .ref h0)] := hl
  have inX0 : ∀ w ∈ u_ws RX0 TX0 2, w ∈ wsX0_reduce := by decide +kernel
  have k0 := hts (.fieldLink RX0 7 "OhmNets$Fraction" "upper" "J") (by decide +kernel)
  have k1 := hts (.methodLink RX0 16 Lib.MathLoose.abs_long.x) (by decide +kernel)
  have k2 := hts (.static Lib.MathLoose.abs_long.x) (by decide +kernel)
  have k3 := hts (.initialized "java/lang/Math") (by decide +kernel)
  have k4 := hts (.code Lib.MathLoose.abs_long.x Lib.MathLoose.abs_long.code 2 (some .long)) (by decide +kernel)
  have k5 := hts (.fieldLink RX0 13 "OhmNets$Fraction" "lower" "J") (by decide +kernel)
  refine lv_aload_n hx hb dX0_reduce_0 rfl (lv_at hl 0 rfl) ?_
  refine va_get (D := D) (ci := 1) (v := .long upper) (C := RX0) (T := TX0) (N := 2) hx hb hts inX0 hown hK hS.1 0 rfl rfl 0 (by decide) k0 (fun _ h => h) rfl dX0_reduce_1 ?_
  refine va_mabs_long hx hb (by rw [hml]; exact hl.1.symm) hown k1 k2 k3 k4 (Nat.le_of_ble_eq_true rfl) (Nat.le_of_ble_eq_true rfl) (Nat.zero_le _) (Nat.zero_le _) dX0_reduce_4 ?_
  refine lv_aload_n hx hb dX0_reduce_7 rfl (lv_at hl 0 rfl) ?_
  refine va_get (D := D) (ci := 1) (v := .long lower) (C := RX0) (T := TX0) (N := 2) hx hb hts inX0 hown hK hS.1 0 rfl rfl 1 (by decide) k5 (fun _ h => h) rfl dX0_reduce_8 ?_
  obtain ⟨o_1, h_2, hE⟩ := jbd hE
  refine j_Sl (As := [.long (if 0 < upper then upper else -upper), .long lower]) (rest := []) (wf := FRW h0 upper lower) C hK hS (jcut_nil hA hS) (tX0_commonDivisor l D cI cJ cZ cW cS cO cG (if 0 < upper then upper else -upper) lower h_2) (va_cwS 2 hts gX0_reduce_X0_commonDivisor rfl rfl rfl (by decide +kernel) ⟨Nat.le_of_ble_eq_true rfl, Nat.le_of_ble_eq_true rfl⟩) rfl hl.1 rfl (Nat.le_of_ble_eq_true rfl) dX0_reduce_11 ⟨Nat.zero_le _, Nat.zero_le _⟩ (fun H locs hS => ?_)
  refine lv_lstore_n (lv' := [(1, .long o_1), (0, .ref h0)]) hx hb dX0_reduce_14 rfl hl (by decide) rfl (fun ls hl => ?_)
  refine lv_lload_n hx hb dX0_reduce_15 rfl (lv_at hl 0 rfl) ?_
  refine lv_lconst (v := (1 : Int64)) hx hb dX0_reduce_16 (by decide) ?_
  refine jl_le (tgt := 41) hx hb dX0_reduce_17 dX0_reduce_18 (by decide) (fun c_3 => ?_) (fun c_3 => ?_)
  · have hE := jt hE c_3
    obtain rfl := jsm hE
    exact ret hS dX0_reduce_41
  · have hE := jf hE c_3
    refine lv_aload_n hx hb dX0_reduce_21 rfl (lv_at hl 1 rfl) ?_
    refine lv_dup hx hb dX0_reduce_22 rfl ?_
    refine va_get (D := D) (ci := 1) (v := .long upper) (C := RX0) (T := TX0) (N := 2) hx hb hts inX0 hown hK hS.1 0 rfl rfl 0 (by decide) k0 (fun _ h => h) rfl dX0_reduce_23 ?_
    refine lv_lload_n hx hb dX0_reduce_26 rfl (lv_at hl 0 rfl) ?_
    obtain ⟨z_4, hE⟩ := jgd hE
    refine lv_ldiv hx hb dX0_reduce_27 z_4 ?_
    refine j_put (ci := 1) (v := .long (upper / o_1)) (ty := .long) (C := RX0) (T := TX0) (N := 2) (w' := FRW h0 (upper / o_1) lower) hx hb hts inX0 tyX0 tyX0_ok nmX0 hown hK hS 0 rfl rfl 0 (by decide) k0 (fun _ h => h) rfl (by decide +kernel) rfl rfl (Nat.le_of_ble_eq_true rfl) rfl dX0_reduce_28 (fun H locs hS => ?_)
    refine lv_aload_n hx hb dX0_reduce_31 rfl (lv_at hl 1 rfl) ?_
    refine lv_dup hx hb dX0_reduce_32 rfl ?_
    refine va_get (D := D) (ci := 1) (v := .long lower) (C := RX0) (T := TX0) (N := 2) hx hb hts inX0 hown hK hS.1 0 rfl rfl 1 (by decide) k5 (fun _ h => h) rfl dX0_reduce_33 ?_
    refine lv_lload_n hx hb dX0_reduce_36 rfl (lv_at hl 0 rfl) ?_
    refine lv_ldiv hx hb dX0_reduce_37 z_4 ?_
    refine j_put (ci := 1) (v := .long (lower / o_1)) (ty := .long) (C := RX0) (T := TX0) (N := 2) (w' := FRW h0 (upper / o_1) (lower / o_1)) hx hb hts inX0 tyX0 tyX0_ok nmX0 hown hK hS 0 rfl rfl 1 (by decide) k5 (fun _ h => h) rfl (by decide +kernel) rfl rfl (Nat.le_of_ble_eq_true rfl) rfl dX0_reduce_38 (fun H locs hS => ?_)
    obtain rfl := jsm hE
    exact ret hS dX0_reduce_41
def fX0_part (a1 : Int32) (upper : Int64) (lower : Int64) : Option (Int64) :=
  if a1 = 0 then
  some upper
  else
  some lower
abbrev rmX0_part : Room := { frames := 0, cells := 0, slots := 0, locals := 0 }
set_option maxHeartbeats 4000000 in
set_option maxRecDepth 100000 in
theorem tX0_part (l : Launch) (D : va_G) (h0 : Nat) (cI cJ cZ cW cS cO cG : ClassId) (upper : Int64) (lower : Int64) (a1 : Int32) {o : Int64} (hE : fX0_part a1 upper lower = some o) : JMl l yX0_part wsX0_part rmX0_part D vwCl (TY cI cJ cZ cW cS cO cG) [.ref h0, .int a1] (FRW h0 upper lower) (FRW h0 upper lower) o := by
  refine JMl.of (cc := cX0_part) (maxL := 2) (by decide) rfl (Nat.le_of_ble_eq_true rfl) ?_
  intro p e s m args below meth c A ls Q C hK hA ret hS hl
  obtain ⟨⟨hx, hb, hml, hown, hts⟩, -⟩ := id C
  have hl : lv_has ls 2 [(0, .ref h0), (1, .int a1)] := hl
  have inX0 : ∀ w ∈ u_ws RX0 TX0 2, w ∈ wsX0_part := by decide +kernel
  have k0 := hts (.fieldLink RX0 13 "OhmNets$Fraction" "lower" "J") (by decide +kernel)
  have k1 := hts (.fieldLink RX0 7 "OhmNets$Fraction" "upper" "J") (by decide +kernel)
  refine lv_iload_n hx hb dX0_part_0 rfl (lv_at hl 1 rfl) ?_
  refine lv_if_ne (tgt := 11) hx hb dX0_part_1 (by decide) (fun c_1 => ?_) (fun c_1 => ?_)
  · have hE := jf hE c_1
    refine lv_aload_n hx hb dX0_part_11 rfl (lv_at hl 0 rfl) ?_
    refine va_get (D := D) (ci := 1) (v := .long lower) (C := RX0) (T := TX0) (N := 2) hx hb hts inX0 hown hK hS.1 0 rfl rfl 1 (by decide) k0 (fun _ h => h) rfl dX0_part_12 ?_
    obtain rfl := jsm hE
    exact ret hS dX0_part_15
  · have hE := jt hE c_1
    refine lv_aload_n hx hb dX0_part_4 rfl (lv_at hl 0 rfl) ?_
    refine va_get (D := D) (ci := 1) (v := .long upper) (C := RX0) (T := TX0) (N := 2) hx hb hts inX0 hown hK hS.1 0 rfl rfl 0 (by decide) k1 (fun _ h => h) rfl dX0_part_5 ?_
    refine lv_goto (tgt := 15) hx hb dX0_part_8 (by decide) ?_
    obtain rfl := jsm hE
    exact ret hS dX0_part_15
def fX7_size (size : Int32) : Option (Int32) :=
  some size
abbrev rmX7_size : Room := { frames := 0, cells := 0, slots := 0, locals := 0 }
set_option maxHeartbeats 4000000 in
set_option maxRecDepth 100000 in
theorem tX7_size (l : Launch) (D : va_G) (h0 h1 h2 h3 h4 : Nat) (cI cJ cZ cW cS cO cG : ClassId) (size : Int32) (ohms : Nat → Int32) (prices : Nat → Int32) (tu : Int64) (tl : Int64) (ku : Int64) (kl : Int64) {o : Int32} (hE : fX7_size size = some o) : JMi l yX7_size wsX7_size rmX7_size D vwCl (TY cI cJ cZ cW cS cO cG) [.ref h0] (SHW h0 h1 h2 h3 h4 cI size ohms prices tu tl ku kl) (SHW h0 h1 h2 h3 h4 cI size ohms prices tu tl ku kl) o := by
  refine JMi.of (cc := cX7_size) (maxL := 1) (by decide) rfl (Nat.le_of_ble_eq_true rfl) ?_
  intro p e s m args below meth c A ls Q C hK hA ret hS hl
  obtain ⟨⟨hx, hb, hml, hown, hts⟩, -⟩ := id C
  have hl : lv_has ls 1 [(0, .ref h0)] := hl
  have inX7 : ∀ w ∈ u_ws RX7 TX7 5, w ∈ wsX7_size := by decide +kernel
  have k0 := hts (.fieldLink RX7 18 "OhmNets$Shop" "size" "I") (by decide +kernel)
  refine lv_aload_n hx hb dX7_size_0 rfl (lv_at hl 0 rfl) ?_
  refine va_get (D := D) (ci := 8) (v := .int size) (C := RX7) (T := TX7) (N := 5) hx hb hts inX7 hown hK hS.1 0 rfl rfl 2 (by decide) k0 (fun _ h => h) rfl dX7_size_1 ?_
  obtain rfl := jsm hE
  exact ret hS rfl dX7_size_4
def fX7_add (a1 : Int32) (a2 : Int32) (size : Int32) (ohms : Nat → Int32) (prices : Nat → Int32) : Option (Int32 × Int32 × (Nat → Int32) × (Nat → Int32)) :=
  if jok size 6 then
  jlet (upd ohms size.toNatClampNeg a1) (fun ohms_2 => 
  jlet (upd prices size.toNatClampNeg a2) (fun prices_3 => 
  some (((size + (1 : Int32)) - (1 : Int32)), (size + (1 : Int32)), ohms_2, prices_3)))
  else none
abbrev rmX7_add : Room := { frames := 0, cells := 0, slots := 0, locals := 0 }
set_option maxHeartbeats 4000000 in
set_option maxRecDepth 100000 in
theorem tX7_add (l : Launch) (D : va_G) (h0 h1 h2 h3 h4 : Nat) (cI cJ cZ cW cS cO cG : ClassId) (size : Int32) (ohms : Nat → Int32) (prices : Nat → Int32) (tu : Int64) (tl : Int64) (ku : Int64) (kl : Int64) (a1 : Int32) (a2 : Int32) {o : Int32 × Int32 × (Nat → Int32) × (Nat → Int32)} (hE : fX7_add a1 a2 size ohms prices = some o) : JMi l yX7_add wsX7_add rmX7_add D vwCl (TY cI cJ cZ cW cS cO cG) [.ref h0, .int a1, .int a2] (SHW h0 h1 h2 h3 h4 cI size ohms prices tu tl ku kl) (SHW h0 h1 h2 h3 h4 cI o.2.1 o.2.2.1 o.2.2.2 tu tl ku kl) o.1 := by
  refine JMi.of (cc := cX7_add) (maxL := 3) (by decide) rfl (Nat.le_of_ble_eq_true rfl) ?_
  intro p e s m args below meth c A ls Q C hK hA ret hS hl
  obtain ⟨⟨hx, hb, hml, hown, hts⟩, -⟩ := id C
  have hl : lv_has ls 3 [(0, .ref h0), (1, .int a1), (2, .int a2)] := hl
  have inX7 : ∀ w ∈ u_ws RX7 TX7 5, w ∈ wsX7_add := by decide +kernel
  have k0 := hts (.fieldLink RX7 9 "OhmNets$Shop" "sortOhms" "[I") (by decide +kernel)
  have k1 := hts (.fieldLink RX7 18 "OhmNets$Shop" "size" "I") (by decide +kernel)
  have k2 := hts (.fieldLink RX7 15 "OhmNets$Shop" "sortPrices" "[I") (by decide +kernel)
  refine lv_aload_n hx hb dX7_add_0 rfl (lv_at hl 0 rfl) ?_
  refine va_get (D := D) (ci := 8) (v := .ref h1) (C := RX7) (T := TX7) (N := 5) hx hb hts inX7 hown hK hS.1 0 rfl rfl 0 (by decide) k0 (fun _ h => h) rfl dX7_add_1 ?_
  refine lv_aload_n hx hb dX7_add_4 rfl (lv_at hl 0 rfl) ?_
  refine va_get (D := D) (ci := 8) (v := .int size) (C := RX7) (T := TX7) (N := 5) hx hb hts inX7 hown hK hS.1 0 rfl rfl 2 (by decide) k1 (fun _ h => h) rfl dX7_add_5 ?_
  refine lv_iload_n hx hb dX7_add_8 rfl (lv_at hl 1 rfl) ?_
  obtain ⟨b_1, hE⟩ := jgd hE
  obtain ⟨ohms_2, eohms_2⟩ : ∃ y : Nat → Int32, y = upd ohms size.toNatClampNeg a1 := ⟨_, rfl⟩
  have hE := jlv hE eohms_2
  refine j_iast (w' := SHW h0 h1 h2 h3 h4 cI size ohms_2 prices tu tl ku kl) hx hb hK hS 1 0 rfl rfl (jin.mpr b_1) (by rw [eohms_2]; rfl) dX7_add_9 (fun H locs hS => ?_)
  refine lv_aload_n hx hb dX7_add_10 rfl (lv_at hl 0 rfl) ?_
  refine va_get (D := D) (ci := 8) (v := .ref h2) (C := RX7) (T := TX7) (N := 5) hx hb hts inX7 hown hK hS.1 0 rfl rfl 1 (by decide) k2 (fun _ h => h) rfl dX7_add_11 ?_
  refine lv_aload_n hx hb dX7_add_14 rfl (lv_at hl 0 rfl) ?_
  refine va_get (D := D) (ci := 8) (v := .int size) (C := RX7) (T := TX7) (N := 5) hx hb hts inX7 hown hK hS.1 0 rfl rfl 2 (by decide) k1 (fun _ h => h) rfl dX7_add_15 ?_
  refine lv_iload_n hx hb dX7_add_18 rfl (lv_at hl 2 rfl) ?_
  obtain ⟨prices_3, eprices_3⟩ : ∃ y : Nat → Int32, y = upd prices size.toNatClampNeg a2 := ⟨_, rfl⟩
  have hE := jlv hE eprices_3
  refine j_iast (w' := SHW h0 h1 h2 h3 h4 cI size ohms_2 prices_3 tu tl ku kl) hx hb hK hS 2 0 rfl rfl (jin.mpr b_1) (by rw [eprices_3]; rfl) dX7_add_19 (fun H locs hS => ?_)
  refine lv_aload_n hx hb dX7_add_20 rfl (lv_at hl 0 rfl) ?_
  refine lv_dup hx hb dX7_add_21 rfl ?_
  refine va_get (D := D) (ci := 8) (v := .int size) (C := RX7) (T := TX7) (N := 5) hx hb hts inX7 hown hK hS.1 0 rfl rfl 2 (by decide) k1 (fun _ h => h) rfl dX7_add_22 ?_
  refine lv_iconst (v := (1 : Int32)) hx hb dX7_add_25 (by decide) ?_
  refine lv_iadd hx hb dX7_add_26 ?_
  refine j_put (ci := 8) (v := .int (size + (1 : Int32))) (ty := .int) (C := RX7) (T := TX7) (N := 5) (w' := SHW h0 h1 h2 h3 h4 cI (size + (1 : Int32)) ohms_2 prices_3 tu tl ku kl) hx hb hts inX7 tyX7 tyX7_ok nmX7 hown hK hS 0 rfl rfl 2 (by decide) k1 (fun _ h => h) rfl (by decide +kernel) rfl rfl (Nat.le_of_ble_eq_true rfl) rfl dX7_add_27 (fun H locs hS => ?_)
  refine lv_aload_n hx hb dX7_add_30 rfl (lv_at hl 0 rfl) ?_
  refine va_get (D := D) (ci := 8) (v := .int (size + (1 : Int32))) (C := RX7) (T := TX7) (N := 5) hx hb hts inX7 hown hK hS.1 0 rfl rfl 2 (by decide) k1 (fun _ h => h) rfl dX7_add_31 ?_
  refine lv_iconst (v := (1 : Int32)) hx hb dX7_add_34 (by decide) ?_
  refine lv_isub hx hb dX7_add_35 ?_
  obtain rfl := jsm hE
  exact ret hS rfl dX7_add_36
def fX7_isOneSort (a1 : Int32) : Option (Int32) :=
  if (100 : Int32) ≤ a1 then
  some (0 : Int32)
  else
  some (1 : Int32)
abbrev rmX7_isOneSort : Room := { frames := 0, cells := 0, slots := 0, locals := 0 }
set_option maxHeartbeats 4000000 in
set_option maxRecDepth 100000 in
theorem tX7_isOneSort (l : Launch) (D : va_G) (cI cJ cZ cW cS cO cG : ClassId) (a1 : Int32) {o : Int32} (hE : fX7_isOneSort a1 = some o) : JMi l yX7_isOneSort wsX7_isOneSort rmX7_isOneSort D vwCl (TY cI cJ cZ cW cS cO cG) [.int a1] ([]) ([]) o := by
  refine JMi.of (cc := cX7_isOneSort) (maxL := 1) (by decide) rfl (Nat.le_of_ble_eq_true rfl) ?_
  intro p e s m args below meth c A ls Q C hK hA ret hS hl
  obtain ⟨⟨hx, hb, hml, hown, hts⟩, -⟩ := id C
  have hl : lv_has ls 1 [(0, .int a1)] := hl
  refine lv_iload_n hx hb dX7_isOneSort_0 rfl (lv_at hl 0 rfl) ?_
  refine lv_bipush (v := (100 : Int32)) hx hb dX7_isOneSort_1 (by decide) ?_
  refine lv_icmp_ge (tgt := 10) hx hb dX7_isOneSort_3 (by decide) (fun c_1 => ?_) (fun c_1 => ?_)
  · have hE := jt hE c_1
    refine lv_iconst (v := (0 : Int32)) hx hb dX7_isOneSort_10 (by decide) ?_
    obtain rfl := jsm hE
    exact ret hS jb0 dX7_isOneSort_11
  · have hE := jf hE c_1
    refine lv_iconst (v := (1 : Int32)) hx hb dX7_isOneSort_6 (by decide) ?_
    refine lv_goto (tgt := 11) hx hb dX7_isOneSort_7 (by decide) ?_
    obtain rfl := jsm hE
    exact ret hS jb1 dX7_isOneSort_11
def fX7_firstOf (a1 : Int32) : Option (Int32) :=
  (fX7_isOneSort a1).bind (fun o_1 => 
  if o_1 = 0 then
  some ((a1 - a1 / (100 : Int32) * (100 : Int32)) / (10 : Int32))
  else
  some a1)
abbrev rmX7_firstOf : Room := { frames := 1, cells := 0, slots := 0, locals := 20 }
set_option maxHeartbeats 4000000 in
set_option maxRecDepth 100000 in
theorem tX7_firstOf (l : Launch) (D : va_G) (cI cJ cZ cW cS cO cG : ClassId) (a1 : Int32) {o : Int32} (hE : fX7_firstOf a1 = some o) : JMi l yX7_firstOf wsX7_firstOf rmX7_firstOf D vwCl (TY cI cJ cZ cW cS cO cG) [.int a1] ([]) ([]) o := by
  refine JMi.of (cc := cX7_firstOf) (maxL := 1) (by decide) rfl (Nat.le_of_ble_eq_true rfl) ?_
  intro p e s m args below meth c A ls Q C hK hA ret hS hl
  obtain ⟨⟨hx, hb, hml, hown, hts⟩, -⟩ := id C
  have hl : lv_has ls 1 [(0, .int a1)] := hl
  refine lv_iload_n hx hb dX7_firstOf_0 rfl (lv_at hl 0 rfl) ?_
  obtain ⟨o_1, h_2, hE⟩ := jbd hE
  refine j_Si (As := [.int a1]) (rest := []) (wf := []) C hK hS (jcut_nil hA hS) (tX7_isOneSort l D cI cJ cZ cW cS cO cG a1 h_2) (va_cwS 1 hts gX7_firstOf_X7_isOneSort rfl rfl rfl (by decide +kernel) ⟨Nat.le_of_ble_eq_true rfl, Nat.le_of_ble_eq_true rfl⟩) rfl hl.1 rfl (Nat.le_of_ble_eq_true rfl) dX7_firstOf_1 ⟨Nat.zero_le _, Nat.zero_le _⟩ (fun H locs hS => ?_)
  refine lv_if_eq (tgt := 11) hx hb dX7_firstOf_4 (by decide) (fun c_3 => ?_) (fun c_3 => ?_)
  · have hE := jt hE c_3
    refine lv_iload_n hx hb dX7_firstOf_11 rfl (lv_at hl 0 rfl) ?_
    refine lv_bipush (v := (100 : Int32)) hx hb dX7_firstOf_12 (by decide) ?_
    refine lv_irem hx hb dX7_firstOf_14 (by decide) ?_
    refine lv_bipush (v := (10 : Int32)) hx hb dX7_firstOf_15 (by decide) ?_
    refine lv_idiv hx hb dX7_firstOf_17 (by decide) ?_
    obtain rfl := jsm hE
    exact ret hS rfl dX7_firstOf_18
  · have hE := jf hE c_3
    refine lv_iload_n hx hb dX7_firstOf_7 rfl (lv_at hl 0 rfl) ?_
    refine lv_goto (tgt := 18) hx hb dX7_firstOf_8 (by decide) ?_
    obtain rfl := jsm hE
    exact ret hS rfl dX7_firstOf_18
def fX7_secondOf (a1 : Int32) : Option (Int32) :=
  some (a1 - a1 / (10 : Int32) * (10 : Int32))
abbrev rmX7_secondOf : Room := { frames := 0, cells := 0, slots := 0, locals := 0 }
set_option maxHeartbeats 4000000 in
set_option maxRecDepth 100000 in
theorem tX7_secondOf (l : Launch) (D : va_G) (cI cJ cZ cW cS cO cG : ClassId) (a1 : Int32) {o : Int32} (hE : fX7_secondOf a1 = some o) : JMi l yX7_secondOf wsX7_secondOf rmX7_secondOf D vwCl (TY cI cJ cZ cW cS cO cG) [.int a1] ([]) ([]) o := by
  refine JMi.of (cc := cX7_secondOf) (maxL := 1) (by decide) rfl (Nat.le_of_ble_eq_true rfl) ?_
  intro p e s m args below meth c A ls Q C hK hA ret hS hl
  obtain ⟨⟨hx, hb, hml, hown, hts⟩, -⟩ := id C
  have hl : lv_has ls 1 [(0, .int a1)] := hl
  refine lv_iload_n hx hb dX7_secondOf_0 rfl (lv_at hl 0 rfl) ?_
  refine lv_bipush (v := (10 : Int32)) hx hb dX7_secondOf_1 (by decide) ?_
  refine lv_irem hx hb dX7_secondOf_3 (by decide) ?_
  obtain rfl := jsm hE
  exact ret hS rfl dX7_secondOf_4
def fX7_has (a1 : Int32) (size : Int32) : Option (Int32) :=
  if a1 < 0 then
  some (0 : Int32)
  else
  if a1 < (300 : Int32) then
  (fX7_isOneSort a1).bind (fun o_3 => 
  if o_3 = 0 then
  (fX7_firstOf a1).bind (fun o_6 => 
  (fX7_secondOf a1).bind (fun o_8 => 
  if o_8 < o_6 then
  some (0 : Int32)
  else
  (fX7_secondOf a1).bind (fun o_11 => 
  if size ≤ o_11 then
  some (0 : Int32)
  else
  some (1 : Int32))))
  else
  if size ≤ a1 then
  some (0 : Int32)
  else
  some (1 : Int32))
  else
  some (0 : Int32)
abbrev rmX7_has : Room := { frames := 2, cells := 0, slots := 0, locals := 40 }
set_option maxHeartbeats 4000000 in
set_option maxRecDepth 100000 in
theorem tX7_has (l : Launch) (D : va_G) (h0 h1 h2 h3 h4 : Nat) (cI cJ cZ cW cS cO cG : ClassId) (size : Int32) (ohms : Nat → Int32) (prices : Nat → Int32) (tu : Int64) (tl : Int64) (ku : Int64) (kl : Int64) (a1 : Int32) {o : Int32} (hE : fX7_has a1 size = some o) : JMi l yX7_has wsX7_has rmX7_has D vwCl (TY cI cJ cZ cW cS cO cG) [.ref h0, .int a1] (SHW h0 h1 h2 h3 h4 cI size ohms prices tu tl ku kl) (SHW h0 h1 h2 h3 h4 cI size ohms prices tu tl ku kl) o := by
  refine JMi.of (cc := cX7_has) (maxL := 2) (by decide) rfl (Nat.le_of_ble_eq_true rfl) ?_
  intro p e s m args below meth c A ls Q C hK hA ret hS hl
  obtain ⟨⟨hx, hb, hml, hown, hts⟩, -⟩ := id C
  have hl : lv_has ls 2 [(0, .ref h0), (1, .int a1)] := hl
  have inX7 : ∀ w ∈ u_ws RX7 TX7 5, w ∈ wsX7_has := by decide +kernel
  have k0 := hts (.fieldLink RX7 18 "OhmNets$Shop" "size" "I") (by decide +kernel)
  refine lv_iload_n hx hb dX7_has_0 rfl (lv_at hl 1 rfl) ?_
  refine lv_if_lt (tgt := 11) hx hb dX7_has_1 (by decide) (fun c_1 => ?_) (fun c_1 => ?_)
  · have hE := jt hE c_1
    refine lv_iconst (v := (0 : Int32)) hx hb dX7_has_11 (by decide) ?_
    obtain rfl := jsm hE
    exact ret hS jb0 dX7_has_12
  · have hE := jf hE c_1
    refine lv_iload_n hx hb dX7_has_4 rfl (lv_at hl 1 rfl) ?_
    refine lv_sipush (v := (300 : Int32)) hx hb dX7_has_5 (by decide) ?_
    refine lv_icmp_lt (tgt := 13) hx hb dX7_has_8 (by decide) (fun c_2 => ?_) (fun c_2 => ?_)
    · have hE := jt hE c_2
      refine lv_iload_n hx hb dX7_has_13 rfl (lv_at hl 1 rfl) ?_
      obtain ⟨o_3, h_4, hE⟩ := jbd hE
      refine j_Si (As := [.int a1]) (rest := []) (wf := SHW h0 h1 h2 h3 h4 cI size ohms prices tu tl ku kl) C hK hS (jcut_nil hA hS) (tX7_isOneSort l D cI cJ cZ cW cS cO cG a1 h_4) (va_cwS 1 hts gX7_has_X7_isOneSort rfl rfl rfl (by decide +kernel) ⟨Nat.le_of_ble_eq_true rfl, Nat.le_of_ble_eq_true rfl⟩) rfl hl.1 rfl (Nat.le_of_ble_eq_true rfl) dX7_has_14 ⟨Nat.zero_le _, Nat.zero_le _⟩ (fun H locs hS => ?_)
      refine lv_if_eq (tgt := 34) hx hb dX7_has_17 (by decide) (fun c_5 => ?_) (fun c_5 => ?_)
      · have hE := jt hE c_5
        refine lv_iload_n hx hb dX7_has_34 rfl (lv_at hl 1 rfl) ?_
        obtain ⟨o_6, h_7, hE⟩ := jbd hE
        refine j_Si (As := [.int a1]) (rest := []) (wf := SHW h0 h1 h2 h3 h4 cI size ohms prices tu tl ku kl) C hK hS (jcut_nil hA hS) (tX7_firstOf l D cI cJ cZ cW cS cO cG a1 h_7) (va_cwS 1 hts gX7_has_X7_firstOf rfl rfl rfl (by decide +kernel) ⟨Nat.le_of_ble_eq_true rfl, Nat.le_of_ble_eq_true rfl⟩) rfl hl.1 rfl (Nat.le_of_ble_eq_true rfl) dX7_has_35 ⟨Nat.zero_le _, Nat.zero_le _⟩ (fun H locs hS => ?_)
        refine lv_iload_n hx hb dX7_has_38 rfl (lv_at hl 1 rfl) ?_
        obtain ⟨o_8, h_9, hE⟩ := jbd hE
        refine j_Si (As := [.int a1]) (rest := [.int o_6]) (wf := SHW h0 h1 h2 h3 h4 cI size ohms prices tu tl ku kl) C hK hS (jcut_nil hA hS) (tX7_secondOf l D cI cJ cZ cW cS cO cG a1 h_9) (va_cwS 1 hts gX7_has_X7_secondOf rfl rfl rfl (by decide +kernel) ⟨Nat.le_of_ble_eq_true rfl, Nat.le_of_ble_eq_true rfl⟩) rfl hl.1 rfl (Nat.le_of_ble_eq_true rfl) dX7_has_39 ⟨Nat.zero_le _, Nat.zero_le _⟩ (fun H locs hS => ?_)
        refine lv_icmp_gt (tgt := 60) hx hb dX7_has_42 (by decide) (fun c_10 => ?_) (fun c_10 => ?_)
        · have hE := jt hE c_10
          refine lv_iconst (v := (0 : Int32)) hx hb dX7_has_60 (by decide) ?_
          obtain rfl := jsm hE
          exact ret hS jb0 dX7_has_61
        · have hE := jf hE c_10
          refine lv_iload_n hx hb dX7_has_45 rfl (lv_at hl 1 rfl) ?_
          obtain ⟨o_11, h_12, hE⟩ := jbd hE
          refine j_Si (As := [.int a1]) (rest := []) (wf := SHW h0 h1 h2 h3 h4 cI size ohms prices tu tl ku kl) C hK hS (jcut_nil hA hS) (tX7_secondOf l D cI cJ cZ cW cS cO cG a1 h_12) (va_cwS 1 hts gX7_has_X7_secondOf rfl rfl rfl (by decide +kernel) ⟨Nat.le_of_ble_eq_true rfl, Nat.le_of_ble_eq_true rfl⟩) rfl hl.1 rfl (Nat.le_of_ble_eq_true rfl) dX7_has_46 ⟨Nat.zero_le _, Nat.zero_le _⟩ (fun H locs hS => ?_)
          refine lv_aload_n hx hb dX7_has_49 rfl (lv_at hl 0 rfl) ?_
          refine va_get (D := D) (ci := 8) (v := .int size) (C := RX7) (T := TX7) (N := 5) hx hb hts inX7 hown hK hS.1 0 rfl rfl 2 (by decide) k0 (fun _ h => h) rfl dX7_has_50 ?_
          refine lv_icmp_ge (tgt := 60) hx hb dX7_has_53 (by decide) (fun c_13 => ?_) (fun c_13 => ?_)
          · have hE := jt hE c_13
            refine lv_iconst (v := (0 : Int32)) hx hb dX7_has_60 (by decide) ?_
            obtain rfl := jsm hE
            exact ret hS jb0 dX7_has_61
          · have hE := jf hE c_13
            refine lv_iconst (v := (1 : Int32)) hx hb dX7_has_56 (by decide) ?_
            refine lv_goto (tgt := 61) hx hb dX7_has_57 (by decide) ?_
            obtain rfl := jsm hE
            exact ret hS jb1 dX7_has_61
      · have hE := jf hE c_5
        refine lv_iload_n hx hb dX7_has_20 rfl (lv_at hl 1 rfl) ?_
        refine lv_aload_n hx hb dX7_has_21 rfl (lv_at hl 0 rfl) ?_
        refine va_get (D := D) (ci := 8) (v := .int size) (C := RX7) (T := TX7) (N := 5) hx hb hts inX7 hown hK hS.1 0 rfl rfl 2 (by decide) k0 (fun _ h => h) rfl dX7_has_22 ?_
        refine lv_icmp_ge (tgt := 32) hx hb dX7_has_25 (by decide) (fun c_14 => ?_) (fun c_14 => ?_)
        · have hE := jt hE c_14
          refine lv_iconst (v := (0 : Int32)) hx hb dX7_has_32 (by decide) ?_
          obtain rfl := jsm hE
          exact ret hS jb0 dX7_has_33
        · have hE := jf hE c_14
          refine lv_iconst (v := (1 : Int32)) hx hb dX7_has_28 (by decide) ?_
          refine lv_goto (tgt := 33) hx hb dX7_has_29 (by decide) ?_
          obtain rfl := jsm hE
          exact ret hS jb1 dX7_has_33
    · have hE := jf hE c_2
      refine lv_iconst (v := (0 : Int32)) hx hb dX7_has_11 (by decide) ?_
      obtain rfl := jsm hE
      exact ret hS jb0 dX7_has_12
def fX7_priceOf (a1 : Int32) (prices : Nat → Int32) : Option (Int32) :=
  (fX7_firstOf a1).bind (fun o_1 => 
  if jok o_1 6 then
  jlet (prices o_1.toNatClampNeg) (fun x_4 => 
  (fX7_isOneSort a1).bind (fun o_5 => 
  if o_5 = 0 then
  (fX7_secondOf a1).bind (fun o_8 => 
  if jok o_8 6 then
  some (x_4 + (prices o_8.toNatClampNeg))
  else none)
  else
  some x_4))
  else none)
abbrev rmX7_priceOf : Room := { frames := 2, cells := 0, slots := 0, locals := 40 }
set_option maxHeartbeats 4000000 in
set_option maxRecDepth 100000 in
theorem tX7_priceOf (l : Launch) (D : va_G) (h0 h1 h2 h3 h4 : Nat) (cI cJ cZ cW cS cO cG : ClassId) (size : Int32) (ohms : Nat → Int32) (prices : Nat → Int32) (tu : Int64) (tl : Int64) (ku : Int64) (kl : Int64) (a1 : Int32) {o : Int32} (hE : fX7_priceOf a1 prices = some o) : JMi l yX7_priceOf wsX7_priceOf rmX7_priceOf D vwCl (TY cI cJ cZ cW cS cO cG) [.ref h0, .int a1] (SHW h0 h1 h2 h3 h4 cI size ohms prices tu tl ku kl) (SHW h0 h1 h2 h3 h4 cI size ohms prices tu tl ku kl) o := by
  refine JMi.of (cc := cX7_priceOf) (maxL := 3) (by decide) rfl (Nat.le_of_ble_eq_true rfl) ?_
  intro p e s m args below meth c A ls Q C hK hA ret hS hl
  obtain ⟨⟨hx, hb, hml, hown, hts⟩, -⟩ := id C
  have hl : lv_has ls 3 [(0, .ref h0), (1, .int a1)] := hl
  have inX7 : ∀ w ∈ u_ws RX7 TX7 5, w ∈ wsX7_priceOf := by decide +kernel
  have k0 := hts (.fieldLink RX7 15 "OhmNets$Shop" "sortPrices" "[I") (by decide +kernel)
  refine lv_aload_n hx hb dX7_priceOf_0 rfl (lv_at hl 0 rfl) ?_
  refine va_get (D := D) (ci := 8) (v := .ref h2) (C := RX7) (T := TX7) (N := 5) hx hb hts inX7 hown hK hS.1 0 rfl rfl 1 (by decide) k0 (fun _ h => h) rfl dX7_priceOf_1 ?_
  refine lv_iload_n hx hb dX7_priceOf_4 rfl (lv_at hl 1 rfl) ?_
  obtain ⟨o_1, h_2, hE⟩ := jbd hE
  refine j_Si (As := [.int a1]) (rest := [.ref h2]) (wf := SHW h0 h1 h2 h3 h4 cI size ohms prices tu tl ku kl) C hK hS (jcut_nil hA hS) (tX7_firstOf l D cI cJ cZ cW cS cO cG a1 h_2) (va_cwS 1 hts gX7_priceOf_X7_firstOf rfl rfl rfl (by decide +kernel) ⟨Nat.le_of_ble_eq_true rfl, Nat.le_of_ble_eq_true rfl⟩) rfl hl.1 rfl (Nat.le_of_ble_eq_true rfl) dX7_priceOf_5 ⟨Nat.zero_le _, Nat.zero_le _⟩ (fun H locs hS => ?_)
  obtain ⟨b_3, hE⟩ := jgd hE
  refine va_iald hx hb hK hS.1 2 0 rfl rfl (jin.mpr b_3) dX7_priceOf_8 ?_
  refine lv_topi (fun x_4 ex_4 => ?_)
  have hE := jlv hE ex_4
  refine lv_istore_n (lv' := [(2, .int x_4), (0, .ref h0), (1, .int a1)]) hx hb dX7_priceOf_9 rfl hl (by decide) rfl (fun ls hl => ?_)
  refine lv_iload_n hx hb dX7_priceOf_10 rfl (lv_at hl 2 rfl) ?_
  obtain ⟨o_5, h_6, hE⟩ := jbd hE
  refine j_Si (As := [.int a1]) (rest := []) (wf := SHW h0 h1 h2 h3 h4 cI size ohms prices tu tl ku kl) C hK hS (jcut_nil hA hS) (tX7_isOneSort l D cI cJ cZ cW cS cO cG a1 h_6) (va_cwS 1 hts gX7_priceOf_X7_isOneSort rfl rfl rfl (by decide +kernel) ⟨Nat.le_of_ble_eq_true rfl, Nat.le_of_ble_eq_true rfl⟩) rfl hl.1 rfl (Nat.le_of_ble_eq_true rfl) dX7_priceOf_11 ⟨Nat.zero_le _, Nat.zero_le _⟩ (fun H locs hS => ?_)
  refine lv_if_eq (tgt := 21) hx hb dX7_priceOf_14 (by decide) (fun c_7 => ?_) (fun c_7 => ?_)
  · have hE := jt hE c_7
    refine lv_iload_n hx hb dX7_priceOf_21 rfl (lv_at hl 0 rfl) ?_
    refine lv_aload_n hx hb dX7_priceOf_22 rfl (lv_at hl 1 rfl) ?_
    refine va_get (D := D) (ci := 8) (v := .ref h2) (C := RX7) (T := TX7) (N := 5) hx hb hts inX7 hown hK hS.1 0 rfl rfl 1 (by decide) k0 (fun _ h => h) rfl dX7_priceOf_23 ?_
    refine lv_iload_n hx hb dX7_priceOf_26 rfl (lv_at hl 2 rfl) ?_
    obtain ⟨o_8, h_9, hE⟩ := jbd hE
    refine j_Si (As := [.int a1]) (rest := [.ref h2, .int x_4]) (wf := SHW h0 h1 h2 h3 h4 cI size ohms prices tu tl ku kl) C hK hS (jcut_nil hA hS) (tX7_secondOf l D cI cJ cZ cW cS cO cG a1 h_9) (va_cwS 1 hts gX7_priceOf_X7_secondOf rfl rfl rfl (by decide +kernel) ⟨Nat.le_of_ble_eq_true rfl, Nat.le_of_ble_eq_true rfl⟩) rfl hl.1 rfl (Nat.le_of_ble_eq_true rfl) dX7_priceOf_27 ⟨Nat.zero_le _, Nat.zero_le _⟩ (fun H locs hS => ?_)
    obtain ⟨b_10, hE⟩ := jgd hE
    refine va_iald hx hb hK hS.1 2 0 rfl rfl (jin.mpr b_10) dX7_priceOf_30 ?_
    refine lv_iadd hx hb dX7_priceOf_31 ?_
    obtain rfl := jsm hE
    exact ret hS rfl dX7_priceOf_32
  · have hE := jf hE c_7
    refine lv_iload_n hx hb dX7_priceOf_17 rfl (lv_at hl 0 rfl) ?_
    refine lv_goto (tgt := 32) hx hb dX7_priceOf_18 (by decide) ?_
    obtain rfl := jsm hE
    exact ret hS rfl dX7_priceOf_32
def fX7_measure (a1 : Int32) (ohms : Nat → Int32) : Option (Int64 × Int64) :=
  (fX7_firstOf a1).bind (fun o_1 => 
  if jok o_1 6 then
  jlet (ohms o_1.toNatClampNeg) (fun x_4 => 
  (fX7_isOneSort a1).bind (fun o_5 => 
  if o_5 = 0 then
  (fX7_secondOf a1).bind (fun o_8 => 
  if jok o_8 6 then
  jlet (ohms o_8.toNatClampNeg) (fun x_11 => 
  if (a1 / (100 : Int32)) = (1 : Int32) then
  (fX0_set ((x_4 + x_11).toInt64) (1 : Int64)).bind (fun o_15 => 
  some (o_15.1, o_15.2))
  else
  (fX0_set ((x_4 * x_11).toInt64) ((x_4 + x_11).toInt64)).bind (fun o_13 => 
  some (o_13.1, o_13.2)))
  else none)
  else
  (fX0_set x_4.toInt64 (1 : Int64)).bind (fun o_17 => 
  some (o_17.1, o_17.2))))
  else none)
abbrev rmX7_measure : Room := { frames := 2, cells := 0, slots := 0, locals := 40 }
set_option maxHeartbeats 4000000 in
set_option maxRecDepth 100000 in
theorem tX7_measure (l : Launch) (D : va_G) (h0 h1 h2 h3 h4 h5 : Nat) (cI cJ cZ cW cS cO cG : ClassId) (size : Int32) (ohms : Nat → Int32) (ru : Int64) (rl : Int64) (a1 : Int32) {o : Int64 × Int64} (hE : fX7_measure a1 ohms = some o) : JMv l yX7_measure wsX7_measure rmX7_measure D vwCl (TY cI cJ cZ cW cS cO cG) [.ref h0, .int a1, .ref h5] (SMW h0 h1 h2 h3 h4 h5 cI size ohms ru rl) (SMW h0 h1 h2 h3 h4 h5 cI size ohms o.1 o.2) := by
  refine JMv.of (cc := cX7_measure) (maxL := 5) (by decide) rfl (Nat.le_of_ble_eq_true rfl) ?_
  intro p e s m args below meth c A ls Q C hK hA ret hS hl
  obtain ⟨⟨hx, hb, hml, hown, hts⟩, -⟩ := id C
  have hl : lv_has ls 5 [(0, .ref h0), (1, .int a1), (2, .ref h5)] := hl
  have inX7 : ∀ w ∈ u_ws RX7 TX7 5, w ∈ wsX7_measure := by decide +kernel
  have k0 := hts (.fieldLink RX7 9 "OhmNets$Shop" "sortOhms" "[I") (by decide +kernel)
  refine lv_aload_n hx hb dX7_measure_0 rfl (lv_at hl 0 rfl) ?_
  refine va_get (D := D) (ci := 8) (v := .ref h1) (C := RX7) (T := TX7) (N := 5) hx hb hts inX7 hown hK hS.1 0 rfl rfl 0 (by decide) k0 (fun _ h => h) rfl dX7_measure_1 ?_
  refine lv_iload_n hx hb dX7_measure_4 rfl (lv_at hl 1 rfl) ?_
  obtain ⟨o_1, h_2, hE⟩ := jbd hE
  refine j_Si (As := [.int a1]) (rest := [.ref h1]) (wf := SMW h0 h1 h2 h3 h4 h5 cI size ohms ru rl) C hK hS (jcut_nil hA hS) (tX7_firstOf l D cI cJ cZ cW cS cO cG a1 h_2) (va_cwS 1 hts gX7_measure_X7_firstOf rfl rfl rfl (by decide +kernel) ⟨Nat.le_of_ble_eq_true rfl, Nat.le_of_ble_eq_true rfl⟩) rfl hl.1 rfl (Nat.le_of_ble_eq_true rfl) dX7_measure_5 ⟨Nat.zero_le _, Nat.zero_le _⟩ (fun H locs hS => ?_)
  obtain ⟨b_3, hE⟩ := jgd hE
  refine va_iald hx hb hK hS.1 1 0 rfl rfl (jin.mpr b_3) dX7_measure_8 ?_
  refine lv_topi (fun x_4 ex_4 => ?_)
  have hE := jlv hE ex_4
  refine lv_istore_n (lv' := [(3, .int x_4), (0, .ref h0), (1, .int a1), (2, .ref h5)]) hx hb dX7_measure_9 rfl hl (by decide) rfl (fun ls hl => ?_)
  refine lv_iload_n hx hb dX7_measure_10 rfl (lv_at hl 2 rfl) ?_
  obtain ⟨o_5, h_6, hE⟩ := jbd hE
  refine j_Si (As := [.int a1]) (rest := []) (wf := SMW h0 h1 h2 h3 h4 h5 cI size ohms ru rl) C hK hS (jcut_nil hA hS) (tX7_isOneSort l D cI cJ cZ cW cS cO cG a1 h_6) (va_cwS 1 hts gX7_measure_X7_isOneSort rfl rfl rfl (by decide +kernel) ⟨Nat.le_of_ble_eq_true rfl, Nat.le_of_ble_eq_true rfl⟩) rfl hl.1 rfl (Nat.le_of_ble_eq_true rfl) dX7_measure_11 ⟨Nat.zero_le _, Nat.zero_le _⟩ (fun H locs hS => ?_)
  refine lv_if_eq (tgt := 25) hx hb dX7_measure_14 (by decide) (fun c_7 => ?_) (fun c_7 => ?_)
  · have hE := jt hE c_7
    refine lv_aload_n hx hb dX7_measure_25 rfl (lv_at hl 1 rfl) ?_
    refine va_get (D := D) (ci := 8) (v := .ref h1) (C := RX7) (T := TX7) (N := 5) hx hb hts inX7 hown hK hS.1 0 rfl rfl 0 (by decide) k0 (fun _ h => h) rfl dX7_measure_26 ?_
    refine lv_iload_n hx hb dX7_measure_29 rfl (lv_at hl 2 rfl) ?_
    obtain ⟨o_8, h_9, hE⟩ := jbd hE
    refine j_Si (As := [.int a1]) (rest := [.ref h1]) (wf := SMW h0 h1 h2 h3 h4 h5 cI size ohms ru rl) C hK hS (jcut_nil hA hS) (tX7_secondOf l D cI cJ cZ cW cS cO cG a1 h_9) (va_cwS 1 hts gX7_measure_X7_secondOf rfl rfl rfl (by decide +kernel) ⟨Nat.le_of_ble_eq_true rfl, Nat.le_of_ble_eq_true rfl⟩) rfl hl.1 rfl (Nat.le_of_ble_eq_true rfl) dX7_measure_30 ⟨Nat.zero_le _, Nat.zero_le _⟩ (fun H locs hS => ?_)
    obtain ⟨b_10, hE⟩ := jgd hE
    refine va_iald hx hb hK hS.1 1 0 rfl rfl (jin.mpr b_10) dX7_measure_33 ?_
    refine lv_topi (fun x_11 ex_11 => ?_)
    have hE := jlv hE ex_11
    refine lv_istore (lv' := [(4, .int x_11), (3, .int x_4), (0, .ref h0), (1, .int a1), (2, .ref h5)]) hx hb dX7_measure_34 hl (by decide) rfl (fun ls hl => ?_)
    refine lv_iload_n hx hb dX7_measure_36 rfl (lv_at hl 3 rfl) ?_
    refine lv_bipush (v := (100 : Int32)) hx hb dX7_measure_37 (by decide) ?_
    refine lv_idiv hx hb dX7_measure_39 (by decide) ?_
    refine lv_iconst (v := (1 : Int32)) hx hb dX7_measure_40 (by decide) ?_
    refine lv_icmp_ne (tgt := 57) hx hb dX7_measure_41 (by decide) (fun c_12 => ?_) (fun c_12 => ?_)
    · have hE := jf hE c_12
      refine lv_aload_n hx hb dX7_measure_57 rfl (lv_at hl 4 rfl) ?_
      refine lv_iload_n hx hb dX7_measure_58 rfl (lv_at hl 1 rfl) ?_
      refine lv_iload hx hb dX7_measure_59 (lv_at hl 0 rfl) ?_
      refine lv_imul hx hb dX7_measure_61 ?_
      refine lv_i2l (v := (x_4 * x_11).toInt64) hx hb dX7_measure_62 rfl ?_
      refine lv_iload_n hx hb dX7_measure_63 rfl (lv_at hl 1 rfl) ?_
      refine lv_iload hx hb dX7_measure_64 (lv_at hl 0 rfl) ?_
      refine lv_iadd hx hb dX7_measure_66 ?_
      refine lv_i2l (v := (x_4 + x_11).toInt64) hx hb dX7_measure_67 rfl ?_
      obtain ⟨o_13, h_14, hE⟩ := jbd hE
      refine j_Vv (As := [.long ((x_4 * x_11).toInt64), .long ((x_4 + x_11).toInt64)]) (rest := []) (wf := SMW h0 h1 h2 h3 h4 h5 cI size ohms o_13.1 o_13.2) (wc := FRW h5 ru rl) (w1 := FRW h5 o_13.1 o_13.2) (vc := (RX0, TX0, 2)) C hK hS (jcut_at (wr := [(h0, .inr (8, [.ref h1, .ref h2, .int size, .ref h3, .ref h4])), (h1, .inl (cI, 6, .inl ohms))]) hA hS [2] [0, 1] [0, 1, 2] rfl rfl rfl (by decide)) (tX0_set l D h5 cI cJ cZ cW cS cO cG ru rl ((x_4 * x_11).toInt64) ((x_4 + x_11).toInt64) h_14) (cwV 2 hts gX7_measure_X0_set rfl rfl rfl (by decide +kernel) ⟨Nat.le_of_ble_eq_true rfl, Nat.le_of_ble_eq_true rfl⟩) (q0 := 0) rfl (ci := 1) rfl rfl hl.1 rfl (Nat.le_of_ble_eq_true rfl) dX7_measure_68 ⟨Nat.zero_le _, Nat.zero_le _⟩ (fun H locs hS => ?_)
      obtain rfl := jsm hE
      exact ret hS dX7_measure_71
    · have hE := jt hE c_12
      refine lv_aload_n hx hb dX7_measure_44 rfl (lv_at hl 4 rfl) ?_
      refine lv_iload_n hx hb dX7_measure_45 rfl (lv_at hl 1 rfl) ?_
      refine lv_iload hx hb dX7_measure_46 (lv_at hl 0 rfl) ?_
      refine lv_iadd hx hb dX7_measure_48 ?_
      refine lv_i2l (v := (x_4 + x_11).toInt64) hx hb dX7_measure_49 rfl ?_
      refine lv_lconst (v := (1 : Int64)) hx hb dX7_measure_50 (by decide) ?_
      obtain ⟨o_15, h_16, hE⟩ := jbd hE
      refine j_Vv (As := [.long ((x_4 + x_11).toInt64), .long (1 : Int64)]) (rest := []) (wf := SMW h0 h1 h2 h3 h4 h5 cI size ohms o_15.1 o_15.2) (wc := FRW h5 ru rl) (w1 := FRW h5 o_15.1 o_15.2) (vc := (RX0, TX0, 2)) C hK hS (jcut_at (wr := [(h0, .inr (8, [.ref h1, .ref h2, .int size, .ref h3, .ref h4])), (h1, .inl (cI, 6, .inl ohms))]) hA hS [2] [0, 1] [0, 1, 2] rfl rfl rfl (by decide)) (tX0_set l D h5 cI cJ cZ cW cS cO cG ru rl ((x_4 + x_11).toInt64) (1 : Int64) h_16) (cwV 2 hts gX7_measure_X0_set rfl rfl rfl (by decide +kernel) ⟨Nat.le_of_ble_eq_true rfl, Nat.le_of_ble_eq_true rfl⟩) (q0 := 0) rfl (ci := 1) rfl rfl hl.1 rfl (Nat.le_of_ble_eq_true rfl) dX7_measure_51 ⟨Nat.zero_le _, Nat.zero_le _⟩ (fun H locs hS => ?_)
      refine lv_goto (tgt := 71) hx hb dX7_measure_54 (by decide) ?_
      obtain rfl := jsm hE
      exact ret hS dX7_measure_71
  · have hE := jf hE c_7
    refine lv_aload_n hx hb dX7_measure_17 rfl (lv_at hl 3 rfl) ?_
    refine lv_iload_n hx hb dX7_measure_18 rfl (lv_at hl 0 rfl) ?_
    refine lv_i2l (v := x_4.toInt64) hx hb dX7_measure_19 rfl ?_
    refine lv_lconst (v := (1 : Int64)) hx hb dX7_measure_20 (by decide) ?_
    obtain ⟨o_17, h_18, hE⟩ := jbd hE
    refine j_Vv (As := [.long x_4.toInt64, .long (1 : Int64)]) (rest := []) (wf := SMW h0 h1 h2 h3 h4 h5 cI size ohms o_17.1 o_17.2) (wc := FRW h5 ru rl) (w1 := FRW h5 o_17.1 o_17.2) (vc := (RX0, TX0, 2)) C hK hS (jcut_at (wr := [(h0, .inr (8, [.ref h1, .ref h2, .int size, .ref h3, .ref h4])), (h1, .inl (cI, 6, .inl ohms))]) hA hS [2] [0, 1] [0, 1, 2] rfl rfl rfl (by decide)) (tX0_set l D h5 cI cJ cZ cW cS cO cG ru rl x_4.toInt64 (1 : Int64) h_18) (cwV 2 hts gX7_measure_X0_set rfl rfl rfl (by decide +kernel) ⟨Nat.le_of_ble_eq_true rfl, Nat.le_of_ble_eq_true rfl⟩) (q0 := 0) rfl (ci := 1) rfl rfl hl.1 rfl (Nat.le_of_ble_eq_true rfl) dX7_measure_21 ⟨Nat.zero_le _, Nat.zero_le _⟩ (fun H locs hS => ?_)
    obtain rfl := jsm hE
    exact ret hS dX7_measure_24
def fX7_gap (a2 : Int32) (a3 : Int32) (upper : Int64) (lower : Int64) : Option (Int64) :=
  some (if 0 < ((upper * a3.toInt64) - (a2.toInt64 * lower)) then ((upper * a3.toInt64) - (a2.toInt64 * lower)) else -((upper * a3.toInt64) - (a2.toInt64 * lower)))
abbrev rmX7_gap : Room := { frames := 1, cells := 0, slots := 0, locals := 13 }
set_option maxHeartbeats 4000000 in
set_option maxRecDepth 100000 in
theorem tX7_gap (l : Launch) (D : va_G) (h0 : Nat) (cI cJ cZ cW cS cO cG : ClassId) (upper : Int64) (lower : Int64) (a2 : Int32) (a3 : Int32) {o : Int64} (hE : fX7_gap a2 a3 upper lower = some o) : JMl l yX7_gap wsX7_gap rmX7_gap D vwCl (TY cI cJ cZ cW cS cO cG) [.ref h0, .int a2, .int a3] (FRW h0 upper lower) (FRW h0 upper lower) o := by
  refine JMl.of (cc := cX7_gap) (maxL := 3) (by decide) rfl (Nat.le_of_ble_eq_true rfl) ?_
  intro p e s m args below meth c A ls Q C hK hA ret hS hl
  obtain ⟨⟨hx, hb, hml, hown, hts⟩, -⟩ := id C
  have hl : lv_has ls 3 [(0, .ref h0), (1, .int a2), (2, .int a3)] := hl
  have inX0 : ∀ w ∈ u_ws RX0 TX0 2, w ∈ wsX7_gap := by decide +kernel
  have k0 := hts (.fieldLink RX7 58 "OhmNets$Fraction" "upper" "J") (by decide +kernel)
  have k1 := hts (.fieldLink RX7 62 "OhmNets$Fraction" "lower" "J") (by decide +kernel)
  have k2 := hts (.methodLink RX7 72 Lib.MathLoose.abs_long.x) (by decide +kernel)
  have k3 := hts (.static Lib.MathLoose.abs_long.x) (by decide +kernel)
  have k4 := hts (.initialized "java/lang/Math") (by decide +kernel)
  have k5 := hts (.code Lib.MathLoose.abs_long.x Lib.MathLoose.abs_long.code 2 (some .long)) (by decide +kernel)
  refine lv_aload_n hx hb dX7_gap_0 rfl (lv_at hl 0 rfl) ?_
  refine va_get (D := D) (ci := 1) (v := .long upper) (C := RX0) (T := TX0) (N := 2) hx hb hts inX0 hown hK hS.1 0 rfl rfl 0 (by decide) k0 (fun _ h => h) rfl dX7_gap_1 ?_
  refine lv_iload_n hx hb dX7_gap_4 rfl (lv_at hl 2 rfl) ?_
  refine lv_i2l (v := a3.toInt64) hx hb dX7_gap_5 rfl ?_
  refine lv_lmul hx hb dX7_gap_6 ?_
  refine lv_iload_n hx hb dX7_gap_7 rfl (lv_at hl 1 rfl) ?_
  refine lv_i2l (v := a2.toInt64) hx hb dX7_gap_8 rfl ?_
  refine lv_aload_n hx hb dX7_gap_9 rfl (lv_at hl 0 rfl) ?_
  refine va_get (D := D) (ci := 1) (v := .long lower) (C := RX0) (T := TX0) (N := 2) hx hb hts inX0 hown hK hS.1 0 rfl rfl 1 (by decide) k1 (fun _ h => h) rfl dX7_gap_10 ?_
  refine lv_lmul hx hb dX7_gap_13 ?_
  refine lv_lsub hx hb dX7_gap_14 ?_
  refine va_mabs_long hx hb (by rw [hml]; exact hl.1.symm) hown k2 k3 k4 k5 (Nat.le_of_ble_eq_true rfl) (Nat.le_of_ble_eq_true rfl) (Nat.zero_le _) (Nat.zero_le _) dX7_gap_15 ?_
  obtain rfl := jsm hE
  exact ret hS dX7_gap_18
def fX7_isTriedBetter (a1 : Int32) (a2 : Int32) (a3 : Int32) (a4 : Int32) (prices : Nat → Int32) (tu : Int64) (tl : Int64) (ku : Int64) (kl : Int64) : Option (Int32) :=
  (fX7_gap a3 a4 tu tl).bind (fun o_1 => 
  jlet (o_1 * kl) (fun x_3 => 
  (fX7_gap a3 a4 ku kl).bind (fun o_4 => 
  jlet (o_4 * tl) (fun x_6 => 
  if x_3 = x_6 then
  (fX7_priceOf a1 prices).bind (fun o_8 => 
  (fX7_priceOf a2 prices).bind (fun o_10 => 
  if o_10 ≤ o_8 then
  some (0 : Int32)
  else
  some (1 : Int32)))
  else
  if x_6 ≤ x_3 then
  some (0 : Int32)
  else
  some (1 : Int32)))))
abbrev rmX7_isTriedBetter : Room := { frames := 3, cells := 0, slots := 0, locals := 62 }
set_option maxHeartbeats 4000000 in
set_option maxRecDepth 100000 in
theorem tX7_isTriedBetter (l : Launch) (D : va_G) (h0 h1 h2 h3 h4 : Nat) (cI cJ cZ cW cS cO cG : ClassId) (size : Int32) (ohms : Nat → Int32) (prices : Nat → Int32) (tu : Int64) (tl : Int64) (ku : Int64) (kl : Int64) (a1 : Int32) (a2 : Int32) (a3 : Int32) (a4 : Int32) {o : Int32} (hE : fX7_isTriedBetter a1 a2 a3 a4 prices tu tl ku kl = some o) : JMi l yX7_isTriedBetter wsX7_isTriedBetter rmX7_isTriedBetter D vwCl (TY cI cJ cZ cW cS cO cG) [.ref h0, .int a1, .int a2, .int a3, .int a4] (SHW h0 h1 h2 h3 h4 cI size ohms prices tu tl ku kl) (SHW h0 h1 h2 h3 h4 cI size ohms prices tu tl ku kl) o := by
  refine JMi.of (cc := cX7_isTriedBetter) (maxL := 9) (by decide) rfl (Nat.le_of_ble_eq_true rfl) ?_
  intro p e s m args below meth c A ls Q C hK hA ret hS hl
  obtain ⟨⟨hx, hb, hml, hown, hts⟩, -⟩ := id C
  have hl : lv_has ls 9 [(0, .ref h0), (1, .int a1), (2, .int a2), (3, .int a3), (4, .int a4)] := hl
  have inX7 : ∀ w ∈ u_ws RX7 TX7 5, w ∈ wsX7_isTriedBetter := by decide +kernel
  have inX0 : ∀ w ∈ u_ws RX0 TX0 2, w ∈ wsX7_isTriedBetter := by decide +kernel
  have k0 := hts (.fieldLink RX7 25 "OhmNets$Shop" "tried" "LOhmNets$Fraction;") (by decide +kernel)
  have k1 := hts (.fieldLink RX7 29 "OhmNets$Shop" "kept" "LOhmNets$Fraction;") (by decide +kernel)
  have k2 := hts (.fieldLink RX7 62 "OhmNets$Fraction" "lower" "J") (by decide +kernel)
  refine lv_aload_n hx hb dX7_isTriedBetter_0 rfl (lv_at hl 0 rfl) ?_
  refine va_get (D := D) (ci := 8) (v := .ref h3) (C := RX7) (T := TX7) (N := 5) hx hb hts inX7 hown hK hS.1 0 rfl rfl 3 (by decide) k0 (fun _ h => h) rfl dX7_isTriedBetter_1 ?_
  refine lv_iload_n hx hb dX7_isTriedBetter_4 rfl (lv_at hl 3 rfl) ?_
  refine lv_iload hx hb dX7_isTriedBetter_5 (lv_at hl 4 rfl) ?_
  obtain ⟨o_1, h_2, hE⟩ := jbd hE
  refine j_Sl (As := [.ref h3, .int a3, .int a4]) (rest := []) (wf := SHW h0 h1 h2 h3 h4 cI size ohms prices tu tl ku kl) (wc := FRW h3 tu tl) (w1 := FRW h3 tu tl) C hK hS (jcut_at (wr := [(h0, .inr (8, [.ref h1, .ref h2, .int size, .ref h3, .ref h4])), (h1, .inl (cI, 6, .inl ohms)), (h2, .inl (cI, 6, .inl prices)), (h4, .inr (1, [.long ku, .long kl]))]) hA hS [3] [0, 1, 2, 4] [0, 1, 2, 4, 3] rfl rfl rfl (by decide)) (tX7_gap l D h3 cI cJ cZ cW cS cO cG tu tl a3 a4 h_2) (va_cwS 3 hts gX7_isTriedBetter_X7_gap rfl rfl rfl (by decide +kernel) ⟨Nat.le_of_ble_eq_true rfl, Nat.le_of_ble_eq_true rfl⟩) rfl hl.1 rfl (Nat.le_of_ble_eq_true rfl) dX7_isTriedBetter_7 ⟨Nat.zero_le _, Nat.zero_le _⟩ (fun H locs hS => ?_)
  refine lv_aload_n hx hb dX7_isTriedBetter_10 rfl (lv_at hl 0 rfl) ?_
  refine va_get (D := D) (ci := 8) (v := .ref h4) (C := RX7) (T := TX7) (N := 5) hx hb hts inX7 hown hK hS.1 0 rfl rfl 4 (by decide) k1 (fun _ h => h) rfl dX7_isTriedBetter_11 ?_
  refine va_get (D := D) (ci := 1) (v := .long kl) (C := RX0) (T := TX0) (N := 2) hx hb hts inX0 hown hK hS.1 4 rfl rfl 1 (by decide) k2 (fun _ h => h) rfl dX7_isTriedBetter_14 ?_
  refine lv_lmul hx hb dX7_isTriedBetter_17 ?_
  refine lv_topl (fun x_3 ex_3 => ?_)
  have hE := jlv hE ex_3
  refine lv_lstore (lv' := [(5, .long x_3), (0, .ref h0), (1, .int a1), (2, .int a2), (3, .int a3), (4, .int a4)]) hx hb dX7_isTriedBetter_18 hl (by decide) rfl (fun ls hl => ?_)
  refine lv_aload_n hx hb dX7_isTriedBetter_20 rfl (lv_at hl 1 rfl) ?_
  refine va_get (D := D) (ci := 8) (v := .ref h4) (C := RX7) (T := TX7) (N := 5) hx hb hts inX7 hown hK hS.1 0 rfl rfl 4 (by decide) k1 (fun _ h => h) rfl dX7_isTriedBetter_21 ?_
  refine lv_iload_n hx hb dX7_isTriedBetter_24 rfl (lv_at hl 4 rfl) ?_
  refine lv_iload hx hb dX7_isTriedBetter_25 (lv_at hl 5 rfl) ?_
  obtain ⟨o_4, h_5, hE⟩ := jbd hE
  refine j_Sl (As := [.ref h4, .int a3, .int a4]) (rest := []) (wf := SHW h0 h1 h2 h3 h4 cI size ohms prices tu tl ku kl) (wc := FRW h4 ku kl) (w1 := FRW h4 ku kl) C hK hS (jcut_at (wr := [(h0, .inr (8, [.ref h1, .ref h2, .int size, .ref h3, .ref h4])), (h1, .inl (cI, 6, .inl ohms)), (h2, .inl (cI, 6, .inl prices)), (h3, .inr (1, [.long tu, .long tl]))]) hA hS [4] [0, 1, 2, 3] [0, 1, 2, 3, 4] rfl rfl rfl (by decide)) (tX7_gap l D h4 cI cJ cZ cW cS cO cG ku kl a3 a4 h_5) (va_cwS 3 hts gX7_isTriedBetter_X7_gap rfl rfl rfl (by decide +kernel) ⟨Nat.le_of_ble_eq_true rfl, Nat.le_of_ble_eq_true rfl⟩) rfl hl.1 rfl (Nat.le_of_ble_eq_true rfl) dX7_isTriedBetter_27 ⟨Nat.zero_le _, Nat.zero_le _⟩ (fun H locs hS => ?_)
  refine lv_aload_n hx hb dX7_isTriedBetter_30 rfl (lv_at hl 1 rfl) ?_
  refine va_get (D := D) (ci := 8) (v := .ref h3) (C := RX7) (T := TX7) (N := 5) hx hb hts inX7 hown hK hS.1 0 rfl rfl 3 (by decide) k0 (fun _ h => h) rfl dX7_isTriedBetter_31 ?_
  refine va_get (D := D) (ci := 1) (v := .long tl) (C := RX0) (T := TX0) (N := 2) hx hb hts inX0 hown hK hS.1 3 rfl rfl 1 (by decide) k2 (fun _ h => h) rfl dX7_isTriedBetter_34 ?_
  refine lv_lmul hx hb dX7_isTriedBetter_37 ?_
  refine lv_topl (fun x_6 ex_6 => ?_)
  have hE := jlv hE ex_6
  refine lv_lstore (lv' := [(7, .long x_6), (5, .long x_3), (0, .ref h0), (1, .int a1), (2, .int a2), (3, .int a3), (4, .int a4)]) hx hb dX7_isTriedBetter_38 hl (by decide) rfl (fun ls hl => ?_)
  refine lv_lload hx hb dX7_isTriedBetter_40 (lv_at hl 1 rfl) ?_
  refine lv_lload hx hb dX7_isTriedBetter_42 (lv_at hl 0 rfl) ?_
  refine jl_eq (tgt := 62) hx hb dX7_isTriedBetter_44 dX7_isTriedBetter_45 (by decide) (fun c_7 => ?_) (fun c_7 => ?_)
  · have hE := jt hE c_7
    refine lv_aload_n hx hb dX7_isTriedBetter_62 rfl (lv_at hl 2 rfl) ?_
    refine lv_iload_n hx hb dX7_isTriedBetter_63 rfl (lv_at hl 3 rfl) ?_
    obtain ⟨o_8, h_9, hE⟩ := jbd hE
    refine j_Vi (As := [.int a1]) (rest := []) (wf := SHW h0 h1 h2 h3 h4 cI size ohms prices tu tl ku kl) (vc := (RX7, TX7, 5)) C hK hS (jcut_all hA hS) (tX7_priceOf l D h0 h1 h2 h3 h4 cI cJ cZ cW cS cO cG size ohms prices tu tl ku kl a1 h_9) (cwV 1 hts gX7_isTriedBetter_X7_priceOf rfl rfl rfl (by decide +kernel) ⟨Nat.le_of_ble_eq_true rfl, Nat.le_of_ble_eq_true rfl⟩) (q0 := 0) rfl (ci := 8) rfl rfl hl.1 rfl (Nat.le_of_ble_eq_true rfl) dX7_isTriedBetter_64 ⟨Nat.zero_le _, Nat.zero_le _⟩ (fun H locs hS => ?_)
    refine lv_aload_n hx hb dX7_isTriedBetter_67 rfl (lv_at hl 2 rfl) ?_
    refine lv_iload_n hx hb dX7_isTriedBetter_68 rfl (lv_at hl 4 rfl) ?_
    obtain ⟨o_10, h_11, hE⟩ := jbd hE
    refine j_Vi (As := [.int a2]) (rest := [.int o_8]) (wf := SHW h0 h1 h2 h3 h4 cI size ohms prices tu tl ku kl) (vc := (RX7, TX7, 5)) C hK hS (jcut_all hA hS) (tX7_priceOf l D h0 h1 h2 h3 h4 cI cJ cZ cW cS cO cG size ohms prices tu tl ku kl a2 h_11) (cwV 1 hts gX7_isTriedBetter_X7_priceOf rfl rfl rfl (by decide +kernel) ⟨Nat.le_of_ble_eq_true rfl, Nat.le_of_ble_eq_true rfl⟩) (q0 := 0) rfl (ci := 8) rfl rfl hl.1 rfl (Nat.le_of_ble_eq_true rfl) dX7_isTriedBetter_69 ⟨Nat.zero_le _, Nat.zero_le _⟩ (fun H locs hS => ?_)
    refine lv_icmp_ge (tgt := 79) hx hb dX7_isTriedBetter_72 (by decide) (fun c_12 => ?_) (fun c_12 => ?_)
    · have hE := jt hE c_12
      refine lv_iconst (v := (0 : Int32)) hx hb dX7_isTriedBetter_79 (by decide) ?_
      obtain rfl := jsm hE
      exact ret hS jb0 dX7_isTriedBetter_80
    · have hE := jf hE c_12
      refine lv_iconst (v := (1 : Int32)) hx hb dX7_isTriedBetter_75 (by decide) ?_
      refine lv_goto (tgt := 80) hx hb dX7_isTriedBetter_76 (by decide) ?_
      obtain rfl := jsm hE
      exact ret hS jb1 dX7_isTriedBetter_80
  · have hE := jf hE c_7
    refine lv_lload hx hb dX7_isTriedBetter_48 (lv_at hl 1 rfl) ?_
    refine lv_lload hx hb dX7_isTriedBetter_50 (lv_at hl 0 rfl) ?_
    refine jl_ge (tgt := 60) hx hb dX7_isTriedBetter_52 dX7_isTriedBetter_53 (by decide) (fun c_13 => ?_) (fun c_13 => ?_)
    · have hE := jt hE c_13
      refine lv_iconst (v := (0 : Int32)) hx hb dX7_isTriedBetter_60 (by decide) ?_
      obtain rfl := jsm hE
      exact ret hS jb0 dX7_isTriedBetter_61
    · have hE := jf hE c_13
      refine lv_iconst (v := (1 : Int32)) hx hb dX7_isTriedBetter_56 (by decide) ?_
      refine lv_goto (tgt := 61) hx hb dX7_isTriedBetter_57 (by decide) ?_
      obtain rfl := jsm hE
      exact ret hS jb1 dX7_isTriedBetter_61
def LX7_nearestTo_6 (size : Int32) (ohms : Nat → Int32) (prices : Nat → Int32) (a1 : Int32) (a2 : Int32) : Nat → (Int32) → (Int32) → (Int64) → (Int64) → (Int64) → (Int64) → Option (Int32 × Int64 × Int64 × Int64 × Int64)
  | 0, _, _, _, _, _, _ => none
  | n + 1, v3_1, v4_2, tu_3, tl_4, ku_5, kl_6 =>
    if (300 : Int32) ≤ v4_2 then
    some (v3_1, tu_3, tl_4, ku_5, kl_6)
    else
    (fX7_has v4_2 size).bind (fun o_13 => 
    (if o_13 = 0 then
    some (v3_1, tu_3, tl_4, ku_5, kl_6)
    else
    (fX7_measure v4_2 ohms).bind (fun o_19 => 
    if v3_1 = (-9 : Int32) then
    (fX0_set o_19.1 o_19.2).bind (fun o_22 => 
    some (v4_2, o_19.1, o_19.2, o_22.1, o_22.2))
    else
    (fX7_isTriedBetter v4_2 v3_1 a1 a2 prices o_19.1 o_19.2 ku_5 kl_6).bind (fun o_24 => 
    if o_24 = 0 then
    some (v3_1, o_19.1, o_19.2, ku_5, kl_6)
    else
    (fX0_set o_19.1 o_19.2).bind (fun o_27 => 
    some (v4_2, o_19.1, o_19.2, o_27.1, o_27.2))))).bind (fun o_15 => 
    jlet (v4_2 + (1 : Int32)) (fun x_29 => 
    LX7_nearestTo_6 size ohms prices a1 a2 n o_15.1 x_29 o_15.2.1 o_15.2.2.1 o_15.2.2.2.1 o_15.2.2.2.2)))
def fX7_nearestTo (a1 : Int32) (a2 : Int32) (size : Int32) (ohms : Nat → Int32) (prices : Nat → Int32) (tu : Int64) (tl : Int64) (ku : Int64) (kl : Int64) : Option (Int32 × Int64 × Int64 × Int64 × Int64) :=
  (LX7_nearestTo_6 size ohms prices a1 a2 5000 (-9 : Int32) (0 : Int32) tu tl ku kl).bind (fun o_7 => 
  some (o_7.1, o_7.2.1, o_7.2.2.1, o_7.2.2.2.1, o_7.2.2.2.2))
abbrev rmX7_nearestTo : Room := { frames := 4, cells := 0, slots := 0, locals := 90 }
set_option maxHeartbeats 4000000 in
set_option maxRecDepth 100000 in
theorem tX7_nearestTo (l : Launch) (D : va_G) (h0 h1 h2 h3 h4 : Nat) (cI cJ cZ cW cS cO cG : ClassId) (size : Int32) (ohms : Nat → Int32) (prices : Nat → Int32) (tu : Int64) (tl : Int64) (ku : Int64) (kl : Int64) (a1 : Int32) (a2 : Int32) {o : Int32 × Int64 × Int64 × Int64 × Int64} (hE : fX7_nearestTo a1 a2 size ohms prices tu tl ku kl = some o) : JMi l yX7_nearestTo wsX7_nearestTo rmX7_nearestTo D vwCl (TY cI cJ cZ cW cS cO cG) [.ref h0, .int a1, .int a2] (SHW h0 h1 h2 h3 h4 cI size ohms prices tu tl ku kl) (SHW h0 h1 h2 h3 h4 cI size ohms prices o.2.1 o.2.2.1 o.2.2.2.1 o.2.2.2.2) o.1 := by
  refine JMi.of (cc := cX7_nearestTo) (maxL := 5) (by decide) rfl (Nat.le_of_ble_eq_true rfl) ?_
  intro p e s m args below meth c A ls Q C hK hA ret hS hl
  obtain ⟨⟨hx, hb, hml, hown, hts⟩, -⟩ := id C
  have hl : lv_has ls 5 [(0, .ref h0), (1, .int a1), (2, .int a2)] := hl
  have inX7 : ∀ w ∈ u_ws RX7 TX7 5, w ∈ wsX7_nearestTo := by decide +kernel
  have inX0 : ∀ w ∈ u_ws RX0 TX0 2, w ∈ wsX7_nearestTo := by decide +kernel
  have k0 := hts (.fieldLink RX7 25 "OhmNets$Shop" "tried" "LOhmNets$Fraction;") (by decide +kernel)
  have k1 := hts (.fieldLink RX7 29 "OhmNets$Shop" "kept" "LOhmNets$Fraction;") (by decide +kernel)
  have k2 := hts (.fieldLink RX7 58 "OhmNets$Fraction" "upper" "J") (by decide +kernel)
  have k3 := hts (.fieldLink RX7 62 "OhmNets$Fraction" "lower" "J") (by decide +kernel)
  refine lv_bipush (v := (-9 : Int32)) hx hb dX7_nearestTo_0 (by decide) ?_
  refine lv_istore_n (lv' := [(3, .int (-9 : Int32)), (0, .ref h0), (1, .int a1), (2, .int a2)]) hx hb dX7_nearestTo_2 rfl hl (by decide) rfl (fun ls hl => ?_)
  refine lv_iconst (v := (0 : Int32)) hx hb dX7_nearestTo_3 (by decide) ?_
  refine lv_istore (lv' := [(4, .int (0 : Int32)), (3, .int (-9 : Int32)), (0, .ref h0), (1, .int a1), (2, .int a2)]) hx hb dX7_nearestTo_4 hl (by decide) rfl (fun ls hl => ?_)
  obtain ⟨o_7, L_8, hE⟩ := jbd hE
  have K_9 : jW p l e rmX7_nearestTo s m args below meth c 0 0 Q D vwCl A (SHW h0 h1 h2 h3 h4 cI size ohms prices o_7.2.1 o_7.2.2.1 o_7.2.2.2.1 o_7.2.2.2.2) 5 [(3, .int o_7.1)] 84 [] := by
    intro H locs ls hS hl
    refine lv_iload_n hx hb dX7_nearestTo_84 rfl (lv_at hl 0 rfl) ?_
    obtain rfl := jsm hE
    exact ret hS rfl dX7_nearestTo_85
  have loop_11 : ∀ (n : Nat) (v3_1 : Int32) (v4_2 : Int32) (tu_3 : Int64) (tl_4 : Int64) (ku_5 : Int64) (kl_6 : Int64), LX7_nearestTo_6 size ohms prices a1 a2 n v3_1 v4_2 tu_3 tl_4 ku_5 kl_6 = some o_7 → jW p l e rmX7_nearestTo s m args below meth c 0 0 Q D vwCl A (SHW h0 h1 h2 h3 h4 cI size ohms prices tu_3 tl_4 ku_5 kl_6) 5 [(0, .ref h0), (1, .int a1), (2, .int a2), (3, .int v3_1), (4, .int v4_2)] 6 [] := by
    intro n
    induction n with
    | zero =>
      intro v3_1 v4_2 tu_3 tl_4 ku_5 kl_6 q_10
      have q_10 : none = some o_7 := q_10
      cases q_10
    | succ n ih =>
      intro v3_1 v4_2 tu_3 tl_4 ku_5 kl_6 q_10 H locs ls hS hl
      rw [LX7_nearestTo_6] at q_10
      refine lv_iload hx hb dX7_nearestTo_6 (lv_at hl 4 rfl) ?_
      refine lv_sipush (v := (300 : Int32)) hx hb dX7_nearestTo_8 (by decide) ?_
      refine lv_icmp_ge (tgt := 84) hx hb dX7_nearestTo_11 (by decide) (fun c_12 => ?_) (fun c_12 => ?_)
      · have q_10 := jt q_10 c_12
        obtain rfl := jsm q_10
        exact K_9 _ _ _ hS (lv_sub hl [3] rfl)
      · have q_10 := jf q_10 c_12
        refine lv_aload_n hx hb dX7_nearestTo_14 rfl (lv_at hl 0 rfl) ?_
        refine lv_iload hx hb dX7_nearestTo_15 (lv_at hl 4 rfl) ?_
        obtain ⟨o_13, h_14, q_10⟩ := jbd q_10
        refine j_Vi (As := [.int v4_2]) (rest := []) (wf := SHW h0 h1 h2 h3 h4 cI size ohms prices tu_3 tl_4 ku_5 kl_6) (vc := (RX7, TX7, 5)) C hK hS (jcut_all hA hS) (tX7_has l D h0 h1 h2 h3 h4 cI cJ cZ cW cS cO cG size ohms prices tu_3 tl_4 ku_5 kl_6 v4_2 h_14) (cwV 1 hts gX7_nearestTo_X7_has rfl rfl rfl (by decide +kernel) ⟨Nat.le_of_ble_eq_true rfl, Nat.le_of_ble_eq_true rfl⟩) (q0 := 0) rfl (ci := 8) rfl rfl hl.1 rfl (Nat.le_of_ble_eq_true rfl) dX7_nearestTo_17 ⟨Nat.zero_le _, Nat.zero_le _⟩ (fun H locs hS => ?_)
        obtain ⟨o_15, r_17, q_10⟩ := jbd q_10
        have K_16 : jW p l e rmX7_nearestTo s m args below meth c 0 0 Q D vwCl A (SHW h0 h1 h2 h3 h4 cI size ohms prices o_15.2.1 o_15.2.2.1 o_15.2.2.2.1 o_15.2.2.2.2) 5 [(0, .ref h0), (1, .int a1), (2, .int a2), (3, .int o_15.1), (4, .int v4_2)] 78 [] := by
          intro H locs ls hS hl
          obtain ⟨x_29, ex_29⟩ : ∃ y : Int32, y = v4_2 + (1 : Int32) := ⟨_, rfl⟩
          have q_10 := jlv q_10 ex_29
          refine lv_iinc (v := x_29) (lv' := [(4, .int x_29), (0, .ref h0), (1, .int a1), (2, .int a2), (3, .int o_15.1)]) hx hb dX7_nearestTo_78 hl (k := 4) rfl (by rw [ex_29]; rfl) (by decide) rfl (fun ls hl => ?_)
          refine lv_goto (tgt := 6) hx hb dX7_nearestTo_81 (by decide) ?_
          exact ih o_15.1 x_29 o_15.2.1 o_15.2.2.1 o_15.2.2.2.1 o_15.2.2.2.2 q_10 _ _ _ hS (lv_sub hl [1, 2, 3, 4, 0] rfl)
        refine lv_if_ne (tgt := 26) hx hb dX7_nearestTo_20 (by decide) (fun c_18 => ?_) (fun c_18 => ?_)
        · have r_17 := jf r_17 c_18
          refine lv_aload_n hx hb dX7_nearestTo_26 rfl (lv_at hl 0 rfl) ?_
          refine lv_iload hx hb dX7_nearestTo_27 (lv_at hl 4 rfl) ?_
          refine lv_aload_n hx hb dX7_nearestTo_29 rfl (lv_at hl 0 rfl) ?_
          refine va_get (D := D) (ci := 8) (v := .ref h3) (C := RX7) (T := TX7) (N := 5) hx hb hts inX7 hown hK hS.1 0 rfl rfl 3 (by decide) k0 (fun _ h => h) rfl dX7_nearestTo_30 ?_
          obtain ⟨o_19, h_20, r_17⟩ := jbd r_17
          refine j_Vv (As := [.int v4_2, .ref h3]) (rest := []) (wf := SHW h0 h1 h2 h3 h4 cI size ohms prices o_19.1 o_19.2 ku_5 kl_6) (wc := SMW h0 h1 h2 h3 h4 h3 cI size ohms tu_3 tl_4) (w1 := SMW h0 h1 h2 h3 h4 h3 cI size ohms o_19.1 o_19.2) (vc := (RX7, TX7, 5)) C hK hS (jcut_at (wr := [(h2, .inl (cI, 6, .inl prices)), (h4, .inr (1, [.long ku_5, .long kl_6]))]) hA hS [0, 1, 3] [2, 4] [2, 3, 0, 4, 1] rfl rfl rfl (by decide)) (tX7_measure l D h0 h1 h2 h3 h4 h3 cI cJ cZ cW cS cO cG size ohms tu_3 tl_4 v4_2 h_20) (cwV 2 hts gX7_nearestTo_X7_measure rfl rfl rfl (by decide +kernel) ⟨Nat.le_of_ble_eq_true rfl, Nat.le_of_ble_eq_true rfl⟩) (q0 := 0) rfl (ci := 8) rfl rfl hl.1 rfl (Nat.le_of_ble_eq_true rfl) dX7_nearestTo_33 ⟨Nat.zero_le _, Nat.zero_le _⟩ (fun H locs hS => ?_)
          refine lv_iload_n hx hb dX7_nearestTo_36 rfl (lv_at hl 3 rfl) ?_
          refine lv_bipush (v := (-9 : Int32)) hx hb dX7_nearestTo_37 (by decide) ?_
          refine lv_icmp_eq (tgt := 54) hx hb dX7_nearestTo_39 (by decide) (fun c_21 => ?_) (fun c_21 => ?_)
          · have r_17 := jt r_17 c_21
            refine lv_iload hx hb dX7_nearestTo_54 (lv_at hl 4 rfl) ?_
            refine lv_istore_n (lv' := [(3, .int v4_2), (0, .ref h0), (1, .int a1), (2, .int a2), (4, .int v4_2)]) hx hb dX7_nearestTo_56 rfl hl (by decide) rfl (fun ls hl => ?_)
            refine lv_aload_n hx hb dX7_nearestTo_57 rfl (lv_at hl 1 rfl) ?_
            refine va_get (D := D) (ci := 8) (v := .ref h4) (C := RX7) (T := TX7) (N := 5) hx hb hts inX7 hown hK hS.1 0 rfl rfl 4 (by decide) k1 (fun _ h => h) rfl dX7_nearestTo_58 ?_
            refine lv_aload_n hx hb dX7_nearestTo_61 rfl (lv_at hl 1 rfl) ?_
            refine va_get (D := D) (ci := 8) (v := .ref h3) (C := RX7) (T := TX7) (N := 5) hx hb hts inX7 hown hK hS.1 0 rfl rfl 3 (by decide) k0 (fun _ h => h) rfl dX7_nearestTo_62 ?_
            refine va_get (D := D) (ci := 1) (v := .long o_19.1) (C := RX0) (T := TX0) (N := 2) hx hb hts inX0 hown hK hS.1 3 rfl rfl 0 (by decide) k2 (fun _ h => h) rfl dX7_nearestTo_65 ?_
            refine lv_aload_n hx hb dX7_nearestTo_68 rfl (lv_at hl 1 rfl) ?_
            refine va_get (D := D) (ci := 8) (v := .ref h3) (C := RX7) (T := TX7) (N := 5) hx hb hts inX7 hown hK hS.1 0 rfl rfl 3 (by decide) k0 (fun _ h => h) rfl dX7_nearestTo_69 ?_
            refine va_get (D := D) (ci := 1) (v := .long o_19.2) (C := RX0) (T := TX0) (N := 2) hx hb hts inX0 hown hK hS.1 3 rfl rfl 1 (by decide) k3 (fun _ h => h) rfl dX7_nearestTo_72 ?_
            obtain ⟨o_22, h_23, r_17⟩ := jbd r_17
            refine j_Vv (As := [.long o_19.1, .long o_19.2]) (rest := []) (wf := SHW h0 h1 h2 h3 h4 cI size ohms prices o_19.1 o_19.2 o_22.1 o_22.2) (wc := FRW h4 ku_5 kl_6) (w1 := FRW h4 o_22.1 o_22.2) (vc := (RX0, TX0, 2)) C hK hS (jcut_at (wr := [(h0, .inr (8, [.ref h1, .ref h2, .int size, .ref h3, .ref h4])), (h1, .inl (cI, 6, .inl ohms)), (h2, .inl (cI, 6, .inl prices)), (h3, .inr (1, [.long o_19.1, .long o_19.2]))]) hA hS [4] [0, 1, 2, 3] [0, 1, 2, 3, 4] rfl rfl rfl (by decide)) (tX0_set l D h4 cI cJ cZ cW cS cO cG ku_5 kl_6 o_19.1 o_19.2 h_23) (cwV 2 hts gX7_nearestTo_X0_set rfl rfl rfl (by decide +kernel) ⟨Nat.le_of_ble_eq_true rfl, Nat.le_of_ble_eq_true rfl⟩) (q0 := 0) rfl (ci := 1) rfl rfl hl.1 rfl (Nat.le_of_ble_eq_true rfl) dX7_nearestTo_75 ⟨Nat.zero_le _, Nat.zero_le _⟩ (fun H locs hS => ?_)
            obtain rfl := jsm r_17
            exact K_16 _ _ _ hS (lv_sub hl [1, 2, 3, 0, 4] rfl)
          · have r_17 := jf r_17 c_21
            refine lv_aload_n hx hb dX7_nearestTo_42 rfl (lv_at hl 0 rfl) ?_
            refine lv_iload hx hb dX7_nearestTo_43 (lv_at hl 4 rfl) ?_
            refine lv_iload_n hx hb dX7_nearestTo_45 rfl (lv_at hl 3 rfl) ?_
            refine lv_iload_n hx hb dX7_nearestTo_46 rfl (lv_at hl 1 rfl) ?_
            refine lv_iload_n hx hb dX7_nearestTo_47 rfl (lv_at hl 2 rfl) ?_
            obtain ⟨o_24, h_25, r_17⟩ := jbd r_17
            refine j_Vi (As := [.int v4_2, .int v3_1, .int a1, .int a2]) (rest := []) (wf := SHW h0 h1 h2 h3 h4 cI size ohms prices o_19.1 o_19.2 ku_5 kl_6) (vc := (RX7, TX7, 5)) C hK hS (jcut_all hA hS) (tX7_isTriedBetter l D h0 h1 h2 h3 h4 cI cJ cZ cW cS cO cG size ohms prices o_19.1 o_19.2 ku_5 kl_6 v4_2 v3_1 a1 a2 h_25) (cwV 4 hts gX7_nearestTo_X7_isTriedBetter rfl rfl rfl (by decide +kernel) ⟨Nat.le_of_ble_eq_true rfl, Nat.le_of_ble_eq_true rfl⟩) (q0 := 0) rfl (ci := 8) rfl rfl hl.1 rfl (Nat.le_of_ble_eq_true rfl) dX7_nearestTo_48 ⟨Nat.zero_le _, Nat.zero_le _⟩ (fun H locs hS => ?_)
            refine lv_if_eq (tgt := 78) hx hb dX7_nearestTo_51 (by decide) (fun c_26 => ?_) (fun c_26 => ?_)
            · have r_17 := jt r_17 c_26
              obtain rfl := jsm r_17
              exact K_16 _ _ _ hS (lv_sub hl [0, 1, 2, 3, 4] rfl)
            · have r_17 := jf r_17 c_26
              refine lv_iload hx hb dX7_nearestTo_54 (lv_at hl 4 rfl) ?_
              refine lv_istore_n (lv' := [(3, .int v4_2), (0, .ref h0), (1, .int a1), (2, .int a2), (4, .int v4_2)]) hx hb dX7_nearestTo_56 rfl hl (by decide) rfl (fun ls hl => ?_)
              refine lv_aload_n hx hb dX7_nearestTo_57 rfl (lv_at hl 1 rfl) ?_
              refine va_get (D := D) (ci := 8) (v := .ref h4) (C := RX7) (T := TX7) (N := 5) hx hb hts inX7 hown hK hS.1 0 rfl rfl 4 (by decide) k1 (fun _ h => h) rfl dX7_nearestTo_58 ?_
              refine lv_aload_n hx hb dX7_nearestTo_61 rfl (lv_at hl 1 rfl) ?_
              refine va_get (D := D) (ci := 8) (v := .ref h3) (C := RX7) (T := TX7) (N := 5) hx hb hts inX7 hown hK hS.1 0 rfl rfl 3 (by decide) k0 (fun _ h => h) rfl dX7_nearestTo_62 ?_
              refine va_get (D := D) (ci := 1) (v := .long o_19.1) (C := RX0) (T := TX0) (N := 2) hx hb hts inX0 hown hK hS.1 3 rfl rfl 0 (by decide) k2 (fun _ h => h) rfl dX7_nearestTo_65 ?_
              refine lv_aload_n hx hb dX7_nearestTo_68 rfl (lv_at hl 1 rfl) ?_
              refine va_get (D := D) (ci := 8) (v := .ref h3) (C := RX7) (T := TX7) (N := 5) hx hb hts inX7 hown hK hS.1 0 rfl rfl 3 (by decide) k0 (fun _ h => h) rfl dX7_nearestTo_69 ?_
              refine va_get (D := D) (ci := 1) (v := .long o_19.2) (C := RX0) (T := TX0) (N := 2) hx hb hts inX0 hown hK hS.1 3 rfl rfl 1 (by decide) k3 (fun _ h => h) rfl dX7_nearestTo_72 ?_
              obtain ⟨o_27, h_28, r_17⟩ := jbd r_17
              refine j_Vv (As := [.long o_19.1, .long o_19.2]) (rest := []) (wf := SHW h0 h1 h2 h3 h4 cI size ohms prices o_19.1 o_19.2 o_27.1 o_27.2) (wc := FRW h4 ku_5 kl_6) (w1 := FRW h4 o_27.1 o_27.2) (vc := (RX0, TX0, 2)) C hK hS (jcut_at (wr := [(h0, .inr (8, [.ref h1, .ref h2, .int size, .ref h3, .ref h4])), (h1, .inl (cI, 6, .inl ohms)), (h2, .inl (cI, 6, .inl prices)), (h3, .inr (1, [.long o_19.1, .long o_19.2]))]) hA hS [4] [0, 1, 2, 3] [0, 1, 2, 3, 4] rfl rfl rfl (by decide)) (tX0_set l D h4 cI cJ cZ cW cS cO cG ku_5 kl_6 o_19.1 o_19.2 h_28) (cwV 2 hts gX7_nearestTo_X0_set rfl rfl rfl (by decide +kernel) ⟨Nat.le_of_ble_eq_true rfl, Nat.le_of_ble_eq_true rfl⟩) (q0 := 0) rfl (ci := 1) rfl rfl hl.1 rfl (Nat.le_of_ble_eq_true rfl) dX7_nearestTo_75 ⟨Nat.zero_le _, Nat.zero_le _⟩ (fun H locs hS => ?_)
              obtain rfl := jsm r_17
              exact K_16 _ _ _ hS (lv_sub hl [1, 2, 3, 0, 4] rfl)
        · have r_17 := jt r_17 c_18
          refine lv_goto (tgt := 78) hx hb dX7_nearestTo_23 (by decide) ?_
          obtain rfl := jsm r_17
          exact K_16 _ _ _ hS (lv_sub hl [0, 1, 2, 3, 4] rfl)
  exact loop_11 5000 (-9 : Int32) (0 : Int32) tu tl ku kl L_8 _ _ _ hS (lv_sub hl [2, 3, 4, 1, 0] rfl)
def fX9_isWithin (a1 : Int32) (a2 : Int32) (a3 : Int32) : Option (Int32) :=
  if a1 < a2 then
  some (0 : Int32)
  else
  if a3 < a1 then
  some (0 : Int32)
  else
  some (1 : Int32)
abbrev rmX9_isWithin : Room := { frames := 0, cells := 0, slots := 0, locals := 0 }
set_option maxHeartbeats 4000000 in
set_option maxRecDepth 100000 in
theorem tX9_isWithin (l : Launch) (D : va_G) (cI cJ cZ cW cS cO cG : ClassId) (a1 : Int32) (a2 : Int32) (a3 : Int32) {o : Int32} (hE : fX9_isWithin a1 a2 a3 = some o) : JMi l yX9_isWithin wsX9_isWithin rmX9_isWithin D vwCl (TY cI cJ cZ cW cS cO cG) [.int a1, .int a2, .int a3] ([]) ([]) o := by
  refine JMi.of (cc := cX9_isWithin) (maxL := 3) (by decide) rfl (Nat.le_of_ble_eq_true rfl) ?_
  intro p e s m args below meth c A ls Q C hK hA ret hS hl
  obtain ⟨⟨hx, hb, hml, hown, hts⟩, -⟩ := id C
  have hl : lv_has ls 3 [(0, .int a1), (1, .int a2), (2, .int a3)] := hl
  refine lv_iload_n hx hb dX9_isWithin_0 rfl (lv_at hl 0 rfl) ?_
  refine lv_iload_n hx hb dX9_isWithin_1 rfl (lv_at hl 1 rfl) ?_
  refine lv_icmp_lt (tgt := 14) hx hb dX9_isWithin_2 (by decide) (fun c_1 => ?_) (fun c_1 => ?_)
  · have hE := jt hE c_1
    refine lv_iconst (v := (0 : Int32)) hx hb dX9_isWithin_14 (by decide) ?_
    obtain rfl := jsm hE
    exact ret hS jb0 dX9_isWithin_15
  · have hE := jf hE c_1
    refine lv_iload_n hx hb dX9_isWithin_5 rfl (lv_at hl 0 rfl) ?_
    refine lv_iload_n hx hb dX9_isWithin_6 rfl (lv_at hl 2 rfl) ?_
    refine lv_icmp_gt (tgt := 14) hx hb dX9_isWithin_7 (by decide) (fun c_2 => ?_) (fun c_2 => ?_)
    · have hE := jt hE c_2
      refine lv_iconst (v := (0 : Int32)) hx hb dX9_isWithin_14 (by decide) ?_
      obtain rfl := jsm hE
      exact ret hS jb0 dX9_isWithin_15
    · have hE := jf hE c_2
      refine lv_iconst (v := (1 : Int32)) hx hb dX9_isWithin_10 (by decide) ?_
      refine lv_goto (tgt := 15) hx hb dX9_isWithin_11 (by decide) ?_
      obtain rfl := jsm hE
      exact ret hS jb1 dX9_isWithin_15
def fX9_isTold (a1 : Int32) (a2 : Int32) (a3 : Int32) : Option (Int32) :=
  (fX9_isWithin a1 (1 : Int32) a3).bind (fun o_1 => 
  if o_1 = 0 then
  some (0 : Int32)
  else
  (fX9_isWithin a2 (1 : Int32) a3).bind (fun o_4 => 
  if o_4 = 0 then
  some (0 : Int32)
  else
  some (1 : Int32)))
abbrev rmX9_isTold : Room := { frames := 1, cells := 0, slots := 0, locals := 22 }
set_option maxHeartbeats 4000000 in
set_option maxRecDepth 100000 in
theorem tX9_isTold (l : Launch) (D : va_G) (cI cJ cZ cW cS cO cG : ClassId) (a1 : Int32) (a2 : Int32) (a3 : Int32) {o : Int32} (hE : fX9_isTold a1 a2 a3 = some o) : JMi l yX9_isTold wsX9_isTold rmX9_isTold D vwCl (TY cI cJ cZ cW cS cO cG) [.int a1, .int a2, .int a3] ([]) ([]) o := by
  refine JMi.of (cc := cX9_isTold) (maxL := 3) (by decide) rfl (Nat.le_of_ble_eq_true rfl) ?_
  intro p e s m args below meth c A ls Q C hK hA ret hS hl
  obtain ⟨⟨hx, hb, hml, hown, hts⟩, -⟩ := id C
  have hl : lv_has ls 3 [(0, .int a1), (1, .int a2), (2, .int a3)] := hl
  refine lv_iload_n hx hb dX9_isTold_0 rfl (lv_at hl 0 rfl) ?_
  refine lv_iconst (v := (1 : Int32)) hx hb dX9_isTold_1 (by decide) ?_
  refine lv_iload_n hx hb dX9_isTold_2 rfl (lv_at hl 2 rfl) ?_
  obtain ⟨o_1, h_2, hE⟩ := jbd hE
  refine j_Si (As := [.int a1, .int (1 : Int32), .int a3]) (rest := []) (wf := []) C hK hS (jcut_nil hA hS) (tX9_isWithin l D cI cJ cZ cW cS cO cG a1 (1 : Int32) a3 h_2) (va_cwS 3 hts gX9_isTold_X9_isWithin rfl rfl rfl (by decide +kernel) ⟨Nat.le_of_ble_eq_true rfl, Nat.le_of_ble_eq_true rfl⟩) rfl hl.1 rfl (Nat.le_of_ble_eq_true rfl) dX9_isTold_3 ⟨Nat.zero_le _, Nat.zero_le _⟩ (fun H locs hS => ?_)
  refine lv_if_eq (tgt := 22) hx hb dX9_isTold_6 (by decide) (fun c_3 => ?_) (fun c_3 => ?_)
  · have hE := jt hE c_3
    refine lv_iconst (v := (0 : Int32)) hx hb dX9_isTold_22 (by decide) ?_
    obtain rfl := jsm hE
    exact ret hS jb0 dX9_isTold_23
  · have hE := jf hE c_3
    refine lv_iload_n hx hb dX9_isTold_9 rfl (lv_at hl 1 rfl) ?_
    refine lv_iconst (v := (1 : Int32)) hx hb dX9_isTold_10 (by decide) ?_
    refine lv_iload_n hx hb dX9_isTold_11 rfl (lv_at hl 2 rfl) ?_
    obtain ⟨o_4, h_5, hE⟩ := jbd hE
    refine j_Si (As := [.int a2, .int (1 : Int32), .int a3]) (rest := []) (wf := []) C hK hS (jcut_nil hA hS) (tX9_isWithin l D cI cJ cZ cW cS cO cG a2 (1 : Int32) a3 h_5) (va_cwS 3 hts gX9_isTold_X9_isWithin rfl rfl rfl (by decide +kernel) ⟨Nat.le_of_ble_eq_true rfl, Nat.le_of_ble_eq_true rfl⟩) rfl hl.1 rfl (Nat.le_of_ble_eq_true rfl) dX9_isTold_12 ⟨Nat.zero_le _, Nat.zero_le _⟩ (fun H locs hS => ?_)
    refine lv_if_eq (tgt := 22) hx hb dX9_isTold_15 (by decide) (fun c_6 => ?_) (fun c_6 => ?_)
    · have hE := jt hE c_6
      refine lv_iconst (v := (0 : Int32)) hx hb dX9_isTold_22 (by decide) ?_
      obtain rfl := jsm hE
      exact ret hS jb0 dX9_isTold_23
    · have hE := jf hE c_6
      refine lv_iconst (v := (1 : Int32)) hx hb dX9_isTold_18 (by decide) ?_
      refine lv_goto (tgt := 23) hx hb dX9_isTold_19 (by decide) ?_
      obtain rfl := jsm hE
      exact ret hS jb1 dX9_isTold_23
def fX9_isKnot (a1 : Int32) : Option (Int32) :=
  (fX9_isWithin a1 (0 : Int32) (5 : Int32)).bind (fun o_1 => 
  if o_1 &&& 1 = o_1 then
  some o_1
  else none)
abbrev rmX9_isKnot : Room := { frames := 1, cells := 0, slots := 0, locals := 22 }
set_option maxHeartbeats 4000000 in
set_option maxRecDepth 100000 in
theorem tX9_isKnot (l : Launch) (D : va_G) (cI cJ cZ cW cS cO cG : ClassId) (a1 : Int32) {o : Int32} (hE : fX9_isKnot a1 = some o) : JMi l yX9_isKnot wsX9_isKnot rmX9_isKnot D vwCl (TY cI cJ cZ cW cS cO cG) [.int a1] ([]) ([]) o := by
  refine JMi.of (cc := cX9_isKnot) (maxL := 1) (by decide) rfl (Nat.le_of_ble_eq_true rfl) ?_
  intro p e s m args below meth c A ls Q C hK hA ret hS hl
  obtain ⟨⟨hx, hb, hml, hown, hts⟩, -⟩ := id C
  have hl : lv_has ls 1 [(0, .int a1)] := hl
  refine lv_iload_n hx hb dX9_isKnot_0 rfl (lv_at hl 0 rfl) ?_
  refine lv_iconst (v := (0 : Int32)) hx hb dX9_isKnot_1 (by decide) ?_
  refine lv_iconst (v := (5 : Int32)) hx hb dX9_isKnot_2 (by decide) ?_
  obtain ⟨o_1, h_2, hE⟩ := jbd hE
  refine j_Si (As := [.int a1, .int (0 : Int32), .int (5 : Int32)]) (rest := []) (wf := []) C hK hS (jcut_nil hA hS) (tX9_isWithin l D cI cJ cZ cW cS cO cG a1 (0 : Int32) (5 : Int32) h_2) (va_cwS 3 hts gX9_isKnot_X9_isWithin rfl rfl rfl (by decide +kernel) ⟨Nat.le_of_ble_eq_true rfl, Nat.le_of_ble_eq_true rfl⟩) rfl hl.1 rfl (Nat.le_of_ble_eq_true rfl) dX9_isKnot_3 ⟨Nat.zero_le _, Nat.zero_le _⟩ (fun H locs hS => ?_)
  obtain ⟨z_3, hE⟩ := jgd hE
  obtain rfl := jsm hE
  exact ret hS (jbool z_3) dX9_isKnot_6
def fX9_areTwoKnots (a1 : Int32) (a2 : Int32) : Option (Int32) :=
  (fX9_isKnot a1).bind (fun o_1 => 
  if o_1 = 0 then
  some (0 : Int32)
  else
  (fX9_isKnot a2).bind (fun o_4 => 
  if o_4 = 0 then
  some (0 : Int32)
  else
  if a1 = a2 then
  some (0 : Int32)
  else
  some (1 : Int32)))
abbrev rmX9_areTwoKnots : Room := { frames := 2, cells := 0, slots := 0, locals := 42 }
set_option maxHeartbeats 4000000 in
set_option maxRecDepth 100000 in
theorem tX9_areTwoKnots (l : Launch) (D : va_G) (cI cJ cZ cW cS cO cG : ClassId) (a1 : Int32) (a2 : Int32) {o : Int32} (hE : fX9_areTwoKnots a1 a2 = some o) : JMi l yX9_areTwoKnots wsX9_areTwoKnots rmX9_areTwoKnots D vwCl (TY cI cJ cZ cW cS cO cG) [.int a1, .int a2] ([]) ([]) o := by
  refine JMi.of (cc := cX9_areTwoKnots) (maxL := 2) (by decide) rfl (Nat.le_of_ble_eq_true rfl) ?_
  intro p e s m args below meth c A ls Q C hK hA ret hS hl
  obtain ⟨⟨hx, hb, hml, hown, hts⟩, -⟩ := id C
  have hl : lv_has ls 2 [(0, .int a1), (1, .int a2)] := hl
  refine lv_iload_n hx hb dX9_areTwoKnots_0 rfl (lv_at hl 0 rfl) ?_
  obtain ⟨o_1, h_2, hE⟩ := jbd hE
  refine j_Si (As := [.int a1]) (rest := []) (wf := []) C hK hS (jcut_nil hA hS) (tX9_isKnot l D cI cJ cZ cW cS cO cG a1 h_2) (va_cwS 1 hts gX9_areTwoKnots_X9_isKnot rfl rfl rfl (by decide +kernel) ⟨Nat.le_of_ble_eq_true rfl, Nat.le_of_ble_eq_true rfl⟩) rfl hl.1 rfl (Nat.le_of_ble_eq_true rfl) dX9_areTwoKnots_1 ⟨Nat.zero_le _, Nat.zero_le _⟩ (fun H locs hS => ?_)
  refine lv_if_eq (tgt := 23) hx hb dX9_areTwoKnots_4 (by decide) (fun c_3 => ?_) (fun c_3 => ?_)
  · have hE := jt hE c_3
    refine lv_iconst (v := (0 : Int32)) hx hb dX9_areTwoKnots_23 (by decide) ?_
    obtain rfl := jsm hE
    exact ret hS jb0 dX9_areTwoKnots_24
  · have hE := jf hE c_3
    refine lv_iload_n hx hb dX9_areTwoKnots_7 rfl (lv_at hl 1 rfl) ?_
    obtain ⟨o_4, h_5, hE⟩ := jbd hE
    refine j_Si (As := [.int a2]) (rest := []) (wf := []) C hK hS (jcut_nil hA hS) (tX9_isKnot l D cI cJ cZ cW cS cO cG a2 h_5) (va_cwS 1 hts gX9_areTwoKnots_X9_isKnot rfl rfl rfl (by decide +kernel) ⟨Nat.le_of_ble_eq_true rfl, Nat.le_of_ble_eq_true rfl⟩) rfl hl.1 rfl (Nat.le_of_ble_eq_true rfl) dX9_areTwoKnots_8 ⟨Nat.zero_le _, Nat.zero_le _⟩ (fun H locs hS => ?_)
    refine lv_if_eq (tgt := 23) hx hb dX9_areTwoKnots_11 (by decide) (fun c_6 => ?_) (fun c_6 => ?_)
    · have hE := jt hE c_6
      refine lv_iconst (v := (0 : Int32)) hx hb dX9_areTwoKnots_23 (by decide) ?_
      obtain rfl := jsm hE
      exact ret hS jb0 dX9_areTwoKnots_24
    · have hE := jf hE c_6
      refine lv_iload_n hx hb dX9_areTwoKnots_14 rfl (lv_at hl 0 rfl) ?_
      refine lv_iload_n hx hb dX9_areTwoKnots_15 rfl (lv_at hl 1 rfl) ?_
      refine lv_icmp_eq (tgt := 23) hx hb dX9_areTwoKnots_16 (by decide) (fun c_7 => ?_) (fun c_7 => ?_)
      · have hE := jt hE c_7
        refine lv_iconst (v := (0 : Int32)) hx hb dX9_areTwoKnots_23 (by decide) ?_
        obtain rfl := jsm hE
        exact ret hS jb0 dX9_areTwoKnots_24
      · have hE := jf hE c_7
        refine lv_iconst (v := (1 : Int32)) hx hb dX9_areTwoKnots_19 (by decide) ?_
        refine lv_goto (tgt := 24) hx hb dX9_areTwoKnots_20 (by decide) ?_
        obtain rfl := jsm hE
        exact ret hS jb1 dX9_areTwoKnots_24
