/-- a wire of the pool into the array of wires -/
theorem jn_ast {p : Program} {l : Launch} {e : Env} {R : Room} {s : State} {m : MethodId} {args : Array Value} {below : List Frame} {meth : Method} {c : Code} {H : Heap} {locs : List Loc} {cells slots : Nat} {Q : State → Prop} {cc : ByteArray} {pc : Nat} {ls : Array Slot} {rest : List Value} {D : va_G} {A : Nat → Prop} {tys : List (ClassId × FieldType)} {X : va_W} {L : List Nat} {f : Nat → va_E} {a b dd mi : Nat} {k a1 a2 q mm : Int32}
    (hx : p.tables.exec = Jvm.exec) (hb : c.code = cc) (hK : va_K D vwCl tys s) (hX : jX dd mi A s) (hS : jS D vwCl A (X ++ va_pl L f) s.heap H locs) (hm : a ∈ L) (hf : f a = jwc k a1 a2 q mm) (q0 t0 : Nat) {cA : ClassId} {n : Nat} {g : Nat → Option Nat} (ha : (X ++ va_pl L f)[q0]? = some (b, .inl (cA, n, .inr (.inr (.inr (.inr g)))))) (ht : tys[t0]? = some (cA, .object RX4)) {i : Int32} (hin : vp_in i n) (hdg : decode cc pc = .ok (.aastore, 1))
    (kk : ∀ (H1 : Heap) (locs1 : List Loc), jS D vwCl A ((X ++ va_pl L f).set q0 (b, .inl (cA, n, .inr (.inr (.inr (.inr (va_up g i.toNatClampNeg (some a)))))))) s.heap H1 locs1 → W p l e R s m args below meth c H1 locs1 cells slots Q (F0 m (pc + 1) ls rest)) : W p l e R s m args below meth c H locs cells slots Q (F0 m pc ls (.ref a :: .int i :: .ref b :: rest)) := by
  obtain ⟨k9, hk⟩ := va_pl_get (X := X) (f := f) hm
  rw [hf] at hk
  unfold jwc at hk
  by_cases e0 : k = 0
  · rw [if_pos e0] at hk
    exact va_astq (r := (RX4, TX4, 3)) hx hb hK hS.1 hS.2.1 hS.2.2 q0 t0 k9 5 ha ht hk rfl hin hdg (fun H1 locs1 p1 p2 p3 => kk H1 locs1 ⟨p1, p2, p3⟩)
  · rw [if_neg e0] at hk
    by_cases e1 : k = 1
    · rw [if_pos e1] at hk
      exact va_astqO (r := (RX2, TX2, 4)) hx hb hK hS.1 hS.2.1 hS.2.2 q0 t0 k9 3 ha ht hX.1.1 hk rfl hin hdg (fun H1 locs1 p1 p2 p3 => kk H1 locs1 ⟨p1, p2, p3⟩)
    · rw [if_neg e1] at hk
      exact va_astqO (r := (RX8, TX8, 5)) hx hb hK hS.1 hS.2.1 hS.2.2 q0 t0 k9 9 ha ht hX.2.1 hk rfl hin hdg (fun H1 locs1 p1 p2 p3 => kk H1 locs1 ⟨p1, p2, p3⟩)
abbrev rmX3_add : Room := { frames := 5, cells := 0, slots := 0, locals := 110 }
set_option maxHeartbeats 4000000 in
set_option maxRecDepth 100000 in
theorem tX3_add (l : Launch) (D : va_G) (dd mi : Nat) (n0 n1 n2 n3 n4 n5 n6 : Nat) (cI cJ cZ cW cS cO cG : ClassId) (size : Int32) (wk w1 w2 wq wm : Nat → Int32) (flows : Nat → Int64) (mu ml : Int64) (nb : Nat → Int32) (lines : Nat → Nat → Int64) (lineOf : Nat → Int32) (lc : Int32) (L : List Nat) (wa ga : Nat → Option Nat) (f : Nat → va_E) (a : Nat) (k a1 a2 q mm : Int32) (hj : jok size 12) (hsz : (size + 1).toNatClampNeg = size.toNatClampNeg + 1) (hm : a ∈ L) (hf : f a = jwc k a1 a2 q mm) (hW : jWr L f wa size.toNatClampNeg wk w1 w2 wq wm) (hG : jGr L f cJ ga lines) {o : Int64 × Int64 × Int64} (hE : fX3_flowOf k q mm = some o) : JXi l yX3_add wsX3_add rmX3_add D vwCl (TY cI cJ cZ cW cS cO cG) dd mi [.ref n0, .ref a] (NWX n0 n1 n2 n3 n4 n5 n6 cI cJ cW cG wa ga size flows mu ml nb lineOf lc ++ va_pl L f) (fun x v => x = size + 1 - 1 ∧ NP n0 n1 n2 n3 n4 n5 n6 cI cJ cW cG (size + 1) (upd wk size.toNatClampNeg k) (upd w1 size.toNatClampNeg a1) (upd w2 size.toNatClampNeg a2) (upd wq size.toNatClampNeg q) (upd wm size.toNatClampNeg mm) (vp_updL flows size.toNatClampNeg o.1) o.2.1 o.2.2 nb lines lineOf lc v) := by
  refine JXi.of (cc := cX3_add) (maxL := 2) (by decide) rfl (Nat.le_of_ble_eq_true rfl) ?_
  intro p e s m args below meth c A ls Q C hK hX hA ret hS hl
  obtain ⟨⟨hx, hb, hml, hown, hts⟩, -⟩ := id C
  have hl : lv_has ls 2 [(0, .ref n0), (1, .ref a)] := hl
  have inX3 : ∀ w ∈ u_ws RX3 TX3 8, w ∈ wsX3_add := by decide +kernel
  have k0 := hts (.fieldLink RX3 21 "OhmNets$Net" "size" "I") (by decide +kernel)
  have k1 := hts (.fieldLink RX3 11 "OhmNets$Net" "wires" "[LOhmNets$OneWire;") (by decide +kernel)
  have k2 := hts (.fieldLink RX3 17 "OhmNets$Net" "flows" "[J") (by decide +kernel)
  refine lv_aload_n hx hb dX3_add_0 rfl (lv_at hl 0 rfl) ?_
  refine va_get (D := D) (ci := 4) (v := .ref n1) (C := RX3) (T := TX3) (N := 8) hx hb hts inX3 hown hK hS.1 0 rfl rfl 0 (by decide) k1 (fun _ h => h) rfl dX3_add_1 ?_
  refine lv_aload_n hx hb dX3_add_4 rfl (lv_at hl 0 rfl) ?_
  refine va_get (D := D) (ci := 4) (v := .int size) (C := RX3) (T := TX3) (N := 8) hx hb hts inX3 hown hK hS.1 0 rfl rfl 2 (by decide) k0 (fun _ h => h) rfl dX3_add_5 ?_
  refine lv_aload_n hx hb dX3_add_8 rfl (lv_at hl 1 rfl) ?_
  refine jn_ast hx hb hK hX hS hm hf 1 3 rfl rfl (jin.mpr hj) dX3_add_9 (fun H locs hS => ?_)
  have hS : jS D vwCl A (NWX n0 n1 n2 n3 n4 n5 n6 cI cJ cW cG (va_up wa size.toNatClampNeg (some a)) ga size flows mu ml nb lineOf lc ++ va_pl L f) s.heap H locs := hS
  refine lv_aload_n hx hb dX3_add_10 rfl (lv_at hl 0 rfl) ?_
  refine va_get (D := D) (ci := 4) (v := .ref n2) (C := RX3) (T := TX3) (N := 8) hx hb hts inX3 hown hK hS.1 0 rfl rfl 1 (by decide) k2 (fun _ h => h) rfl dX3_add_11 ?_
  refine lv_aload_n hx hb dX3_add_14 rfl (lv_at hl 0 rfl) ?_
  refine va_get (D := D) (ci := 4) (v := .int size) (C := RX3) (T := TX3) (N := 8) hx hb hts inX3 hown hK hS.1 0 rfl rfl 2 (by decide) k0 (fun _ h => h) rfl dX3_add_15 ?_
  refine lv_aload_n hx hb dX3_add_18 rfl (lv_at hl 0 rfl) ?_
  refine lv_aload_n hx hb dX3_add_19 rfl (lv_at hl 1 rfl) ?_
  refine j_Vl (As := [.ref a]) (rest := [.int size, .ref n2]) (wf := NWX n0 n1 n2 n3 n4 n5 n6 cI cJ cW cG (va_up wa size.toNatClampNeg (some a)) ga size flows o.2.1 o.2.2 nb lineOf lc ++ va_pl L f) (vc := (RX3, TX3, 8)) C hK hS (jcut_all hA hS) (tX3_flowOf l D n0 n1 n2 n3 n4 n5 n6 cI cJ cZ cW cS cO cG (va_up wa size.toNatClampNeg (some a)) ga L f size flows mu ml nb lineOf lc a k a1 a2 q mm hm hf hE) (cwV 1 hts gX3_add_X3_flowOf rfl rfl rfl (by decide +kernel) ⟨Nat.le_of_ble_eq_true rfl, Nat.le_of_ble_eq_true rfl⟩) (q0 := 0) rfl (ci := 4) rfl rfl hl.1 rfl (Nat.le_of_ble_eq_true rfl) dX3_add_20 ⟨Nat.zero_le _, Nat.zero_le _⟩ (fun H locs hS => ?_)
  refine j_last (w' := NWX n0 n1 n2 n3 n4 n5 n6 cI cJ cW cG (va_up wa size.toNatClampNeg (some a)) ga size (vp_updL flows size.toNatClampNeg o.1) o.2.1 o.2.2 nb lineOf lc ++ va_pl L f) hx hb hK hS 2 1 rfl rfl (jin.mpr hj) rfl dX3_add_23 (fun H locs hS => ?_)
  refine lv_aload_n hx hb dX3_add_24 rfl (lv_at hl 0 rfl) ?_
  refine lv_dup hx hb dX3_add_25 rfl ?_
  refine va_get (D := D) (ci := 4) (v := .int size) (C := RX3) (T := TX3) (N := 8) hx hb hts inX3 hown hK hS.1 0 rfl rfl 2 (by decide) k0 (fun _ h => h) rfl dX3_add_26 ?_
  refine lv_iconst (v := (1 : Int32)) hx hb dX3_add_29 (by decide) ?_
  refine lv_iadd hx hb dX3_add_30 ?_
  refine j_put (ci := 4) (v := .int (size + 1)) (ty := .int) (C := RX3) (T := TX3) (N := 8) (w' := NWX n0 n1 n2 n3 n4 n5 n6 cI cJ cW cG (va_up wa size.toNatClampNeg (some a)) ga (size + 1) (vp_updL flows size.toNatClampNeg o.1) o.2.1 o.2.2 nb lineOf lc ++ va_pl L f) hx hb hts inX3 tyX3 tyX3_ok nmX3 hown hK hS 0 rfl rfl 2 (by decide) k0 (fun _ h => h) rfl (by decide +kernel) rfl rfl (Nat.le_of_ble_eq_true rfl) rfl dX3_add_31 (fun H locs hS => ?_)
  refine lv_aload_n hx hb dX3_add_34 rfl (lv_at hl 0 rfl) ?_
  refine va_get (D := D) (ci := 4) (v := .int (size + 1)) (C := RX3) (T := TX3) (N := 8) hx hb hts inX3 hown hK hS.1 0 rfl rfl 2 (by decide) k0 (fun _ h => h) rfl dX3_add_35 ?_
  refine lv_iconst (v := (1 : Int32)) hx hb dX3_add_38 (by decide) ?_
  refine lv_isub hx hb dX3_add_39 ?_
  refine ret ⟨rfl, by rw [hsz]; exact hj.2, L, _, ga, f, rfl, ?_, hG⟩ hS rfl dX3_add_40
  rw [hsz]
  intro j hjj
  by_cases ej : j = size.toNatClampNeg
  · subst ej
    exact ⟨a, va_up_self _ _ _, hm, by rw [hf, pk_us, pk_us, pk_us, pk_us, pk_us]⟩
  · obtain ⟨b, b1, b2, b3⟩ := hW j (by omega)
    exact ⟨b, by rw [va_up_ne _ _ ej]; exact b1, b2, by rw [pk_un ej, pk_un ej, pk_un ej, pk_un ej, pk_un ej]; exact b3⟩
