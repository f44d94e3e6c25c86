/-! SHARES: one list of shares in the pool -/
def jSh (cO : ClassId) (dd : Nat) (L : List Nat) (f : Nat → va_E) (sa : Nat) (cnt : Int32) (su sl s2 s3 s4 s5 : Nat → Int32) : Prop := sa ∈ L ∧ ∃ (la ea cap : Nat) (mc : Int32) (g : Nat → Option Nat), f sa = .inr (7, [.ref la]) ∧ la ∈ L ∧ f la = .inr (0, [.int mc, .ref ea, .int cnt]) ∧ cnt.toNatClampNeg ≤ cap ∧ ((cap = 0 ∧ ea = dd) ∨ (ea ∈ L ∧ f ea = .inl (cO, cap, .inr (.inr (.inr (.inr g)))))) ∧ ∀ r, r < cnt.toNatClampNeg → ∃ a, g r = some a ∧ a ∈ L ∧ f a = .inr (6, [.int (su r), .int (sl r), .int (s2 r), .int (s3 r), .int (s4 r), .int (s5 r)])
section JPOOL
variable {p : Program} {l : Launch} {e : Env} {R : Room} {s : State} {m : MethodId} {args : Array Value} {below : List Frame} {meth : Method} {c : Code} {H : Heap} {locs : List Loc} {cells slots : Nat} {Q : State → Prop}
variable {cc : ByteArray} {pc : Nat} {ls : Array Slot} {rest : List Value} {D : va_G} {cl : List vw_C} {A : Nat → Prop} {tys : List (ClassId × FieldType)} {X : va_W} {L : List Nat} {f : Nat → va_E} {a : Nat} {H0 : Heap}
/-- a field of an object of the pool -/
theorem jp_get (hx : p.tables.exec = Jvm.exec) (hb : c.code = cc) {own ref C : String} {T : u_T} {N ci index : Nat} {Ts : List Cond} (hts : ∀ w ∈ Ts, w.before args s = true) (hin : ∀ w ∈ u_ws C T N, w ∈ Ts) (hown : s.vm.findClass own = some m.cls) (hK : va_K D cl tys s) (hP : va_P D cl (X ++ va_pl L f) H) (hm : a ∈ L) {fs : List Value} (hf : f a = .inr (ci, fs)) (hc : cl[ci]? = some (C, T, N)) (k : Nat) (hk : k < N) (hlink : (Cond.fieldLink own index ref (T k).2.1 (T k).2.2.1).before args s = true) (hsame : ∀ x, s.fieldFound? (T k).1 (T k).2.1 (T k).2.2.1 = some x → s.fieldFound? ref (T k).2.1 (T k).2.2.1 = some x) {v : Value} (hv : fs[k]? = some v) (hdg : decode cc pc = .ok (.getfield index, 3))
    (kk : W p l e R s m args below meth c H locs cells slots Q (F0 m (pc + 3) ls (v :: rest))) : W p l e R s m args below meth c H locs cells slots Q (F0 m pc ls (.ref a :: rest)) := by
  obtain ⟨k9, hk9⟩ := va_pl_get (X := X) (f := f) hm
  rw [hf] at hk9
  exact va_get hx hb hts hin hown hK hP k9 hk9 hc k hk hlink hsame hv hdg kk
theorem jp_at (hm : a ∈ L) {e : va_E} (hf : f a = e) : ∃ k : Nat, (va_pl L f)[k]? = some (a, e) := by
  obtain ⟨k9, hk9⟩ := va_pl_get (X := []) (f := f) hm
  rw [hf] at hk9
  exact ⟨k9, hk9⟩
end JPOOL
abbrev rmJ3_checkIndex_8e157 : Room := { frames := 0, cells := 0, slots := 0, locals := 0 }
set_option maxHeartbeats 4000000 in
set_option maxRecDepth 100000 in
theorem tJ3_checkIndex_8e157 (l : Launch) (D : va_G) (cI cJ cZ cW cS cO cG : ClassId) (a1 a2 : Int32) (h0 : ¬ a1 < 0) (h1 : a1 < a2) : JMi l yJ3_checkIndex_8e157 wsJ3_checkIndex_8e157 rmJ3_checkIndex_8e157 D vwCl (TY cI cJ cZ cW cS cO cG) [.int a1, .int a2, .null] [] [] a1 := by
  refine JMi.of (cc := cJ3_checkIndex_8e157) (maxL := 3) (by decide) rfl (Nat.le_of_ble_eq_true rfl) ?_
  intro p e s m args below meth c A ls Q C hK hA ret hS hl
  obtain ⟨⟨hx, hb, hml, hown, hts⟩, -⟩ := id C
  have hl : lv_has ls 3 [(0, .int a1), (1, .int a2), (2, .null)] := hl
  refine lv_iload_n hx hb dJ3_checkIndex_8e157_0 rfl (lv_at hl 0 rfl) ?_
  refine lv_if_lt (tgt := 9) hx hb dJ3_checkIndex_8e157_1 (by decide) (fun c1 => absurd c1 h0) (fun _ => ?_)
  refine lv_iload_n hx hb dJ3_checkIndex_8e157_4 rfl (lv_at hl 0 rfl) ?_
  refine lv_iload_n hx hb dJ3_checkIndex_8e157_5 rfl (lv_at hl 1 rfl) ?_
  refine lv_icmp_lt (tgt := 16) hx hb dJ3_checkIndex_8e157_6 (by decide) (fun _ => ?_) (fun c1 => absurd h1 c1)
  refine lv_iload_n hx hb dJ3_checkIndex_8e157_16 rfl (lv_at hl 0 rfl) ?_
  exact ret hS rfl dJ3_checkIndex_8e157_17
abbrev rmJ15_checkIndex_7cf53 : Room := { frames := 1, cells := 0, slots := 0, locals := 22 }
set_option maxHeartbeats 4000000 in
set_option maxRecDepth 100000 in
theorem tJ15_checkIndex_7cf53 (l : Launch) (D : va_G) (cI cJ cZ cW cS cO cG : ClassId) (a1 a2 : Int32) (h0 : ¬ a1 < 0) (h1 : a1 < a2) : JMi l yJ15_checkIndex_7cf53 wsJ15_checkIndex_7cf53 rmJ15_checkIndex_7cf53 D vwCl (TY cI cJ cZ cW cS cO cG) [.int a1, .int a2] [] [] a1 := by
  refine JMi.of (cc := cJ15_checkIndex_7cf53) (maxL := 2) (by decide) rfl (Nat.le_of_ble_eq_true rfl) ?_
  intro p e s m args below meth c A ls Q C hK hA ret hS hl
  obtain ⟨⟨hx, hb, hml, hown, hts⟩, -⟩ := id C
  have hl : lv_has ls 2 [(0, .int a1), (1, .int a2)] := hl
  refine lv_iload_n hx hb dJ15_checkIndex_7cf53_0 rfl (lv_at hl 0 rfl) ?_
  refine lv_iload_n hx hb dJ15_checkIndex_7cf53_1 rfl (lv_at hl 1 rfl) ?_
  refine lv_null hx hb dJ15_checkIndex_7cf53_2 ?_
  refine j_Si (As := [.int a1, .int a2, .null]) (rest := []) (wf := []) C hK hS (jcut_nil hA hS) (tJ3_checkIndex_8e157 l D cI cJ cZ cW cS cO cG a1 a2 h0 h1) (va_cwS 3 hts gJ15_checkIndex_7cf53_J3_checkIndex_8e157 rfl rfl rfl (by decide +kernel) ⟨Nat.le_of_ble_eq_true rfl, Nat.le_of_ble_eq_true rfl⟩) rfl hl.1 rfl (Nat.le_of_ble_eq_true rfl) dJ15_checkIndex_7cf53_3 ⟨Nat.zero_le _, Nat.zero_le _⟩ (fun H locs hS => ?_)
  exact ret hS rfl dJ15_checkIndex_7cf53_6
abbrev rmJx4a65c_size_8abf5 : Room := { frames := 0, cells := 0, slots := 0, locals := 0 }
set_option maxHeartbeats 4000000 in
set_option maxRecDepth 100000 in
theorem tJx4a65c_size_8abf5 (l : Launch) (D : va_G) (cI cJ cZ cW cS cO cG : ClassId) (L : List Nat) (f : Nat → va_E) (la ea : Nat) (mc cnt : Int32) (hla : la ∈ L) (fla : f la = .inr (0, [.int mc, .ref ea, .int cnt])) : JMi l yJx4a65c_size_8abf5 wsJx4a65c_size_8abf5 rmJx4a65c_size_8abf5 D vwCl (TY cI cJ cZ cW cS cO cG) [.ref la] (va_pl L f) (va_pl L f) cnt := by
  refine JMi.of (cc := cJx4a65c_size_8abf5) (maxL := 1) (by decide) rfl (Nat.le_of_ble_eq_true rfl) ?_
  intro p e s m args below meth c A ls Q C hK hA ret hS hl
  obtain ⟨⟨hx, hb, hml, hown, hts⟩, -⟩ := id C
  have hl : lv_has ls 1 [(0, .ref la)] := hl
  have inA : ∀ w ∈ u_ws RJx4a65c TJx4a65c 3, w ∈ wsJx4a65c_size_8abf5 := by decide +kernel
  have k0 := hts (.fieldLink RJx4a65c 48 "java/util/ArrayList" "size" "I") (by decide +kernel)
  refine lv_aload_n hx hb dJx4a65c_size_8abf5_0 rfl (lv_at hl 0 rfl) ?_
  refine jp_get (X := []) (ci := 0) (v := .int cnt) (C := RJx4a65c) (T := TJx4a65c) (N := 3) hx hb hts inA hown hK hS.1 hla fla rfl 2 (by decide) k0 (fun _ h => h) rfl dJx4a65c_size_8abf5_1 ?_
  exact ret hS rfl dJx4a65c_size_8abf5_4
abbrev rmJx4a65c_elementData_915e3 : Room := { frames := 0, cells := 0, slots := 0, locals := 0 }
set_option maxHeartbeats 4000000 in
set_option maxRecDepth 100000 in
theorem tJx4a65c_elementData_915e3 (l : Launch) (D : va_G) (cI cJ cZ cW cS cO cG : ClassId) (L : List Nat) (f : Nat → va_E) (la ea cap a : Nat) (mc cnt i : Int32) (g : Nat → Option Nat) (hla : la ∈ L) (fla : f la = .inr (0, [.int mc, .ref ea, .int cnt])) (hea : ea ∈ L) (fea : f ea = .inl (cO, cap, .inr (.inr (.inr (.inr g))))) (hi : jok i cap) (hg : g i.toNatClampNeg = some a) : JQq l yJx4a65c_elementData_915e3 wsJx4a65c_elementData_915e3 rmJx4a65c_elementData_915e3 D vwCl (TY cI cJ cZ cW cS cO cG) [.ref la, .int i] (va_pl L f) (fun r v => r = some a ∧ v = va_pl L f) := by
  refine JQq.of (cc := cJx4a65c_elementData_915e3) (maxL := 2) (by decide) rfl (Nat.le_of_ble_eq_true rfl) ?_
  intro p e s m args below meth c A ls Q C hK hA ret hS hl
  obtain ⟨⟨hx, hb, hml, hown, hts⟩, -⟩ := id C
  have hl : lv_has ls 2 [(0, .ref la), (1, .int i)] := hl
  have inA : ∀ w ∈ u_ws RJx4a65c TJx4a65c 3, w ∈ wsJx4a65c_elementData_915e3 := by decide +kernel
  have k0 := hts (.fieldLink RJx4a65c 9 "java/util/ArrayList" "elementData" "[Ljava/lang/Object;") (by decide +kernel)
  refine lv_aload_n hx hb dJx4a65c_elementData_915e3_0 rfl (lv_at hl 0 rfl) ?_
  refine jp_get (X := []) (ci := 0) (v := .ref ea) (C := RJx4a65c) (T := TJx4a65c) (N := 3) hx hb hts inA hown hK hS.1 hla fla rfl 1 (by decide) k0 (fun _ h => h) rfl dJx4a65c_elementData_915e3_1 ?_
  refine lv_iload_n hx hb dJx4a65c_elementData_915e3_4 rfl (lv_at hl 1 rfl) ?_
  obtain ⟨q9, hq9⟩ := jp_at hea fea
  refine jn_ald hx hb hK hS.1 q9 5 hq9 rfl (jin.mpr hi) hg dJx4a65c_elementData_915e3_5 (Or.inl ⟨_, rfl⟩) ?_
  exact ret (r := some a) ⟨rfl, rfl⟩ hS (Or.inl ⟨_, rfl⟩) dJx4a65c_elementData_915e3_6
abbrev rmJx4a65c_get_915e3 : Room := { frames := 2, cells := 0, slots := 0, locals := 43 }
set_option maxHeartbeats 4000000 in
set_option maxRecDepth 100000 in
theorem tJx4a65c_get_915e3 (l : Launch) (D : va_G) (cI cJ cZ cW cS cO cG : ClassId) (L : List Nat) (f : Nat → va_E) (la ea cap a : Nat) (mc cnt i : Int32) (g : Nat → Option Nat) (hla : la ∈ L) (fla : f la = .inr (0, [.int mc, .ref ea, .int cnt])) (hea : ea ∈ L) (fea : f ea = .inl (cO, cap, .inr (.inr (.inr (.inr g))))) (h0 : ¬ i < 0) (h1 : i < cnt) (hi : jok i cap) (hg : g i.toNatClampNeg = some a) : JQq l yJx4a65c_get_915e3 wsJx4a65c_get_915e3 rmJx4a65c_get_915e3 D vwCl (TY cI cJ cZ cW cS cO cG) [.ref la, .int i] (va_pl L f) (fun r v => r = some a ∧ v = va_pl L f) := by
  refine JQq.of (cc := cJx4a65c_get_915e3) (maxL := 2) (by decide) rfl (Nat.le_of_ble_eq_true rfl) ?_
  intro p e s m args below meth c A ls Q C hK hA ret hS hl
  obtain ⟨⟨hx, hb, hml, hown, hts⟩, -⟩ := id C
  have hl : lv_has ls 2 [(0, .ref la), (1, .int i)] := hl
  have inA : ∀ w ∈ u_ws RJx4a65c TJx4a65c 3, w ∈ wsJx4a65c_get_915e3 := by decide +kernel
  have k0 := hts (.fieldLink RJx4a65c 48 "java/util/ArrayList" "size" "I") (by decide +kernel)
  refine lv_iload_n hx hb dJx4a65c_get_915e3_0 rfl (lv_at hl 1 rfl) ?_
  refine lv_aload_n hx hb dJx4a65c_get_915e3_1 rfl (lv_at hl 0 rfl) ?_
  refine jp_get (X := []) (ci := 0) (v := .int cnt) (C := RJx4a65c) (T := TJx4a65c) (N := 3) hx hb hts inA hown hK hS.1 hla fla rfl 2 (by decide) k0 (fun _ h => h) rfl dJx4a65c_get_915e3_2 ?_
  refine j_Si (As := [.int i, .int cnt]) (rest := []) (wf := va_pl L f) C hK hS (jcut_nil hA hS) (tJ15_checkIndex_7cf53 l D cI cJ cZ cW cS cO cG i cnt h0 h1) (va_cwS 2 hts gJx4a65c_get_915e3_J15_checkIndex_7cf53 rfl rfl rfl (by decide +kernel) ⟨Nat.le_of_ble_eq_true rfl, Nat.le_of_ble_eq_true rfl⟩) rfl hl.1 rfl (Nat.le_of_ble_eq_true rfl) dJx4a65c_get_915e3_5 ⟨Nat.zero_le _, Nat.zero_le _⟩ (fun H locs hS => ?_)
  refine lv_pop hx hb dJx4a65c_get_915e3_8 rfl ?_
  refine lv_aload_n hx hb dJx4a65c_get_915e3_9 rfl (lv_at hl 0 rfl) ?_
  refine lv_iload_n hx hb dJx4a65c_get_915e3_10 rfl (lv_at hl 1 rfl) ?_
  obtain ⟨q9, hq9⟩ := jp_at hla fla
  refine j_QVq (As := [.int i]) (rest := []) (vc := (RJx4a65c, TJx4a65c, 3)) C hK hA hS (tJx4a65c_elementData_915e3 l D cI cJ cZ cW cS cO cG L f la ea cap a mc cnt i g hla fla hea fea hi hg) (cwV 1 hts gJx4a65c_get_915e3_Jx4a65c_elementData_915e3 rfl rfl rfl (by decide +kernel) ⟨Nat.le_of_ble_eq_true rfl, Nat.le_of_ble_eq_true rfl⟩) (q0 := q9) hq9 (ci := 0) rfl rfl hl.1 rfl (Nat.le_of_ble_eq_true rfl) dJx4a65c_get_915e3_11 ⟨Nat.zero_le _, Nat.zero_le _⟩ (fun r w H locs hp hS => ?_)
  obtain ⟨er, ew⟩ := hp
  subst er
  subst ew
  exact ret (r := some a) ⟨rfl, rfl⟩ hS (Or.inl ⟨_, rfl⟩) dJx4a65c_get_915e3_14

theorem jokn {i : Int32} {n : Nat} (h : jok i n) : ¬ i < 0 := fun q => by
  have h1 := h.1
  rw [Int32.lt_iff_toInt_lt] at q
  rw [Int32.le_iff_toInt_le] at h1
  omega
theorem joklt {i b : Int32} (h : jok i b.toNatClampNeg) : i < b := by
  obtain ⟨h1, h2⟩ := h
  rw [Int32.le_iff_toInt_le] at h1
  rw [Int32.lt_iff_toInt_lt]
  have e0 : (0 : Int32).toInt = 0 := rfl
  unfold Int32.toNatClampNeg at h2
  omega
def fX6_difference (a2 : Int32) (a3 : Int32) (zu : Int32) (zl : Int32) : Option (Int64) :=
  some ((zu.toInt64 * a3.toInt64) - (a2.toInt64 * zl.toInt64))
abbrev rmX6_difference : Room := { frames := 0, cells := 0, slots := 0, locals := 0 }
set_option maxHeartbeats 4000000 in
set_option maxRecDepth 100000 in
theorem tX6_difference (l : Launch) (D : va_G) (L : List Nat) (f : Nat → va_E) (ad : Nat) (cI cJ cZ cW cS cO cG : ClassId) (zu : Int32) (zl : Int32) (z2 : Int32) (z3 : Int32) (z4 : Int32) (z5 : Int32) (a2 : Int32) (a3 : Int32) {o : Int64} (hE : fX6_difference a2 a3 zu zl = some o) (hm : ad ∈ L) (hf : f ad = .inr (6, [.int zu, .int zl, .int z2, .int z3, .int z4, .int z5])) : JMl l yX6_difference wsX6_difference rmX6_difference D vwCl (TY cI cJ cZ cW cS cO cG) [.ref ad, .int a2, .int a3] (va_pl L f) (va_pl L f) o := by
  refine JMl.of (cc := cX6_difference) (maxL := 3) (by decide) rfl (Nat.le_of_ble_eq_true rfl) ?_
  intro p e s m args below meth c A ls Q C hK hA ret hS hl
  obtain ⟨⟨hx, hb, hml, hown, hts⟩, -⟩ := id C
  have hl : lv_has ls 3 [(0, .ref ad), (1, .int a2), (2, .int a3)] := hl
  have inX5 : ∀ w ∈ u_ws RX5 TX5 6, w ∈ wsX6_difference := by decide +kernel
  have k0 := hts (.fieldLink RX6 59 "OhmNets$Share" "upper" "I") (by decide +kernel)
  have k1 := hts (.fieldLink RX6 62 "OhmNets$Share" "lower" "I") (by decide +kernel)
  refine lv_aload_n hx hb dX6_difference_0 rfl (lv_at hl 0 rfl) ?_
  refine jp_get (X := []) (ci := 6) (v := .int zu) (C := RX5) (T := TX5) (N := 6) hx hb hts inX5 hown hK hS.1 hm hf rfl 0 (by decide) k0 (fun _ h => h) rfl dX6_difference_1 ?_
  refine lv_i2l (v := zu.toInt64) hx hb dX6_difference_4 rfl ?_
  refine lv_iload_n hx hb dX6_difference_5 rfl (lv_at hl 2 rfl) ?_
  refine lv_i2l (v := a3.toInt64) hx hb dX6_difference_6 rfl ?_
  refine lv_lmul hx hb dX6_difference_7 ?_
  refine lv_iload_n hx hb dX6_difference_8 rfl (lv_at hl 1 rfl) ?_
  refine lv_i2l (v := a2.toInt64) hx hb dX6_difference_9 rfl ?_
  refine lv_aload_n hx hb dX6_difference_10 rfl (lv_at hl 0 rfl) ?_
  refine jp_get (X := []) (ci := 6) (v := .int zl) (C := RX5) (T := TX5) (N := 6) hx hb hts inX5 hown hK hS.1 hm hf rfl 1 (by decide) k1 (fun _ h => h) rfl dX6_difference_11 ?_
  refine lv_i2l (v := zl.toInt64) hx hb dX6_difference_14 rfl ?_
  refine lv_lmul hx hb dX6_difference_15 ?_
  refine lv_lsub hx hb dX6_difference_16 ?_
  obtain rfl := jsm hE
  exact ret hS dX6_difference_17
def fX6_size (cnt : Int32) : Option (Int32) :=
  some cnt
abbrev rmX6_size : Room := { frames := 1, cells := 0, slots := 0, locals := 20 }
set_option maxHeartbeats 4000000 in
set_option maxRecDepth 100000 in
theorem tX6_size (l : Launch) (D : va_G) (dd : Nat) (L : List Nat) (f : Nat → va_E) (sa : Nat) (cI cJ cZ cW cS cO cG : ClassId) (cnt : Int32) (su : Nat → Int32) (sl : Nat → Int32) (s2 : Nat → Int32) (s3 : Nat → Int32) (s4 : Nat → Int32) (s5 : Nat → Int32) {o : Int32} (hE : fX6_size cnt = some o) (hr : jSh cO dd L f sa cnt su sl s2 s3 s4 s5) : JMi l yX6_size wsX6_size rmX6_size D vwCl (TY cI cJ cZ cW cS cO cG) [.ref sa] (va_pl L f) (va_pl L f) o := by
  obtain ⟨hsa, la, ea, cap, mc, g9, fsa, hla, fla, hcap, hea, hel⟩ := id hr
  refine JMi.of (cc := cX6_size) (maxL := 1) (by decide) rfl (Nat.le_of_ble_eq_true rfl) ?_
  intro p e s m args below meth c A ls Q C hK hA ret hS hl
  obtain ⟨⟨hx, hb, hml, hown, hts⟩, -⟩ := id C
  have hl : lv_has ls 1 [(0, .ref sa)] := hl
  have inX6 : ∀ w ∈ u_ws RX6 TX6 1, w ∈ wsX6_size := by decide +kernel
  have k0 := hts (.fieldLink RX6 12 "OhmNets$Shares" "inOrder" "Ljava/util/ArrayList;") (by decide +kernel)
  refine lv_aload_n hx hb dX6_size_0 rfl (lv_at hl 0 rfl) ?_
  refine jp_get (X := []) (ci := 7) (v := .ref la) (C := RX6) (T := TX6) (N := 1) hx hb hts inX6 hown hK hS.1 hsa fsa rfl 0 (by decide) k0 (fun _ h => h) rfl dX6_size_1 ?_
  obtain ⟨q9, hq9⟩ := jp_at hla fla
  refine j_Vi (As := []) (rest := []) (wf := va_pl L f) (vc := (RJx4a65c, TJx4a65c, 3)) C hK hS (jcut_all hA hS) (tJx4a65c_size_8abf5 l D cI cJ cZ cW cS cO cG L f la ea mc cnt hla fla) (cwV 0 hts gX6_size_Jx4a65c_size_8abf5 rfl rfl rfl (by decide +kernel) ⟨Nat.le_of_ble_eq_true rfl, Nat.le_of_ble_eq_true rfl⟩) (q0 := q9) hq9 (ci := 0) rfl rfl hl.1 rfl (Nat.le_of_ble_eq_true rfl) dX6_size_4 ⟨Nat.zero_le _, Nat.zero_le _⟩ (fun H locs hS => ?_)
  obtain rfl := jsm hE
  exact ret hS rfl dX6_size_7
def fX6_isAt (a1 : Int32) (a2 : Int32) (a3 : Int32) (cnt : Int32) (su : Nat → Int32) (sl : Nat → Int32) : Option (Int32) :=
  if cnt ≤ a1 then
  some (0 : Int32)
  else
  if jok a1 cnt.toNatClampNeg then
  (fX6_difference a2 a3 (su a1.toNatClampNeg) (sl a1.toNatClampNeg)).bind (fun o_4 => 
  if o_4 = (0 : Int64) then
  some (1 : Int32)
  else
  some (0 : Int32))
  else none
abbrev rmX6_isAt : Room := { frames := 3, cells := 0, slots := 0, locals := 64 }
set_option maxHeartbeats 4000000 in
set_option maxRecDepth 100000 in
theorem tX6_isAt (l : Launch) (D : va_G) (dd : Nat) (L : List Nat) (f : Nat → va_E) (sa : Nat) (cI cJ cZ cW cS cO cG : ClassId) (cnt : Int32) (su : Nat → Int32) (sl : Nat → Int32) (s2 : Nat → Int32) (s3 : Nat → Int32) (s4 : Nat → Int32) (s5 : Nat → Int32) (a1 : Int32) (a2 : Int32) (a3 : Int32) {o : Int32} (hE : fX6_isAt a1 a2 a3 cnt su sl = some o) (hr : jSh cO dd L f sa cnt su sl s2 s3 s4 s5) : JMi l yX6_isAt wsX6_isAt rmX6_isAt D vwCl (TY cI cJ cZ cW cS cO cG) [.ref sa, .int a1, .int a2, .int a3] (va_pl L f) (va_pl L f) o := by
  obtain ⟨hsa, la, ea, cap, mc, g9, fsa, hla, fla, hcap, hea, hel⟩ := id hr
  refine JMi.of (cc := cX6_isAt) (maxL := 4) (by decide) rfl (Nat.le_of_ble_eq_true rfl) ?_
  intro p e s m args below meth c A ls Q C hK hA ret hS hl
  obtain ⟨⟨hx, hb, hml, hown, hts⟩, -⟩ := id C
  have hl : lv_has ls 4 [(0, .ref sa), (1, .int a1), (2, .int a2), (3, .int a3)] := hl
  have inX6 : ∀ w ∈ u_ws RX6 TX6 1, w ∈ wsX6_isAt := by decide +kernel
  have k0 := hts (.fieldLink RX6 12 "OhmNets$Shares" "inOrder" "Ljava/util/ArrayList;") (by decide +kernel)
  have k1 := hts (.classLink RX6 26 "OhmNets$Share") (by decide +kernel)
  refine lv_iload_n hx hb dX6_isAt_0 rfl (lv_at hl 1 rfl) ?_
  refine lv_aload_n hx hb dX6_isAt_1 rfl (lv_at hl 0 rfl) ?_
  refine jp_get (X := []) (ci := 7) (v := .ref la) (C := RX6) (T := TX6) (N := 1) hx hb hts inX6 hown hK hS.1 hsa fsa rfl 0 (by decide) k0 (fun _ h => h) rfl dX6_isAt_2 ?_
  obtain ⟨q9, hq9⟩ := jp_at hla fla
  refine j_Vi (As := []) (rest := [.int a1]) (wf := va_pl L f) (vc := (RJx4a65c, TJx4a65c, 3)) C hK hS (jcut_all hA hS) (tJx4a65c_size_8abf5 l D cI cJ cZ cW cS cO cG L f la ea mc cnt hla fla) (cwV 0 hts gX6_isAt_Jx4a65c_size_8abf5 rfl rfl rfl (by decide +kernel) ⟨Nat.le_of_ble_eq_true rfl, Nat.le_of_ble_eq_true rfl⟩) (q0 := q9) hq9 (ci := 0) rfl rfl hl.1 rfl (Nat.le_of_ble_eq_true rfl) dX6_isAt_5 ⟨Nat.zero_le _, Nat.zero_le _⟩ (fun H locs hS => ?_)
  refine lv_icmp_ge (tgt := 36) hx hb dX6_isAt_8 (by decide) (fun c_1 => ?_) (fun c_1 => ?_)
  · have hE := jt hE c_1
    refine lv_iconst (v := (0 : Int32)) hx hb dX6_isAt_36 (by decide) ?_
    obtain rfl := jsm hE
    exact ret hS jb0 dX6_isAt_37
  · have hE := jf hE c_1
    refine lv_aload_n hx hb dX6_isAt_11 rfl (lv_at hl 0 rfl) ?_
    refine jp_get (X := []) (ci := 7) (v := .ref la) (C := RX6) (T := TX6) (N := 1) hx hb hts inX6 hown hK hS.1 hsa fsa rfl 0 (by decide) k0 (fun _ h => h) rfl dX6_isAt_12 ?_
    refine lv_iload_n hx hb dX6_isAt_15 rfl (lv_at hl 1 rfl) ?_
    obtain ⟨b_2, hE⟩ := jgd hE
    obtain ⟨a_3, ea_3, ma_3, fa_3⟩ := hel _ b_2.2
    obtain ⟨hea1, hea2⟩ := hea.resolve_left (fun h => absurd (Nat.lt_of_lt_of_le b_2.2 hcap) (by rw [h.1]; exact Nat.not_lt_zero _))
    obtain ⟨q9, hq9⟩ := jp_at hla fla
    refine j_QVq (As := [.int a1]) (rest := []) (vc := (RJx4a65c, TJx4a65c, 3)) C hK hA hS (tJx4a65c_get_915e3 l D cI cJ cZ cW cS cO cG L f la ea cap a_3 mc cnt a1 g9 hla fla hea1 hea2 (jokn b_2) (joklt b_2) ⟨b_2.1, Nat.lt_of_lt_of_le b_2.2 hcap⟩ ea_3) (cwV 1 hts gX6_isAt_Jx4a65c_get_915e3 rfl rfl rfl (by decide +kernel) ⟨Nat.le_of_ble_eq_true rfl, Nat.le_of_ble_eq_true rfl⟩) (q0 := q9) hq9 (ci := 0) rfl rfl hl.1 rfl (Nat.le_of_ble_eq_true rfl) dX6_isAt_16 ⟨Nat.zero_le _, Nat.zero_le _⟩ (fun r w H locs hp hS => ?_)
    obtain ⟨er, ew⟩ := hp
    subst er
    subst ew
    obtain ⟨q9, hq9⟩ := jp_at ma_3 fa_3
    refine va_castS (nm := RX5) hx hb hown k1 (hK.1 6 _ rfl).2 (va_recv hK hS.1 (ci := 6) (q := (RX5, TX5, 6)) rfl hq9) dX6_isAt_19 ?_
    refine lv_iload_n hx hb dX6_isAt_22 rfl (lv_at hl 2 rfl) ?_
    refine lv_iload_n hx hb dX6_isAt_23 rfl (lv_at hl 3 rfl) ?_
    obtain ⟨o_4, h_5, hE⟩ := jbd hE
    refine j_Sl (As := [.ref a_3, .int a2, .int a3]) (rest := []) (wf := va_pl L f) C hK hS (jcut_all hA hS) (tX6_difference l D L f a_3 cI cJ cZ cW cS cO cG _ _ _ _ _ _ a2 a3 h_5 ma_3 fa_3) (va_cwS 3 hts gX6_isAt_X6_difference rfl rfl rfl (by decide +kernel) ⟨Nat.le_of_ble_eq_true rfl, Nat.le_of_ble_eq_true rfl⟩) rfl hl.1 rfl (Nat.le_of_ble_eq_true rfl) dX6_isAt_24 ⟨Nat.zero_le _, Nat.zero_le _⟩ (fun H locs hS => ?_)
    refine lv_lconst (v := (0 : Int64)) hx hb dX6_isAt_27 (by decide) ?_
    refine jl_ne (tgt := 36) hx hb dX6_isAt_28 dX6_isAt_29 (by decide) (fun c_6 => ?_) (fun c_6 => ?_)
    · have hE := jf hE c_6
      refine lv_iconst (v := (0 : Int32)) hx hb dX6_isAt_36 (by decide) ?_
      obtain rfl := jsm hE
      exact ret hS jb0 dX6_isAt_37
    · have hE := jt hE c_6
      refine lv_iconst (v := (1 : Int32)) hx hb dX6_isAt_32 (by decide) ?_
      refine lv_goto (tgt := 37) hx hb dX6_isAt_33 (by decide) ?_
      obtain rfl := jsm hE
      exact ret hS jb1 dX6_isAt_37
def LX6_placeOf_14 (cnt : Int32) (su : Nat → Int32) (sl : Nat → Int32) (a1 : Int32) (a2 : Int32) : Nat → (Int32) → (Int32) → (Int32) → Option (Int32)
  | 0, _, _, _ => none
  | n + 1, v3_1, v4_2, v5_3 =>
    if (32 : Int32) ≤ v5_3 then
    some v3_1
    else
    if v4_2 ≤ v3_1 then
    some v3_1
    else
    jlet ((v3_1 + v4_2) / (2 : Int32)) (fun x_11 => 
    if jok x_11 cnt.toNatClampNeg then
    (fX6_difference a1 a2 (su x_11.toNatClampNeg) (sl x_11.toNatClampNeg)).bind (fun o_14 => 
    jlet (if (0 : Int64) ≤ o_14 then
    (v3_1, x_11)
    else
    ((x_11 + (1 : Int32)), v4_2)) (fun o_16 => 
    jlet (v5_3 + (1 : Int32)) (fun x_20 => 
    LX6_placeOf_14 cnt su sl a1 a2 n o_16.1 o_16.2 x_20)))
    else none)
def fX6_placeOf (a1 : Int32) (a2 : Int32) (cnt : Int32) (su : Nat → Int32) (sl : Nat → Int32) : Option (Int32) :=
  (LX6_placeOf_14 cnt su sl a1 a2 5000 (0 : Int32) cnt (0 : Int32)).bind (fun o_4 => 
  some o_4)
abbrev rmX6_placeOf : Room := { frames := 3, cells := 0, slots := 0, locals := 64 }
set_option maxHeartbeats 4000000 in
set_option maxRecDepth 100000 in
theorem tX6_placeOf (l : Launch) (D : va_G) (dd : Nat) (L : List Nat) (f : Nat → va_E) (sa : Nat) (cI cJ cZ cW cS cO cG : ClassId) (cnt : Int32) (su : Nat → Int32) (sl : Nat → Int32) (s2 : Nat → Int32) (s3 : Nat → Int32) (s4 : Nat → Int32) (s5 : Nat → Int32) (a1 : Int32) (a2 : Int32) {o : Int32} (hE : fX6_placeOf a1 a2 cnt su sl = some o) (hr : jSh cO dd L f sa cnt su sl s2 s3 s4 s5) : JMi l yX6_placeOf wsX6_placeOf rmX6_placeOf D vwCl (TY cI cJ cZ cW cS cO cG) [.ref sa, .int a1, .int a2] (va_pl L f) (va_pl L f) o := by
  obtain ⟨hsa, la, ea, cap, mc, g9, fsa, hla, fla, hcap, hea, hel⟩ := id hr
  refine JMi.of (cc := cX6_placeOf) (maxL := 7) (by decide) rfl (Nat.le_of_ble_eq_true rfl) ?_
  intro p e s m args below meth c A ls Q C hK hA ret hS hl
  obtain ⟨⟨hx, hb, hml, hown, hts⟩, -⟩ := id C
  have hl : lv_has ls 7 [(0, .ref sa), (1, .int a1), (2, .int a2)] := hl
  have inX6 : ∀ w ∈ u_ws RX6 TX6 1, w ∈ wsX6_placeOf := by decide +kernel
  have k0 := hts (.fieldLink RX6 12 "OhmNets$Shares" "inOrder" "Ljava/util/ArrayList;") (by decide +kernel)
  have k1 := hts (.classLink RX6 26 "OhmNets$Share") (by decide +kernel)
  refine lv_iconst (v := (0 : Int32)) hx hb dX6_placeOf_0 (by decide) ?_
  refine lv_istore_n (lv' := [(3, .int (0 : Int32)), (0, .ref sa), (1, .int a1), (2, .int a2)]) hx hb dX6_placeOf_1 rfl hl (by decide) rfl (fun ls hl => ?_)
  refine lv_aload_n hx hb dX6_placeOf_2 rfl (lv_at hl 1 rfl) ?_
  refine jp_get (X := []) (ci := 7) (v := .ref la) (C := RX6) (T := TX6) (N := 1) hx hb hts inX6 hown hK hS.1 hsa fsa rfl 0 (by decide) k0 (fun _ h => h) rfl dX6_placeOf_3 ?_
  obtain ⟨q9, hq9⟩ := jp_at hla fla
  refine j_Vi (As := []) (rest := []) (wf := va_pl L f) (vc := (RJx4a65c, TJx4a65c, 3)) C hK hS (jcut_all hA hS) (tJx4a65c_size_8abf5 l D cI cJ cZ cW cS cO cG L f la ea mc cnt hla fla) (cwV 0 hts gX6_placeOf_Jx4a65c_size_8abf5 rfl rfl rfl (by decide +kernel) ⟨Nat.le_of_ble_eq_true rfl, Nat.le_of_ble_eq_true rfl⟩) (q0 := q9) hq9 (ci := 0) rfl rfl hl.1 rfl (Nat.le_of_ble_eq_true rfl) dX6_placeOf_6 ⟨Nat.zero_le _, Nat.zero_le _⟩ (fun H locs hS => ?_)
  refine lv_istore (lv' := [(4, .int cnt), (3, .int (0 : Int32)), (0, .ref sa), (1, .int a1), (2, .int a2)]) hx hb dX6_placeOf_9 hl (by decide) rfl (fun ls hl => ?_)
  refine lv_iconst (v := (0 : Int32)) hx hb dX6_placeOf_11 (by decide) ?_
  refine lv_istore (lv' := [(5, .int (0 : Int32)), (4, .int cnt), (3, .int (0 : Int32)), (0, .ref sa), (1, .int a1), (2, .int a2)]) hx hb dX6_placeOf_12 hl (by decide) rfl (fun ls hl => ?_)
  obtain ⟨o_4, L_5, hE⟩ := jbd hE
  have K_6 : jW p l e rmX6_placeOf s m args below meth c 0 0 Q D vwCl A (va_pl L f) 7 [(3, .int o_4)] 75 [] := by
    intro H locs ls hS hl
    refine lv_iload_n hx hb dX6_placeOf_75 rfl (lv_at hl 0 rfl) ?_
    obtain rfl := jsm hE
    exact ret hS rfl dX6_placeOf_76
  have loop_8 : ∀ (n : Nat) (v3_1 : Int32) (v4_2 : Int32) (v5_3 : Int32), LX6_placeOf_14 cnt su sl a1 a2 n v3_1 v4_2 v5_3 = some o_4 → jW p l e rmX6_placeOf s m args below meth c 0 0 Q D vwCl A (va_pl L f) 7 [(0, .ref sa), (1, .int a1), (2, .int a2), (3, .int v3_1), (4, .int v4_2), (5, .int v5_3)] 14 [] := by
    intro n
    induction n with
    | zero =>
      intro v3_1 v4_2 v5_3 q_7
      have q_7 : none = some o_4 := q_7
      cases q_7
    | succ n ih =>
      intro v3_1 v4_2 v5_3 q_7 H locs ls hS hl
      rw [LX6_placeOf_14] at q_7
      refine lv_iload hx hb dX6_placeOf_14 (lv_at hl 5 rfl) ?_
      refine lv_bipush (v := (32 : Int32)) hx hb dX6_placeOf_16 (by decide) ?_
      refine lv_icmp_ge (tgt := 75) hx hb dX6_placeOf_18 (by decide) (fun c_9 => ?_) (fun c_9 => ?_)
      · have q_7 := jt q_7 c_9
        obtain rfl := jsm q_7
        exact K_6 _ _ _ hS (lv_sub hl [3] rfl)
      · have q_7 := jf q_7 c_9
        refine lv_iload_n hx hb dX6_placeOf_21 rfl (lv_at hl 3 rfl) ?_
        refine lv_iload hx hb dX6_placeOf_22 (lv_at hl 4 rfl) ?_
        refine lv_icmp_ge (tgt := 75) hx hb dX6_placeOf_24 (by decide) (fun c_10 => ?_) (fun c_10 => ?_)
        · have q_7 := jt q_7 c_10
          obtain rfl := jsm q_7
          exact K_6 _ _ _ hS (lv_sub hl [3] rfl)
        · have q_7 := jf q_7 c_10
          refine lv_iload_n hx hb dX6_placeOf_27 rfl (lv_at hl 3 rfl) ?_
          refine lv_iload hx hb dX6_placeOf_28 (lv_at hl 4 rfl) ?_
          refine lv_iadd hx hb dX6_placeOf_30 ?_
          refine lv_iconst (v := (2 : Int32)) hx hb dX6_placeOf_31 (by decide) ?_
          refine lv_idiv hx hb dX6_placeOf_32 (by decide) ?_
          refine lv_topi (fun x_11 ex_11 => ?_)
          have q_7 := jlv q_7 ex_11
          refine lv_istore (lv' := [(6, .int x_11), (0, .ref sa), (1, .int a1), (2, .int a2), (3, .int v3_1), (4, .int v4_2), (5, .int v5_3)]) hx hb dX6_placeOf_33 hl (by decide) rfl (fun ls hl => ?_)
          refine lv_aload_n hx hb dX6_placeOf_35 rfl (lv_at hl 1 rfl) ?_
          refine jp_get (X := []) (ci := 7) (v := .ref la) (C := RX6) (T := TX6) (N := 1) hx hb hts inX6 hown hK hS.1 hsa fsa rfl 0 (by decide) k0 (fun _ h => h) rfl dX6_placeOf_36 ?_
          refine lv_iload hx hb dX6_placeOf_39 (lv_at hl 0 rfl) ?_
          obtain ⟨b_12, q_7⟩ := jgd q_7
          obtain ⟨a_13, ea_13, ma_13, fa_13⟩ := hel _ b_12.2
          obtain ⟨hea1, hea2⟩ := hea.resolve_left (fun h => absurd (Nat.lt_of_lt_of_le b_12.2 hcap) (by rw [h.1]; exact Nat.not_lt_zero _))
          obtain ⟨q9, hq9⟩ := jp_at hla fla
          refine j_QVq (As := [.int x_11]) (rest := []) (vc := (RJx4a65c, TJx4a65c, 3)) C hK hA hS (tJx4a65c_get_915e3 l D cI cJ cZ cW cS cO cG L f la ea cap a_13 mc cnt x_11 g9 hla fla hea1 hea2 (jokn b_12) (joklt b_12) ⟨b_12.1, Nat.lt_of_lt_of_le b_12.2 hcap⟩ ea_13) (cwV 1 hts gX6_placeOf_Jx4a65c_get_915e3 rfl rfl rfl (by decide +kernel) ⟨Nat.le_of_ble_eq_true rfl, Nat.le_of_ble_eq_true rfl⟩) (q0 := q9) hq9 (ci := 0) rfl rfl hl.1 rfl (Nat.le_of_ble_eq_true rfl) dX6_placeOf_41 ⟨Nat.zero_le _, Nat.zero_le _⟩ (fun r w H locs hp hS => ?_)
          obtain ⟨er, ew⟩ := hp
          subst er
          subst ew
          obtain ⟨q9, hq9⟩ := jp_at ma_13 fa_13
          refine va_castS (nm := RX5) hx hb hown k1 (hK.1 6 _ rfl).2 (va_recv hK hS.1 (ci := 6) (q := (RX5, TX5, 6)) rfl hq9) dX6_placeOf_44 ?_
          refine lv_iload_n hx hb dX6_placeOf_47 rfl (lv_at hl 2 rfl) ?_
          refine lv_iload_n hx hb dX6_placeOf_48 rfl (lv_at hl 3 rfl) ?_
          obtain ⟨o_14, h_15, q_7⟩ := jbd q_7
          refine j_Sl (As := [.ref a_13, .int a1, .int a2]) (rest := []) (wf := va_pl L f) C hK hS (jcut_all hA hS) (tX6_difference l D L f a_13 cI cJ cZ cW cS cO cG _ _ _ _ _ _ a1 a2 h_15 ma_13 fa_13) (va_cwS 3 hts gX6_placeOf_X6_difference rfl rfl rfl (by decide +kernel) ⟨Nat.le_of_ble_eq_true rfl, Nat.le_of_ble_eq_true rfl⟩) rfl hl.1 rfl (Nat.le_of_ble_eq_true rfl) dX6_placeOf_49 ⟨Nat.zero_le _, Nat.zero_le _⟩ (fun H locs hS => ?_)
          refine lv_lconst (v := (0 : Int64)) hx hb dX6_placeOf_52 (by decide) ?_
          obtain ⟨o_16, r_18⟩ : ∃ y : Int32 × Int32, y = (if (0 : Int64) ≤ o_14 then (v3_1, x_11) else ((x_11 + (1 : Int32)), v4_2)) := ⟨_, rfl⟩
          have q_7 := jlv q_7 r_18
          have K_17 : jW p l e rmX6_placeOf s m args below meth c 0 0 Q D vwCl A (va_pl L f) 7 [(0, .ref sa), (1, .int a1), (2, .int a2), (3, .int o_16.1), (4, .int o_16.2), (5, .int v5_3)] 69 [] := by
            intro H locs ls hS hl
            obtain ⟨x_20, ex_20⟩ : ∃ y : Int32, y = v5_3 + (1 : Int32) := ⟨_, rfl⟩
            have q_7 := jlv q_7 ex_20
            refine lv_iinc (v := x_20) (lv' := [(5, .int x_20), (0, .ref sa), (1, .int a1), (2, .int a2), (3, .int o_16.1), (4, .int o_16.2)]) hx hb dX6_placeOf_69 hl (k := 5) rfl (by rw [ex_20]; rfl) (by decide) rfl (fun ls hl => ?_)
            refine lv_goto (tgt := 14) hx hb dX6_placeOf_72 (by decide) ?_
            exact ih o_16.1 o_16.2 x_20 q_7 _ _ _ hS (lv_sub hl [1, 2, 3, 4, 5, 0] rfl)
          refine jl_ge (tgt := 65) hx hb dX6_placeOf_53 dX6_placeOf_54 (by decide) (fun c_19 => ?_) (fun c_19 => ?_)
          · have r_18 := r_18.trans (if_pos c_19)
            refine lv_iload hx hb dX6_placeOf_65 (lv_at hl 0 rfl) ?_
            refine lv_istore (lv' := [(4, .int x_11), (6, .int x_11), (0, .ref sa), (1, .int a1), (2, .int a2), (3, .int v3_1), (5, .int v5_3)]) hx hb dX6_placeOf_67 hl (by decide) rfl (fun ls hl => ?_)
            subst r_18
            exact K_17 _ _ _ hS (lv_sub hl [2, 3, 4, 5, 0, 6] rfl)
          · have r_18 := r_18.trans (if_neg c_19)
            refine lv_iload hx hb dX6_placeOf_57 (lv_at hl 0 rfl) ?_
            refine lv_iconst (v := (1 : Int32)) hx hb dX6_placeOf_59 (by decide) ?_
            refine lv_iadd hx hb dX6_placeOf_60 ?_
            refine lv_istore_n (lv' := [(3, .int (x_11 + (1 : Int32))), (6, .int x_11), (0, .ref sa), (1, .int a1), (2, .int a2), (4, .int v4_2), (5, .int v5_3)]) hx hb dX6_placeOf_61 rfl hl (by decide) rfl (fun ls hl => ?_)
            refine lv_goto (tgt := 69) hx hb dX6_placeOf_62 (by decide) ?_
            subst r_18
            exact K_17 _ _ _ hS (lv_sub hl [2, 3, 4, 0, 5, 6] rfl)
  exact loop_8 5000 (0 : Int32) cnt (0 : Int32) L_5 _ _ _ hS (lv_sub hl [3, 4, 5, 2, 1, 0] rfl)
def fX6_find (a1 : Int32) (a2 : Int32) (cnt : Int32) (su : Nat → Int32) (sl : Nat → Int32) : Option (Int32) :=
  (fX6_placeOf a1 a2 cnt su sl).bind (fun o_1 => 
  (fX6_isAt o_1 a1 a2 cnt su sl).bind (fun o_3 => 
  if o_3 = 0 then
  some (-9 : Int32)
  else
  some o_1))
abbrev rmX6_find : Room := { frames := 4, cells := 0, slots := 0, locals := 90 }
set_option maxHeartbeats 4000000 in
set_option maxRecDepth 100000 in
theorem tX6_find (l : Launch) (D : va_G) (dd : Nat) (L : List Nat) (f : Nat → va_E) (sa : Nat) (cI cJ cZ cW cS cO cG : ClassId) (cnt : Int32) (su : Nat → Int32) (sl : Nat → Int32) (s2 : Nat → Int32) (s3 : Nat → Int32) (s4 : Nat → Int32) (s5 : Nat → Int32) (a1 : Int32) (a2 : Int32) {o : Int32} (hE : fX6_find a1 a2 cnt su sl = some o) (hr : jSh cO dd L f sa cnt su sl s2 s3 s4 s5) : JMi l yX6_find wsX6_find rmX6_find D vwCl (TY cI cJ cZ cW cS cO cG) [.ref sa, .int a1, .int a2] (va_pl L f) (va_pl L f) o := by
  obtain ⟨hsa, la, ea, cap, mc, g9, fsa, hla, fla, hcap, hea, hel⟩ := id hr
  refine JMi.of (cc := cX6_find) (maxL := 4) (by decide) rfl (Nat.le_of_ble_eq_true rfl) ?_
  intro p e s m args below meth c A ls Q C hK hA ret hS hl
  obtain ⟨⟨hx, hb, hml, hown, hts⟩, -⟩ := id C
  have hl : lv_has ls 4 [(0, .ref sa), (1, .int a1), (2, .int a2)] := hl
  refine lv_aload_n hx hb dX6_find_0 rfl (lv_at hl 0 rfl) ?_
  refine lv_iload_n hx hb dX6_find_1 rfl (lv_at hl 1 rfl) ?_
  refine lv_iload_n hx hb dX6_find_2 rfl (lv_at hl 2 rfl) ?_
  obtain ⟨o_1, h_2, hE⟩ := jbd hE
  obtain ⟨q9, hq9⟩ := jp_at hsa fsa
  refine j_Vi (As := [.int a1, .int a2]) (rest := []) (wf := va_pl L f) (vc := (RX6, TX6, 1)) C hK hS (jcut_all hA hS) (tX6_placeOf l D dd L f sa cI cJ cZ cW cS cO cG cnt su sl s2 s3 s4 s5 a1 a2 h_2 hr) (cwV 2 hts gX6_find_X6_placeOf rfl rfl rfl (by decide +kernel) ⟨Nat.le_of_ble_eq_true rfl, Nat.le_of_ble_eq_true rfl⟩) (q0 := q9) hq9 (ci := 7) rfl rfl hl.1 rfl (Nat.le_of_ble_eq_true rfl) dX6_find_3 ⟨Nat.zero_le _, Nat.zero_le _⟩ (fun H locs hS => ?_)
  refine lv_istore_n (lv' := [(3, .int o_1), (0, .ref sa), (1, .int a1), (2, .int a2)]) hx hb dX6_find_6 rfl hl (by decide) rfl (fun ls hl => ?_)
  refine lv_aload_n hx hb dX6_find_7 rfl (lv_at hl 1 rfl) ?_
  refine lv_iload_n hx hb dX6_find_8 rfl (lv_at hl 0 rfl) ?_
  refine lv_iload_n hx hb dX6_find_9 rfl (lv_at hl 2 rfl) ?_
  refine lv_iload_n hx hb dX6_find_10 rfl (lv_at hl 3 rfl) ?_
  obtain ⟨o_3, h_4, hE⟩ := jbd hE
  obtain ⟨q9, hq9⟩ := jp_at hsa fsa
  refine j_Vi (As := [.int o_1, .int a1, .int a2]) (rest := []) (wf := va_pl L f) (vc := (RX6, TX6, 1)) C hK hS (jcut_all hA hS) (tX6_isAt l D dd L f sa cI cJ cZ cW cS cO cG cnt su sl s2 s3 s4 s5 o_1 a1 a2 h_4 hr) (cwV 3 hts gX6_find_X6_isAt rfl rfl rfl (by decide +kernel) ⟨Nat.le_of_ble_eq_true rfl, Nat.le_of_ble_eq_true rfl⟩) (q0 := q9) hq9 (ci := 7) rfl rfl hl.1 rfl (Nat.le_of_ble_eq_true rfl) dX6_find_11 ⟨Nat.zero_le _, Nat.zero_le _⟩ (fun H locs hS => ?_)
  refine lv_if_eq (tgt := 21) hx hb dX6_find_14 (by decide) (fun c_5 => ?_) (fun c_5 => ?_)
  · have hE := jt hE c_5
    refine lv_bipush (v := (-9 : Int32)) hx hb dX6_find_21 (by decide) ?_
    obtain rfl := jsm hE
    exact ret hS rfl dX6_find_23
  · have hE := jf hE c_5
    refine lv_iload_n hx hb dX6_find_17 rfl (lv_at hl 0 rfl) ?_
    refine lv_goto (tgt := 23) hx hb dX6_find_18 (by decide) ?_
    obtain rfl := jsm hE
    exact ret hS rfl dX6_find_23
