section JWIRE
variable {p : Program} {l : Launch} {e : Env} {R : Room} {s : State} {m : MethodId} {args : Array Value} {below : List Frame} {meth : Method} {c : Code} {H : Heap} {locs : List Loc} {cells slots : Nat} {Q : State → Prop}
variable {cc : ByteArray} {pc nL : Nat} {ls : Array Slot} {rest : List Value} {D : va_G} {A : Nat → Prop} {tys : List (ClassId × FieldType)} {w : va_W} {Ts : List Cond} {y0 : MethodName} {rtt : Option FieldType} {k a1 a2 q mm : Int32} {a q0 : Nat} {own : String} {index : Nat}
theorem jn_k (hx : p.tables.exec = Jvm.exec) (hb : c.code = cc) (hts : ∀ w ∈ Ts, w.before args s = true) (in2 : ∀ w ∈ u_ws RX2 TX2 4, w ∈ Ts) (in8 : ∀ w ∈ u_ws RX8 TX8 5, w ∈ Ts) (hown : s.vm.findClass own = some m.cls) (hK : va_K D vwCl tys s) (hP : va_P D vwCl w H) (hq : w[q0]? = some (a, jwc k a1 a2 q mm)) (e0 : ¬ k = 0) (hlink : (Cond.fieldLink own index "OhmNets$LongWire" "k" "I").before args s = true) (hdg : decode cc pc = .ok (.getfield index, 3))
    (kk : W p l e R s m args below meth c H locs cells slots Q (F0 m (pc + 3) ls (.int q :: rest))) : W p l e R s m args below meth c H locs cells slots Q (F0 m pc ls (.ref a :: rest)) := by
  unfold jwc at hq
  rw [if_neg e0] at hq
  by_cases e1 : k = 1
  · rw [if_pos e1] at hq
    exact va_get (D := D) (ci := 3) (v := .int q) (C := RX2) (T := TX2) (N := 4) hx hb hts in2 hown hK hP q0 hq rfl 3 (by decide) hlink (fun _ h => h) rfl hdg kk
  · rw [if_neg e1] at hq
    exact va_get (D := D) (ci := 9) (v := .int q) (C := RX8) (T := TX8) (N := 5) hx hb hts in8 hown hK hP q0 hq rfl 0 (by decide) hlink (fun _ h => h) rfl hdg kk
theorem jn_m (hx : p.tables.exec = Jvm.exec) (hb : c.code = cc) (hts : ∀ w ∈ Ts, w.before args s = true) (in8 : ∀ w ∈ u_ws RX8 TX8 5, w ∈ Ts) (hown : s.vm.findClass own = some m.cls) (hK : va_K D vwCl tys s) (hP : va_P D vwCl w H) (hq : w[q0]? = some (a, jwc k a1 a2 q mm)) (e0 : ¬ k = 0) (e1 : ¬ k = 1) (hlink : (Cond.fieldLink own index "OhmNets$ThickWire" "m" "I").before args s = true) (hdg : decode cc pc = .ok (.getfield index, 3))
    (kk : W p l e R s m args below meth c H locs cells slots Q (F0 m (pc + 3) ls (.int mm :: rest))) : W p l e R s m args below meth c H locs cells slots Q (F0 m pc ls (.ref a :: rest)) := by
  unfold jwc at hq
  rw [if_neg e0, if_neg e1] at hq
  exact va_get (D := D) (ci := 9) (v := .int mm) (C := RX8) (T := TX8) (N := 5) hx hb hts in8 hown hK hP q0 hq rfl 4 (by decide) hlink (fun _ h => h) rfl hdg kk
/-- super.measure -/
theorem jn_super {w1 : va_W} {r : Int32} {y : MethodName} {maxL n b : Nat} {bytes : ByteArray} {ret : Option FieldType} {ws : List Cond} {rm : Room} {As st0 : List Value} (C : jC p s m meth c cc nL args Ts y0 rtt) (hK : va_K D vwCl tys s) (hA : ∀ q, s.heap.size ≤ q → A q) (hS : jS D vwCl A w s.heap H locs) (hM : JMi l y ws rm D vwCl tys (.ref b :: As) w w1 r) (hq : w[q0]? = some (b, jwc k a1 a2 q mm)) (e0 : ¬ k = 0)
    (cw : va_CS R s args y0.cls index y bytes maxL ret ws rm rm.cells rm.slots n) (hn : As.length = n) (hsz : ls.size = nL) (hst : st0 = As.reverse ++ .ref b :: rest) (hW : (rest.map fun v => v.category).sum ≤ 8) (hdg : decode cc pc = .ok (.invokespecial index, 3)) (hf : cells + rm.cells ≤ R.cells ∧ slots + rm.slots ≤ R.slots)
    (kk : ∀ (H1 : Heap) (locs1 : List Loc), jS D vwCl A w1 s.heap H1 locs1 → W p l e R s m args below meth c H1 locs1 (cells + rm.cells) (slots + rm.slots) Q (F0 m (pc + 3) ls (.int r :: rest))) : W p l e R s m args below meth c H locs cells slots Q (F0 m pc ls st0) := by
  obtain ⟨⟨hPc, hDc⟩, hF, hJ⟩ := jcut_all (w1 := w1) hA hS
  subst hst
  have hpre : ∀ U : State, U.heap = H → s.WarmedH U.vm → va_Pc (.ref b :: As) (jPre D vwCl tys w H.size) (Value.ref b :: As).toArray U := fun U hU hWm => ⟨rfl, by rw [hU], by rw [hU]; exact hPc, va_K.moved hWm.alike hK, hDc⟩
  have run : va_Run p l e R s m args below meth c H locs cells slots rm.cells rm.slots (F0 m pc ls (As.reverse ++ .ref b :: rest)) rest (jQi D vwCl tys (va_A w H.size) w1 r (Value.ref b :: As).toArray) (va_A w H.size) := by
    by_cases e1 : k = 1
    · exact va_runSU (C := RX2) (b := b) (As := As) (rest := rest) (hK.1 3 _ rfl).2 C.1 (hM H.size) cw ⟨jPre_blind, jwc_recv hK hPc hq RX2 (by rw [if_neg e0, if_pos e1]), hpre⟩ rfl hn hsz rfl (lv_room hW) hdg hf
    · exact va_runSU (C := RX8) (b := b) (As := As) (rest := rest) (hK.1 9 _ rfl).2 C.1 (hM H.size) cw ⟨jPre_blind, jwc_recv hK hPc hq RX8 (by rw [if_neg e0, if_neg e1]), hpre⟩ rfl hn hsz rfl (lv_room hW) hdg hf
  refine va_calli run hS.2.2 (fun q _ h => hF q h) hF (fun r' u t H1 locs1 ht hvm hw hB hz hk hS1 => ?_)
  subst hw
  exact kk H1 locs1 (hJ H1 locs1 hk (by rw [← ht]; exact hB.1) hB.2.2 hS1)
/-- a final field, in a constructor -/
theorem j_putF {w' : va_W} {H0 : Heap} (hx : p.tables.exec = Jvm.exec) (hb : c.code = cc) {ref C : String} {T : u_T} {N ci : Nat} (hts : ∀ w ∈ Ts, w.before args s = true) (hin : ∀ w ∈ u_ws C T N, w ∈ Ts) (ty0 : Nat → FieldType) (hty : ∀ k, k < N → parseFieldDescriptor (T k).2.2.1 = some (ty0 k)) (hnm : ∀ a, a < N → ∀ b, b < N → a ≠ b → (T a).2.1 ≠ (T b).2.1) (hown : s.vm.findClass own = some m.cls) (hK : va_K D vwCl tys s) (hS : jS D vwCl A w H0 H locs) (q0 : Nat) {fs : List Value} (he : w[q0]? = some (a, .inr (ci, fs))) (hc : vwCl[ci]? = some (C, T, N)) (k : Nat) (hk : k < N) (hlink : (Cond.fieldLink own index ref (T k).2.1 (T k).2.2.1).before args s = true) (hsame : ∀ x, s.fieldFound? (T k).1 (T k).2.1 (T k).2.2.1 = some x → s.fieldFound? ref (T k).2.1 (T k).2.2.1 = some x) (hfin : (T k).2.2.2 = true) (hin2 : meth.name = "<init>") (hdecl : (T k).1 = own) {ty : FieldType} {v : Value} (hd : parseFieldDescriptor (T k).2.2.1 = some ty) (hn : narrow ty v = v) (hfit : fits ty v = true) (hl : k < fs.length) (hw : w.set q0 (a, .inr (ci, fs.set k v)) = w')
    (hdg : decode cc pc = .ok (.putfield index, 3)) (kk : ∀ (H1 : Heap) (locs1 : List Loc), jS D vwCl A w' H0 H1 locs1 → W p l e R s m args below meth c H1 locs1 cells slots Q (F0 m (pc + 3) ls rest)) : W p l e R s m args below meth c H locs cells slots Q (F0 m pc ls (v :: .ref a :: rest)) := by
  subst hw
  exact va_putF hx hb hts hin ty0 hty hnm hown hK hS.1 hS.2.1 hS.2.2 q0 he hc k hk hlink hsame hfin hin2 hdecl hd hn hfit hl hdg (fun H1 locs1 a1 a2 a3 => kk H1 locs1 ⟨a1, a2, a3⟩)
end JWIRE

def fX0_init : Option (Int64 × Int64) :=
  some ((0 : Int64), (1 : Int64))
abbrev rmX0_init : Room := { frames := 1, cells := 0, slots := 0, locals := 12 }
set_option maxHeartbeats 4000000 in
set_option maxRecDepth 100000 in
theorem tX0_init (l : Launch) (D : va_G) (h0 : Nat) (cI cJ cZ cW cS cO cG : ClassId) (upper : Int64) (lower : Int64) {o : Int64 × Int64} (hE : fX0_init = some o) : JMv l yX0_init wsX0_init rmX0_init D vwCl (TY cI cJ cZ cW cS cO cG) [.ref h0] (FRW h0 upper lower) (FRW h0 o.1 o.2) := by
  refine JMv.of (cc := cX0_init) (maxL := 1) (by decide) rfl (Nat.le_of_ble_eq_true rfl) ?_
  intro p e s m args below meth c A ls Q C hK hA ret hS hl
  obtain ⟨⟨hx, hb, hml, hown, hts⟩, -⟩ := id C
  have hl : lv_has ls 1 [(0, .ref h0)] := hl
  have inX0 : ∀ w ∈ u_ws RX0 TX0 2, w ∈ wsX0_init := by decide +kernel
  have k0 := hts (.methodLink RX0 1 objectInit) (by decide +kernel)
  have k1 := hts (.instanceMethod objectInit) (by decide +kernel)
  have k2 := hts (.code objectInit ⟨#[0xb1]⟩ 1 none) (by decide +kernel)
  have k3 := hts (.fieldLink RX0 7 "OhmNets$Fraction" "upper" "J") (by decide +kernel)
  have k4 := hts (.fieldLink RX0 13 "OhmNets$Fraction" "lower" "J") (by decide +kernel)
  refine lv_aload_n hx hb dX0_init_0 rfl (lv_at hl 0 rfl) ?_
  refine W.objInit hx hb hown k0 k1 k2 rfl (by rw [hml]; exact hl.1) rfl dX0_init_1 (Nat.le_of_ble_eq_true rfl) (Nat.le_of_ble_eq_true rfl) ?_
  refine W.eq (g2 := F0 m 4 ls []) rfl ?_
  refine lv_aload_n hx hb dX0_init_4 rfl (lv_at hl 0 rfl) ?_
  refine lv_lconst (v := (0 : Int64)) hx hb dX0_init_5 (by decide) ?_
  refine j_put (ci := 1) (v := .long (0 : Int64)) (ty := .long) (C := RX0) (T := TX0) (N := 2) (w' := FRW h0 (0 : Int64) lower) hx hb hts inX0 tyX0 tyX0_ok nmX0 hown hK hS 0 rfl rfl 0 (by decide) k3 (fun _ h => h) rfl (by decide +kernel) rfl rfl (Nat.le_of_ble_eq_true rfl) rfl dX0_init_6 (fun H locs hS => ?_)
  refine lv_aload_n hx hb dX0_init_9 rfl (lv_at hl 0 rfl) ?_
  refine lv_lconst (v := (1 : Int64)) hx hb dX0_init_10 (by decide) ?_
  refine j_put (ci := 1) (v := .long (1 : Int64)) (ty := .long) (C := RX0) (T := TX0) (N := 2) (w' := FRW h0 (0 : Int64) (1 : Int64)) hx hb hts inX0 tyX0 tyX0_ok nmX0 hown hK hS 0 rfl rfl 1 (by decide) k4 (fun _ h => h) rfl (by decide +kernel) rfl rfl (Nat.le_of_ble_eq_true rfl) rfl dX0_init_11 (fun H locs hS => ?_)
  obtain rfl := jsm hE
  exact ret hS dX0_init_14
def fX4_measure : Option (Int32 × Int64 × Int64) :=
  (fX0_set (1 : Int64) (1 : Int64)).bind (fun o_1 => 
  some ((1 : Int32), o_1.1, o_1.2))
abbrev rmX4_measure : Room := { frames := 1, cells := 0, slots := 0, locals := 24 }
set_option maxHeartbeats 4000000 in
set_option maxRecDepth 100000 in
theorem tX4_measure (l : Launch) (D : va_G) (h0 h1 : Nat) (cI cJ cZ cW cS cO cG : ClassId) (wk : Int32) (w1 : Int32) (w2 : Int32) (wq : Int32) (wm : Int32) (fu : Int64) (fl : Int64) {o : Int32 × Int64 × Int64} (hE : fX4_measure = some o) : JMi l yX4_measure wsX4_measure rmX4_measure D vwCl (TY cI cJ cZ cW cS cO cG) [.ref h0, .ref h1] ([(h0, jwc wk w1 w2 wq wm), (h1, .inr (1, [.long fu, .long fl]))]) ([(h0, jwc wk w1 w2 wq wm), (h1, .inr (1, [.long o.2.1, .long o.2.2]))]) o.1 := by
  refine JMi.of (cc := cX4_measure) (maxL := 2) (by decide) rfl (Nat.le_of_ble_eq_true rfl) ?_
  intro p e s m args below meth c A ls Q C hK hA ret hS hl
  obtain ⟨⟨hx, hb, hml, hown, hts⟩, -⟩ := id C
  have hl : lv_has ls 2 [(0, .ref h0), (1, .ref h1)] := hl
  refine lv_aload_n hx hb dX4_measure_0 rfl (lv_at hl 1 rfl) ?_
  refine lv_lconst (v := (1 : Int64)) hx hb dX4_measure_1 (by decide) ?_
  refine lv_lconst (v := (1 : Int64)) hx hb dX4_measure_2 (by decide) ?_
  obtain ⟨o_1, h_2, hE⟩ := jbd hE
  refine j_Vv (As := [.long (1 : Int64), .long (1 : Int64)]) (rest := []) (wf := [(h0, jwc wk w1 w2 wq wm), (h1, .inr (1, [.long o_1.1, .long o_1.2]))]) (wc := FRW h1 fu fl) (w1 := FRW h1 o_1.1 o_1.2) (vc := (RX0, TX0, 2)) C hK hS (jcut_at (wr := [(h0, jwc wk w1 w2 wq wm)]) hA hS [1] [0] [0, 1] rfl rfl rfl (by decide)) (tX0_set l D h1 cI cJ cZ cW cS cO cG fu fl (1 : Int64) (1 : Int64) h_2) (cwV 2 hts gX4_measure_X0_set rfl rfl rfl (by decide +kernel) ⟨Nat.le_of_ble_eq_true rfl, Nat.le_of_ble_eq_true rfl⟩) (q0 := 0) rfl (ci := 1) rfl rfl hl.1 rfl (Nat.le_of_ble_eq_true rfl) dX4_measure_3 ⟨Nat.zero_le _, Nat.zero_le _⟩ (fun H locs hS => ?_)
  refine lv_iconst (v := (1 : Int32)) hx hb dX4_measure_6 (by decide) ?_
  obtain rfl := jsm hE
  exact ret hS rfl dX4_measure_7
def fX2_measure (wq : Int32) : Option (Int32 × Int64 × Int64) :=
  (fX4_measure).bind (fun o_1 => 
  jlet o_1.1 (fun x_3 => 
  some ((x_3 + (10 : Int32)), (o_1.2.1 * wq.toInt64), o_1.2.2)))
abbrev rmX2_measure : Room := { frames := 2, cells := 0, slots := 0, locals := 45 }
set_option maxHeartbeats 4000000 in
set_option maxRecDepth 100000 in
theorem tX2_measure (l : Launch) (D : va_G) (h0 h1 : Nat) (cI cJ cZ cW cS cO cG : ClassId) (wk : Int32) (w1 : Int32) (w2 : Int32) (wq : Int32) (wm : Int32) (fu : Int64) (fl : Int64) {o : Int32 × Int64 × Int64} (hE : fX2_measure wq = some o) (hk0 : ¬ wk = 0) : JMi l yX2_measure wsX2_measure rmX2_measure D vwCl (TY cI cJ cZ cW cS cO cG) [.ref h0, .ref h1] ([(h0, jwc wk w1 w2 wq wm), (h1, .inr (1, [.long fu, .long fl]))]) ([(h0, jwc wk w1 w2 wq wm), (h1, .inr (1, [.long o.2.1, .long o.2.2]))]) o.1 := by
  refine JMi.of (cc := cX2_measure) (maxL := 3) (by decide) rfl (Nat.le_of_ble_eq_true rfl) ?_
  intro p e s m args below meth c A ls Q C hK hA ret hS hl
  obtain ⟨⟨hx, hb, hml, hown, hts⟩, -⟩ := id C
  have hl : lv_has ls 3 [(0, .ref h0), (1, .ref h1)] := hl
  have inX0 : ∀ w ∈ u_ws RX0 TX0 2, w ∈ wsX2_measure := by decide +kernel
  have inX2 : ∀ w ∈ u_ws RX2 TX2 4, w ∈ wsX2_measure := by decide +kernel
  have inX8 : ∀ w ∈ u_ws RX8 TX8 5, w ∈ wsX2_measure := by decide +kernel
  have k0 := hts (.fieldLink RX2 17 "OhmNets$Fraction" "upper" "J") (by decide +kernel)
  have k1 := hts (.fieldLink RX2 7 "OhmNets$LongWire" "k" "I") (by decide +kernel)
  refine lv_aload_n hx hb dX2_measure_0 rfl (lv_at hl 0 rfl) ?_
  refine lv_aload_n hx hb dX2_measure_1 rfl (lv_at hl 1 rfl) ?_
  obtain ⟨o_1, h_2, hE⟩ := jbd hE
  refine jn_super (As := [.ref h1]) (rest := []) (q0 := 0) C hK hA hS (tX4_measure l D h0 h1 cI cJ cZ cW cS cO cG wk w1 w2 wq wm fu fl h_2 ) rfl hk0 (va_cwSU 1 hts gX2_measure_X4_measure_s13 rfl rfl rfl (by decide +kernel) ⟨Nat.le_of_ble_eq_true rfl, Nat.le_of_ble_eq_true rfl⟩) rfl hl.1 rfl (Nat.le_of_ble_eq_true rfl) dX2_measure_2 ⟨Nat.zero_le _, Nat.zero_le _⟩ (fun H locs hS => ?_)
  refine lv_topi (fun x_3 ex_3 => ?_)
  have hE := jlv hE ex_3
  refine lv_istore_n (lv' := [(2, .int x_3), (0, .ref h0), (1, .ref h1)]) hx hb dX2_measure_5 rfl hl (by decide) rfl (fun ls hl => ?_)
  refine lv_aload_n hx hb dX2_measure_6 rfl (lv_at hl 2 rfl) ?_
  refine lv_dup hx hb dX2_measure_7 rfl ?_
  refine va_get (D := D) (ci := 1) (v := .long o_1.2.1) (C := RX0) (T := TX0) (N := 2) hx hb hts inX0 hown hK hS.1 1 rfl rfl 0 (by decide) k0 (fun _ h => h) rfl dX2_measure_8 ?_
  refine lv_aload_n hx hb dX2_measure_11 rfl (lv_at hl 1 rfl) ?_
  refine jn_k (q0 := 0) hx hb hts inX2 inX8 hown hK hS.1 rfl hk0 k1 dX2_measure_12 ?_
  refine lv_i2l (v := wq.toInt64) hx hb dX2_measure_15 rfl ?_
  refine lv_lmul hx hb dX2_measure_16 ?_
  refine j_put (ci := 1) (v := .long (o_1.2.1 * wq.toInt64)) (ty := .long) (C := RX0) (T := TX0) (N := 2) (w' := [(h0, jwc wk w1 w2 wq wm), (h1, .inr (1, [.long (o_1.2.1 * wq.toInt64), .long o_1.2.2]))]) hx hb hts inX0 tyX0 tyX0_ok nmX0 hown hK hS 1 rfl rfl 0 (by decide) k0 (fun _ h => h) rfl (by decide +kernel) rfl rfl (Nat.le_of_ble_eq_true rfl) rfl dX2_measure_17 (fun H locs hS => ?_)
  refine lv_iload_n hx hb dX2_measure_20 rfl (lv_at hl 0 rfl) ?_
  refine lv_bipush (v := (10 : Int32)) hx hb dX2_measure_21 (by decide) ?_
  refine lv_iadd hx hb dX2_measure_23 ?_
  obtain rfl := jsm hE
  exact ret hS rfl dX2_measure_24
def fX8_measure (wq : Int32) (wm : Int32) : Option (Int32 × Int64 × Int64) :=
  (fX2_measure wq).bind (fun o_1 => 
  jlet o_1.1 (fun x_3 => 
  some ((x_3 + (100 : Int32)), o_1.2.1, (o_1.2.2 * wm.toInt64))))
abbrev rmX8_measure : Room := { frames := 3, cells := 0, slots := 0, locals := 67 }
set_option maxHeartbeats 4000000 in
set_option maxRecDepth 100000 in
theorem tX8_measure (l : Launch) (D : va_G) (h0 h1 : Nat) (cI cJ cZ cW cS cO cG : ClassId) (wk : Int32) (w1 : Int32) (w2 : Int32) (wq : Int32) (wm : Int32) (fu : Int64) (fl : Int64) {o : Int32 × Int64 × Int64} (hE : fX8_measure wq wm = some o) (hk0 : ¬ wk = 0) (hk1 : ¬ wk = 1) : JMi l yX8_measure wsX8_measure rmX8_measure D vwCl (TY cI cJ cZ cW cS cO cG) [.ref h0, .ref h1] ([(h0, jwc wk w1 w2 wq wm), (h1, .inr (1, [.long fu, .long fl]))]) ([(h0, jwc wk w1 w2 wq wm), (h1, .inr (1, [.long o.2.1, .long o.2.2]))]) o.1 := by
  refine JMi.of (cc := cX8_measure) (maxL := 3) (by decide) rfl (Nat.le_of_ble_eq_true rfl) ?_
  intro p e s m args below meth c A ls Q C hK hA ret hS hl
  obtain ⟨⟨hx, hb, hml, hown, hts⟩, -⟩ := id C
  have hl : lv_has ls 3 [(0, .ref h0), (1, .ref h1)] := hl
  have inX0 : ∀ w ∈ u_ws RX0 TX0 2, w ∈ wsX8_measure := by decide +kernel
  have inX8 : ∀ w ∈ u_ws RX8 TX8 5, w ∈ wsX8_measure := by decide +kernel
  have k0 := hts (.fieldLink RX8 17 "OhmNets$Fraction" "lower" "J") (by decide +kernel)
  have k1 := hts (.fieldLink RX8 7 "OhmNets$ThickWire" "m" "I") (by decide +kernel)
  refine lv_aload_n hx hb dX8_measure_0 rfl (lv_at hl 0 rfl) ?_
  refine lv_aload_n hx hb dX8_measure_1 rfl (lv_at hl 1 rfl) ?_
  obtain ⟨o_1, h_2, hE⟩ := jbd hE
  refine jn_super (As := [.ref h1]) (rest := []) (q0 := 0) C hK hA hS (tX2_measure l D h0 h1 cI cJ cZ cW cS cO cG wk w1 w2 wq wm fu fl h_2  hk0) rfl hk0 (va_cwSU 1 hts gX8_measure_X2_measure_s13 rfl rfl rfl (by decide +kernel) ⟨Nat.le_of_ble_eq_true rfl, Nat.le_of_ble_eq_true rfl⟩) rfl hl.1 rfl (Nat.le_of_ble_eq_true rfl) dX8_measure_2 ⟨Nat.zero_le _, Nat.zero_le _⟩ (fun H locs hS => ?_)
  refine lv_topi (fun x_3 ex_3 => ?_)
  have hE := jlv hE ex_3
  refine lv_istore_n (lv' := [(2, .int x_3), (0, .ref h0), (1, .ref h1)]) hx hb dX8_measure_5 rfl hl (by decide) rfl (fun ls hl => ?_)
  refine lv_aload_n hx hb dX8_measure_6 rfl (lv_at hl 2 rfl) ?_
  refine lv_dup hx hb dX8_measure_7 rfl ?_
  refine va_get (D := D) (ci := 1) (v := .long o_1.2.2) (C := RX0) (T := TX0) (N := 2) hx hb hts inX0 hown hK hS.1 1 rfl rfl 1 (by decide) k0 (fun _ h => h) rfl dX8_measure_8 ?_
  refine lv_aload_n hx hb dX8_measure_11 rfl (lv_at hl 1 rfl) ?_
  refine jn_m (q0 := 0) hx hb hts inX8 hown hK hS.1 rfl hk0 hk1 k1 dX8_measure_12 ?_
  refine lv_i2l (v := wm.toInt64) hx hb dX8_measure_15 rfl ?_
  refine lv_lmul hx hb dX8_measure_16 ?_
  refine j_put (ci := 1) (v := .long (o_1.2.2 * wm.toInt64)) (ty := .long) (C := RX0) (T := TX0) (N := 2) (w' := [(h0, jwc wk w1 w2 wq wm), (h1, .inr (1, [.long o_1.2.1, .long (o_1.2.2 * wm.toInt64)]))]) hx hb hts inX0 tyX0 tyX0_ok nmX0 hown hK hS 1 rfl rfl 1 (by decide) k0 (fun _ h => h) rfl (by decide +kernel) rfl rfl (Nat.le_of_ble_eq_true rfl) rfl dX8_measure_17 (fun H locs hS => ?_)
  refine lv_iload_n hx hb dX8_measure_20 rfl (lv_at hl 0 rfl) ?_
  refine lv_bipush (v := (100 : Int32)) hx hb dX8_measure_21 (by decide) ?_
  refine lv_iadd hx hb dX8_measure_23 ?_
  obtain rfl := jsm hE
  exact ret hS rfl dX8_measure_24
def fX4_init_4 (a1 : Int32) (a2 : Int32) (a3 : Int32) : Option (Int32 × Int32 × Int32) :=
  some (a1, a2, a3)
abbrev rmX4_init_4 : Room := { frames := 1, cells := 0, slots := 0, locals := 12 }
set_option maxHeartbeats 4000000 in
set_option maxRecDepth 100000 in
theorem tX4_init_4 (l : Launch) (D : va_G) (h0 : Nat) (cI cJ cZ cW cS cO cG : ClassId) (vk : Int32) (v1 : Int32) (v2 : Int32) (a1 : Int32) (a2 : Int32) (a3 : Int32) {o : Int32 × Int32 × Int32} (hE : fX4_init_4 a1 a2 a3 = some o) : JMv l yX4_init wsX4_init rmX4_init_4 D vwCl (TY cI cJ cZ cW cS cO cG) [.ref h0, .int a1, .int a2, .int a3] ([(h0, .inr (5, [.int vk, .int v1, .int v2]))]) ([(h0, .inr (5, [.int o.1, .int o.2.1, .int o.2.2]))]) := by
  refine JMv.of (cc := cX4_init) (maxL := 4) (by decide) rfl (Nat.le_of_ble_eq_true rfl) ?_
  intro p e s m args below meth c A ls Q C hK hA ret hS hl
  obtain ⟨⟨hx, hb, hml, hown, hts⟩, -⟩ := id C
  have hl : lv_has ls 4 [(0, .ref h0), (1, .int a1), (2, .int a2), (3, .int a3)] := hl
  have inX4 : ∀ w ∈ u_ws RX4 TX4 3, w ∈ wsX4_init := by decide +kernel
  have k0 := hts (.methodLink RX4 1 objectInit) (by decide +kernel)
  have k1 := hts (.instanceMethod objectInit) (by decide +kernel)
  have k2 := hts (.code objectInit ⟨#[0xb1]⟩ 1 none) (by decide +kernel)
  have k3 := hts (.fieldLink RX4 7 "OhmNets$OneWire" "kind" "I") (by decide +kernel)
  have k4 := hts (.fieldLink RX4 13 "OhmNets$OneWire" "first" "I") (by decide +kernel)
  have k5 := hts (.fieldLink RX4 16 "OhmNets$OneWire" "second" "I") (by decide +kernel)
  refine lv_aload_n hx hb dX4_init_0 rfl (lv_at hl 0 rfl) ?_
  refine W.objInit hx hb hown k0 k1 k2 rfl (by rw [hml]; exact hl.1) rfl dX4_init_1 (Nat.le_of_ble_eq_true rfl) (Nat.le_of_ble_eq_true rfl) ?_
  refine W.eq (g2 := F0 m 4 ls []) rfl ?_
  refine lv_aload_n hx hb dX4_init_4 rfl (lv_at hl 0 rfl) ?_
  refine lv_iload_n hx hb dX4_init_5 rfl (lv_at hl 1 rfl) ?_
  refine j_putF (ci := 5) (v := .int a1) (ty := .int) (C := RX4) (T := TX4) (N := 3) (w' := [(h0, .inr (5, [.int a1, .int v1, .int v2]))]) hx hb hts inX4 tyX4 tyX4_ok nmX4 hown hK hS 0 rfl rfl 0 (by decide) k3 (fun _ h => h) rfl C.2.2.2 rfl (by decide +kernel) rfl rfl (Nat.le_of_ble_eq_true rfl) rfl dX4_init_6 (fun H locs hS => ?_)
  refine lv_aload_n hx hb dX4_init_9 rfl (lv_at hl 0 rfl) ?_
  refine lv_iload_n hx hb dX4_init_10 rfl (lv_at hl 2 rfl) ?_
  refine j_putF (ci := 5) (v := .int a2) (ty := .int) (C := RX4) (T := TX4) (N := 3) (w' := [(h0, .inr (5, [.int a1, .int a2, .int v2]))]) hx hb hts inX4 tyX4 tyX4_ok nmX4 hown hK hS 0 rfl rfl 1 (by decide) k4 (fun _ h => h) rfl C.2.2.2 rfl (by decide +kernel) rfl rfl (Nat.le_of_ble_eq_true rfl) rfl dX4_init_11 (fun H locs hS => ?_)
  refine lv_aload_n hx hb dX4_init_14 rfl (lv_at hl 0 rfl) ?_
  refine lv_iload_n hx hb dX4_init_15 rfl (lv_at hl 3 rfl) ?_
  refine j_putF (ci := 5) (v := .int a3) (ty := .int) (C := RX4) (T := TX4) (N := 3) (w' := [(h0, .inr (5, [.int a1, .int a2, .int a3]))]) hx hb hts inX4 tyX4 tyX4_ok nmX4 hown hK hS 0 rfl rfl 2 (by decide) k5 (fun _ h => h) rfl C.2.2.2 rfl (by decide +kernel) rfl rfl (Nat.le_of_ble_eq_true rfl) rfl dX4_init_16 (fun H locs hS => ?_)
  obtain rfl := jsm hE
  exact ret hS dX4_init_19
def fX4_init_2 (a1 : Int32) (a2 : Int32) (a3 : Int32) : Option (Int32 × Int32 × Int32) :=
  some (a1, a2, a3)
abbrev rmX4_init_2 : Room := { frames := 1, cells := 0, slots := 0, locals := 12 }
set_option maxHeartbeats 4000000 in
set_option maxRecDepth 100000 in
theorem tX4_init_2 (l : Launch) (D : va_G) (h0 : Nat) (cI cJ cZ cW cS cO cG : ClassId) (vk : Int32) (v1 : Int32) (v2 : Int32) (vq : Int32) (a1 : Int32) (a2 : Int32) (a3 : Int32) {o : Int32 × Int32 × Int32} (hE : fX4_init_2 a1 a2 a3 = some o) : JMv l yX4_init wsX4_init rmX4_init_2 D vwCl (TY cI cJ cZ cW cS cO cG) [.ref h0, .int a1, .int a2, .int a3] ([(h0, .inr (3, [.int vk, .int v1, .int v2, .int vq]))]) ([(h0, .inr (3, [.int o.1, .int o.2.1, .int o.2.2, .int vq]))]) := by
  refine JMv.of (cc := cX4_init) (maxL := 4) (by decide) rfl (Nat.le_of_ble_eq_true rfl) ?_
  intro p e s m args below meth c A ls Q C hK hA ret hS hl
  obtain ⟨⟨hx, hb, hml, hown, hts⟩, -⟩ := id C
  have hl : lv_has ls 4 [(0, .ref h0), (1, .int a1), (2, .int a2), (3, .int a3)] := hl
  have inX2 : ∀ w ∈ u_ws RX2 TX2 4, w ∈ wsX4_init := by decide +kernel
  have k0 := hts (.methodLink RX4 1 objectInit) (by decide +kernel)
  have k1 := hts (.instanceMethod objectInit) (by decide +kernel)
  have k2 := hts (.code objectInit ⟨#[0xb1]⟩ 1 none) (by decide +kernel)
  have k3 := hts (.fieldLink RX4 7 "OhmNets$OneWire" "kind" "I") (by decide +kernel)
  have k4 := hts (.fieldLink RX4 13 "OhmNets$OneWire" "first" "I") (by decide +kernel)
  have k5 := hts (.fieldLink RX4 16 "OhmNets$OneWire" "second" "I") (by decide +kernel)
  refine lv_aload_n hx hb dX4_init_0 rfl (lv_at hl 0 rfl) ?_
  refine W.objInit hx hb hown k0 k1 k2 rfl (by rw [hml]; exact hl.1) rfl dX4_init_1 (Nat.le_of_ble_eq_true rfl) (Nat.le_of_ble_eq_true rfl) ?_
  refine W.eq (g2 := F0 m 4 ls []) rfl ?_
  refine lv_aload_n hx hb dX4_init_4 rfl (lv_at hl 0 rfl) ?_
  refine lv_iload_n hx hb dX4_init_5 rfl (lv_at hl 1 rfl) ?_
  refine j_putF (ci := 3) (v := .int a1) (ty := .int) (C := RX2) (T := TX2) (N := 4) (w' := [(h0, .inr (3, [.int a1, .int v1, .int v2, .int vq]))]) hx hb hts inX2 tyX2 tyX2_ok nmX2 hown hK hS 0 rfl rfl 0 (by decide) k3 (fun _ h => h) rfl C.2.2.2 rfl (by decide +kernel) rfl rfl (Nat.le_of_ble_eq_true rfl) rfl dX4_init_6 (fun H locs hS => ?_)
  refine lv_aload_n hx hb dX4_init_9 rfl (lv_at hl 0 rfl) ?_
  refine lv_iload_n hx hb dX4_init_10 rfl (lv_at hl 2 rfl) ?_
  refine j_putF (ci := 3) (v := .int a2) (ty := .int) (C := RX2) (T := TX2) (N := 4) (w' := [(h0, .inr (3, [.int a1, .int a2, .int v2, .int vq]))]) hx hb hts inX2 tyX2 tyX2_ok nmX2 hown hK hS 0 rfl rfl 1 (by decide) k4 (fun _ h => h) rfl C.2.2.2 rfl (by decide +kernel) rfl rfl (Nat.le_of_ble_eq_true rfl) rfl dX4_init_11 (fun H locs hS => ?_)
  refine lv_aload_n hx hb dX4_init_14 rfl (lv_at hl 0 rfl) ?_
  refine lv_iload_n hx hb dX4_init_15 rfl (lv_at hl 3 rfl) ?_
  refine j_putF (ci := 3) (v := .int a3) (ty := .int) (C := RX2) (T := TX2) (N := 4) (w' := [(h0, .inr (3, [.int a1, .int a2, .int a3, .int vq]))]) hx hb hts inX2 tyX2 tyX2_ok nmX2 hown hK hS 0 rfl rfl 2 (by decide) k5 (fun _ h => h) rfl C.2.2.2 rfl (by decide +kernel) rfl rfl (Nat.le_of_ble_eq_true rfl) rfl dX4_init_16 (fun H locs hS => ?_)
  obtain rfl := jsm hE
  exact ret hS dX4_init_19
def fX4_init_8 (a1 : Int32) (a2 : Int32) (a3 : Int32) : Option (Int32 × Int32 × Int32) :=
  some (a1, a2, a3)
abbrev rmX4_init_8 : Room := { frames := 1, cells := 0, slots := 0, locals := 12 }
set_option maxHeartbeats 4000000 in
set_option maxRecDepth 100000 in
theorem tX4_init_8 (l : Launch) (D : va_G) (h0 : Nat) (cI cJ cZ cW cS cO cG : ClassId) (vq : Int32) (vk : Int32) (v1 : Int32) (v2 : Int32) (vm : Int32) (a1 : Int32) (a2 : Int32) (a3 : Int32) {o : Int32 × Int32 × Int32} (hE : fX4_init_8 a1 a2 a3 = some o) : JMv l yX4_init wsX4_init rmX4_init_8 D vwCl (TY cI cJ cZ cW cS cO cG) [.ref h0, .int a1, .int a2, .int a3] ([(h0, .inr (9, [.int vq, .int vk, .int v1, .int v2, .int vm]))]) ([(h0, .inr (9, [.int vq, .int o.1, .int o.2.1, .int o.2.2, .int vm]))]) := by
  refine JMv.of (cc := cX4_init) (maxL := 4) (by decide) rfl (Nat.le_of_ble_eq_true rfl) ?_
  intro p e s m args below meth c A ls Q C hK hA ret hS hl
  obtain ⟨⟨hx, hb, hml, hown, hts⟩, -⟩ := id C
  have hl : lv_has ls 4 [(0, .ref h0), (1, .int a1), (2, .int a2), (3, .int a3)] := hl
  have inX8 : ∀ w ∈ u_ws RX8 TX8 5, w ∈ wsX4_init := by decide +kernel
  have k0 := hts (.methodLink RX4 1 objectInit) (by decide +kernel)
  have k1 := hts (.instanceMethod objectInit) (by decide +kernel)
  have k2 := hts (.code objectInit ⟨#[0xb1]⟩ 1 none) (by decide +kernel)
  have k3 := hts (.fieldLink RX4 7 "OhmNets$OneWire" "kind" "I") (by decide +kernel)
  have k4 := hts (.fieldLink RX4 13 "OhmNets$OneWire" "first" "I") (by decide +kernel)
  have k5 := hts (.fieldLink RX4 16 "OhmNets$OneWire" "second" "I") (by decide +kernel)
  refine lv_aload_n hx hb dX4_init_0 rfl (lv_at hl 0 rfl) ?_
  refine W.objInit hx hb hown k0 k1 k2 rfl (by rw [hml]; exact hl.1) rfl dX4_init_1 (Nat.le_of_ble_eq_true rfl) (Nat.le_of_ble_eq_true rfl) ?_
  refine W.eq (g2 := F0 m 4 ls []) rfl ?_
  refine lv_aload_n hx hb dX4_init_4 rfl (lv_at hl 0 rfl) ?_
  refine lv_iload_n hx hb dX4_init_5 rfl (lv_at hl 1 rfl) ?_
  refine j_putF (ci := 9) (v := .int a1) (ty := .int) (C := RX8) (T := TX8) (N := 5) (w' := [(h0, .inr (9, [.int vq, .int a1, .int v1, .int v2, .int vm]))]) hx hb hts inX8 tyX8 tyX8_ok nmX8 hown hK hS 0 rfl rfl 1 (by decide) k3 (fun _ h => h) rfl C.2.2.2 rfl (by decide +kernel) rfl rfl (Nat.le_of_ble_eq_true rfl) rfl dX4_init_6 (fun H locs hS => ?_)
  refine lv_aload_n hx hb dX4_init_9 rfl (lv_at hl 0 rfl) ?_
  refine lv_iload_n hx hb dX4_init_10 rfl (lv_at hl 2 rfl) ?_
  refine j_putF (ci := 9) (v := .int a2) (ty := .int) (C := RX8) (T := TX8) (N := 5) (w' := [(h0, .inr (9, [.int vq, .int a1, .int a2, .int v2, .int vm]))]) hx hb hts inX8 tyX8 tyX8_ok nmX8 hown hK hS 0 rfl rfl 2 (by decide) k4 (fun _ h => h) rfl C.2.2.2 rfl (by decide +kernel) rfl rfl (Nat.le_of_ble_eq_true rfl) rfl dX4_init_11 (fun H locs hS => ?_)
  refine lv_aload_n hx hb dX4_init_14 rfl (lv_at hl 0 rfl) ?_
  refine lv_iload_n hx hb dX4_init_15 rfl (lv_at hl 3 rfl) ?_
  refine j_putF (ci := 9) (v := .int a3) (ty := .int) (C := RX8) (T := TX8) (N := 5) (w' := [(h0, .inr (9, [.int vq, .int a1, .int a2, .int a3, .int vm]))]) hx hb hts inX8 tyX8 tyX8_ok nmX8 hown hK hS 0 rfl rfl 3 (by decide) k5 (fun _ h => h) rfl C.2.2.2 rfl (by decide +kernel) rfl rfl (Nat.le_of_ble_eq_true rfl) rfl dX4_init_16 (fun H locs hS => ?_)
  obtain rfl := jsm hE
  exact ret hS dX4_init_19
def fX2_init_2 (a1 : Int32) (a2 : Int32) (a3 : Int32) (a4 : Int32) : Option (Int32 × Int32 × Int32 × Int32) :=
  (fX4_init_2 a1 a2 a3).bind (fun o_1 => 
  some (o_1.1, o_1.2.1, o_1.2.2, a4))
abbrev rmX2_init_2 : Room := { frames := 2, cells := 0, slots := 0, locals := 35 }
set_option maxHeartbeats 4000000 in
set_option maxRecDepth 100000 in
theorem tX2_init_2 (l : Launch) (D : va_G) (h0 : Nat) (cI cJ cZ cW cS cO cG : ClassId) (vk : Int32) (v1 : Int32) (v2 : Int32) (vq : Int32) (a1 : Int32) (a2 : Int32) (a3 : Int32) (a4 : Int32) {o : Int32 × Int32 × Int32 × Int32} (hE : fX2_init_2 a1 a2 a3 a4 = some o) : JMv l yX2_init wsX2_init rmX2_init_2 D vwCl (TY cI cJ cZ cW cS cO cG) [.ref h0, .int a1, .int a2, .int a3, .int a4] ([(h0, .inr (3, [.int vk, .int v1, .int v2, .int vq]))]) ([(h0, .inr (3, [.int o.1, .int o.2.1, .int o.2.2.1, .int o.2.2.2]))]) := by
  refine JMv.of (cc := cX2_init) (maxL := 5) (by decide) rfl (Nat.le_of_ble_eq_true rfl) ?_
  intro p e s m args below meth c A ls Q C hK hA ret hS hl
  obtain ⟨⟨hx, hb, hml, hown, hts⟩, -⟩ := id C
  have hl : lv_has ls 5 [(0, .ref h0), (1, .int a1), (2, .int a2), (3, .int a3), (4, .int a4)] := hl
  have inX2 : ∀ w ∈ u_ws RX2 TX2 4, w ∈ wsX2_init := by decide +kernel
  have k0 := hts (.initialized RX4) (by decide +kernel)
  have k1 := hts (.methodLink RX2 1 yX4_init) (by decide +kernel)
  have k2 := hts (.instanceMethod yX4_init) (by decide +kernel)
  have k3 := hts (.fieldLink RX2 7 "OhmNets$LongWire" "k" "I") (by decide +kernel)
  refine lv_aload_n hx hb dX2_init_0 rfl (lv_at hl 0 rfl) ?_
  refine lv_iload_n hx hb dX2_init_1 rfl (lv_at hl 1 rfl) ?_
  refine lv_iload_n hx hb dX2_init_2 rfl (lv_at hl 2 rfl) ?_
  refine lv_iload_n hx hb dX2_init_3 rfl (lv_at hl 3 rfl) ?_
  obtain ⟨o_1, h_2, hE⟩ := jbd hE
  refine j_Iv (As := [.int a1, .int a2, .int a3]) (rest := []) (wf := [(h0, .inr (3, [.int o_1.1, .int o_1.2.1, .int o_1.2.2, .int vq]))]) C hK hS (jcut_all hA hS) (tX4_init_2 l D h0 cI cJ cZ cW cS cO cG vk v1 v2 vq a1 a2 a3 h_2) (cwI 3 hts gX2_init_X4_init rfl rfl rfl k0 k1 k2 rfl (by decide +kernel) ⟨Nat.le_of_ble_eq_true rfl, Nat.le_of_ble_eq_true rfl⟩) rfl hl.1 rfl (Nat.le_of_ble_eq_true rfl) dX2_init_4 ⟨Nat.zero_le _, Nat.zero_le _⟩ (fun H locs hS => ?_)
  refine lv_aload_n hx hb dX2_init_7 rfl (lv_at hl 0 rfl) ?_
  refine lv_iload hx hb dX2_init_8 (lv_at hl 4 rfl) ?_
  refine j_putF (ci := 3) (v := .int a4) (ty := .int) (C := RX2) (T := TX2) (N := 4) (w' := [(h0, .inr (3, [.int o_1.1, .int o_1.2.1, .int o_1.2.2, .int a4]))]) hx hb hts inX2 tyX2 tyX2_ok nmX2 hown hK hS 0 rfl rfl 3 (by decide) k3 (fun _ h => h) rfl C.2.2.2 rfl (by decide +kernel) rfl rfl (Nat.le_of_ble_eq_true rfl) rfl dX2_init_10 (fun H locs hS => ?_)
  obtain rfl := jsm hE
  exact ret hS dX2_init_13
def fX2_init_8 (a1 : Int32) (a2 : Int32) (a3 : Int32) (a4 : Int32) : Option (Int32 × Int32 × Int32 × Int32) :=
  (fX4_init_8 a1 a2 a3).bind (fun o_1 => 
  some (a4, o_1.1, o_1.2.1, o_1.2.2))
abbrev rmX2_init_8 : Room := { frames := 2, cells := 0, slots := 0, locals := 35 }
set_option maxHeartbeats 4000000 in
set_option maxRecDepth 100000 in
theorem tX2_init_8 (l : Launch) (D : va_G) (h0 : Nat) (cI cJ cZ cW cS cO cG : ClassId) (vq : Int32) (vk : Int32) (v1 : Int32) (v2 : Int32) (vm : Int32) (a1 : Int32) (a2 : Int32) (a3 : Int32) (a4 : Int32) {o : Int32 × Int32 × Int32 × Int32} (hE : fX2_init_8 a1 a2 a3 a4 = some o) : JMv l yX2_init wsX2_init rmX2_init_8 D vwCl (TY cI cJ cZ cW cS cO cG) [.ref h0, .int a1, .int a2, .int a3, .int a4] ([(h0, .inr (9, [.int vq, .int vk, .int v1, .int v2, .int vm]))]) ([(h0, .inr (9, [.int o.1, .int o.2.1, .int o.2.2.1, .int o.2.2.2, .int vm]))]) := by
  refine JMv.of (cc := cX2_init) (maxL := 5) (by decide) rfl (Nat.le_of_ble_eq_true rfl) ?_
  intro p e s m args below meth c A ls Q C hK hA ret hS hl
  obtain ⟨⟨hx, hb, hml, hown, hts⟩, -⟩ := id C
  have hl : lv_has ls 5 [(0, .ref h0), (1, .int a1), (2, .int a2), (3, .int a3), (4, .int a4)] := hl
  have inX8 : ∀ w ∈ u_ws RX8 TX8 5, w ∈ wsX2_init := by decide +kernel
  have k0 := hts (.initialized RX4) (by decide +kernel)
  have k1 := hts (.methodLink RX2 1 yX4_init) (by decide +kernel)
  have k2 := hts (.instanceMethod yX4_init) (by decide +kernel)
  have k3 := hts (.fieldLink RX2 7 "OhmNets$LongWire" "k" "I") (by decide +kernel)
  refine lv_aload_n hx hb dX2_init_0 rfl (lv_at hl 0 rfl) ?_
  refine lv_iload_n hx hb dX2_init_1 rfl (lv_at hl 1 rfl) ?_
  refine lv_iload_n hx hb dX2_init_2 rfl (lv_at hl 2 rfl) ?_
  refine lv_iload_n hx hb dX2_init_3 rfl (lv_at hl 3 rfl) ?_
  obtain ⟨o_1, h_2, hE⟩ := jbd hE
  refine j_Iv (As := [.int a1, .int a2, .int a3]) (rest := []) (wf := [(h0, .inr (9, [.int vq, .int o_1.1, .int o_1.2.1, .int o_1.2.2, .int vm]))]) C hK hS (jcut_all hA hS) (tX4_init_8 l D h0 cI cJ cZ cW cS cO cG vq vk v1 v2 vm a1 a2 a3 h_2) (cwI 3 hts gX2_init_X4_init rfl rfl rfl k0 k1 k2 rfl (by decide +kernel) ⟨Nat.le_of_ble_eq_true rfl, Nat.le_of_ble_eq_true rfl⟩) rfl hl.1 rfl (Nat.le_of_ble_eq_true rfl) dX2_init_4 ⟨Nat.zero_le _, Nat.zero_le _⟩ (fun H locs hS => ?_)
  refine lv_aload_n hx hb dX2_init_7 rfl (lv_at hl 0 rfl) ?_
  refine lv_iload hx hb dX2_init_8 (lv_at hl 4 rfl) ?_
  refine j_putF (ci := 9) (v := .int a4) (ty := .int) (C := RX8) (T := TX8) (N := 5) (w' := [(h0, .inr (9, [.int a4, .int o_1.1, .int o_1.2.1, .int o_1.2.2, .int vm]))]) hx hb hts inX8 tyX8 tyX8_ok nmX8 hown hK hS 0 rfl rfl 0 (by decide) k3 (fun _ h => h) rfl C.2.2.2 rfl (by decide +kernel) rfl rfl (Nat.le_of_ble_eq_true rfl) rfl dX2_init_10 (fun H locs hS => ?_)
  obtain rfl := jsm hE
  exact ret hS dX2_init_13
def fX8_init_8 (a1 : Int32) (a2 : Int32) (a3 : Int32) (a4 : Int32) (a5 : Int32) : Option (Int32 × Int32 × Int32 × Int32 × Int32) :=
  (fX2_init_8 a1 a2 a3 a4).bind (fun o_1 => 
  some (o_1.1, o_1.2.1, o_1.2.2.1, o_1.2.2.2, a5))
abbrev rmX8_init_8 : Room := { frames := 3, cells := 0, slots := 0, locals := 59 }
set_option maxHeartbeats 4000000 in
set_option maxRecDepth 100000 in
theorem tX8_init_8 (l : Launch) (D : va_G) (h0 : Nat) (cI cJ cZ cW cS cO cG : ClassId) (vq : Int32) (vk : Int32) (v1 : Int32) (v2 : Int32) (vm : Int32) (a1 : Int32) (a2 : Int32) (a3 : Int32) (a4 : Int32) (a5 : Int32) {o : Int32 × Int32 × Int32 × Int32 × Int32} (hE : fX8_init_8 a1 a2 a3 a4 a5 = some o) : JMv l yX8_init wsX8_init rmX8_init_8 D vwCl (TY cI cJ cZ cW cS cO cG) [.ref h0, .int a1, .int a2, .int a3, .int a4, .int a5] ([(h0, .inr (9, [.int vq, .int vk, .int v1, .int v2, .int vm]))]) ([(h0, .inr (9, [.int o.1, .int o.2.1, .int o.2.2.1, .int o.2.2.2.1, .int o.2.2.2.2]))]) := by
  refine JMv.of (cc := cX8_init) (maxL := 6) (by decide) rfl (Nat.le_of_ble_eq_true rfl) ?_
  intro p e s m args below meth c A ls Q C hK hA ret hS hl
  obtain ⟨⟨hx, hb, hml, hown, hts⟩, -⟩ := id C
  have hl : lv_has ls 6 [(0, .ref h0), (1, .int a1), (2, .int a2), (3, .int a3), (4, .int a4), (5, .int a5)] := hl
  have inX8 : ∀ w ∈ u_ws RX8 TX8 5, w ∈ wsX8_init := by decide +kernel
  have k0 := hts (.initialized RX2) (by decide +kernel)
  have k1 := hts (.methodLink RX8 1 yX2_init) (by decide +kernel)
  have k2 := hts (.instanceMethod yX2_init) (by decide +kernel)
  have k3 := hts (.fieldLink RX8 7 "OhmNets$ThickWire" "m" "I") (by decide +kernel)
  refine lv_aload_n hx hb dX8_init_0 rfl (lv_at hl 0 rfl) ?_
  refine lv_iload_n hx hb dX8_init_1 rfl (lv_at hl 1 rfl) ?_
  refine lv_iload_n hx hb dX8_init_2 rfl (lv_at hl 2 rfl) ?_
  refine lv_iload_n hx hb dX8_init_3 rfl (lv_at hl 3 rfl) ?_
  refine lv_iload hx hb dX8_init_4 (lv_at hl 4 rfl) ?_
  obtain ⟨o_1, h_2, hE⟩ := jbd hE
  refine j_Iv (As := [.int a1, .int a2, .int a3, .int a4]) (rest := []) (wf := [(h0, .inr (9, [.int o_1.1, .int o_1.2.1, .int o_1.2.2.1, .int o_1.2.2.2, .int vm]))]) C hK hS (jcut_all hA hS) (tX2_init_8 l D h0 cI cJ cZ cW cS cO cG vq vk v1 v2 vm a1 a2 a3 a4 h_2) (cwI 4 hts gX8_init_X2_init rfl rfl rfl k0 k1 k2 rfl (by decide +kernel) ⟨Nat.le_of_ble_eq_true rfl, Nat.le_of_ble_eq_true rfl⟩) rfl hl.1 rfl (Nat.le_of_ble_eq_true rfl) dX8_init_6 ⟨Nat.zero_le _, Nat.zero_le _⟩ (fun H locs hS => ?_)
  refine lv_aload_n hx hb dX8_init_9 rfl (lv_at hl 0 rfl) ?_
  refine lv_iload hx hb dX8_init_10 (lv_at hl 5 rfl) ?_
  refine j_putF (ci := 9) (v := .int a5) (ty := .int) (C := RX8) (T := TX8) (N := 5) (w' := [(h0, .inr (9, [.int o_1.1, .int o_1.2.1, .int o_1.2.2.1, .int o_1.2.2.2, .int a5]))]) hx hb hts inX8 tyX8 tyX8_ok nmX8 hown hK hS 0 rfl rfl 4 (by decide) k3 (fun _ h => h) rfl C.2.2.2 rfl (by decide +kernel) rfl rfl (Nat.le_of_ble_eq_true rfl) rfl dX8_init_12 (fun H locs hS => ?_)
  obtain rfl := jsm hE
  exact ret hS dX8_init_15
