/-- a world with THE NET in it: P, then the net's cells, then S -/
def CZ (D : va_G) (cl : List vw_C) (A : Nat → Prop) (Np : va_W → Prop) (P S : va_W) (H0 H : Heap) (locs : List Loc) : Prop := ∃ wN, Np wN ∧ jS D cl A (P ++ (wN ++ S)) H0 H locs
theorem cperm {P N S : va_W} : (P ++ (N ++ S)).Perm (N ++ (P ++ S)) := by
  rw [← List.append_assoc, ← List.append_assoc]
  exact List.perm_append_comm.append_right S
theorem NP_head {n0 n1 n2 n3 n4 n5 n6 : Nat} {cI cJ cW cG : ClassId} {size : Int32} {wk w1 w2 wq wm : Nat → Int32} {flows : Nat → Int64} {mu ml : Int64} {nb : Nat → Int32} {lines : Nat → Nat → Int64} {lineOf : Nat → Int32} {lc : Int32} {w : va_W} (h : NP n0 n1 n2 n3 n4 n5 n6 cI cJ cW cG size wk w1 w2 wq wm flows mu ml nb lines lineOf lc w) : w[0]? = some (n0, .inr (4, [.ref n1, .ref n2, .int size, .ref n3, .ref n4, .ref n5, .ref n6, .int lc])) := by
  obtain ⟨-, L, wa, ga, f, rfl, -, -⟩ := h
  rfl

theorem NP_head2 {n0 n1 n2 n3 n4 n5 n6 : Nat} {cI cJ cW cG : ClassId} {size : Int32} {wk w1 w2 wq wm : Nat → Int32} {flows : Nat → Int64} {mu ml : Int64} {nb : Nat → Int32} {lines : Nat → Nat → Int64} {lineOf : Nat → Int32} {lc : Int32} {w S : va_W} (h : NP n0 n1 n2 n3 n4 n5 n6 cI cJ cW cG size wk w1 w2 wq wm flows mu ml nb lines lineOf lc w) : ([] ++ (w ++ S))[0]? = some (n0, .inr (4, [.ref n1, .ref n2, .int size, .ref n3, .ref n4, .ref n5, .ref n6, .int lc])) := by
  obtain ⟨-, L, wa, ga, f, rfl, -, -⟩ := h
  rfl

def fX3_solveBetween (a1 : Int32) (a2 : Int32) (size : Int32) (w1 : Nat → Int32) (w2 : Nat → Int32) (flows : Nat → Int64) (lines : Nat → Nat → Int64) (lineOf : Nat → Int32) (lc : Int32) : Option ((Nat → Nat → Int64) × (Nat → Int32) × Int32 × Int64 × Int64) :=
  if a1 = a2 then
  (fX0_set (0 : Int64) (1 : Int64)).bind (fun o_11 => 
  some (lines, lineOf, lc, o_11.1, o_11.2))
  else
  (fX3_solve a1 a2 size w1 w2 flows lines lineOf).bind (fun o_2 => 
  jlet o_2.1 (fun x_4 => 
  (fX3_numberOf a1 o_2.2.1 o_2.2.2.1 o_2.2.2.2).bind (fun o_5 => 
  (fX0_set ((12 : Int64) * o_5) x_4).bind (fun o_7 => 
  (fX0_reduce o_7.1 o_7.2).bind (fun o_9 => 
  some (o_2.2.1, o_2.2.2.1, o_2.2.2.2, o_9.1, o_9.2))))))
abbrev rmX3_solveBetween : Room := { frames := 3, cells := 0, slots := 0, locals := 78 }
set_option maxHeartbeats 4000000 in
set_option maxRecDepth 100000 in
theorem tX3_solveBetween (l : Launch) (D : va_G) (n0 n1 n2 n3 n4 n5 n6 h : Nat) (cI cJ cZ cW cS cO cG : ClassId) (size : Int32) (wk : Nat → Int32) (w1 : Nat → Int32) (w2 : Nat → Int32) (wq : Nat → Int32) (wm : Nat → Int32) (flows : Nat → Int64) (mu : Int64) (ml : Int64) (nb : Nat → Int32) (lines : Nat → Nat → Int64) (lineOf : Nat → Int32) (lc : Int32) (ru : Int64) (rl : Int64) (a1 : Int32) (a2 : Int32) {o : (Nat → Nat → Int64) × (Nat → Int32) × Int32 × Int64 × Int64} (hE : fX3_solveBetween a1 a2 size w1 w2 flows lines lineOf lc = some o) {wN : va_W} (hw : NP n0 n1 n2 n3 n4 n5 n6 cI cJ cW cG size wk w1 w2 wq wm flows mu ml nb lines lineOf lc wN) : JQv l yX3_solveBetween wsX3_solveBetween rmX3_solveBetween D vwCl (TY cI cJ cZ cW cS cO cG) [.ref n0, .int a1, .int a2, .ref h] ([] ++ (wN ++ [(h, .inr (1, [.long ru, .long rl]))])) (fun v => ∃ wM, NP n0 n1 n2 n3 n4 n5 n6 cI cJ cW cG size wk w1 w2 wq wm flows mu ml nb o.1 o.2.1 o.2.2.1 wM ∧ v = [] ++ (wM ++ [(h, .inr (1, [.long o.2.2.2.1, .long o.2.2.2.2]))])) := by
  haveI hdec : DecidableEq (Nat × va_E) := Classical.typeDecidableEq _
  refine JQv.of (cc := cX3_solveBetween) (maxL := 6) (by decide) rfl (Nat.le_of_ble_eq_true rfl) ?_
  intro p e s m args below meth c A ls Q C hK hA ret hS hl
  obtain ⟨⟨hx, hb, hml, hown, hts⟩, -⟩ := id C
  have hl : lv_has ls 6 [(0, .ref n0), (1, .int a1), (2, .int a2), (3, .ref h)] := hl
  have k0 := hts (.constantLong RX3 59 (12)) (by decide +kernel)
  refine lv_iload_n hx hb dX3_solveBetween_0 rfl (lv_at hl 1 rfl) ?_
  refine lv_iload_n hx hb dX3_solveBetween_1 rfl (lv_at hl 2 rfl) ?_
  refine lv_icmp_ne (tgt := 12) hx hb dX3_solveBetween_2 (by decide) (fun c_1 => ?_) (fun c_1 => ?_)
  · have hE := jf hE c_1
    refine lv_aload_n hx hb dX3_solveBetween_12 rfl (lv_at hl 0 rfl) ?_
    refine lv_iload_n hx hb dX3_solveBetween_13 rfl (lv_at hl 1 rfl) ?_
    refine lv_iload_n hx hb dX3_solveBetween_14 rfl (lv_at hl 2 rfl) ?_
    obtain ⟨o_2, h_3, hE⟩ := jbd hE
    refine j_QVlp (As := [.int a1, .int a2]) (rest := []) (vc := (RX3, TX3, 8)) C hK hA hS cperm (tX3_solve l D n0 n1 n2 n3 n4 n5 n6 cI cJ cZ cW cS cO cG size wk w1 w2 wq wm flows mu ml nb lines lineOf lc a1 a2 h_3 hw) (cwV 2 hts gX3_solveBetween_X3_solve rfl rfl rfl (by decide +kernel) ⟨Nat.le_of_ble_eq_true rfl, Nat.le_of_ble_eq_true rfl⟩) (q0 := 0) (NP_head hw) (ci := 4) rfl rfl hl.1 rfl (Nat.le_of_ble_eq_true rfl) dX3_solveBetween_15 ⟨Nat.zero_le _, Nat.zero_le _⟩ (fun r wN H locs hp hS => ?_)
    obtain ⟨er, hw⟩ := hp
    subst r
    have hS := jS_perm cperm.symm hS
    refine lv_topl (fun x_4 ex_4 => ?_)
    have hE := jlv hE ex_4
    refine lv_lstore (lv' := [(4, .long x_4), (0, .ref n0), (1, .int a1), (2, .int a2), (3, .ref h)]) hx hb dX3_solveBetween_18 hl (by decide) rfl (fun ls hl => ?_)
    refine lv_aload_n hx hb dX3_solveBetween_20 rfl (lv_at hl 4 rfl) ?_
    refine lv_ldc2 (v := (12 : Int64)) hx hb hown k0 dX3_solveBetween_21 ?_
    refine lv_aload_n hx hb dX3_solveBetween_24 rfl (lv_at hl 1 rfl) ?_
    refine lv_iload_n hx hb dX3_solveBetween_25 rfl (lv_at hl 2 rfl) ?_
    obtain ⟨o_5, h_6, hE⟩ := jbd hE
    refine j_QVlp (As := [.int a1]) (rest := [.long (12 : Int64), .ref h]) (vc := (RX3, TX3, 8)) C hK hA hS cperm (tX3_numberOf l D n0 n1 n2 n3 n4 n5 n6 cI cJ cZ cW cS cO cG size wk w1 w2 wq wm flows mu ml nb o_2.2.1 o_2.2.2.1 o_2.2.2.2 a1 h_6 hw) (cwV 1 hts gX3_solveBetween_X3_numberOf rfl rfl rfl (by decide +kernel) ⟨Nat.le_of_ble_eq_true rfl, Nat.le_of_ble_eq_true rfl⟩) (q0 := 0) (NP_head hw) (ci := 4) rfl rfl hl.1 rfl (Nat.le_of_ble_eq_true rfl) dX3_solveBetween_26 ⟨Nat.zero_le _, Nat.zero_le _⟩ (fun r wN H locs hp hS => ?_)
    obtain ⟨er, hw⟩ := hp
    subst r
    have hS := jS_perm cperm.symm hS
    refine lv_lmul hx hb dX3_solveBetween_29 ?_
    refine lv_lload hx hb dX3_solveBetween_30 (lv_at hl 0 rfl) ?_
    obtain ⟨o_7, h_8, hE⟩ := jbd hE
    refine j_Vv (As := [.long ((12 : Int64) * o_5), .long x_4]) (rest := []) (wc := [(h, .inr (1, [.long ru, .long rl]))]) (w1 := [(h, .inr (1, [.long o_7.1, .long o_7.2]))]) (wf := [(h, .inr (1, [.long o_7.1, .long o_7.2]))] ++ (wN ++ [])) (vc := (RX0, TX0, 2)) C hK hS (jcut_perm (wr := wN ++ []) hA hS (List.perm_iff_count.mpr (fun z => by simp only [List.count_append, List.count_cons, List.count_nil]; ac_rfl))) (tX0_set l D h cI cJ cZ cW cS cO cG ru rl ((12 : Int64) * o_5) x_4 h_8) (cwV 2 hts gX3_solveBetween_X0_set rfl rfl rfl (by decide +kernel) ⟨Nat.le_of_ble_eq_true rfl, Nat.le_of_ble_eq_true rfl⟩) (q0 := 0) rfl (ci := 1) rfl rfl hl.1 rfl (Nat.le_of_ble_eq_true rfl) dX3_solveBetween_32 ⟨Nat.zero_le _, Nat.zero_le _⟩ (fun H locs hS => ?_)
    have hS : jS D vwCl A ([] ++ (wN ++ [(h, .inr (1, [.long o_7.1, .long o_7.2]))])) s.heap H locs := jS_perm (List.perm_iff_count.mpr (fun z => by simp only [List.count_append, List.count_cons, List.count_nil]; ac_rfl)) hS
    refine lv_aload_n hx hb dX3_solveBetween_35 rfl (lv_at hl 4 rfl) ?_
    obtain ⟨o_9, h_10, hE⟩ := jbd hE
    refine j_Vv (As := []) (rest := []) (wc := [(h, .inr (1, [.long o_7.1, .long o_7.2]))]) (w1 := [(h, .inr (1, [.long o_9.1, .long o_9.2]))]) (wf := [(h, .inr (1, [.long o_9.1, .long o_9.2]))] ++ (wN ++ [])) (vc := (RX0, TX0, 2)) C hK hS (jcut_perm (wr := wN ++ []) hA hS (List.perm_iff_count.mpr (fun z => by simp only [List.count_append, List.count_cons, List.count_nil]; ac_rfl))) (tX0_reduce l D h cI cJ cZ cW cS cO cG o_7.1 o_7.2 h_10) (cwV 0 hts gX3_solveBetween_X0_reduce rfl rfl rfl (by decide +kernel) ⟨Nat.le_of_ble_eq_true rfl, Nat.le_of_ble_eq_true rfl⟩) (q0 := 0) rfl (ci := 1) rfl rfl hl.1 rfl (Nat.le_of_ble_eq_true rfl) dX3_solveBetween_36 ⟨Nat.zero_le _, Nat.zero_le _⟩ (fun H locs hS => ?_)
    have hS : jS D vwCl A ([] ++ (wN ++ [(h, .inr (1, [.long o_9.1, .long o_9.2]))])) s.heap H locs := jS_perm (List.perm_iff_count.mpr (fun z => by simp only [List.count_append, List.count_cons, List.count_nil]; ac_rfl)) hS
    obtain rfl := jsm hE
    exact ret ⟨_, hw, rfl⟩ hS dX3_solveBetween_39
  · have hE := jt hE c_1
    refine lv_aload_n hx hb dX3_solveBetween_5 rfl (lv_at hl 3 rfl) ?_
    refine lv_lconst (v := (0 : Int64)) hx hb dX3_solveBetween_6 (by decide) ?_
    refine lv_lconst (v := (1 : Int64)) hx hb dX3_solveBetween_7 (by decide) ?_
    obtain ⟨o_11, h_12, hE⟩ := jbd hE
    refine j_Vv (As := [.long (0 : Int64), .long (1 : Int64)]) (rest := []) (wc := [(h, .inr (1, [.long ru, .long rl]))]) (w1 := [(h, .inr (1, [.long o_11.1, .long o_11.2]))]) (wf := [(h, .inr (1, [.long o_11.1, .long o_11.2]))] ++ (wN ++ [])) (vc := (RX0, TX0, 2)) C hK hS (jcut_perm (wr := wN ++ []) hA hS (List.perm_iff_count.mpr (fun z => by simp only [List.count_append, List.count_cons, List.count_nil]; ac_rfl))) (tX0_set l D h cI cJ cZ cW cS cO cG ru rl (0 : Int64) (1 : Int64) h_12) (cwV 2 hts gX3_solveBetween_X0_set rfl rfl rfl (by decide +kernel) ⟨Nat.le_of_ble_eq_true rfl, Nat.le_of_ble_eq_true rfl⟩) (q0 := 0) rfl (ci := 1) rfl rfl hl.1 rfl (Nat.le_of_ble_eq_true rfl) dX3_solveBetween_8 ⟨Nat.zero_le _, Nat.zero_le _⟩ (fun H locs hS => ?_)
    have hS : jS D vwCl A ([] ++ (wN ++ [(h, .inr (1, [.long o_11.1, .long o_11.2]))])) s.heap H locs := jS_perm (List.perm_iff_count.mpr (fun z => by simp only [List.count_append, List.count_cons, List.count_nil]; ac_rfl)) hS
    obtain rfl := jsm hE
    exact ret ⟨_, hw, rfl⟩ hS dX3_solveBetween_11
def fX3_solveThrough (a1 : Int32) (a2 : Int32) (a3 : Int32) (size : Int32) (w1 : Nat → Int32) (w2 : Nat → Int32) (flows : Nat → Int64) (lines : Nat → Nat → Int64) (lineOf : Nat → Int32) : Option ((Nat → Nat → Int64) × (Nat → Int32) × Int32 × Int64 × Int64) :=
  (fX3_solve a2 a3 size w1 w2 flows lines lineOf).bind (fun o_1 => 
  jlet o_1.1 (fun x_3 => 
  if jok a1 size.toNatClampNeg then
  (fX3_numberOf (w1 a1.toNatClampNeg) o_1.2.1 o_1.2.2.1 o_1.2.2.2).bind (fun o_6 => 
  (fX3_numberOf (w2 a1.toNatClampNeg) o_1.2.1 o_1.2.2.1 o_1.2.2.2).bind (fun o_9 => 
  jlet (o_6 - o_9) (fun x_11 => 
  if jok a1 12 then
  (fX0_set (x_11 * (flows a1.toNatClampNeg)) x_3).bind (fun o_13 => 
  (fX0_reduce o_13.1 o_13.2).bind (fun o_15 => 
  some (o_1.2.1, o_1.2.2.1, o_1.2.2.2, o_15.1, o_15.2)))
  else none)))
  else none))
abbrev rmX3_solveThrough : Room := { frames := 3, cells := 0, slots := 0, locals := 78 }
set_option maxHeartbeats 4000000 in
set_option maxRecDepth 100000 in
theorem tX3_solveThrough (l : Launch) (D : va_G) (n0 n1 n2 n3 n4 n5 n6 h : Nat) (cI cJ cZ cW cS cO cG : ClassId) (size : Int32) (wk : Nat → Int32) (w1 : Nat → Int32) (w2 : Nat → Int32) (wq : Nat → Int32) (wm : Nat → Int32) (flows : Nat → Int64) (mu : Int64) (ml : Int64) (nb : Nat → Int32) (lines : Nat → Nat → Int64) (lineOf : Nat → Int32) (lc : Int32) (ru : Int64) (rl : Int64) (a1 : Int32) (a2 : Int32) (a3 : Int32) {o : (Nat → Nat → Int64) × (Nat → Int32) × Int32 × Int64 × Int64} (hE : fX3_solveThrough a1 a2 a3 size w1 w2 flows lines lineOf = some o) {wN : va_W} (hw : NP n0 n1 n2 n3 n4 n5 n6 cI cJ cW cG size wk w1 w2 wq wm flows mu ml nb lines lineOf lc wN) : JQv l yX3_solveThrough wsX3_solveThrough rmX3_solveThrough D vwCl (TY cI cJ cZ cW cS cO cG) [.ref n0, .int a1, .int a2, .int a3, .ref h] ([] ++ (wN ++ [(h, .inr (1, [.long ru, .long rl]))])) (fun v => ∃ wM, NP n0 n1 n2 n3 n4 n5 n6 cI cJ cW cG size wk w1 w2 wq wm flows mu ml nb o.1 o.2.1 o.2.2.1 wM ∧ v = [] ++ (wM ++ [(h, .inr (1, [.long o.2.2.2.1, .long o.2.2.2.2]))])) := by
  haveI hdec : DecidableEq (Nat × va_E) := Classical.typeDecidableEq _
  refine JQv.of (cc := cX3_solveThrough) (maxL := 9) (by decide) rfl (Nat.le_of_ble_eq_true rfl) ?_
  intro p e s m args below meth c A ls Q C hK hA ret hS hl
  obtain ⟨⟨hx, hb, hml, hown, hts⟩, -⟩ := id C
  have hl : lv_has ls 9 [(0, .ref n0), (1, .int a1), (2, .int a2), (3, .int a3), (4, .ref h)] := hl
  have inX3 : ∀ w ∈ u_ws RX3 TX3 8, w ∈ wsX3_solveThrough := by decide +kernel
  have inX4 : ∀ w ∈ u_ws RX4 TX4 3, w ∈ wsX3_solveThrough := by decide +kernel
  have inX2 : ∀ w ∈ u_ws RX2 TX2 4, w ∈ wsX3_solveThrough := by decide +kernel
  have inX8 : ∀ w ∈ u_ws RX8 TX8 5, w ∈ wsX3_solveThrough := by decide +kernel
  have k0 := hts (.fieldLink RX3 11 "OhmNets$Net" "wires" "[LOhmNets$OneWire;") (by decide +kernel)
  have k1 := hts (.fieldLink RX3 64 "OhmNets$OneWire" "first" "I") (by decide +kernel)
  have k2 := hts (.fieldLink RX3 67 "OhmNets$OneWire" "second" "I") (by decide +kernel)
  have k3 := hts (.fieldLink RX3 17 "OhmNets$Net" "flows" "[J") (by decide +kernel)
  refine lv_aload_n hx hb dX3_solveThrough_0 rfl (lv_at hl 0 rfl) ?_
  refine lv_iload_n hx hb dX3_solveThrough_1 rfl (lv_at hl 2 rfl) ?_
  refine lv_iload_n hx hb dX3_solveThrough_2 rfl (lv_at hl 3 rfl) ?_
  obtain ⟨o_1, h_2, hE⟩ := jbd hE
  refine j_QVlp (As := [.int a2, .int a3]) (rest := []) (vc := (RX3, TX3, 8)) C hK hA hS cperm (tX3_solve l D n0 n1 n2 n3 n4 n5 n6 cI cJ cZ cW cS cO cG size wk w1 w2 wq wm flows mu ml nb lines lineOf lc a2 a3 h_2 hw) (cwV 2 hts gX3_solveThrough_X3_solve rfl rfl rfl (by decide +kernel) ⟨Nat.le_of_ble_eq_true rfl, Nat.le_of_ble_eq_true rfl⟩) (q0 := 0) (NP_head hw) (ci := 4) rfl rfl hl.1 rfl (Nat.le_of_ble_eq_true rfl) dX3_solveThrough_3 ⟨Nat.zero_le _, Nat.zero_le _⟩ (fun r wN H locs hp hS => ?_)
  obtain ⟨er, hw⟩ := hp
  subst r
  have hS := jS_perm cperm.symm hS
  refine lv_topl (fun x_3 ex_3 => ?_)
  have hE := jlv hE ex_3
  refine lv_lstore (lv' := [(5, .long x_3), (0, .ref n0), (1, .int a1), (2, .int a2), (3, .int a3), (4, .ref h)]) hx hb dX3_solveThrough_6 hl (by decide) rfl (fun ls hl => ?_)
  refine lv_aload_n hx hb dX3_solveThrough_8 rfl (lv_at hl 1 rfl) ?_
  refine lv_aload_n hx hb dX3_solveThrough_9 rfl (lv_at hl 1 rfl) ?_
  obtain ⟨hN, L, wa, ga, f, hwN, hW, hG⟩ := id hw
  have hS9 := hS
  rw [hwN] at hS9
  refine va_get (D := D) (ci := 4) (v := .ref n1) (C := RX3) (T := TX3) (N := 8) hx hb hts inX3 hown hK hS9.1 0 rfl rfl 0 (by decide) k0 (fun _ h => h) rfl dX3_solveThrough_10 ?_
  refine lv_iload_n hx hb dX3_solveThrough_13 rfl (lv_at hl 2 rfl) ?_
  obtain ⟨b_4, hE⟩ := jgd hE
  have hS9 := hS
  rw [hwN] at hS9
  obtain ⟨a_5, ea_5, ma_5, fa_5⟩ := hW _ b_4.2
  refine jn_ald hx hb hK hS9.1 1 3 rfl rfl (jin.mpr ⟨b_4.1, Nat.lt_of_lt_of_le b_4.2 hN⟩) ea_5 dX3_solveThrough_14 (Or.inl ⟨_, rfl⟩) ?_
  have hS9 := hS
  rw [hwN] at hS9
  refine jn_first (X := NWX n0 n1 n2 n3 n4 n5 n6 cI cJ cW cG wa ga size flows mu ml nb o_1.2.2.1 o_1.2.2.2 ++ ([] ++ [(h, .inr (1, [.long ru, .long rl]))])) hx hb hts inX4 inX2 inX8 hown hK (jS_perm (List.perm_iff_count.mpr (fun z => by simp only [List.count_append, List.count_cons, List.count_nil]; ac_rfl)) hS9).1 ma_5 fa_5 k1 dX3_solveThrough_15 ?_
  obtain ⟨o_6, h_7, hE⟩ := jbd hE
  refine j_QVlp (As := [.int (w1 a1.toNatClampNeg)]) (rest := []) (vc := (RX3, TX3, 8)) C hK hA hS cperm (tX3_numberOf l D n0 n1 n2 n3 n4 n5 n6 cI cJ cZ cW cS cO cG size wk w1 w2 wq wm flows mu ml nb o_1.2.1 o_1.2.2.1 o_1.2.2.2 (w1 a1.toNatClampNeg) h_7 hw) (cwV 1 hts gX3_solveThrough_X3_numberOf rfl rfl rfl (by decide +kernel) ⟨Nat.le_of_ble_eq_true rfl, Nat.le_of_ble_eq_true rfl⟩) (q0 := 0) (NP_head hw) (ci := 4) rfl rfl hl.1 rfl (Nat.le_of_ble_eq_true rfl) dX3_solveThrough_18 ⟨Nat.zero_le _, Nat.zero_le _⟩ (fun r wN H locs hp hS => ?_)
  obtain ⟨er, hw⟩ := hp
  subst r
  have hS := jS_perm cperm.symm hS
  refine lv_aload_n hx hb dX3_solveThrough_21 rfl (lv_at hl 1 rfl) ?_
  refine lv_aload_n hx hb dX3_solveThrough_22 rfl (lv_at hl 1 rfl) ?_
  obtain ⟨hN, L, wa, ga, f, hwN, hW, hG⟩ := id hw
  have hS9 := hS
  rw [hwN] at hS9
  refine va_get (D := D) (ci := 4) (v := .ref n1) (C := RX3) (T := TX3) (N := 8) hx hb hts inX3 hown hK hS9.1 0 rfl rfl 0 (by decide) k0 (fun _ h => h) rfl dX3_solveThrough_23 ?_
  refine lv_iload_n hx hb dX3_solveThrough_26 rfl (lv_at hl 2 rfl) ?_
  have hS9 := hS
  rw [hwN] at hS9
  obtain ⟨a_8, ea_8, ma_8, fa_8⟩ := hW _ b_4.2
  refine jn_ald hx hb hK hS9.1 1 3 rfl rfl (jin.mpr ⟨b_4.1, Nat.lt_of_lt_of_le b_4.2 hN⟩) ea_8 dX3_solveThrough_27 (Or.inl ⟨_, rfl⟩) ?_
  have hS9 := hS
  rw [hwN] at hS9
  refine jn_second (X := NWX n0 n1 n2 n3 n4 n5 n6 cI cJ cW cG wa ga size flows mu ml nb o_1.2.2.1 o_1.2.2.2 ++ ([] ++ [(h, .inr (1, [.long ru, .long rl]))])) hx hb hts inX4 inX2 inX8 hown hK (jS_perm (List.perm_iff_count.mpr (fun z => by simp only [List.count_append, List.count_cons, List.count_nil]; ac_rfl)) hS9).1 ma_8 fa_8 k2 dX3_solveThrough_28 ?_
  obtain ⟨o_9, h_10, hE⟩ := jbd hE
  refine j_QVlp (As := [.int (w2 a1.toNatClampNeg)]) (rest := [.long o_6]) (vc := (RX3, TX3, 8)) C hK hA hS cperm (tX3_numberOf l D n0 n1 n2 n3 n4 n5 n6 cI cJ cZ cW cS cO cG size wk w1 w2 wq wm flows mu ml nb o_1.2.1 o_1.2.2.1 o_1.2.2.2 (w2 a1.toNatClampNeg) h_10 hw) (cwV 1 hts gX3_solveThrough_X3_numberOf rfl rfl rfl (by decide +kernel) ⟨Nat.le_of_ble_eq_true rfl, Nat.le_of_ble_eq_true rfl⟩) (q0 := 0) (NP_head hw) (ci := 4) rfl rfl hl.1 rfl (Nat.le_of_ble_eq_true rfl) dX3_solveThrough_31 ⟨Nat.zero_le _, Nat.zero_le _⟩ (fun r wN H locs hp hS => ?_)
  obtain ⟨er, hw⟩ := hp
  subst r
  have hS := jS_perm cperm.symm hS
  refine lv_lsub hx hb dX3_solveThrough_34 ?_
  refine lv_topl (fun x_11 ex_11 => ?_)
  have hE := jlv hE ex_11
  refine lv_lstore (lv' := [(7, .long x_11), (5, .long x_3), (0, .ref n0), (1, .int a1), (2, .int a2), (3, .int a3), (4, .ref h)]) hx hb dX3_solveThrough_35 hl (by decide) rfl (fun ls hl => ?_)
  refine lv_aload hx hb dX3_solveThrough_37 (lv_at hl 6 rfl) ?_
  refine lv_lload hx hb dX3_solveThrough_39 (lv_at hl 0 rfl) ?_
  refine lv_aload_n hx hb dX3_solveThrough_41 rfl (lv_at hl 2 rfl) ?_
  obtain ⟨hN, L, wa, ga, f, hwN, hW, hG⟩ := id hw
  have hS9 := hS
  rw [hwN] at hS9
  refine va_get (D := D) (ci := 4) (v := .ref n2) (C := RX3) (T := TX3) (N := 8) hx hb hts inX3 hown hK hS9.1 0 rfl rfl 1 (by decide) k3 (fun _ h => h) rfl dX3_solveThrough_42 ?_
  refine lv_iload_n hx hb dX3_solveThrough_45 rfl (lv_at hl 3 rfl) ?_
  obtain ⟨b_12, hE⟩ := jgd hE
  have hS9 := hS
  rw [hwN] at hS9
  refine va_lald hx hb hK hS9.1 2 1 rfl rfl (jin.mpr b_12) dX3_solveThrough_46 ?_
  refine lv_lmul hx hb dX3_solveThrough_47 ?_
  refine lv_lload hx hb dX3_solveThrough_48 (lv_at hl 1 rfl) ?_
  obtain ⟨o_13, h_14, hE⟩ := jbd hE
  refine j_Vv (As := [.long (x_11 * (flows a1.toNatClampNeg)), .long x_3]) (rest := []) (wc := [(h, .inr (1, [.long ru, .long rl]))]) (w1 := [(h, .inr (1, [.long o_13.1, .long o_13.2]))]) (wf := [(h, .inr (1, [.long o_13.1, .long o_13.2]))] ++ (wN ++ [])) (vc := (RX0, TX0, 2)) C hK hS (jcut_perm (wr := wN ++ []) hA hS (List.perm_iff_count.mpr (fun z => by simp only [List.count_append, List.count_cons, List.count_nil]; ac_rfl))) (tX0_set l D h cI cJ cZ cW cS cO cG ru rl (x_11 * (flows a1.toNatClampNeg)) x_3 h_14) (cwV 2 hts gX3_solveThrough_X0_set rfl rfl rfl (by decide +kernel) ⟨Nat.le_of_ble_eq_true rfl, Nat.le_of_ble_eq_true rfl⟩) (q0 := 0) rfl (ci := 1) rfl rfl hl.1 rfl (Nat.le_of_ble_eq_true rfl) dX3_solveThrough_50 ⟨Nat.zero_le _, Nat.zero_le _⟩ (fun H locs hS => ?_)
  have hS : jS D vwCl A ([] ++ (wN ++ [(h, .inr (1, [.long o_13.1, .long o_13.2]))])) s.heap H locs := jS_perm (List.perm_iff_count.mpr (fun z => by simp only [List.count_append, List.count_cons, List.count_nil]; ac_rfl)) hS
  refine lv_aload hx hb dX3_solveThrough_53 (lv_at hl 6 rfl) ?_
  obtain ⟨o_15, h_16, hE⟩ := jbd hE
  refine j_Vv (As := []) (rest := []) (wc := [(h, .inr (1, [.long o_13.1, .long o_13.2]))]) (w1 := [(h, .inr (1, [.long o_15.1, .long o_15.2]))]) (wf := [(h, .inr (1, [.long o_15.1, .long o_15.2]))] ++ (wN ++ [])) (vc := (RX0, TX0, 2)) C hK hS (jcut_perm (wr := wN ++ []) hA hS (List.perm_iff_count.mpr (fun z => by simp only [List.count_append, List.count_cons, List.count_nil]; ac_rfl))) (tX0_reduce l D h cI cJ cZ cW cS cO cG o_13.1 o_13.2 h_16) (cwV 0 hts gX3_solveThrough_X0_reduce rfl rfl rfl (by decide +kernel) ⟨Nat.le_of_ble_eq_true rfl, Nat.le_of_ble_eq_true rfl⟩) (q0 := 0) rfl (ci := 1) rfl rfl hl.1 rfl (Nat.le_of_ble_eq_true rfl) dX3_solveThrough_55 ⟨Nat.zero_le _, Nat.zero_le _⟩ (fun H locs hS => ?_)
  have hS : jS D vwCl A ([] ++ (wN ++ [(h, .inr (1, [.long o_15.1, .long o_15.2]))])) s.heap H locs := jS_perm (List.perm_iff_count.mpr (fun z => by simp only [List.count_append, List.count_cons, List.count_nil]; ac_rfl)) hS
  obtain rfl := jsm hE
  exact ret ⟨_, hw, rfl⟩ hS dX3_solveThrough_58
