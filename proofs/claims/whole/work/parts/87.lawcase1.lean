/-! the law's cases -/
section LAWCASE
variable {p : Program} {l : Launch} {e : Env} {s : State} {m : MethodId} {below : List Frame} {meth : Method} {c : Code} {H : Heap} {locs : List Loc} {Q : State → Prop} {b L : Nat} {xs : Nat → Int32} {ls : Array Slot} {D : va_G} {cI cJ cZ cW cS cO cG : ClassId} {dd mi x0 i t k : Nat}
variable {lp an s0 s1 s2 s3 s4 n0 n1 n2 n3 n4 n5 n6 b0 v0 N ns : Nat} {wk w1 w2 wq wm : Nat → Int32} {flows : Nat → Int64} {mu ml : Int64} {nb : Nat → Int32} {lines : Nat → Nat → Int64} {lineOf : Nat → Int32} {lc : Int32} {tr au al : Int64} {so sp : Nat → Int32} {tu tl ku kl : Int64} {ba : Nat → Option Nat} {Lp : List Nat} {f : Nat → va_E} {wN : va_W} {ad : Nat → Nat} {thrown : Int32} {upper lower begins : Nat → Int32} {size hs : Int32} {kind first second times byy group whole frm too isThere way ohms price : Nat → Int32} {above belo : Int64} {O Pr : Nat → Nat}
set_option maxHeartbeats 4000000 in
set_option maxRecDepth 100000 in
theorem law_many (K : LCx p s m meth c b L xs D cI cJ cZ cW cS cO cG dd mi) (hi : i + 6 ≤ L) (hL : L ≤ 3072) (ht : t ≤ 512) (hk9 : k ≤ 9) (hNP : NP n0 n1 n2 n3 n4 n5 n6 cI cJ cW cG (nI N) wk w1 w2 wq wm flows mu ml nb lines lineOf lc wN) (hLL : jLL cO dd Lp f ba (Sq svz k).1 (Sq svz k).2.1) (hW : WR N wk w1 w2 wq wm flows kind first second times byy) (hSR : SR ns O Pr so sp ohms price) (hR : RSh hs upper lower begins) (hS : jS D vwCl (lwA s) (([(x0, .inr (10, [.ref lp, .ref n0, .ref s0, .ref an, .long tr]))] ++ (wN ++ [(an, .inr (1, [.long au, .long al])), (s0, .inr (8, [.ref s1, .ref s2, .int (nI ns), .ref s3, .ref s4])), (s1, .inl (cI, 6, .inl so)), (s2, .inl (cI, 6, .inl sp)), (s3, .inr (1, [.long tu, .long tl])), (s4, .inr (1, [.long ku, .long kl]))])) ++ ((LX lp b0 v0 cS ba (nI k) (Sq svz k).2.2.1 (Sq svz k).2.2.2 ++ va_pl Lp f) ++ MW ad cI cZ thrown tr upper lower begins size hs (nI N) kind first second times byy group whole frm too isThere way (nI ns) ohms price above belo)) s.heap H locs) (hl : lv_has ls 4 [(0, .ref b), (1, .ref x0), (2, .ref (ad 0)), (3, .int (nI i))]) (next : lwN p l e s m below meth c Q b D cI cJ cZ cW cS cO cG dd x0 (ad 0) i t k) : W p l e room_1 s m #[Value.ref b] below meth c H locs (60 + 2 * accO (Sq svz) k + t) (3600 + 1406 * accO (Sq svz) k + 5 * t) Q (F0 m 124 ls []) := by
  obtain ⟨C, hK, hX, hXs, hbl⟩ := K
  obtain ⟨⟨hx, hb, hml, hown, hts⟩, -⟩ := id C
  have hA : ∀ q : Nat, s.heap.size ≤ q → lwA s q := fun _ h => h
  obtain ⟨a1, ea1⟩ : ∃ a : Int32, a = xs (nI i + (1 : Int32)).toNatClampNeg := ⟨_, rfl⟩
  have hacc := acc_le hk9
  obtain ⟨up, lo, bg, sz, hs', ab', bl', hE10, hR'⟩ := many_same (sv0 := svz) (size := size) (ab := above) (bl := belo) hk9 hR a1
  have hk1 : k ≤ (kN k a1) := kN_le
  have hk19 : (kN k a1) ≤ 9 := kN_nine hk9
  have hac1 := accO_le (Sq svz) hk1
  have hac9 := acc_le hk19
  generalize hK1 : (kN k a1) = k1 at hk1 hk19 hac1 hac9
  refine lv_aload_n hx hb dL_law_124 rfl (lv_at hl 1 rfl) ?_
  refine law_ld (v := a1) (j := 1) hx hb hXs hbl hS.2.2 hl (lw_in 1 rfl (by omega) hL) (by decide) ea1 dL_law_125 dL_law_126 dL_law_127 dL_law_128 dL_law_129 ?_
  have con := tX9_many l D dd mi cI cJ cZ cW cS cO cG x0 lp n0 s0 an tr b0 v0 ba Lp f (Sq svz) (Sq_seq svz) k a1 hLL hk9
  rw [hK1] at con
  refine j_XVip (As := [.int a1]) (rest := []) (vc := (RX9, TX9, 5)) (rm := rmX9_many (accO (Sq svz) k1 - accO (Sq svz) k)) C hK hX hA hS lwpA con (cwV 1 hts gL_law_X9_many rfl rfl rfl (by decide +kernel) ⟨Nat.le_of_ble_eq_true rfl, Nat.le_of_ble_eq_true rfl⟩) (q0 := 0) rfl (ci := 10) rfl rfl hl.1 rfl (Nat.le_of_ble_eq_true rfl) dL_law_130 ⟨by show 60 + 2 * accO (Sq svz) k + t + 2 * (accO (Sq svz) k1 - accO (Sq svz) k) ≤ 600000; omega, by show 3600 + 1406 * accO (Sq svz) k + 5 * t + 1406 * (accO (Sq svz) k1 - accO (Sq svz) k) ≤ 7302250; omega⟩ (fun r1 w1v H locs hp hS => ?_)
  obtain ⟨er, w', ew, Lp', f', ew', hLL'⟩ := hp
  subst ew'
  subst ew
  subst er
  have hS := jS_perm lwpA.symm hS
  refine lv_aload_n hx hb dL_law_133 rfl (lv_at hl 2 rfl) ?_
  refine law_ld (v := a1) (j := 1) hx hb hXs hbl hS.2.2 hl (lw_in 1 rfl (by omega) hL) (by decide) ea1 dL_law_134 dL_law_135 dL_law_136 dL_law_137 dL_law_138 ?_
  refine j_Vi (As := [.int a1]) (rest := [.int (fMany (Sq svz) k a1)]) (vc := (RX10, TX10, 24)) C hK hS (jcut_perm hA hS lwpB) (tX10_many l D ad cI cJ cZ cW cS cO cG thrown tr upper lower begins size hs (nI N) kind first second times byy group whole frm too isThere way (nI ns) ohms price above belo a1 hE10) (cwV 1 hts gL_law_X10_many rfl rfl rfl (by decide +kernel) ⟨Nat.le_of_ble_eq_true rfl, Nat.le_of_ble_eq_true rfl⟩) (q0 := 0) rfl (ci := 11) rfl rfl hl.1 rfl (Nat.le_of_ble_eq_true rfl) dL_law_139 ⟨by show 60 + 2 * accO (Sq svz) k + t + 2 * (accO (Sq svz) k1 - accO (Sq svz) k) + 0 ≤ 600000; omega, by show 3600 + 1406 * accO (Sq svz) k + 5 * t + 1406 * (accO (Sq svz) k1 - accO (Sq svz) k) + 0 ≤ 7302250; omega⟩ (fun H locs hS => ?_)
  have hS : jS D vwCl (lwA s) (([(x0, .inr (10, [.ref lp, .ref n0, .ref s0, .ref an, .long tr]))] ++ (wN ++ [(an, .inr (1, [.long au, .long al])), (s0, .inr (8, [.ref s1, .ref s2, .int (nI ns), .ref s3, .ref s4])), (s1, .inl (cI, 6, .inl so)), (s2, .inl (cI, 6, .inl sp)), (s3, .inr (1, [.long tu, .long tl])), (s4, .inr (1, [.long ku, .long kl]))])) ++ ((LX lp b0 v0 cS ba (nI k1) (Sq svz k1).2.2.1 (Sq svz k1).2.2.2 ++ va_pl Lp' f') ++ MW ad cI cZ 0 tr up lo bg sz hs' (nI N) kind first second times byy group whole frm too isThere way (nI ns) ohms price ab' bl')) s.heap H locs := jS_perm lwpB.symm hS
  refine W.widen (k := 60 + 2 * accO (Sq svz) k1 + (t + 1)) (n := 3600 + 1406 * accO (Sq svz) k1 + 5 * (t + 1)) (by show 60 + 2 * accO (Sq svz) k + t + 2 * (accO (Sq svz) k1 - accO (Sq svz) k) + 0 ≤ _; omega) (by show 3600 + 1406 * accO (Sq svz) k + 5 * t + 1406 * (accO (Sq svz) k1 - accO (Sq svz) k) + 0 ≤ _; omega) ?_
  refine lv_icmp_eq (tgt := 764) hx hb dL_law_142 (by decide) (fun _ => ?_) (fun c1 => absurd rfl c1)
  exact next k1 H locs ls hk1 ⟨lp, an, s0, s1, s2, s3, s4, n0, n1, n2, n3, n4, n5, n6, b0, v0, N, ns, wk, w1, w2, wq, wm, flows, mu, ml, nb, lines, lineOf, lc, tr, au, al, so, sp, tu, tl, ku, kl, ba, Lp', f', wN, ad, 0, up, lo, bg, sz, hs', kind, first, second, times, byy, group, whole, frm, too, isThere, way, ohms, price, ab', bl', O, Pr, ⟨rfl, hk19⟩, hNP, hLL', hW, hSR, hR', hS⟩ hl
set_option maxHeartbeats 4000000 in
set_option maxRecDepth 100000 in
theorem law_share (K : LCx p s m meth c b L xs D cI cJ cZ cW cS cO cG dd mi) (hi : i + 6 ≤ L) (hL : L ≤ 3072) (ht : t ≤ 512) (hk9 : k ≤ 9) (hNP : NP n0 n1 n2 n3 n4 n5 n6 cI cJ cW cG (nI N) wk w1 w2 wq wm flows mu ml nb lines lineOf lc wN) (hLL : jLL cO dd Lp f ba (Sq svz k).1 (Sq svz k).2.1) (hW : WR N wk w1 w2 wq wm flows kind first second times byy) (hSR : SR ns O Pr so sp ohms price) (hR : RSh hs upper lower begins) (hS : jS D vwCl (lwA s) (([(x0, .inr (10, [.ref lp, .ref n0, .ref s0, .ref an, .long tr]))] ++ (wN ++ [(an, .inr (1, [.long au, .long al])), (s0, .inr (8, [.ref s1, .ref s2, .int (nI ns), .ref s3, .ref s4])), (s1, .inl (cI, 6, .inl so)), (s2, .inl (cI, 6, .inl sp)), (s3, .inr (1, [.long tu, .long tl])), (s4, .inr (1, [.long ku, .long kl]))])) ++ ((LX lp b0 v0 cS ba (nI k) (Sq svz k).2.2.1 (Sq svz k).2.2.2 ++ va_pl Lp f) ++ MW ad cI cZ thrown tr upper lower begins size hs (nI N) kind first second times byy group whole frm too isThere way (nI ns) ohms price above belo)) s.heap H locs) (hl : lv_has ls 4 [(0, .ref b), (1, .ref x0), (2, .ref (ad 0)), (3, .int (nI i))]) (next : lwN p l e s m below meth c Q b D cI cJ cZ cW cS cO cG dd x0 (ad 0) i t k) : W p l e room_1 s m #[Value.ref b] below meth c H locs (60 + 2 * accO (Sq svz) k + t) (3600 + 1406 * accO (Sq svz) k + 5 * t) Q (F0 m 147 ls []) := by
  obtain ⟨C, hK, hX, hXs, hbl⟩ := K
  obtain ⟨⟨hx, hb, hml, hown, hts⟩, -⟩ := id C
  have hA : ∀ q : Nat, s.heap.size ≤ q → lwA s q := fun _ h => h
  obtain ⟨a1, ea1⟩ : ∃ a : Int32, a = xs (nI i + (1 : Int32)).toNatClampNeg := ⟨_, rfl⟩
  obtain ⟨a2, ea2⟩ : ∃ a : Int32, a = xs (nI i + (2 : Int32)).toNatClampNeg := ⟨_, rfl⟩
  obtain ⟨a3, ea3⟩ : ∃ a : Int32, a = xs (nI i + (3 : Int32)).toNatClampNeg := ⟨_, rfl⟩
  have hacc := acc_le hk9
  obtain ⟨up, lo, bg, sz, hs', ab', bl', hE10, hR'⟩ := share_same (sv0 := svz) (size := size) (ab := above) (bl := belo) hk9 hR a1 a2 a3
  have hk1 : k ≤ (kN k a1) := kN_le
  have hk19 : (kN k a1) ≤ 9 := kN_nine hk9
  have hac1 := accO_le (Sq svz) hk1
  have hac9 := acc_le hk19
  generalize hK1 : (kN k a1) = k1 at hk1 hk19 hac1 hac9
  refine lv_aload_n hx hb dL_law_147 rfl (lv_at hl 1 rfl) ?_
  refine law_ld (v := a1) (j := 1) hx hb hXs hbl hS.2.2 hl (lw_in 1 rfl (by omega) hL) (by decide) ea1 dL_law_148 dL_law_149 dL_law_150 dL_law_151 dL_law_152 ?_
  refine law_ld (v := a2) (j := 2) hx hb hXs hbl hS.2.2 hl (lw_in 2 rfl (by omega) hL) (by decide) ea2 dL_law_153 dL_law_154 dL_law_155 dL_law_156 dL_law_157 ?_
  refine law_ld (v := a3) (j := 3) hx hb hXs hbl hS.2.2 hl (lw_in 3 rfl (by omega) hL) (by decide) ea3 dL_law_158 dL_law_159 dL_law_160 dL_law_161 dL_law_162 ?_
  have con := tX9_share l D dd mi cI cJ cZ cW cS cO cG x0 lp n0 s0 an tr b0 v0 ba Lp f (Sq svz) (Sq_seq svz) k a1 a2 a3 hLL hk9
  rw [hK1] at con
  refine j_XVip (As := [.int a1, .int a2, .int a3]) (rest := []) (vc := (RX9, TX9, 5)) (rm := rmX9_share (accO (Sq svz) k1 - accO (Sq svz) k)) C hK hX hA hS lwpA con (cwV 3 hts gL_law_X9_share rfl rfl rfl (by decide +kernel) ⟨Nat.le_of_ble_eq_true rfl, Nat.le_of_ble_eq_true rfl⟩) (q0 := 0) rfl (ci := 10) rfl rfl hl.1 rfl (Nat.le_of_ble_eq_true rfl) dL_law_163 ⟨by show 60 + 2 * accO (Sq svz) k + t + 2 * (accO (Sq svz) k1 - accO (Sq svz) k) ≤ 600000; omega, by show 3600 + 1406 * accO (Sq svz) k + 5 * t + 1406 * (accO (Sq svz) k1 - accO (Sq svz) k) ≤ 7302250; omega⟩ (fun r1 w1v H locs hp hS => ?_)
  obtain ⟨er, w', ew, Lp', f', ew', hLL'⟩ := hp
  subst ew'
  subst ew
  subst er
  have hS := jS_perm lwpA.symm hS
  refine lv_aload_n hx hb dL_law_166 rfl (lv_at hl 2 rfl) ?_
  refine law_ld (v := a1) (j := 1) hx hb hXs hbl hS.2.2 hl (lw_in 1 rfl (by omega) hL) (by decide) ea1 dL_law_167 dL_law_168 dL_law_169 dL_law_170 dL_law_171 ?_
  refine law_ld (v := a2) (j := 2) hx hb hXs hbl hS.2.2 hl (lw_in 2 rfl (by omega) hL) (by decide) ea2 dL_law_172 dL_law_173 dL_law_174 dL_law_175 dL_law_176 ?_
  refine law_ld (v := a3) (j := 3) hx hb hXs hbl hS.2.2 hl (lw_in 3 rfl (by omega) hL) (by decide) ea3 dL_law_177 dL_law_178 dL_law_179 dL_law_180 dL_law_181 ?_
  refine j_Vi (As := [.int a1, .int a2, .int a3]) (rest := [.int (fShare (Sq svz) k a1 a2 a3)]) (vc := (RX10, TX10, 24)) C hK hS (jcut_perm hA hS lwpB) (tX10_share l D ad cI cJ cZ cW cS cO cG thrown tr upper lower begins size hs (nI N) kind first second times byy group whole frm too isThere way (nI ns) ohms price above belo a1 a2 a3 hE10) (cwV 3 hts gL_law_X10_share rfl rfl rfl (by decide +kernel) ⟨Nat.le_of_ble_eq_true rfl, Nat.le_of_ble_eq_true rfl⟩) (q0 := 0) rfl (ci := 11) rfl rfl hl.1 rfl (Nat.le_of_ble_eq_true rfl) dL_law_182 ⟨by show 60 + 2 * accO (Sq svz) k + t + 2 * (accO (Sq svz) k1 - accO (Sq svz) k) + 0 ≤ 600000; omega, by show 3600 + 1406 * accO (Sq svz) k + 5 * t + 1406 * (accO (Sq svz) k1 - accO (Sq svz) k) + 0 ≤ 7302250; omega⟩ (fun H locs hS => ?_)
  have hS : jS D vwCl (lwA s) (([(x0, .inr (10, [.ref lp, .ref n0, .ref s0, .ref an, .long tr]))] ++ (wN ++ [(an, .inr (1, [.long au, .long al])), (s0, .inr (8, [.ref s1, .ref s2, .int (nI ns), .ref s3, .ref s4])), (s1, .inl (cI, 6, .inl so)), (s2, .inl (cI, 6, .inl sp)), (s3, .inr (1, [.long tu, .long tl])), (s4, .inr (1, [.long ku, .long kl]))])) ++ ((LX lp b0 v0 cS ba (nI k1) (Sq svz k1).2.2.1 (Sq svz k1).2.2.2 ++ va_pl Lp' f') ++ MW ad cI cZ 0 tr up lo bg sz hs' (nI N) kind first second times byy group whole frm too isThere way (nI ns) ohms price ab' bl')) s.heap H locs := jS_perm lwpB.symm hS
  refine W.widen (k := 60 + 2 * accO (Sq svz) k1 + (t + 1)) (n := 3600 + 1406 * accO (Sq svz) k1 + 5 * (t + 1)) (by show 60 + 2 * accO (Sq svz) k + t + 2 * (accO (Sq svz) k1 - accO (Sq svz) k) + 0 ≤ _; omega) (by show 3600 + 1406 * accO (Sq svz) k + 5 * t + 1406 * (accO (Sq svz) k1 - accO (Sq svz) k) + 0 ≤ _; omega) ?_
  refine lv_icmp_eq (tgt := 764) hx hb dL_law_185 (by decide) (fun _ => ?_) (fun c1 => absurd rfl c1)
  exact next k1 H locs ls hk1 ⟨lp, an, s0, s1, s2, s3, s4, n0, n1, n2, n3, n4, n5, n6, b0, v0, N, ns, wk, w1, w2, wq, wm, flows, mu, ml, nb, lines, lineOf, lc, tr, au, al, so, sp, tu, tl, ku, kl, ba, Lp', f', wN, ad, 0, up, lo, bg, sz, hs', kind, first, second, times, byy, group, whole, frm, too, isThere, way, ohms, price, ab', bl', O, Pr, ⟨rfl, hk19⟩, hNP, hLL', hW, hSR, hR', hS⟩ hl
set_option maxHeartbeats 4000000 in
set_option maxRecDepth 100000 in
theorem law_rank (K : LCx p s m meth c b L xs D cI cJ cZ cW cS cO cG dd mi) (hi : i + 6 ≤ L) (hL : L ≤ 3072) (ht : t ≤ 512) (hk9 : k ≤ 9) (hNP : NP n0 n1 n2 n3 n4 n5 n6 cI cJ cW cG (nI N) wk w1 w2 wq wm flows mu ml nb lines lineOf lc wN) (hLL : jLL cO dd Lp f ba (Sq svz k).1 (Sq svz k).2.1) (hW : WR N wk w1 w2 wq wm flows kind first second times byy) (hSR : SR ns O Pr so sp ohms price) (hR : RSh hs upper lower begins) (hS : jS D vwCl (lwA s) (([(x0, .inr (10, [.ref lp, .ref n0, .ref s0, .ref an, .long tr]))] ++ (wN ++ [(an, .inr (1, [.long au, .long al])), (s0, .inr (8, [.ref s1, .ref s2, .int (nI ns), .ref s3, .ref s4])), (s1, .inl (cI, 6, .inl so)), (s2, .inl (cI, 6, .inl sp)), (s3, .inr (1, [.long tu, .long tl])), (s4, .inr (1, [.long ku, .long kl]))])) ++ ((LX lp b0 v0 cS ba (nI k) (Sq svz k).2.2.1 (Sq svz k).2.2.2 ++ va_pl Lp f) ++ MW ad cI cZ thrown tr upper lower begins size hs (nI N) kind first second times byy group whole frm too isThere way (nI ns) ohms price above belo)) s.heap H locs) (hl : lv_has ls 4 [(0, .ref b), (1, .ref x0), (2, .ref (ad 0)), (3, .int (nI i))]) (next : lwN p l e s m below meth c Q b D cI cJ cZ cW cS cO cG dd x0 (ad 0) i t k) : W p l e room_1 s m #[Value.ref b] below meth c H locs (60 + 2 * accO (Sq svz) k + t) (3600 + 1406 * accO (Sq svz) k + 5 * t) Q (F0 m 190 ls []) := by
  obtain ⟨C, hK, hX, hXs, hbl⟩ := K
  obtain ⟨⟨hx, hb, hml, hown, hts⟩, -⟩ := id C
  have hA : ∀ q : Nat, s.heap.size ≤ q → lwA s q := fun _ h => h
  obtain ⟨a1, ea1⟩ : ∃ a : Int32, a = xs (nI i + (1 : Int32)).toNatClampNeg := ⟨_, rfl⟩
  obtain ⟨a2, ea2⟩ : ∃ a : Int32, a = xs (nI i + (2 : Int32)).toNatClampNeg := ⟨_, rfl⟩
  obtain ⟨a3, ea3⟩ : ∃ a : Int32, a = xs (nI i + (3 : Int32)).toNatClampNeg := ⟨_, rfl⟩
  have hacc := acc_le hk9
  obtain ⟨r, up, lo, bg, sz, hs', ab', bl', hE9, hE10, hR'⟩ := rank_same (sv0 := svz) (size := size) (ab := above) (bl := belo) hk9 hR a1 a2 a3
  have hk1 : k ≤ (kR k a1 a2 a3) := kR_le
  have hk19 : (kR k a1 a2 a3) ≤ 9 := kR_nine hk9
  have hac1 := accO_le (Sq svz) hk1
  have hac9 := acc_le hk19
  generalize hK1 : (kR k a1 a2 a3) = k1 at hk1 hk19 hac1 hac9
  refine lv_aload_n hx hb dL_law_190 rfl (lv_at hl 1 rfl) ?_
  refine law_ld (v := a1) (j := 1) hx hb hXs hbl hS.2.2 hl (lw_in 1 rfl (by omega) hL) (by decide) ea1 dL_law_191 dL_law_192 dL_law_193 dL_law_194 dL_law_195 ?_
  refine law_ld (v := a2) (j := 2) hx hb hXs hbl hS.2.2 hl (lw_in 2 rfl (by omega) hL) (by decide) ea2 dL_law_196 dL_law_197 dL_law_198 dL_law_199 dL_law_200 ?_
  refine law_ld (v := a3) (j := 3) hx hb hXs hbl hS.2.2 hl (lw_in 3 rfl (by omega) hL) (by decide) ea3 dL_law_201 dL_law_202 dL_law_203 dL_law_204 dL_law_205 ?_
  have con := tX9_rank l D dd mi cI cJ cZ cW cS cO cG x0 lp n0 s0 an tr b0 v0 ba Lp f (Sq svz) (Sq_seq svz) k a1 a2 a3 hLL hk9 hE9
  rw [hK1] at con
  refine j_XVip (As := [.int a1, .int a2, .int a3]) (rest := []) (vc := (RX9, TX9, 5)) (rm := rmX9_rank (accO (Sq svz) k1 - accO (Sq svz) k)) C hK hX hA hS lwpA con (cwV 3 hts gL_law_X9_rank rfl rfl rfl (by decide +kernel) ⟨Nat.le_of_ble_eq_true rfl, Nat.le_of_ble_eq_true rfl⟩) (q0 := 0) rfl (ci := 10) rfl rfl hl.1 rfl (Nat.le_of_ble_eq_true rfl) dL_law_206 ⟨by show 60 + 2 * accO (Sq svz) k + t + 2 * (accO (Sq svz) k1 - accO (Sq svz) k) ≤ 600000; omega, by show 3600 + 1406 * accO (Sq svz) k + 5 * t + 1406 * (accO (Sq svz) k1 - accO (Sq svz) k) ≤ 7302250; omega⟩ (fun r1 w1v H locs hp hS => ?_)
  obtain ⟨er, w', ew, Lp', f', ew', hLL'⟩ := hp
  subst ew'
  subst ew
  subst er
  have hS := jS_perm lwpA.symm hS
  refine lv_aload_n hx hb dL_law_209 rfl (lv_at hl 2 rfl) ?_
  refine law_ld (v := a1) (j := 1) hx hb hXs hbl hS.2.2 hl (lw_in 1 rfl (by omega) hL) (by decide) ea1 dL_law_210 dL_law_211 dL_law_212 dL_law_213 dL_law_214 ?_
  refine law_ld (v := a2) (j := 2) hx hb hXs hbl hS.2.2 hl (lw_in 2 rfl (by omega) hL) (by decide) ea2 dL_law_215 dL_law_216 dL_law_217 dL_law_218 dL_law_219 ?_
  refine law_ld (v := a3) (j := 3) hx hb hXs hbl hS.2.2 hl (lw_in 3 rfl (by omega) hL) (by decide) ea3 dL_law_220 dL_law_221 dL_law_222 dL_law_223 dL_law_224 ?_
  refine j_Vi (As := [.int a1, .int a2, .int a3]) (rest := [.int (r1)]) (vc := (RX10, TX10, 24)) C hK hS (jcut_perm hA hS lwpB) (tX10_rank l D ad cI cJ cZ cW cS cO cG thrown tr upper lower begins size hs (nI N) kind first second times byy group whole frm too isThere way (nI ns) ohms price above belo a1 a2 a3 hE10) (cwV 3 hts gL_law_X10_rank rfl rfl rfl (by decide +kernel) ⟨Nat.le_of_ble_eq_true rfl, Nat.le_of_ble_eq_true rfl⟩) (q0 := 0) rfl (ci := 11) rfl rfl hl.1 rfl (Nat.le_of_ble_eq_true rfl) dL_law_225 ⟨by show 60 + 2 * accO (Sq svz) k + t + 2 * (accO (Sq svz) k1 - accO (Sq svz) k) + 0 ≤ 600000; omega, by show 3600 + 1406 * accO (Sq svz) k + 5 * t + 1406 * (accO (Sq svz) k1 - accO (Sq svz) k) + 0 ≤ 7302250; omega⟩ (fun H locs hS => ?_)
  have hS : jS D vwCl (lwA s) (([(x0, .inr (10, [.ref lp, .ref n0, .ref s0, .ref an, .long tr]))] ++ (wN ++ [(an, .inr (1, [.long au, .long al])), (s0, .inr (8, [.ref s1, .ref s2, .int (nI ns), .ref s3, .ref s4])), (s1, .inl (cI, 6, .inl so)), (s2, .inl (cI, 6, .inl sp)), (s3, .inr (1, [.long tu, .long tl])), (s4, .inr (1, [.long ku, .long kl]))])) ++ ((LX lp b0 v0 cS ba (nI k1) (Sq svz k1).2.2.1 (Sq svz k1).2.2.2 ++ va_pl Lp' f') ++ MW ad cI cZ 0 tr up lo bg sz hs' (nI N) kind first second times byy group whole frm too isThere way (nI ns) ohms price ab' bl')) s.heap H locs := jS_perm lwpB.symm hS
  refine W.widen (k := 60 + 2 * accO (Sq svz) k1 + (t + 1)) (n := 3600 + 1406 * accO (Sq svz) k1 + 5 * (t + 1)) (by show 60 + 2 * accO (Sq svz) k + t + 2 * (accO (Sq svz) k1 - accO (Sq svz) k) + 0 ≤ _; omega) (by show 3600 + 1406 * accO (Sq svz) k + 5 * t + 1406 * (accO (Sq svz) k1 - accO (Sq svz) k) + 0 ≤ _; omega) ?_
  refine lv_icmp_eq (tgt := 764) hx hb dL_law_228 (by decide) (fun _ => ?_) (fun c1 => absurd rfl c1)
  exact next k1 H locs ls hk1 ⟨lp, an, s0, s1, s2, s3, s4, n0, n1, n2, n3, n4, n5, n6, b0, v0, N, ns, wk, w1, w2, wq, wm, flows, mu, ml, nb, lines, lineOf, lc, tr, au, al, so, sp, tu, tl, ku, kl, ba, Lp', f', wN, ad, 0, up, lo, bg, sz, hs', kind, first, second, times, byy, group, whole, frm, too, isThere, way, ohms, price, ab', bl', O, Pr, ⟨rfl, hk19⟩, hNP, hLL', hW, hSR, hR', hS⟩ hl
set_option maxHeartbeats 4000000 in
set_option maxRecDepth 100000 in
theorem law_fewest (K : LCx p s m meth c b L xs D cI cJ cZ cW cS cO cG dd mi) (hi : i + 6 ≤ L) (hL : L ≤ 3072) (ht : t ≤ 512) (hk9 : k ≤ 9) (hNP : NP n0 n1 n2 n3 n4 n5 n6 cI cJ cW cG (nI N) wk w1 w2 wq wm flows mu ml nb lines lineOf lc wN) (hLL : jLL cO dd Lp f ba (Sq svz k).1 (Sq svz k).2.1) (hW : WR N wk w1 w2 wq wm flows kind first second times byy) (hSR : SR ns O Pr so sp ohms price) (hR : RSh hs upper lower begins) (hS : jS D vwCl (lwA s) (([(x0, .inr (10, [.ref lp, .ref n0, .ref s0, .ref an, .long tr]))] ++ (wN ++ [(an, .inr (1, [.long au, .long al])), (s0, .inr (8, [.ref s1, .ref s2, .int (nI ns), .ref s3, .ref s4])), (s1, .inl (cI, 6, .inl so)), (s2, .inl (cI, 6, .inl sp)), (s3, .inr (1, [.long tu, .long tl])), (s4, .inr (1, [.long ku, .long kl]))])) ++ ((LX lp b0 v0 cS ba (nI k) (Sq svz k).2.2.1 (Sq svz k).2.2.2 ++ va_pl Lp f) ++ MW ad cI cZ thrown tr upper lower begins size hs (nI N) kind first second times byy group whole frm too isThere way (nI ns) ohms price above belo)) s.heap H locs) (hl : lv_has ls 4 [(0, .ref b), (1, .ref x0), (2, .ref (ad 0)), (3, .int (nI i))]) (next : lwN p l e s m below meth c Q b D cI cJ cZ cW cS cO cG dd x0 (ad 0) i t k) : W p l e room_1 s m #[Value.ref b] below meth c H locs (60 + 2 * accO (Sq svz) k + t) (3600 + 1406 * accO (Sq svz) k + 5 * t) Q (F0 m 233 ls []) := by
  obtain ⟨C, hK, hX, hXs, hbl⟩ := K
  obtain ⟨⟨hx, hb, hml, hown, hts⟩, -⟩ := id C
  have hA : ∀ q : Nat, s.heap.size ≤ q → lwA s q := fun _ h => h
  obtain ⟨a1, ea1⟩ : ∃ a : Int32, a = xs (nI i + (1 : Int32)).toNatClampNeg := ⟨_, rfl⟩
  obtain ⟨a2, ea2⟩ : ∃ a : Int32, a = xs (nI i + (2 : Int32)).toNatClampNeg := ⟨_, rfl⟩
  have hacc := acc_le hk9
  obtain ⟨r0, k9, up, lo, bg, sz, hs', ab', bl', hE9, hk99, hE10, hR'⟩ := fewest_same (sv0 := svz) (size := size) (ab := above) (bl := belo) hk9 hR a1 a2
  obtain ⟨o, eo⟩ : ∃ o : Int32 × Nat, o = (r0, k9) := ⟨_, rfl⟩
  rw [← eo] at hE9
  have e1 : o.1 = r0 := by rw [eo]
  have e2 : o.2 = k9 := by rw [eo]
  rw [← e1] at hE10
  rw [← e2] at hk99
  have hk1 : k ≤ o.2 := fFewest_le hE9
  have hk19 : o.2 ≤ 9 := hk99
  have hac1 := accO_le (Sq svz) hk1
  have hac9 := acc_le hk19
  refine lv_aload_n hx hb dL_law_233 rfl (lv_at hl 1 rfl) ?_
  refine law_ld (v := a1) (j := 1) hx hb hXs hbl hS.2.2 hl (lw_in 1 rfl (by omega) hL) (by decide) ea1 dL_law_234 dL_law_235 dL_law_236 dL_law_237 dL_law_238 ?_
  refine law_ld (v := a2) (j := 2) hx hb hXs hbl hS.2.2 hl (lw_in 2 rfl (by omega) hL) (by decide) ea2 dL_law_239 dL_law_240 dL_law_241 dL_law_242 dL_law_243 ?_
  refine j_XVip (As := [.int a1, .int a2]) (rest := []) (vc := (RX9, TX9, 5)) (rm := rmX9_fewest (accO (Sq svz) o.2 - accO (Sq svz) k)) C hK hX hA hS lwpA (tX9_fewest l D dd mi cI cJ cZ cW cS cO cG x0 lp n0 s0 an tr b0 v0 ba Lp f (Sq svz) (Sq_seq svz) k a1 a2 hLL hk9 hE9) (cwV 2 hts gL_law_X9_fewest rfl rfl rfl (by decide +kernel) ⟨Nat.le_of_ble_eq_true rfl, Nat.le_of_ble_eq_true rfl⟩) (q0 := 0) rfl (ci := 10) rfl rfl hl.1 rfl (Nat.le_of_ble_eq_true rfl) dL_law_244 ⟨by show 60 + 2 * accO (Sq svz) k + t + 2 * (accO (Sq svz) o.2 - accO (Sq svz) k) ≤ 600000; omega, by show 3600 + 1406 * accO (Sq svz) k + 5 * t + 1406 * (accO (Sq svz) o.2 - accO (Sq svz) k) ≤ 7302250; omega⟩ (fun r1 w1v H locs hp hS => ?_)
  obtain ⟨er, w', ew, Lp', f', ew', hLL'⟩ := hp
  subst ew'
  subst ew
  subst er
  have hS := jS_perm lwpA.symm hS
  refine lv_aload_n hx hb dL_law_247 rfl (lv_at hl 2 rfl) ?_
  refine law_ld (v := a1) (j := 1) hx hb hXs hbl hS.2.2 hl (lw_in 1 rfl (by omega) hL) (by decide) ea1 dL_law_248 dL_law_249 dL_law_250 dL_law_251 dL_law_252 ?_
  refine law_ld (v := a2) (j := 2) hx hb hXs hbl hS.2.2 hl (lw_in 2 rfl (by omega) hL) (by decide) ea2 dL_law_253 dL_law_254 dL_law_255 dL_law_256 dL_law_257 ?_
  refine j_Vi (As := [.int a1, .int a2]) (rest := [.int (o.1)]) (vc := (RX10, TX10, 24)) C hK hS (jcut_perm hA hS lwpB) (tX10_fewest l D ad cI cJ cZ cW cS cO cG thrown tr upper lower begins size hs (nI N) kind first second times byy group whole frm too isThere way (nI ns) ohms price above belo a1 a2 hE10) (cwV 2 hts gL_law_X10_fewest rfl rfl rfl (by decide +kernel) ⟨Nat.le_of_ble_eq_true rfl, Nat.le_of_ble_eq_true rfl⟩) (q0 := 0) rfl (ci := 11) rfl rfl hl.1 rfl (Nat.le_of_ble_eq_true rfl) dL_law_258 ⟨by show 60 + 2 * accO (Sq svz) k + t + 2 * (accO (Sq svz) o.2 - accO (Sq svz) k) + 0 ≤ 600000; omega, by show 3600 + 1406 * accO (Sq svz) k + 5 * t + 1406 * (accO (Sq svz) o.2 - accO (Sq svz) k) + 0 ≤ 7302250; omega⟩ (fun H locs hS => ?_)
  have hS : jS D vwCl (lwA s) (([(x0, .inr (10, [.ref lp, .ref n0, .ref s0, .ref an, .long tr]))] ++ (wN ++ [(an, .inr (1, [.long au, .long al])), (s0, .inr (8, [.ref s1, .ref s2, .int (nI ns), .ref s3, .ref s4])), (s1, .inl (cI, 6, .inl so)), (s2, .inl (cI, 6, .inl sp)), (s3, .inr (1, [.long tu, .long tl])), (s4, .inr (1, [.long ku, .long kl]))])) ++ ((LX lp b0 v0 cS ba (nI o.2) (Sq svz o.2).2.2.1 (Sq svz o.2).2.2.2 ++ va_pl Lp' f') ++ MW ad cI cZ 0 tr up lo bg sz hs' (nI N) kind first second times byy group whole frm too isThere way (nI ns) ohms price ab' bl')) s.heap H locs := jS_perm lwpB.symm hS
  refine W.widen (k := 60 + 2 * accO (Sq svz) o.2 + (t + 1)) (n := 3600 + 1406 * accO (Sq svz) o.2 + 5 * (t + 1)) (by show 60 + 2 * accO (Sq svz) k + t + 2 * (accO (Sq svz) o.2 - accO (Sq svz) k) + 0 ≤ _; omega) (by show 3600 + 1406 * accO (Sq svz) k + 5 * t + 1406 * (accO (Sq svz) o.2 - accO (Sq svz) k) + 0 ≤ _; omega) ?_
  refine lv_icmp_eq (tgt := 764) hx hb dL_law_261 (by decide) (fun _ => ?_) (fun c1 => absurd rfl c1)
  exact next o.2 H locs ls hk1 ⟨lp, an, s0, s1, s2, s3, s4, n0, n1, n2, n3, n4, n5, n6, b0, v0, N, ns, wk, w1, w2, wq, wm, flows, mu, ml, nb, lines, lineOf, lc, tr, au, al, so, sp, tu, tl, ku, kl, ba, Lp', f', wN, ad, 0, up, lo, bg, sz, hs', kind, first, second, times, byy, group, whole, frm, too, isThere, way, ohms, price, ab', bl', O, Pr, ⟨rfl, hk19⟩, hNP, hLL', hW, hSR, hR', hS⟩ hl
set_option maxHeartbeats 4000000 in
set_option maxRecDepth 100000 in
theorem law_made (K : LCx p s m meth c b L xs D cI cJ cZ cW cS cO cG dd mi) (hi : i + 6 ≤ L) (hL : L ≤ 3072) (ht : t ≤ 512) (hk9 : k ≤ 9) (hNP : NP n0 n1 n2 n3 n4 n5 n6 cI cJ cW cG (nI N) wk w1 w2 wq wm flows mu ml nb lines lineOf lc wN) (hLL : jLL cO dd Lp f ba (Sq svz k).1 (Sq svz k).2.1) (hW : WR N wk w1 w2 wq wm flows kind first second times byy) (hSR : SR ns O Pr so sp ohms price) (hR : RSh hs upper lower begins) (hS : jS D vwCl (lwA s) (([(x0, .inr (10, [.ref lp, .ref n0, .ref s0, .ref an, .long tr]))] ++ (wN ++ [(an, .inr (1, [.long au, .long al])), (s0, .inr (8, [.ref s1, .ref s2, .int (nI ns), .ref s3, .ref s4])), (s1, .inl (cI, 6, .inl so)), (s2, .inl (cI, 6, .inl sp)), (s3, .inr (1, [.long tu, .long tl])), (s4, .inr (1, [.long ku, .long kl]))])) ++ ((LX lp b0 v0 cS ba (nI k) (Sq svz k).2.2.1 (Sq svz k).2.2.2 ++ va_pl Lp f) ++ MW ad cI cZ thrown tr upper lower begins size hs (nI N) kind first second times byy group whole frm too isThere way (nI ns) ohms price above belo)) s.heap H locs) (hl : lv_has ls 4 [(0, .ref b), (1, .ref x0), (2, .ref (ad 0)), (3, .int (nI i))]) (next : lwN p l e s m below meth c Q b D cI cJ cZ cW cS cO cG dd x0 (ad 0) i t k) : W p l e room_1 s m #[Value.ref b] below meth c H locs (60 + 2 * accO (Sq svz) k + t) (3600 + 1406 * accO (Sq svz) k + 5 * t) Q (F0 m 266 ls []) := by
  obtain ⟨C, hK, hX, hXs, hbl⟩ := K
  obtain ⟨⟨hx, hb, hml, hown, hts⟩, -⟩ := id C
  have hA : ∀ q : Nat, s.heap.size ≤ q → lwA s q := fun _ h => h
  obtain ⟨a1, ea1⟩ : ∃ a : Int32, a = xs (nI i + (1 : Int32)).toNatClampNeg := ⟨_, rfl⟩
  obtain ⟨a2, ea2⟩ : ∃ a : Int32, a = xs (nI i + (2 : Int32)).toNatClampNeg := ⟨_, rfl⟩
  obtain ⟨a3, ea3⟩ : ∃ a : Int32, a = xs (nI i + (3 : Int32)).toNatClampNeg := ⟨_, rfl⟩
  have hacc := acc_le hk9
  obtain ⟨up, lo, bg, sz, hs', ab', bl', hE10, hR'⟩ := made_same (sv0 := svz) (size := size) (ab := above) (bl := belo) hk9 hR a1 a2 a3
  have hk1 : k ≤ (kN k a1) := kN_le
  have hk19 : (kN k a1) ≤ 9 := kN_nine hk9
  have hac1 := accO_le (Sq svz) hk1
  have hac9 := acc_le hk19
  generalize hK1 : (kN k a1) = k1 at hk1 hk19 hac1 hac9
  refine lv_aload_n hx hb dL_law_266 rfl (lv_at hl 1 rfl) ?_
  refine law_ld (v := a1) (j := 1) hx hb hXs hbl hS.2.2 hl (lw_in 1 rfl (by omega) hL) (by decide) ea1 dL_law_267 dL_law_268 dL_law_269 dL_law_270 dL_law_271 ?_
  refine law_ld (v := a2) (j := 2) hx hb hXs hbl hS.2.2 hl (lw_in 2 rfl (by omega) hL) (by decide) ea2 dL_law_272 dL_law_273 dL_law_274 dL_law_275 dL_law_276 ?_
  refine law_ld (v := a3) (j := 3) hx hb hXs hbl hS.2.2 hl (lw_in 3 rfl (by omega) hL) (by decide) ea3 dL_law_277 dL_law_278 dL_law_279 dL_law_280 dL_law_281 ?_
  have con := tX9_made l D dd mi cI cJ cZ cW cS cO cG x0 lp n0 s0 an tr b0 v0 ba Lp f (Sq svz) (Sq_seq svz) k a1 a2 a3 hLL hk9
  rw [hK1] at con
  refine j_XVip (As := [.int a1, .int a2, .int a3]) (rest := []) (vc := (RX9, TX9, 5)) (rm := rmX9_made (accO (Sq svz) k1 - accO (Sq svz) k)) C hK hX hA hS lwpA con (cwV 3 hts gL_law_X9_made rfl rfl rfl (by decide +kernel) ⟨Nat.le_of_ble_eq_true rfl, Nat.le_of_ble_eq_true rfl⟩) (q0 := 0) rfl (ci := 10) rfl rfl hl.1 rfl (Nat.le_of_ble_eq_true rfl) dL_law_282 ⟨by show 60 + 2 * accO (Sq svz) k + t + 2 * (accO (Sq svz) k1 - accO (Sq svz) k) ≤ 600000; omega, by show 3600 + 1406 * accO (Sq svz) k + 5 * t + 1406 * (accO (Sq svz) k1 - accO (Sq svz) k) ≤ 7302250; omega⟩ (fun r1 w1v H locs hp hS => ?_)
  obtain ⟨er, w', ew, Lp', f', ew', hLL'⟩ := hp
  subst ew'
  subst ew
  subst er
  have hS := jS_perm lwpA.symm hS
  refine lv_aload_n hx hb dL_law_285 rfl (lv_at hl 2 rfl) ?_
  refine law_ld (v := a1) (j := 1) hx hb hXs hbl hS.2.2 hl (lw_in 1 rfl (by omega) hL) (by decide) ea1 dL_law_286 dL_law_287 dL_law_288 dL_law_289 dL_law_290 ?_
  refine law_ld (v := a2) (j := 2) hx hb hXs hbl hS.2.2 hl (lw_in 2 rfl (by omega) hL) (by decide) ea2 dL_law_291 dL_law_292 dL_law_293 dL_law_294 dL_law_295 ?_
  refine law_ld (v := a3) (j := 3) hx hb hXs hbl hS.2.2 hl (lw_in 3 rfl (by omega) hL) (by decide) ea3 dL_law_296 dL_law_297 dL_law_298 dL_law_299 dL_law_300 ?_
  refine j_Vi (As := [.int a1, .int a2, .int a3]) (rest := [.int (fMade (Sq svz) k a1 a2 a3)]) (vc := (RX10, TX10, 24)) C hK hS (jcut_perm hA hS lwpB) (tX10_made l D ad cI cJ cZ cW cS cO cG thrown tr upper lower begins size hs (nI N) kind first second times byy group whole frm too isThere way (nI ns) ohms price above belo a1 a2 a3 hE10) (cwV 3 hts gL_law_X10_made rfl rfl rfl (by decide +kernel) ⟨Nat.le_of_ble_eq_true rfl, Nat.le_of_ble_eq_true rfl⟩) (q0 := 0) rfl (ci := 11) rfl rfl hl.1 rfl (Nat.le_of_ble_eq_true rfl) dL_law_301 ⟨by show 60 + 2 * accO (Sq svz) k + t + 2 * (accO (Sq svz) k1 - accO (Sq svz) k) + 0 ≤ 600000; omega, by show 3600 + 1406 * accO (Sq svz) k + 5 * t + 1406 * (accO (Sq svz) k1 - accO (Sq svz) k) + 0 ≤ 7302250; omega⟩ (fun H locs hS => ?_)
  have hS : jS D vwCl (lwA s) (([(x0, .inr (10, [.ref lp, .ref n0, .ref s0, .ref an, .long tr]))] ++ (wN ++ [(an, .inr (1, [.long au, .long al])), (s0, .inr (8, [.ref s1, .ref s2, .int (nI ns), .ref s3, .ref s4])), (s1, .inl (cI, 6, .inl so)), (s2, .inl (cI, 6, .inl sp)), (s3, .inr (1, [.long tu, .long tl])), (s4, .inr (1, [.long ku, .long kl]))])) ++ ((LX lp b0 v0 cS ba (nI k1) (Sq svz k1).2.2.1 (Sq svz k1).2.2.2 ++ va_pl Lp' f') ++ MW ad cI cZ 0 tr up lo bg sz hs' (nI N) kind first second times byy group whole frm too isThere way (nI ns) ohms price ab' bl')) s.heap H locs := jS_perm lwpB.symm hS
  refine W.widen (k := 60 + 2 * accO (Sq svz) k1 + (t + 1)) (n := 3600 + 1406 * accO (Sq svz) k1 + 5 * (t + 1)) (by show 60 + 2 * accO (Sq svz) k + t + 2 * (accO (Sq svz) k1 - accO (Sq svz) k) + 0 ≤ _; omega) (by show 3600 + 1406 * accO (Sq svz) k + 5 * t + 1406 * (accO (Sq svz) k1 - accO (Sq svz) k) + 0 ≤ _; omega) ?_
  refine lv_icmp_eq (tgt := 764) hx hb dL_law_304 (by decide) (fun _ => ?_) (fun c1 => absurd rfl c1)
  exact next k1 H locs ls hk1 ⟨lp, an, s0, s1, s2, s3, s4, n0, n1, n2, n3, n4, n5, n6, b0, v0, N, ns, wk, w1, w2, wq, wm, flows, mu, ml, nb, lines, lineOf, lc, tr, au, al, so, sp, tu, tl, ku, kl, ba, Lp', f', wN, ad, 0, up, lo, bg, sz, hs', kind, first, second, times, byy, group, whole, frm, too, isThere, way, ohms, price, ab', bl', O, Pr, ⟨rfl, hk19⟩, hNP, hLL', hW, hSR, hR', hS⟩ hl
set_option maxHeartbeats 4000000 in
set_option maxRecDepth 100000 in
theorem law_turned (K : LCx p s m meth c b L xs D cI cJ cZ cW cS cO cG dd mi) (hi : i + 6 ≤ L) (hL : L ≤ 3072) (ht : t ≤ 512) (hk9 : k ≤ 9) (hNP : NP n0 n1 n2 n3 n4 n5 n6 cI cJ cW cG (nI N) wk w1 w2 wq wm flows mu ml nb lines lineOf lc wN) (hLL : jLL cO dd Lp f ba (Sq svz k).1 (Sq svz k).2.1) (hW : WR N wk w1 w2 wq wm flows kind first second times byy) (hSR : SR ns O Pr so sp ohms price) (hR : RSh hs upper lower begins) (hS : jS D vwCl (lwA s) (([(x0, .inr (10, [.ref lp, .ref n0, .ref s0, .ref an, .long tr]))] ++ (wN ++ [(an, .inr (1, [.long au, .long al])), (s0, .inr (8, [.ref s1, .ref s2, .int (nI ns), .ref s3, .ref s4])), (s1, .inl (cI, 6, .inl so)), (s2, .inl (cI, 6, .inl sp)), (s3, .inr (1, [.long tu, .long tl])), (s4, .inr (1, [.long ku, .long kl]))])) ++ ((LX lp b0 v0 cS ba (nI k) (Sq svz k).2.2.1 (Sq svz k).2.2.2 ++ va_pl Lp f) ++ MW ad cI cZ thrown tr upper lower begins size hs (nI N) kind first second times byy group whole frm too isThere way (nI ns) ohms price above belo)) s.heap H locs) (hl : lv_has ls 4 [(0, .ref b), (1, .ref x0), (2, .ref (ad 0)), (3, .int (nI i))]) (next : lwN p l e s m below meth c Q b D cI cJ cZ cW cS cO cG dd x0 (ad 0) i t k) : W p l e room_1 s m #[Value.ref b] below meth c H locs (60 + 2 * accO (Sq svz) k + t) (3600 + 1406 * accO (Sq svz) k + 5 * t) Q (F0 m 309 ls []) := by
  obtain ⟨C, hK, hX, hXs, hbl⟩ := K
  obtain ⟨⟨hx, hb, hml, hown, hts⟩, -⟩ := id C
  have hA : ∀ q : Nat, s.heap.size ≤ q → lwA s q := fun _ h => h
  obtain ⟨a1, ea1⟩ : ∃ a : Int32, a = xs (nI i + (1 : Int32)).toNatClampNeg := ⟨_, rfl⟩
  obtain ⟨a2, ea2⟩ : ∃ a : Int32, a = xs (nI i + (2 : Int32)).toNatClampNeg := ⟨_, rfl⟩
  have hacc := acc_le hk9
  obtain ⟨up, lo, bg, sz, hs', ab', bl', hE10, hR'⟩ := turned_same (sv0 := svz) (size := size) (ab := above) (bl := belo) hk9 hR a1 a2
  have hk1 : k ≤ (kN k a1) := kN_le
  have hk19 : (kN k a1) ≤ 9 := kN_nine hk9
  have hac1 := accO_le (Sq svz) hk1
  have hac9 := acc_le hk19
  generalize hK1 : (kN k a1) = k1 at hk1 hk19 hac1 hac9
  refine lv_aload_n hx hb dL_law_309 rfl (lv_at hl 1 rfl) ?_
  refine law_ld (v := a1) (j := 1) hx hb hXs hbl hS.2.2 hl (lw_in 1 rfl (by omega) hL) (by decide) ea1 dL_law_310 dL_law_311 dL_law_312 dL_law_313 dL_law_314 ?_
  refine law_ld (v := a2) (j := 2) hx hb hXs hbl hS.2.2 hl (lw_in 2 rfl (by omega) hL) (by decide) ea2 dL_law_315 dL_law_316 dL_law_317 dL_law_318 dL_law_319 ?_
  have con := tX9_turned l D dd mi cI cJ cZ cW cS cO cG x0 lp n0 s0 an tr b0 v0 ba Lp f (Sq svz) (Sq_seq svz) k a1 a2 hLL hk9
  rw [hK1] at con
  refine j_XVip (As := [.int a1, .int a2]) (rest := []) (vc := (RX9, TX9, 5)) (rm := rmX9_turned (accO (Sq svz) k1 - accO (Sq svz) k)) C hK hX hA hS lwpA con (cwV 2 hts gL_law_X9_turned rfl rfl rfl (by decide +kernel) ⟨Nat.le_of_ble_eq_true rfl, Nat.le_of_ble_eq_true rfl⟩) (q0 := 0) rfl (ci := 10) rfl rfl hl.1 rfl (Nat.le_of_ble_eq_true rfl) dL_law_320 ⟨by show 60 + 2 * accO (Sq svz) k + t + 2 * (accO (Sq svz) k1 - accO (Sq svz) k) ≤ 600000; omega, by show 3600 + 1406 * accO (Sq svz) k + 5 * t + 1406 * (accO (Sq svz) k1 - accO (Sq svz) k) ≤ 7302250; omega⟩ (fun r1 w1v H locs hp hS => ?_)
  obtain ⟨er, w', ew, Lp', f', ew', hLL'⟩ := hp
  subst ew'
  subst ew
  subst er
  have hS := jS_perm lwpA.symm hS
  refine lv_aload_n hx hb dL_law_323 rfl (lv_at hl 2 rfl) ?_
  refine law_ld (v := a1) (j := 1) hx hb hXs hbl hS.2.2 hl (lw_in 1 rfl (by omega) hL) (by decide) ea1 dL_law_324 dL_law_325 dL_law_326 dL_law_327 dL_law_328 ?_
  refine law_ld (v := a2) (j := 2) hx hb hXs hbl hS.2.2 hl (lw_in 2 rfl (by omega) hL) (by decide) ea2 dL_law_329 dL_law_330 dL_law_331 dL_law_332 dL_law_333 ?_
  refine j_Vi (As := [.int a1, .int a2]) (rest := [.int (fTurned (Sq svz) k a1 a2)]) (vc := (RX10, TX10, 24)) C hK hS (jcut_perm hA hS lwpB) (tX10_turned l D ad cI cJ cZ cW cS cO cG thrown tr upper lower begins size hs (nI N) kind first second times byy group whole frm too isThere way (nI ns) ohms price above belo a1 a2 hE10) (cwV 2 hts gL_law_X10_turned rfl rfl rfl (by decide +kernel) ⟨Nat.le_of_ble_eq_true rfl, Nat.le_of_ble_eq_true rfl⟩) (q0 := 0) rfl (ci := 11) rfl rfl hl.1 rfl (Nat.le_of_ble_eq_true rfl) dL_law_334 ⟨by show 60 + 2 * accO (Sq svz) k + t + 2 * (accO (Sq svz) k1 - accO (Sq svz) k) + 0 ≤ 600000; omega, by show 3600 + 1406 * accO (Sq svz) k + 5 * t + 1406 * (accO (Sq svz) k1 - accO (Sq svz) k) + 0 ≤ 7302250; omega⟩ (fun H locs hS => ?_)
  have hS : jS D vwCl (lwA s) (([(x0, .inr (10, [.ref lp, .ref n0, .ref s0, .ref an, .long tr]))] ++ (wN ++ [(an, .inr (1, [.long au, .long al])), (s0, .inr (8, [.ref s1, .ref s2, .int (nI ns), .ref s3, .ref s4])), (s1, .inl (cI, 6, .inl so)), (s2, .inl (cI, 6, .inl sp)), (s3, .inr (1, [.long tu, .long tl])), (s4, .inr (1, [.long ku, .long kl]))])) ++ ((LX lp b0 v0 cS ba (nI k1) (Sq svz k1).2.2.1 (Sq svz k1).2.2.2 ++ va_pl Lp' f') ++ MW ad cI cZ 0 tr up lo bg sz hs' (nI N) kind first second times byy group whole frm too isThere way (nI ns) ohms price ab' bl')) s.heap H locs := jS_perm lwpB.symm hS
  refine W.widen (k := 60 + 2 * accO (Sq svz) k1 + (t + 1)) (n := 3600 + 1406 * accO (Sq svz) k1 + 5 * (t + 1)) (by show 60 + 2 * accO (Sq svz) k + t + 2 * (accO (Sq svz) k1 - accO (Sq svz) k) + 0 ≤ _; omega) (by show 3600 + 1406 * accO (Sq svz) k + 5 * t + 1406 * (accO (Sq svz) k1 - accO (Sq svz) k) + 0 ≤ _; omega) ?_
  refine lv_icmp_eq (tgt := 764) hx hb dL_law_337 (by decide) (fun _ => ?_) (fun c1 => absurd rfl c1)
  exact next k1 H locs ls hk1 ⟨lp, an, s0, s1, s2, s3, s4, n0, n1, n2, n3, n4, n5, n6, b0, v0, N, ns, wk, w1, w2, wq, wm, flows, mu, ml, nb, lines, lineOf, lc, tr, au, al, so, sp, tu, tl, ku, kl, ba, Lp', f', wN, ad, 0, up, lo, bg, sz, hs', kind, first, second, times, byy, group, whole, frm, too, isThere, way, ohms, price, ab', bl', O, Pr, ⟨rfl, hk19⟩, hNP, hLL', hW, hSR, hR', hS⟩ hl
end LAWCASE
