abbrev XO (x0 lp n0 s0 an : Nat) (tr : Int64) : va_W := [(x0, .inr (10, [.ref lp, .ref n0, .ref s0, .ref an, .long tr]))]
theorem prm3 {P X Y : va_W} : (P ++ (X ++ Y)).Perm (X ++ (Y ++ P)) := by
  rw [← List.append_assoc X Y P]
  exact List.perm_append_comm
theorem isW (a lo hi : Int32) : fX9_isWithin a lo hi = some (if lo ≤ a ∧ a ≤ hi then 1 else 0) := by
  unfold fX9_isWithin
  by_cases h1 : a < lo
  · rw [if_pos h1, if_neg]
    intro h
    rw [Int32.lt_iff_toInt_lt] at h1
    have := h.1
    rw [Int32.le_iff_toInt_le] at this
    omega
  · rw [if_neg h1]
    by_cases h2 : hi < a
    · rw [if_pos h2, if_neg]
      intro h
      rw [Int32.lt_iff_toInt_lt] at h2
      have := h.2
      rw [Int32.le_iff_toInt_le] at this
      omega
    · rw [if_neg h2, if_pos]
      rw [Int32.lt_iff_toInt_lt] at h1 h2
      rw [Int32.le_iff_toInt_le, Int32.le_iff_toInt_le]
      omega
theorem isT (u d m : Int32) : fX9_isTold u d m = some (if (1 ≤ u ∧ u ≤ m) ∧ (1 ≤ d ∧ d ≤ m) then 1 else 0) := by
  unfold fX9_isTold
  rw [isW, isW]
  simp only [Option.bind_some]
  by_cases h1 : 1 ≤ u ∧ u ≤ m
  · by_cases h2 : 1 ≤ d ∧ d ≤ m
    · rw [if_pos h1, if_pos h2, if_pos (And.intro h1 h2)]
      rfl
    · rw [if_pos h1, if_neg h2, if_neg (show ¬ ((1 ≤ u ∧ u ≤ m) ∧ (1 ≤ d ∧ d ≤ m)) from fun h => h2 h.2)]
      rfl
  · rw [if_neg h1, if_neg (show ¬ ((1 ≤ u ∧ u ≤ m) ∧ (1 ≤ d ∧ d ≤ m)) from fun h => h1 h.1)]
    rfl
theorem one9 {a : Int32} (h : 1 ≤ a ∧ a ≤ 9) : ∃ n : Nat, 1 ≤ n ∧ n ≤ 9 ∧ a = nI n := by
  obtain ⟨n, h1, h2⟩ := nI_of2 (x := a) (M := 9) (n := 9) (by decide +kernel) (fun q => by
    have := h.1
    rw [Int32.lt_iff_toInt_lt] at q
    rw [Int32.le_iff_toInt_le] at this
    have e1 : (1 : Int32).toInt = 1 := by decide +kernel
    have e0 : (0 : Int32).toInt = 0 := by decide +kernel
    omega) h.2
  refine ⟨n, ?_, h1, h2⟩
  have h3 := h.1
  rw [h2] at h3
  have h4 : nI 1 ≤ nI n := h3
  exact (nI_leI (by omega) (by omega)).mp h4
def kN (k : Nat) (a : Int32) : Nat := if 1 ≤ a ∧ a ≤ 9 then max k a.toNatClampNeg else k
theorem kN_le {k : Nat} {a : Int32} : k ≤ kN k a := by
  unfold kN
  split
  · omega
  · omega
theorem kN_nine {k : Nat} {a : Int32} (hk : k ≤ 9) : kN k a ≤ 9 := by
  unfold kN
  split
  · rename_i h
    obtain ⟨n, h1, h2, rfl⟩ := one9 h
    rw [nI_clamp (by omega)]
    omega
  · omega
def jM (x0 lp n0 s0 an : Nat) (tr : Int64) (b0 v0 : Nat) (cS cO : ClassId) (dd : Nat) (ba : Nat → Option Nat) (S : Nat → LkS) (k1 : Nat) (w : va_W) : Prop := ∃ w', w = XO x0 lp n0 s0 an tr ++ w' ∧ jLike lp b0 v0 cS cO dd ba (nI k1) (S k1) w'
def sN (S : Nat → LkS) (k : Nat) (a : Int32) : Nat := (S (kN k a)).1 (a.toNatClampNeg - 1)
def sAt (S : Nat → LkS) (k : Nat) (a i : Int32) : Option SV := if (1 ≤ a ∧ a ≤ 9) ∧ jok i (sN S k a) then some ((S (kN k a)).2.1 (a.toNatClampNeg - 1) i.toNatClampNeg) else none
section JLSH
variable {p : Program} {l : Launch} {e : Env} {R : Room} {s : State} {m : MethodId} {args : Array Value} {below : List Frame} {meth : Method} {c : Code} {H : Heap} {locs : List Loc} {cells slots : Nat} {Q : State → Prop}
variable {cc : ByteArray} {pc nL : Nat} {ls : Array Slot} {rest : List Value} {D : va_G} {A : Nat → Prop} {dd mi : Nat} {Ts : List Cond} {y0 : MethodName} {rtt : Option FieldType} {index : Nat} {st0 : List Value} {cI cJ cZ cW cS cO cG : ClassId}
/-- the call of sharesOf -/
theorem jl_shares {lp b0 v0 k n : Nat} {wx : va_W} {ba : Nat → Option Nat} {S : Nat → LkS} {L : List Nat} {f : Nat → va_E} (C : jC p s m meth c cc nL args Ts y0 rtt) (hK : va_K D vwCl (TY cI cJ cZ cW cS cO cG) s) (hX : jX dd mi A s) (hA : ∀ q, s.heap.size ≤ q → A q) (hS : jS D vwCl A (wx ++ (LX lp b0 v0 cS ba (nI k) (S k).2.2.1 (S k).2.2.2 ++ va_pl L f)) s.heap H locs) (hLL : jLL cO dd L f ba (S k).1 (S k).2.1) (hq : jSeq S) (hk9 : k ≤ 9) (hn0 : 1 ≤ n) (hn9 : n ≤ 9)
    (cw : CallW R s args y0.cls RX1 index yX1_sharesOf cX1_sharesOf 3 (some (.object "OhmNets$Shares")) wsX1_sharesOf (rmX1_sharesOf (accO S (max k n) - accO S k)) (2 * (accO S (max k n) - accO S k)) (1406 * (accO S (max k n) - accO S k)) 1) (hsz : ls.size = nL) (hst0 : st0 = [.int (nI n), .ref lp] ++ rest) (hW : (rest.map fun v => v.category).sum ≤ 8) (hdg : decode cc pc = .ok (.invokevirtual index, 3)) (hf : cells + 2 * (accO S (max k n) - accO S k) ≤ R.cells ∧ slots + 1406 * (accO S (max k n) - accO S k) ≤ R.slots)
    (kk : ∀ (sa : Nat) (H1 : Heap) (locs1 : List Loc) (L1 : List Nat) (f1 : Nat → va_E), ba (n - 1) = some sa → jLL cO dd L1 f1 ba (S (max k n)).1 (S (max k n)).2.1 → jS D vwCl A (wx ++ (LX lp b0 v0 cS ba (nI (max k n)) (S (max k n)).2.2.1 (S (max k n)).2.2.2 ++ va_pl L1 f1)) s.heap H1 locs1 → W p l e R s m args below meth c H1 locs1 (cells + 2 * (accO S (max k n) - accO S k)) (slots + 1406 * (accO S (max k n) - accO S k)) Q (F0 m (pc + 3) ls (.ref sa :: rest))) : W p l e R s m args below meth c H locs cells slots Q (F0 m pc ls st0) := by
  refine j_XVqp (rm := rmX1_sharesOf (accO S (max k n) - accO S k)) (As := [.int (nI n)]) (rest := rest) (wc := (LX lp b0 v0 cS ba (nI k) (S k).2.2.1 (S k).2.2.2 ++ va_pl L f)) (wr := wx) (vc := (RX1, TX1, 3)) C hK hX hA hS List.perm_append_comm (tX1_sharesOf l D dd mi cI cJ cZ cW cS cO cG lp b0 v0 ba L f S hq k n hLL hk9 hn0 hn9) cw (q0 := 0) rfl (ci := 2) rfl rfl hsz hst0 hW hdg hf (fun r w H locs hp hS => ?_)
  obtain ⟨er, L1, f1, ew, hL1⟩ := hp
  subst ew
  obtain ⟨fsa, hba⟩ := hL1.ba
  have eb := hba (n - 1) (by omega)
  rw [eb] at er
  subst er
  exact kk (fsa (n - 1)) H locs L1 f1 eb hL1 (jS_perm List.perm_append_comm hS)
end JLSH
def fMany (S : Nat → LkS) (k : Nat) (a : Int32) : Int32 := if 1 ≤ a ∧ a ≤ 9 then nI (sN S k a) else -1
abbrev rmX9_many (N : Nat) : Room := { frames := 10, cells := 2 * N, slots := 1406 * N, locals := 340 }
set_option maxHeartbeats 4000000 in
set_option maxRecDepth 100000 in
theorem tX9_many (l : Launch) (D : va_G) (dd mi : Nat) (cI cJ cZ cW cS cO cG : ClassId) (x0 lp n0 s0 an : Nat) (tr : Int64) (b0 v0 : Nat) (ba : Nat → Option Nat) (L : List Nat) (f : Nat → va_E) (S : Nat → LkS) (hq : jSeq S) (k : Nat) (a : Int32) (hLL : jLL cO dd L f ba (S k).1 (S k).2.1) (hk9 : k ≤ 9) : JXi l yX9_many wsX9_many (rmX9_many (accO S (kN k a) - accO S k)) D vwCl (TY cI cJ cZ cW cS cO cG) dd mi [.ref x0, .int a] (XO x0 lp n0 s0 an tr ++ (LX lp b0 v0 cS ba (nI k) (S k).2.2.1 (S k).2.2.2 ++ va_pl L f)) (fun x v => x = fMany S k a ∧ jM x0 lp n0 s0 an tr b0 v0 cS cO dd ba S (kN k a) v) := by
  refine JXi.of (cc := cX9_many) (maxL := 2) (by decide) rfl (Nat.le_of_ble_eq_true rfl) ?_
  intro p e s m args below meth c A ls Q C hK hX hA ret hS hl
  obtain ⟨⟨hx, hb, hml, hown, hts⟩, -⟩ := id C
  have hl : lv_has ls 2 [(0, .ref x0), (1, .int a)] := hl
  have inX9 : ∀ w ∈ u_ws RX9 TX9 5, w ∈ wsX9_many := by decide +kernel
  have k0 := hts (.fieldLink RX9 10 "OhmNets" "likeParts" "LOhmNets$LikeParts;") (by decide +kernel)
  generalize hN : accO S (kN k a) - accO S k = N at ret ⊢
  refine lv_iload_n hx hb dX9_many_0 rfl (lv_at hl 1 rfl) ?_
  refine lv_iconst (v := (1 : Int32)) hx hb dX9_many_1 (by decide) ?_
  refine lv_bipush (v := (9 : Int32)) hx hb dX9_many_2 (by decide) ?_
  refine j_Si (As := [.int a, .int (1 : Int32), .int (9 : Int32)]) (rest := []) (wf := (XO x0 lp n0 s0 an tr ++ (LX lp b0 v0 cS ba (nI k) (S k).2.2.1 (S k).2.2.2 ++ va_pl L f))) C hK hS (jcut_nil hA hS) (tX9_isWithin l D cI cJ cZ cW cS cO cG a 1 9 (isW _ _ _)) (va_cwS 3 hts gX9_many_X9_isWithin rfl rfl rfl (by decide +kernel) ⟨Nat.le_of_ble_eq_true rfl, Nat.le_of_ble_eq_true rfl⟩) rfl hl.1 rfl (Nat.le_of_ble_eq_true rfl) dX9_many_4 ⟨Nat.zero_le _, Nat.zero_le _⟩ (fun H locs hS => ?_)
  refine lv_if_ne (tgt := 12) hx hb dX9_many_7 (by decide) (fun c1 => ?_) (fun c1 => ?_)
  · have hw : 1 ≤ a ∧ a ≤ 9 := Decidable.byContradiction (fun h => c1 (if_neg h))
    have ek : kN k a = max k a.toNatClampNeg := if_pos hw
    have ea : fMany S k a = nI (sN S k a) := if_pos hw
    unfold sN at ea
    rw [ea] at ret
    rw [ek] at ret hN
    obtain ⟨n, hn0, hn9, rfl⟩ := one9 hw
    rw [nI_clamp (by omega)] at ret hN
    refine lv_aload_n hx hb dX9_many_12 rfl (lv_at hl 0 rfl) ?_
    refine va_get (D := D) (ci := 10) (v := .ref lp) (C := RX9) (T := TX9) (N := 5) hx hb hts inX9 hown hK hS.1 0 rfl rfl 0 (by decide) k0 (fun _ h => h) rfl dX9_many_13 ?_
    refine lv_iload_n hx hb dX9_many_16 rfl (lv_at hl 1 rfl) ?_
    have eN := hN
    refine jl_shares (k := k) (n := n) (wx := XO x0 lp n0 s0 an tr) (rest := []) C hK hX hA hS hLL hq hk9 hn0 hn9 (cwV 1 hts gX9_many_X1_sharesOf rfl rfl rfl (by decide +kernel) ⟨Nat.le_of_ble_eq_true rfl, Nat.le_of_ble_eq_true rfl⟩) hl.1 rfl (Nat.le_of_ble_eq_true rfl) dX9_many_17 ⟨by rw [eN]; show 0 + 2 * N ≤ 2 * N; omega, by rw [eN]; show 0 + 1406 * N ≤ 1406 * N; omega⟩ (fun sa H locs L1 f1 hsa hLL hS => ?_)
    rw [eN]
    obtain ⟨c1, m1, ⟨fs1, g1⟩, s1⟩ := hLL.sh (i := n - 1) (by omega) hsa
    obtain ⟨q1, hq1⟩ := jp_at m1 g1
    refine j_Vi (As := []) (rest := []) (wc := va_pl L1 f1) (w1 := va_pl L1 f1) (wf := va_pl L1 f1 ++ (XO x0 lp n0 s0 an tr ++ LX lp b0 v0 cS ba (nI (max k n)) (S (max k n)).2.2.1 (S (max k n)).2.2.2)) (vc := (RX6, TX6, 1)) C hK hS (jcut_perm hA hS (by rw [← List.append_assoc]; exact List.perm_append_comm)) (tX6_size l D dd L1 f1 _ cI cJ cZ cW cS cO cG _ _ _ _ _ _ _ (o := nI ((S (max k n)).1 (n - 1))) rfl s1) (cwV 0 hts gX9_many_X6_size rfl rfl rfl (by decide +kernel) ⟨Nat.le_of_ble_eq_true rfl, Nat.le_of_ble_eq_true rfl⟩) (q0 := q1) hq1 (ci := 7) rfl rfl hl.1 rfl (Nat.le_of_ble_eq_true rfl) dX9_many_20 ⟨by show 0 + 2 * N + 0 ≤ 2 * N; omega, by show 0 + 1406 * N + 0 ≤ 1406 * N; omega⟩ (fun H locs hS => ?_)
    have hS : jS D vwCl A (XO x0 lp n0 s0 an tr ++ (LX lp b0 v0 cS ba (nI (max k n)) (S (max k n)).2.2.1 (S (max k n)).2.2.2 ++ va_pl L1 f1)) s.heap H locs := jS_perm prm3 hS
    refine W.widen (k := 2 * N) (n := 1406 * N) (by show 0 + 2 * N + 0 ≤ 2 * N; omega) (by show 0 + 1406 * N + 0 ≤ 1406 * N; omega) ?_
    exact ret ⟨rfl, _, rfl, L1, f1, rfl, hLL⟩ hS rfl dX9_many_23
  · have hw : ¬ (1 ≤ a ∧ a ≤ 9) := fun h => by
      rw [if_pos h] at c1
      exact absurd c1 (by decide)
    have ek : kN k a = k := if_neg hw
    have ea : fMany S k a = -1 := if_neg hw
    rw [ea, ek] at ret
    refine lv_iconst (v := (-1 : Int32)) hx hb dX9_many_10 (by decide) ?_
    refine W.widen (k := 2 * N) (n := 1406 * N) (Nat.zero_le _) (Nat.zero_le _) ?_
    exact ret ⟨rfl, _, rfl, L, f, rfl, hLL⟩ hS rfl dX9_many_11
/-- what shareAt answers -/
def jSA (x0 lp n0 s0 an : Nat) (tr : Int64) (b0 v0 : Nat) (cS cO : ClassId) (dd : Nat) (ba : Nat → Option Nat) (S : Nat → LkS) (k1 : Nat) (o : Option SV) (r : Option Nat) (w : va_W) : Prop := ∃ (L : List Nat) (f : Nat → va_E), w = XO x0 lp n0 s0 an tr ++ (LX lp b0 v0 cS ba (nI k1) (S k1).2.2.1 (S k1).2.2.2 ++ va_pl L f) ∧ jLL cO dd L f ba (S k1).1 (S k1).2.1 ∧ ((o = none ∧ r = none) ∨ ∃ x a, o = some x ∧ r = some a ∧ a ∈ L ∧ f a = shC x)
abbrev rmX9_shareAt (N : Nat) : Room := { frames := 11, cells := 2 * N, slots := 1406 * N, locals := 360 }
set_option maxHeartbeats 4000000 in
set_option maxRecDepth 100000 in
theorem tX9_shareAt (l : Launch) (D : va_G) (dd mi : Nat) (cI cJ cZ cW cS cO cG : ClassId) (x0 lp n0 s0 an : Nat) (tr : Int64) (b0 v0 : Nat) (ba : Nat → Option Nat) (L : List Nat) (f : Nat → va_E) (S : Nat → LkS) (hq : jSeq S) (k : Nat) (a i : Int32) (hLL : jLL cO dd L f ba (S k).1 (S k).2.1) (hk9 : k ≤ 9) : JXq l yX9_shareAt wsX9_shareAt (rmX9_shareAt (accO S (kN k a) - accO S k)) D vwCl (TY cI cJ cZ cW cS cO cG) dd mi [.ref x0, .int a, .int i] (XO x0 lp n0 s0 an tr ++ (LX lp b0 v0 cS ba (nI k) (S k).2.2.1 (S k).2.2.2 ++ va_pl L f)) (jSA x0 lp n0 s0 an tr b0 v0 cS cO dd ba S (kN k a) (sAt S k a i)) := by
  refine JXq.of (cc := cX9_shareAt) (maxL := 3) (by decide) rfl (Nat.le_of_ble_eq_true rfl) ?_
  intro p e s m args below meth c A ls Q C hK hX hA ret hS hl
  obtain ⟨⟨hx, hb, hml, hown, hts⟩, -⟩ := id C
  have hl : lv_has ls 3 [(0, .ref x0), (1, .int a), (2, .int i)] := hl
  have inX9 : ∀ w ∈ u_ws RX9 TX9 5, w ∈ wsX9_shareAt := by decide +kernel
  have k0 := hts (.fieldLink RX9 10 "OhmNets" "likeParts" "LOhmNets$LikeParts;") (by decide +kernel)
  generalize hN : accO S (kN k a) - accO S k = N at ret ⊢
  refine lv_iload_n hx hb dX9_shareAt_0 rfl (lv_at hl 1 rfl) ?_
  refine lv_iconst (v := (1 : Int32)) hx hb dX9_shareAt_1 (by decide) ?_
  refine lv_bipush (v := (9 : Int32)) hx hb dX9_shareAt_2 (by decide) ?_
  refine j_Si (As := [.int a, .int (1 : Int32), .int (9 : Int32)]) (rest := []) (wf := (XO x0 lp n0 s0 an tr ++ (LX lp b0 v0 cS ba (nI k) (S k).2.2.1 (S k).2.2.2 ++ va_pl L f))) C hK hS (jcut_nil hA hS) (tX9_isWithin l D cI cJ cZ cW cS cO cG a 1 9 (isW _ _ _)) (va_cwS 3 hts gX9_shareAt_X9_isWithin rfl rfl rfl (by decide +kernel) ⟨Nat.le_of_ble_eq_true rfl, Nat.le_of_ble_eq_true rfl⟩) rfl hl.1 rfl (Nat.le_of_ble_eq_true rfl) dX9_shareAt_4 ⟨Nat.zero_le _, Nat.zero_le _⟩ (fun H locs hS => ?_)
  refine lv_if_ne (tgt := 12) hx hb dX9_shareAt_7 (by decide) (fun c1 => ?_) (fun c1 => ?_)
  · have hw : 1 ≤ a ∧ a ≤ 9 := Decidable.byContradiction (fun h => c1 (if_neg h))
    have ek : kN k a = max k a.toNatClampNeg := if_pos hw
    unfold sAt sN at ret
    rw [ek] at ret hN
    have hw0 := hw
    obtain ⟨n, hn0, hn9, rfl⟩ := one9 hw
    rw [nI_clamp (by omega)] at ret hN
    refine lv_aload_n hx hb dX9_shareAt_12 rfl (lv_at hl 0 rfl) ?_
    refine va_get (D := D) (ci := 10) (v := .ref lp) (C := RX9) (T := TX9) (N := 5) hx hb hts inX9 hown hK hS.1 0 rfl rfl 0 (by decide) k0 (fun _ h => h) rfl dX9_shareAt_13 ?_
    refine lv_iload_n hx hb dX9_shareAt_16 rfl (lv_at hl 1 rfl) ?_
    have eN := hN
    refine jl_shares (k := k) (n := n) (wx := XO x0 lp n0 s0 an tr) (rest := []) C hK hX hA hS hLL hq hk9 hn0 hn9 (cwV 1 hts gX9_shareAt_X1_sharesOf rfl rfl rfl (by decide +kernel) ⟨Nat.le_of_ble_eq_true rfl, Nat.le_of_ble_eq_true rfl⟩) hl.1 rfl (Nat.le_of_ble_eq_true rfl) dX9_shareAt_17 ⟨by rw [eN]; show 0 + 2 * N ≤ 2 * N; omega, by rw [eN]; show 0 + 1406 * N ≤ 1406 * N; omega⟩ (fun sa H locs L1 f1 hsa hLL hS => ?_)
    rw [eN]
    obtain ⟨c1, m1, ⟨fs1, g1⟩, s1⟩ := hLL.sh (i := n - 1) (by omega) hsa
    obtain ⟨q1, hq1⟩ := jp_at m1 g1
    refine lv_iload_n hx hb dX9_shareAt_20 rfl (lv_at hl 2 rfl) ?_
    refine j_QVqp (As := [.int i]) (rest := []) (wc := va_pl L1 f1) (wr := XO x0 lp n0 s0 an tr ++ LX lp b0 v0 cS ba (nI (max k n)) (S (max k n)).2.2.1 (S (max k n)).2.2.2) (vc := (RX6, TX6, 1)) C hK hA hS (by rw [← List.append_assoc]; exact List.perm_append_comm) (tX6_at l D dd L1 f1 _ cI cJ cZ cW cS cO cG _ _ _ _ _ _ _ i s1) (cwV 1 hts gX9_shareAt_X6_at rfl rfl rfl (by decide +kernel) ⟨Nat.le_of_ble_eq_true rfl, Nat.le_of_ble_eq_true rfl⟩) (q0 := q1) hq1 (ci := 7) rfl rfl hl.1 rfl (Nat.le_of_ble_eq_true rfl) dX9_shareAt_21 ⟨by show 0 + 2 * N + 0 ≤ 2 * N; omega, by show 0 + 1406 * N + 0 ≤ 1406 * N; omega⟩ (fun r w H locs hp hS => ?_)
    obtain ⟨ew, hp⟩ := hp
    subst ew
    rw [nI_clamp (by omega)] at hp
    have hS : jS D vwCl A (XO x0 lp n0 s0 an tr ++ (LX lp b0 v0 cS ba (nI (max k n)) (S (max k n)).2.2.1 (S (max k n)).2.2.2 ++ va_pl L1 f1)) s.heap H locs := jS_perm prm3 hS
    refine W.widen (k := 2 * N) (n := 1406 * N) (by show 0 + 2 * N + 0 ≤ 2 * N; omega) (by show 0 + 1406 * N + 0 ≤ 1406 * N; omega) ?_
    rcases hp with ⟨hj, ad, er, had, fad⟩ | ⟨hj, er⟩
    · subst er
      exact ret (r := some ad) ⟨L1, f1, rfl, hLL, Or.inr ⟨_, ad, if_pos ⟨hw0, hj⟩, rfl, had, fad⟩⟩ hS (Or.inl ⟨_, rfl⟩) dX9_shareAt_24
    · subst er
      exact ret (r := none) ⟨L1, f1, rfl, hLL, Or.inl ⟨if_neg (fun h => hj h.2), rfl⟩⟩ hS (Or.inl ⟨_, rfl⟩) dX9_shareAt_24
  · have hw : ¬ (1 ≤ a ∧ a ≤ 9) := fun h => by
      rw [if_pos h] at c1
      exact absurd c1 (by decide)
    have ek : kN k a = k := if_neg hw
    rw [ek] at ret
    refine lv_null hx hb dX9_shareAt_10 ?_
    refine W.widen (k := 2 * N) (n := 1406 * N) (Nat.zero_le _) (Nat.zero_le _) ?_
    exact ret (r := none) ⟨L, f, rfl, hLL, Or.inl ⟨if_neg (fun h => hw h.1), rfl⟩⟩ hS (Or.inl ⟨_, rfl⟩) dX9_shareAt_11
def fShare (S : Nat → LkS) (k : Nat) (a i q : Int32) : Int32 := match sAt S k a i with
  | none => -1
  | some x => if 0 ≤ q ∧ q ≤ 1 then (if q = 0 then x.1 else x.2.1) else -1
abbrev rmX9_share (N : Nat) : Room := { frames := 12, cells := 2 * N, slots := 1406 * N, locals := 390 }
set_option maxHeartbeats 4000000 in
set_option maxRecDepth 100000 in
theorem tX9_share (l : Launch) (D : va_G) (dd mi : Nat) (cI cJ cZ cW cS cO cG : ClassId) (x0 lp n0 s0 an : Nat) (tr : Int64) (b0 v0 : Nat) (ba : Nat → Option Nat) (L : List Nat) (f : Nat → va_E) (S : Nat → LkS) (hq : jSeq S) (k : Nat) (a i q : Int32) (hLL : jLL cO dd L f ba (S k).1 (S k).2.1) (hk9 : k ≤ 9) : JXi l yX9_share wsX9_share (rmX9_share (accO S (kN k a) - accO S k)) D vwCl (TY cI cJ cZ cW cS cO cG) dd mi [.ref x0, .int a, .int i, .int q] (XO x0 lp n0 s0 an tr ++ (LX lp b0 v0 cS ba (nI k) (S k).2.2.1 (S k).2.2.2 ++ va_pl L f)) (fun x v => x = fShare S k a i q ∧ jM x0 lp n0 s0 an tr b0 v0 cS cO dd ba S (kN k a) v) := by
  refine JXi.of (cc := cX9_share) (maxL := 5) (by decide) rfl (Nat.le_of_ble_eq_true rfl) ?_
  intro p e s m args below meth c A ls Q C hK hX hA ret hS hl
  obtain ⟨⟨hx, hb, hml, hown, hts⟩, -⟩ := id C
  have hl : lv_has ls 5 [(0, .ref x0), (1, .int a), (2, .int i), (3, .int q)] := hl
  have inX9 : ∀ w ∈ u_ws RX9 TX9 5, w ∈ wsX9_share := by decide +kernel
  have inX5 : ∀ w ∈ u_ws RX5 TX5 6, w ∈ wsX9_share := by decide +kernel
  have k1 := hts (.fieldLink RX9 59 "OhmNets$Share" "upper" "I") (by decide +kernel)
  have k2 := hts (.fieldLink RX9 65 "OhmNets$Share" "lower" "I") (by decide +kernel)
  generalize hN : accO S (kN k a) - accO S k = N at ret ⊢
  refine lv_aload_n hx hb dX9_share_0 rfl (lv_at hl 0 rfl) ?_
  refine lv_iload_n hx hb dX9_share_1 rfl (lv_at hl 1 rfl) ?_
  refine lv_iload_n hx hb dX9_share_2 rfl (lv_at hl 2 rfl) ?_
  refine j_XVq (rm := rmX9_shareAt (accO S (kN k a) - accO S k)) (As := [.int a, .int i]) (rest := []) (vc := (RX9, TX9, 5)) C hK hX hA hS (tX9_shareAt l D dd mi cI cJ cZ cW cS cO cG x0 lp n0 s0 an tr b0 v0 ba L f S hq k a i hLL hk9) (cwV 2 hts gX9_share_X9_shareAt rfl rfl rfl (by decide +kernel) ⟨Nat.le_of_ble_eq_true rfl, Nat.le_of_ble_eq_true rfl⟩) (q0 := 0) rfl (ci := 10) rfl rfl hl.1 rfl (Nat.le_of_ble_eq_true rfl) dX9_share_3 ⟨by show 0 + 2 * (accO S (kN k a) - accO S k) ≤ 2 * N; omega, by show 0 + 1406 * (accO S (kN k a) - accO S k) ≤ 1406 * N; omega⟩ (fun r w H locs hp hS => ?_)
  obtain ⟨L1, f1, ew, hL1, hp⟩ := hp
  subst ew
  refine W.widen (k := 2 * N) (n := 1406 * N) (by show 0 + 2 * (accO S (kN k a) - accO S k) ≤ 2 * N; omega) (by show 0 + 1406 * (accO S (kN k a) - accO S k) ≤ 1406 * N; omega) ?_
  rcases hp with ⟨eo, er⟩ | ⟨x, ad, eo, er, had, fad⟩
  · subst er
    refine lv_astoreN (lv' := [(4, .null), (0, .ref x0), (1, .int a), (2, .int i), (3, .int q)]) hx hb dX9_share_6 hl (by decide) rfl (fun ls hl => ?_)
    refine lv_aloadN hx hb dX9_share_8 (lv_at hl 0 rfl) ?_
    refine lv_ifnullN (tgt := 22) hx hb dX9_share_10 (by decide) ?_
    refine lv_iconst (v := (-1 : Int32)) hx hb dX9_share_22 (by decide) ?_
    exact ret ⟨by unfold fShare; rw [eo], _, rfl, L1, f1, rfl, hL1⟩ hS rfl dX9_share_23
  · subst er
    refine lv_astore (lv' := [(4, .ref ad), (0, .ref x0), (1, .int a), (2, .int i), (3, .int q)]) hx hb dX9_share_6 hl (by decide) rfl (fun ls hl => ?_)
    refine lv_aload hx hb dX9_share_8 (lv_at hl 0 rfl) ?_
    refine lv_ifnull hx hb dX9_share_10 ?_
    refine lv_iload_n hx hb dX9_share_13 rfl (lv_at hl 4 rfl) ?_
    refine lv_iconst (v := (0 : Int32)) hx hb dX9_share_14 (by decide) ?_
    refine lv_iconst (v := (1 : Int32)) hx hb dX9_share_15 (by decide) ?_
    refine j_Si (As := [.int q, .int (0 : Int32), .int (1 : Int32)]) (rest := []) (wf := (XO x0 lp n0 s0 an tr ++ (LX lp b0 v0 cS ba (nI (kN k a)) (S (kN k a)).2.2.1 (S (kN k a)).2.2.2 ++ va_pl L1 f1))) C hK hS (jcut_nil hA hS) (tX9_isWithin l D cI cJ cZ cW cS cO cG q 0 1 (isW _ _ _)) (va_cwS 3 hts gX9_share_X9_isWithin rfl rfl rfl (by decide +kernel) ⟨Nat.le_of_ble_eq_true rfl, Nat.le_of_ble_eq_true rfl⟩) rfl hl.1 rfl (Nat.le_of_ble_eq_true rfl) dX9_share_16 ⟨by show 2 * N + 0 ≤ 2 * N; omega, by show 1406 * N + 0 ≤ 1406 * N; omega⟩ (fun H locs hS => ?_)
    refine W.widen (k := 2 * N) (n := 1406 * N) (by show 2 * N + 0 ≤ 2 * N; omega) (by show 1406 * N + 0 ≤ 1406 * N; omega) ?_
    refine lv_if_ne (tgt := 24) hx hb dX9_share_19 (by decide) (fun c1 => ?_) (fun c1 => ?_)
    · have hw : 0 ≤ q ∧ q ≤ 1 := Decidable.byContradiction (fun h => c1 (if_neg h))
      refine lv_iload_n hx hb dX9_share_24 rfl (lv_at hl 4 rfl) ?_
      refine lv_if_ne (tgt := 36) hx hb dX9_share_25 (by decide) (fun c2 => ?_) (fun c2 => ?_)
      · refine lv_aload hx hb dX9_share_36 (lv_at hl 0 rfl) ?_
        refine jp_get (X := XO x0 lp n0 s0 an tr ++ LX lp b0 v0 cS ba (nI (kN k a)) (S (kN k a)).2.2.1 (S (kN k a)).2.2.2) (ci := 6) (v := .int x.2.1) (C := RX5) (T := TX5) (N := 6) hx hb hts inX5 hown hK (by rw [List.append_assoc]; exact hS.1) had fad rfl 1 (by decide) k2 (fun _ h => h) rfl dX9_share_38 ?_
        exact ret ⟨by unfold fShare; rw [eo]; exact ((if_pos hw).trans (if_neg c2)).symm, _, rfl, L1, f1, rfl, hL1⟩ hS rfl dX9_share_41
      · refine lv_aload hx hb dX9_share_28 (lv_at hl 0 rfl) ?_
        refine jp_get (X := XO x0 lp n0 s0 an tr ++ LX lp b0 v0 cS ba (nI (kN k a)) (S (kN k a)).2.2.1 (S (kN k a)).2.2.2) (ci := 6) (v := .int x.1) (C := RX5) (T := TX5) (N := 6) hx hb hts inX5 hown hK (by rw [List.append_assoc]; exact hS.1) had fad rfl 0 (by decide) k1 (fun _ h => h) rfl dX9_share_30 ?_
        refine lv_goto (tgt := 41) hx hb dX9_share_33 (by decide) ?_
        exact ret ⟨by unfold fShare; rw [eo]; exact ((if_pos hw).trans (if_pos c2)).symm, _, rfl, L1, f1, rfl, hL1⟩ hS rfl dX9_share_41
    · have hw : ¬ (0 ≤ q ∧ q ≤ 1) := fun h => by
        rw [if_pos h] at c1
        exact absurd c1 (by decide)
      refine lv_iconst (v := (-1 : Int32)) hx hb dX9_share_22 (by decide) ?_
      exact ret ⟨by unfold fShare; rw [eo]; exact (if_neg hw).symm, _, rfl, L1, f1, rfl, hL1⟩ hS rfl dX9_share_23
theorem jsw4m {x : Int32} (h0 : ¬ x = 0) (h1 : ¬ x = 1) (h2 : ¬ x = 2) (h3 : ¬ x = 3) : x.toInt < 0 ∨ 3 < x.toInt := by
  rw [← Int32.toInt_inj] at h0 h1 h2 h3
  have e0 : (0 : Int32).toInt = 0 := by decide +kernel
  have e1 : (1 : Int32).toInt = 1 := by decide +kernel
  have e2 : (2 : Int32).toInt = 2 := by decide +kernel
  have e3 : (3 : Int32).toInt = 3 := by decide +kernel
  omega
def fMade (S : Nat → LkS) (k : Nat) (a i q : Int32) : Int32 := match sAt S k a i with
  | none => -1
  | some x => if q = 0 then x.2.2.1 else if q = 1 then x.2.2.2.1 else if q = 2 then x.2.2.2.2.1 else if q = 3 then x.2.2.2.2.2 else -1
abbrev rmX9_made (N : Nat) : Room := { frames := 12, cells := 2 * N, slots := 1406 * N, locals := 390 }
set_option maxHeartbeats 4000000 in
set_option maxRecDepth 100000 in
theorem tX9_made (l : Launch) (D : va_G) (dd mi : Nat) (cI cJ cZ cW cS cO cG : ClassId) (x0 lp n0 s0 an : Nat) (tr : Int64) (b0 v0 : Nat) (ba : Nat → Option Nat) (L : List Nat) (f : Nat → va_E) (S : Nat → LkS) (hq : jSeq S) (k : Nat) (a i q : Int32) (hLL : jLL cO dd L f ba (S k).1 (S k).2.1) (hk9 : k ≤ 9) : JXi l yX9_made wsX9_made (rmX9_made (accO S (kN k a) - accO S k)) D vwCl (TY cI cJ cZ cW cS cO cG) dd mi [.ref x0, .int a, .int i, .int q] (XO x0 lp n0 s0 an tr ++ (LX lp b0 v0 cS ba (nI k) (S k).2.2.1 (S k).2.2.2 ++ va_pl L f)) (fun x v => x = fMade S k a i q ∧ jM x0 lp n0 s0 an tr b0 v0 cS cO dd ba S (kN k a) v) := by
  refine JXi.of (cc := cX9_made) (maxL := 5) (by decide) rfl (Nat.le_of_ble_eq_true rfl) ?_
  intro p e s m args below meth c A ls Q C hK hX hA ret hS hl
  obtain ⟨⟨hx, hb, hml, hown, hts⟩, -⟩ := id C
  have hl : lv_has ls 5 [(0, .ref x0), (1, .int a), (2, .int i), (3, .int q)] := hl
  have inX9 : ∀ w ∈ u_ws RX9 TX9 5, w ∈ wsX9_made := by decide +kernel
  have inX5 : ∀ w ∈ u_ws RX5 TX5 6, w ∈ wsX9_made := by decide +kernel
  have k1 := hts (.fieldLink RX9 76 "OhmNets$Share" "how" "I") (by decide +kernel)
  have k2 := hts (.fieldLink RX9 79 "OhmNets$Share" "firstParts" "I") (by decide +kernel)
  have k3 := hts (.fieldLink RX9 82 "OhmNets$Share" "firstRank" "I") (by decide +kernel)
  have k4 := hts (.fieldLink RX9 85 "OhmNets$Share" "secondRank" "I") (by decide +kernel)
  generalize hN : accO S (kN k a) - accO S k = N at ret ⊢
  refine lv_aload_n hx hb dX9_made_0 rfl (lv_at hl 0 rfl) ?_
  refine lv_iload_n hx hb dX9_made_1 rfl (lv_at hl 1 rfl) ?_
  refine lv_iload_n hx hb dX9_made_2 rfl (lv_at hl 2 rfl) ?_
  refine j_XVq (rm := rmX9_shareAt (accO S (kN k a) - accO S k)) (As := [.int a, .int i]) (rest := []) (vc := (RX9, TX9, 5)) C hK hX hA hS (tX9_shareAt l D dd mi cI cJ cZ cW cS cO cG x0 lp n0 s0 an tr b0 v0 ba L f S hq k a i hLL hk9) (cwV 2 hts gX9_made_X9_shareAt rfl rfl rfl (by decide +kernel) ⟨Nat.le_of_ble_eq_true rfl, Nat.le_of_ble_eq_true rfl⟩) (q0 := 0) rfl (ci := 10) rfl rfl hl.1 rfl (Nat.le_of_ble_eq_true rfl) dX9_made_3 ⟨by show 0 + 2 * (accO S (kN k a) - accO S k) ≤ 2 * N; omega, by show 0 + 1406 * (accO S (kN k a) - accO S k) ≤ 1406 * N; omega⟩ (fun r w H locs hp hS => ?_)
  obtain ⟨L1, f1, ew, hL1, hp⟩ := hp
  subst ew
  refine W.widen (k := 2 * N) (n := 1406 * N) (by show 0 + 2 * (accO S (kN k a) - accO S k) ≤ 2 * N; omega) (by show 0 + 1406 * (accO S (kN k a) - accO S k) ≤ 1406 * N; omega) ?_
  rcases hp with ⟨eo, er⟩ | ⟨x, ad, eo, er, had, fad⟩
  · subst er
    refine lv_astoreN (lv' := [(4, .null), (0, .ref x0), (1, .int a), (2, .int i), (3, .int q)]) hx hb dX9_made_6 hl (by decide) rfl (fun ls hl => ?_)
    refine lv_aloadN hx hb dX9_made_8 (lv_at hl 0 rfl) ?_
    refine lv_ifnonnullN hx hb dX9_made_10 ?_
    refine lv_iconst (v := (-1 : Int32)) hx hb dX9_made_13 (by decide) ?_
    exact ret ⟨by unfold fMade; rw [eo], _, rfl, L1, f1, rfl, hL1⟩ hS rfl dX9_made_14
  · subst er
    refine lv_astore (lv' := [(4, .ref ad), (0, .ref x0), (1, .int a), (2, .int i), (3, .int q)]) hx hb dX9_made_6 hl (by decide) rfl (fun ls hl => ?_)
    refine lv_aload hx hb dX9_made_8 (lv_at hl 0 rfl) ?_
    refine lv_ifnonnull (tgt := 15) hx hb dX9_made_10 (by decide) ?_
    refine lv_iload_n hx hb dX9_made_15 rfl (lv_at hl 4 rfl) ?_
    by_cases c0 : q = 0
    · refine lv_tableIn (tgt := 48) hx hb dX9_made_16 (by rw [c0]; decide) (by rw [c0]; decide) (by rw [c0]; rfl) (by decide) ?_
      refine lv_aload hx hb dX9_made_48 (lv_at hl 0 rfl) ?_
      refine jp_get (X := XO x0 lp n0 s0 an tr ++ LX lp b0 v0 cS ba (nI (kN k a)) (S (kN k a)).2.2.1 (S (kN k a)).2.2.2) (ci := 6) (v := .int x.2.2.1) (C := RX5) (T := TX5) (N := 6) hx hb hts inX5 hown hK (by rw [List.append_assoc]; exact hS.1) had fad rfl 2 (by decide) k1 (fun _ h => h) rfl dX9_made_50 ?_
      exact ret ⟨by unfold fMade; rw [eo]; exact (if_pos c0).symm, _, rfl, L1, f1, rfl, hL1⟩ hS rfl dX9_made_53
    by_cases c1 : q = 1
    · refine lv_tableIn (tgt := 54) hx hb dX9_made_16 (by rw [c1]; decide) (by rw [c1]; decide) (by rw [c1]; rfl) (by decide) ?_
      refine lv_aload hx hb dX9_made_54 (lv_at hl 0 rfl) ?_
      refine jp_get (X := XO x0 lp n0 s0 an tr ++ LX lp b0 v0 cS ba (nI (kN k a)) (S (kN k a)).2.2.1 (S (kN k a)).2.2.2) (ci := 6) (v := .int x.2.2.2.1) (C := RX5) (T := TX5) (N := 6) hx hb hts inX5 hown hK (by rw [List.append_assoc]; exact hS.1) had fad rfl 3 (by decide) k2 (fun _ h => h) rfl dX9_made_56 ?_
      exact ret ⟨by unfold fMade; rw [eo]; exact ((if_neg c0).trans (if_pos c1)).symm, _, rfl, L1, f1, rfl, hL1⟩ hS rfl dX9_made_59
    by_cases c2 : q = 2
    · refine lv_tableIn (tgt := 60) hx hb dX9_made_16 (by rw [c2]; decide) (by rw [c2]; decide) (by rw [c2]; rfl) (by decide) ?_
      refine lv_aload hx hb dX9_made_60 (lv_at hl 0 rfl) ?_
      refine jp_get (X := XO x0 lp n0 s0 an tr ++ LX lp b0 v0 cS ba (nI (kN k a)) (S (kN k a)).2.2.1 (S (kN k a)).2.2.2) (ci := 6) (v := .int x.2.2.2.2.1) (C := RX5) (T := TX5) (N := 6) hx hb hts inX5 hown hK (by rw [List.append_assoc]; exact hS.1) had fad rfl 4 (by decide) k3 (fun _ h => h) rfl dX9_made_62 ?_
      exact ret ⟨by unfold fMade; rw [eo]; exact ((if_neg c0).trans ((if_neg c1).trans (if_pos c2))).symm, _, rfl, L1, f1, rfl, hL1⟩ hS rfl dX9_made_65
    by_cases c3 : q = 3
    · refine lv_tableIn (tgt := 66) hx hb dX9_made_16 (by rw [c3]; decide) (by rw [c3]; decide) (by rw [c3]; rfl) (by decide) ?_
      refine lv_aload hx hb dX9_made_66 (lv_at hl 0 rfl) ?_
      refine jp_get (X := XO x0 lp n0 s0 an tr ++ LX lp b0 v0 cS ba (nI (kN k a)) (S (kN k a)).2.2.1 (S (kN k a)).2.2.2) (ci := 6) (v := .int x.2.2.2.2.2) (C := RX5) (T := TX5) (N := 6) hx hb hts inX5 hown hK (by rw [List.append_assoc]; exact hS.1) had fad rfl 5 (by decide) k4 (fun _ h => h) rfl dX9_made_68 ?_
      exact ret ⟨by unfold fMade; rw [eo]; exact ((if_neg c0).trans ((if_neg c1).trans ((if_neg c2).trans (if_pos c3)))).symm, _, rfl, L1, f1, rfl, hL1⟩ hS rfl dX9_made_71
    refine lv_tableOut (tgt := 72) hx hb dX9_made_16 (jsw4m c0 c1 c2 c3) (by decide) ?_
    refine lv_iconst (v := (-1 : Int32)) hx hb dX9_made_72 (by decide) ?_
    exact ret ⟨by unfold fMade; rw [eo]; exact ((if_neg c0).trans ((if_neg c1).trans ((if_neg c2).trans (if_neg c3)))).symm, _, rfl, L1, f1, rfl, hL1⟩ hS rfl dX9_made_73
def fTurned (S : Nat → LkS) (k : Nat) (a i : Int32) : Int32 := match sAt S k a i with
  | none => -1
  | some _ => nI (sN S k a) - 1 - i
abbrev rmX9_turned (N : Nat) : Room := { frames := 12, cells := 2 * N, slots := 1406 * N, locals := 390 }
set_option maxHeartbeats 4000000 in
set_option maxRecDepth 100000 in
theorem tX9_turned (l : Launch) (D : va_G) (dd mi : Nat) (cI cJ cZ cW cS cO cG : ClassId) (x0 lp n0 s0 an : Nat) (tr : Int64) (b0 v0 : Nat) (ba : Nat → Option Nat) (L : List Nat) (f : Nat → va_E) (S : Nat → LkS) (hq : jSeq S) (k : Nat) (a i : Int32) (hLL : jLL cO dd L f ba (S k).1 (S k).2.1) (hk9 : k ≤ 9) : JXi l yX9_turned wsX9_turned (rmX9_turned (accO S (kN k a) - accO S k)) D vwCl (TY cI cJ cZ cW cS cO cG) dd mi [.ref x0, .int a, .int i] (XO x0 lp n0 s0 an tr ++ (LX lp b0 v0 cS ba (nI k) (S k).2.2.1 (S k).2.2.2 ++ va_pl L f)) (fun x v => x = fTurned S k a i ∧ jM x0 lp n0 s0 an tr b0 v0 cS cO dd ba S (kN k a) v) := by
  refine JXi.of (cc := cX9_turned) (maxL := 3) (by decide) rfl (Nat.le_of_ble_eq_true rfl) ?_
  intro p e s m args below meth c A ls Q C hK hX hA ret hS hl
  obtain ⟨⟨hx, hb, hml, hown, hts⟩, -⟩ := id C
  have hl : lv_has ls 3 [(0, .ref x0), (1, .int a), (2, .int i)] := hl
  have inX9 : ∀ w ∈ u_ws RX9 TX9 5, w ∈ wsX9_turned := by decide +kernel
  have k0 := hts (.fieldLink RX9 10 "OhmNets" "likeParts" "LOhmNets$LikeParts;") (by decide +kernel)
  generalize hN : accO S (kN k a) - accO S k = N at ret ⊢
  refine lv_aload_n hx hb dX9_turned_0 rfl (lv_at hl 0 rfl) ?_
  refine lv_iload_n hx hb dX9_turned_1 rfl (lv_at hl 1 rfl) ?_
  refine lv_iload_n hx hb dX9_turned_2 rfl (lv_at hl 2 rfl) ?_
  refine j_XVq (rm := rmX9_shareAt (accO S (kN k a) - accO S k)) (As := [.int a, .int i]) (rest := []) (vc := (RX9, TX9, 5)) C hK hX hA hS (tX9_shareAt l D dd mi cI cJ cZ cW cS cO cG x0 lp n0 s0 an tr b0 v0 ba L f S hq k a i hLL hk9) (cwV 2 hts gX9_turned_X9_shareAt rfl rfl rfl (by decide +kernel) ⟨Nat.le_of_ble_eq_true rfl, Nat.le_of_ble_eq_true rfl⟩) (q0 := 0) rfl (ci := 10) rfl rfl hl.1 rfl (Nat.le_of_ble_eq_true rfl) dX9_turned_3 ⟨by show 0 + 2 * (accO S (kN k a) - accO S k) ≤ 2 * N; omega, by show 0 + 1406 * (accO S (kN k a) - accO S k) ≤ 1406 * N; omega⟩ (fun r w H locs hp hS => ?_)
  obtain ⟨L1, f1, ew, hL1, hp⟩ := hp
  subst ew
  refine W.widen (k := 2 * N) (n := 1406 * N) (by show 0 + 2 * (accO S (kN k a) - accO S k) ≤ 2 * N; omega) (by show 0 + 1406 * (accO S (kN k a) - accO S k) ≤ 1406 * N; omega) ?_
  rcases hp with ⟨eo, er⟩ | ⟨x, ad, eo, er, had, fad⟩
  · subst er
    refine lv_ifnonnullN hx hb dX9_turned_6 ?_
    refine lv_iconst (v := (-1 : Int32)) hx hb dX9_turned_9 (by decide) ?_
    exact ret ⟨by unfold fTurned; rw [eo], _, rfl, L1, f1, rfl, hL1⟩ hS rfl dX9_turned_10
  · subst er
    have hw : 1 ≤ a ∧ a ≤ 9 := Decidable.byContradiction (fun h => by
      unfold sAt at eo
      rw [if_neg (fun q => h q.1)] at eo
      cases eo)
    refine lv_ifnonnull (tgt := 11) hx hb dX9_turned_6 (by decide) ?_
    have ek : kN k a = max k a.toNatClampNeg := if_pos hw
    have efT : fTurned S k a i = nI (sN S k a) - 1 - i := by unfold fTurned; rw [eo]
    unfold sN at efT
    have hk8 : kN k a ≤ 9 := kN_nine hk9
    obtain ⟨n, hn0, hn9, rfl⟩ := one9 hw
    rw [nI_clamp (by omega)] at efT ek
    refine lv_aload_n hx hb dX9_turned_11 rfl (lv_at hl 0 rfl) ?_
    refine va_get (D := D) (ci := 10) (v := .ref lp) (C := RX9) (T := TX9) (N := 5) hx hb hts inX9 hown hK hS.1 0 rfl rfl 0 (by decide) k0 (fun _ h => h) rfl dX9_turned_12 ?_
    refine lv_iload_n hx hb dX9_turned_15 rfl (lv_at hl 1 rfl) ?_
    generalize kN k (nI n) = k1 at *
    have em : max k1 n = k1 := by omega
    have eN : accO S (max k1 n) - accO S k1 = 0 := by rw [em]; omega
    refine jl_shares (k := k1) (n := n) (wx := XO x0 lp n0 s0 an tr) (rest := []) C hK hX hA hS hL1 hq hk8 hn0 hn9 (cwV 1 hts gX9_turned_X1_sharesOf rfl rfl rfl (by decide +kernel) ⟨Nat.le_of_ble_eq_true rfl, Nat.le_of_ble_eq_true rfl⟩) hl.1 rfl (Nat.le_of_ble_eq_true rfl) dX9_turned_16 ⟨by rw [eN]; show 2 * N + 2 * 0 ≤ 2 * N; omega, by rw [eN]; show 1406 * N + 1406 * 0 ≤ 1406 * N; omega⟩ (fun sa H locs L2 f2 hsa hLL hS => ?_)
    rw [eN]
    rw [em] at hLL hS
    obtain ⟨c1, m1, ⟨fs1, g1⟩, s1⟩ := hLL.sh (i := n - 1) (by omega) hsa
    obtain ⟨q1, hq1⟩ := jp_at m1 g1
    refine j_Vi (As := []) (rest := []) (wc := va_pl L2 f2) (w1 := va_pl L2 f2) (wf := va_pl L2 f2 ++ (XO x0 lp n0 s0 an tr ++ LX lp b0 v0 cS ba (nI k1) (S k1).2.2.1 (S k1).2.2.2)) (vc := (RX6, TX6, 1)) C hK hS (jcut_perm hA hS (by rw [← List.append_assoc]; exact List.perm_append_comm)) (tX6_size l D dd L2 f2 _ cI cJ cZ cW cS cO cG _ _ _ _ _ _ _ (o := nI ((S k1).1 (n - 1))) rfl s1) (cwV 0 hts gX9_turned_X6_size rfl rfl rfl (by decide +kernel) ⟨Nat.le_of_ble_eq_true rfl, Nat.le_of_ble_eq_true rfl⟩) (q0 := q1) hq1 (ci := 7) rfl rfl hl.1 rfl (Nat.le_of_ble_eq_true rfl) dX9_turned_19 ⟨by show 2 * N + 2 * 0 + 0 ≤ 2 * N; omega, by show 1406 * N + 1406 * 0 + 0 ≤ 1406 * N; omega⟩ (fun H locs hS => ?_)
    have hS : jS D vwCl A (XO x0 lp n0 s0 an tr ++ (LX lp b0 v0 cS ba (nI k1) (S k1).2.2.1 (S k1).2.2.2 ++ va_pl L2 f2)) s.heap H locs := jS_perm prm3 hS
    refine W.widen (k := 2 * N) (n := 1406 * N) (by show 2 * N + 2 * 0 + 0 ≤ 2 * N; omega) (by show 1406 * N + 1406 * 0 + 0 ≤ 1406 * N; omega) ?_
    refine lv_iconst (v := (1 : Int32)) hx hb dX9_turned_22 (by decide) ?_
    refine lv_isub hx hb dX9_turned_23 ?_
    refine lv_iload_n hx hb dX9_turned_24 rfl (lv_at hl 2 rfl) ?_
    refine lv_isub hx hb dX9_turned_25 ?_
    exact ret ⟨by rw [efT], _, rfl, L2, f2, rfl, hLL⟩ hS rfl dX9_turned_26
def fFnd (S : Nat → LkS) (k n : Nat) (u d : Int32) : Option Int32 := fX6_find u d (nI ((S k).1 (n - 1))) (fun r => ((S k).2.1 (n - 1) r).1) (fun r => ((S k).2.1 (n - 1) r).2.1)
abbrev jTold (u d : Int32) : Prop := (1 ≤ u ∧ u ≤ 1000000) ∧ 1 ≤ d ∧ d ≤ 1000000
def kR (k : Nat) (a u d : Int32) : Nat := if (1 ≤ a ∧ a ≤ 9) ∧ jTold u d then max k a.toNatClampNeg else k
def fRank (S : Nat → LkS) (k : Nat) (a u d : Int32) : Option Int32 := if (1 ≤ a ∧ a ≤ 9) ∧ jTold u d then fFnd S (max k a.toNatClampNeg) a.toNatClampNeg u d else some (-1)
abbrev rmX9_rank (N : Nat) : Room := { frames := 10, cells := 2 * N, slots := 1406 * N, locals := 340 }
set_option maxHeartbeats 4000000 in
set_option maxRecDepth 100000 in
theorem tX9_rank (l : Launch) (D : va_G) (dd mi : Nat) (cI cJ cZ cW cS cO cG : ClassId) (x0 lp n0 s0 an : Nat) (tr : Int64) (b0 v0 : Nat) (ba : Nat → Option Nat) (L : List Nat) (f : Nat → va_E) (S : Nat → LkS) (hq : jSeq S) (k : Nat) (a u d : Int32) (hLL : jLL cO dd L f ba (S k).1 (S k).2.1) (hk9 : k ≤ 9) {o : Int32} (hE : fRank S k a u d = some o) : JXi l yX9_rank wsX9_rank (rmX9_rank (accO S (kR k a u d) - accO S k)) D vwCl (TY cI cJ cZ cW cS cO cG) dd mi [.ref x0, .int a, .int u, .int d] (XO x0 lp n0 s0 an tr ++ (LX lp b0 v0 cS ba (nI k) (S k).2.2.1 (S k).2.2.2 ++ va_pl L f)) (fun x v => x = o ∧ jM x0 lp n0 s0 an tr b0 v0 cS cO dd ba S (kR k a u d) v) := by
  refine JXi.of (cc := cX9_rank) (maxL := 4) (by decide) rfl (Nat.le_of_ble_eq_true rfl) ?_
  intro p e s m args below meth c A ls Q C hK hX hA ret hS hl
  obtain ⟨⟨hx, hb, hml, hown, hts⟩, -⟩ := id C
  have hl : lv_has ls 4 [(0, .ref x0), (1, .int a), (2, .int u), (3, .int d)] := hl
  have inX9 : ∀ w ∈ u_ws RX9 TX9 5, w ∈ wsX9_rank := by decide +kernel
  have k0 := hts (.fieldLink RX9 10 "OhmNets" "likeParts" "LOhmNets$LikeParts;") (by decide +kernel)
  have kc := hts (.constant RX9 68 (1000000)) (by decide +kernel)
  generalize hN : accO S (kR k a u d) - accO S k = N at ret ⊢
  refine lv_iload_n hx hb dX9_rank_0 rfl (lv_at hl 1 rfl) ?_
  refine lv_iconst (v := (1 : Int32)) hx hb dX9_rank_1 (by decide) ?_
  refine lv_bipush (v := (9 : Int32)) hx hb dX9_rank_2 (by decide) ?_
  refine j_Si (As := [.int a, .int (1 : Int32), .int (9 : Int32)]) (rest := []) (wf := (XO x0 lp n0 s0 an tr ++ (LX lp b0 v0 cS ba (nI k) (S k).2.2.1 (S k).2.2.2 ++ va_pl L f))) C hK hS (jcut_nil hA hS) (tX9_isWithin l D cI cJ cZ cW cS cO cG a 1 9 (isW _ _ _)) (va_cwS 3 hts gX9_rank_X9_isWithin rfl rfl rfl (by decide +kernel) ⟨Nat.le_of_ble_eq_true rfl, Nat.le_of_ble_eq_true rfl⟩) rfl hl.1 rfl (Nat.le_of_ble_eq_true rfl) dX9_rank_4 ⟨Nat.zero_le _, Nat.zero_le _⟩ (fun H locs hS => ?_)
  refine lv_if_eq (tgt := 20) hx hb dX9_rank_7 (by decide) (fun c1 => ?_) (fun c1 => ?_)
  · have hw : ¬ ((1 ≤ a ∧ a ≤ 9) ∧ jTold u d) := fun h => by
      rw [if_pos h.1] at c1
      exact absurd c1 (by decide)
    have ek : kR k a u d = k := if_neg hw
    unfold fRank at hE
    rw [if_neg hw] at hE
    obtain rfl := jsm hE
    rw [ek] at ret
    refine lv_iconst (v := (-1 : Int32)) hx hb dX9_rank_20 (by decide) ?_
    refine W.widen (k := 2 * N) (n := 1406 * N) (Nat.zero_le _) (Nat.zero_le _) ?_
    exact ret ⟨rfl, _, rfl, L, f, rfl, hLL⟩ hS rfl dX9_rank_21
  · refine lv_iload_n hx hb dX9_rank_10 rfl (lv_at hl 2 rfl) ?_
    refine lv_iload_n hx hb dX9_rank_11 rfl (lv_at hl 3 rfl) ?_
    refine lv_ldc (v := (1000000 : Int32)) hx hb hown kc dX9_rank_12 ?_
    refine j_Si (As := [.int u, .int d, .int (1000000 : Int32)]) (rest := []) (wf := (XO x0 lp n0 s0 an tr ++ (LX lp b0 v0 cS ba (nI k) (S k).2.2.1 (S k).2.2.2 ++ va_pl L f))) C hK hS (jcut_nil hA hS) (tX9_isTold l D cI cJ cZ cW cS cO cG u d 1000000 (isT _ _ _)) (va_cwS 3 hts gX9_rank_X9_isTold rfl rfl rfl (by decide +kernel) ⟨Nat.le_of_ble_eq_true rfl, Nat.le_of_ble_eq_true rfl⟩) rfl hl.1 rfl (Nat.le_of_ble_eq_true rfl) dX9_rank_14 ⟨Nat.zero_le _, Nat.zero_le _⟩ (fun H locs hS => ?_)
    have hw1 : 1 ≤ a ∧ a ≤ 9 := Decidable.byContradiction (fun h => c1 (if_neg h))
    refine lv_if_ne (tgt := 22) hx hb dX9_rank_17 (by decide) (fun c2 => ?_) (fun c2 => ?_)
    · have hw2 : jTold u d := Decidable.byContradiction (fun h => c2 (if_neg h))
      have hw : (1 ≤ a ∧ a ≤ 9) ∧ jTold u d := ⟨hw1, hw2⟩
      have ek : kR k a u d = max k a.toNatClampNeg := if_pos hw
      unfold fRank at hE
      rw [if_pos hw] at hE
      rw [ek] at ret hN
      obtain ⟨n, hn0, hn9, rfl⟩ := one9 hw1
      rw [nI_clamp (by omega)] at ret hN hE
      refine lv_aload_n hx hb dX9_rank_22 rfl (lv_at hl 0 rfl) ?_
      refine va_get (D := D) (ci := 10) (v := .ref lp) (C := RX9) (T := TX9) (N := 5) hx hb hts inX9 hown hK hS.1 0 rfl rfl 0 (by decide) k0 (fun _ h => h) rfl dX9_rank_23 ?_
      refine lv_iload_n hx hb dX9_rank_26 rfl (lv_at hl 1 rfl) ?_
      have eN := hN
      refine jl_shares (k := k) (n := n) (wx := XO x0 lp n0 s0 an tr) (rest := []) C hK hX hA hS hLL hq hk9 hn0 hn9 (cwV 1 hts gX9_rank_X1_sharesOf rfl rfl rfl (by decide +kernel) ⟨Nat.le_of_ble_eq_true rfl, Nat.le_of_ble_eq_true rfl⟩) hl.1 rfl (Nat.le_of_ble_eq_true rfl) dX9_rank_27 ⟨by rw [eN]; show 0 + 2 * N ≤ 2 * N; omega, by rw [eN]; show 0 + 1406 * N ≤ 1406 * N; omega⟩ (fun sa H locs L1 f1 hsa hLL hS => ?_)
      rw [eN]
      obtain ⟨c1, m1, ⟨fs1, g1⟩, s1⟩ := hLL.sh (i := n - 1) (by omega) hsa
      obtain ⟨q1, hq1⟩ := jp_at m1 g1
      refine lv_iload_n hx hb dX9_rank_30 rfl (lv_at hl 2 rfl) ?_
      refine lv_iload_n hx hb dX9_rank_31 rfl (lv_at hl 3 rfl) ?_
      refine j_Vi (As := [.int u, .int d]) (rest := []) (wc := va_pl L1 f1) (w1 := va_pl L1 f1) (wf := va_pl L1 f1 ++ (XO x0 lp n0 s0 an tr ++ LX lp b0 v0 cS ba (nI (max k n)) (S (max k n)).2.2.1 (S (max k n)).2.2.2)) (vc := (RX6, TX6, 1)) C hK hS (jcut_perm hA hS (by rw [← List.append_assoc]; exact List.perm_append_comm)) (tX6_find l D dd L1 f1 _ cI cJ cZ cW cS cO cG _ _ _ _ _ _ _ u d hE s1) (cwV 2 hts gX9_rank_X6_find rfl rfl rfl (by decide +kernel) ⟨Nat.le_of_ble_eq_true rfl, Nat.le_of_ble_eq_true rfl⟩) (q0 := q1) hq1 (ci := 7) rfl rfl hl.1 rfl (Nat.le_of_ble_eq_true rfl) dX9_rank_32 ⟨by show 0 + 2 * N + 0 ≤ 2 * N; omega, by show 0 + 1406 * N + 0 ≤ 1406 * N; omega⟩ (fun H locs hS => ?_)
      have hS : jS D vwCl A (XO x0 lp n0 s0 an tr ++ (LX lp b0 v0 cS ba (nI (max k n)) (S (max k n)).2.2.1 (S (max k n)).2.2.2 ++ va_pl L1 f1)) s.heap H locs := jS_perm prm3 hS
      refine W.widen (k := 2 * N) (n := 1406 * N) (by show 0 + 2 * N + 0 ≤ 2 * N; omega) (by show 0 + 1406 * N + 0 ≤ 1406 * N; omega) ?_
      exact ret ⟨rfl, _, rfl, L1, f1, rfl, hLL⟩ hS rfl dX9_rank_35
    · have hw : ¬ ((1 ≤ a ∧ a ≤ 9) ∧ jTold u d) := fun h => by
        have h2 := h.2
        unfold jTold at h2
        rw [if_pos h2] at c2
        exact absurd c2 (by decide)
      have ek : kR k a u d = k := if_neg hw
      unfold fRank at hE
      rw [if_neg hw] at hE
      obtain rfl := jsm hE
      rw [ek] at ret
      refine lv_iconst (v := (-1 : Int32)) hx hb dX9_rank_20 (by decide) ?_
      refine W.widen (k := 2 * N) (n := 1406 * N) (Nat.zero_le _) (Nat.zero_le _) ?_
      exact ret ⟨rfl, _, rfl, L, f, rfl, hLL⟩ hS rfl dX9_rank_21
def fFew (S : Nat → LkS) (u d : Int32) : Nat → Nat → Nat → Option (Int32 × Nat)
  | 0, _, k => some (-9, k)
  | r + 1, n, k => (fFnd S (max k n) n u d).bind (fun x => if x = -9 then fFew S u d r (n + 1) (max k n) else some (nI n, max k n))
theorem fFew_le {S : Nat → LkS} {u d : Int32} : ∀ (r n k : Nat) (o : Int32 × Nat), fFew S u d r n k = some o → k ≤ o.2
  | 0, n, k, o, h => by
    have h : some ((-9 : Int32), k) = some o := h
    obtain rfl := jsm h
    exact Nat.le_refl _
  | r + 1, n, k, o, h => by
    rw [fFew] at h
    obtain ⟨x, h1, h2⟩ := jbd h
    by_cases c : x = -9
    · have := fFew_le r (n + 1) (max k n) o (jt h2 c)
      omega
    · obtain rfl := jsm (jf h2 c)
      exact Nat.le_max_left _ _
def fFewest (S : Nat → LkS) (k : Nat) (u d : Int32) : Option (Int32 × Nat) := if jTold u d then fFew S u d 9 1 k else some (-1, k)
abbrev rmX9_fewest (N : Nat) : Room := { frames := 10, cells := 2 * N, slots := 1406 * N, locals := 340 }
set_option maxHeartbeats 4000000 in
set_option maxRecDepth 100000 in
theorem tX9_fewest (l : Launch) (D : va_G) (dd mi : Nat) (cI cJ cZ cW cS cO cG : ClassId) (x0 lp n0 s0 an : Nat) (tr : Int64) (b0 v0 : Nat) (ba : Nat → Option Nat) (L : List Nat) (f : Nat → va_E) (S : Nat → LkS) (hq : jSeq S) (k : Nat) (u d : Int32) (hLL : jLL cO dd L f ba (S k).1 (S k).2.1) (hk9 : k ≤ 9) {o : Int32 × Nat} (hE : fFewest S k u d = some o) : JXi l yX9_fewest wsX9_fewest (rmX9_fewest (accO S o.2 - accO S k)) D vwCl (TY cI cJ cZ cW cS cO cG) dd mi [.ref x0, .int u, .int d] (XO x0 lp n0 s0 an tr ++ (LX lp b0 v0 cS ba (nI k) (S k).2.2.1 (S k).2.2.2 ++ va_pl L f)) (fun x v => x = o.1 ∧ jM x0 lp n0 s0 an tr b0 v0 cS cO dd ba S o.2 v) := by
  refine JXi.of (cc := cX9_fewest) (maxL := 4) (by decide) rfl (Nat.le_of_ble_eq_true rfl) ?_
  intro p e s m args below meth c A ls Q C hK hX hA ret hS hl
  obtain ⟨⟨hx, hb, hml, hown, hts⟩, -⟩ := id C
  have hl : lv_has ls 4 [(0, .ref x0), (1, .int u), (2, .int d)] := hl
  have inX9 : ∀ w ∈ u_ws RX9 TX9 5, w ∈ wsX9_fewest := by decide +kernel
  have k0 := hts (.fieldLink RX9 10 "OhmNets" "likeParts" "LOhmNets$LikeParts;") (by decide +kernel)
  have kc := hts (.constant RX9 68 (1000000)) (by decide +kernel)
  generalize hN : accO S o.2 - accO S k = N at ret ⊢
  refine lv_iload_n hx hb dX9_fewest_0 rfl (lv_at hl 1 rfl) ?_
  refine lv_iload_n hx hb dX9_fewest_1 rfl (lv_at hl 2 rfl) ?_
  refine lv_ldc (v := (1000000 : Int32)) hx hb hown kc dX9_fewest_2 ?_
  refine j_Si (As := [.int u, .int d, .int (1000000 : Int32)]) (rest := []) (wf := (XO x0 lp n0 s0 an tr ++ (LX lp b0 v0 cS ba (nI k) (S k).2.2.1 (S k).2.2.2 ++ va_pl L f))) C hK hS (jcut_nil hA hS) (tX9_isTold l D cI cJ cZ cW cS cO cG u d 1000000 (isT _ _ _)) (va_cwS 3 hts gX9_fewest_X9_isTold rfl rfl rfl (by decide +kernel) ⟨Nat.le_of_ble_eq_true rfl, Nat.le_of_ble_eq_true rfl⟩) rfl hl.1 rfl (Nat.le_of_ble_eq_true rfl) dX9_fewest_4 ⟨Nat.zero_le _, Nat.zero_le _⟩ (fun H locs hS => ?_)
  unfold fFewest at hE
  refine lv_if_ne (tgt := 12) hx hb dX9_fewest_7 (by decide) (fun c2 => ?_) (fun c2 => ?_)
  · have hw : jTold u d := Decidable.byContradiction (fun h => c2 (if_neg h))
    rw [if_pos hw] at hE
    refine lv_iconst (v := (1 : Int32)) hx hb dX9_fewest_12 (by decide) ?_
    refine lv_istore_n (lv' := [(3, .int (nI 1)), (0, .ref x0), (1, .int u), (2, .int d)]) hx hb dX9_fewest_13 rfl hl (by decide) rfl (fun ls hl => ?_)
    have loop : ∀ (r n k1 : Nat) (L : List Nat) (f : Nat → va_E), n + r = 10 → 1 ≤ n → k ≤ k1 → k1 ≤ 9 → fFew S u d r n k1 = some o → jLL cO dd L f ba (S k1).1 (S k1).2.1 → jW p l e (rmX9_fewest N) s m args below meth c (2 * (accO S k1 - accO S k)) (1406 * (accO S k1 - accO S k)) Q D vwCl A (XO x0 lp n0 s0 an tr ++ (LX lp b0 v0 cS ba (nI k1) (S k1).2.2.1 (S k1).2.2.2 ++ va_pl L f)) 4 [(3, .int (nI n)), (0, .ref x0), (1, .int u), (2, .int d)] 14 [] := by
      intro r
      induction r with
      | zero =>
        intro n k1 L f hr hn0 hk1 hk9 hE hLL H locs ls hS hl
        have hE : some ((-9 : Int32), k1) = some o := hE
        obtain rfl := jsm hE
        obtain rfl : n = 10 := by omega
        refine lv_iload_n hx hb dX9_fewest_14 rfl (lv_at hl 0 rfl) ?_
        refine lv_bipush (v := (9 : Int32)) hx hb dX9_fewest_15 (by decide) ?_
        refine lv_icmp_gt (tgt := 46) hx hb dX9_fewest_17 (by decide) (fun c9 => ?_) (fun c9 => absurd (by decide +kernel) c9)
        refine lv_bipush (v := (-9 : Int32)) hx hb dX9_fewest_46 (by decide) ?_
        have hN : accO S k1 - accO S k = N := hN
        refine W.widen (k := 2 * N) (n := 1406 * N) (by omega) (by omega) ?_
        exact ret ⟨rfl, _, rfl, L, f, rfl, hLL⟩ hS rfl dX9_fewest_48
      | succ r ih =>
        intro n k1 L f hr hn0 hk1 hk9 hE hLL H locs ls hS hl
        have hn9 : n ≤ 9 := by omega
        have hE0 := hE
        rw [fFew] at hE
        obtain ⟨x, hF, hE⟩ := jbd hE
        refine lv_iload_n hx hb dX9_fewest_14 rfl (lv_at hl 0 rfl) ?_
        refine lv_bipush (v := (9 : Int32)) hx hb dX9_fewest_15 (by decide) ?_
        refine lv_icmp_gt (tgt := 46) hx hb dX9_fewest_17 (by decide) (fun c9 => absurd c9 (show ¬ nI 9 < nI n from nI_nlt (by omega) (by omega))) (fun c9 => ?_)
        refine lv_aload_n hx hb dX9_fewest_20 rfl (lv_at hl 1 rfl) ?_
        refine va_get (D := D) (ci := 10) (v := .ref lp) (C := RX9) (T := TX9) (N := 5) hx hb hts inX9 hown hK hS.1 0 rfl rfl 0 (by decide) k0 (fun _ h => h) rfl dX9_fewest_21 ?_
        refine lv_iload_n hx hb dX9_fewest_24 rfl (lv_at hl 0 rfl) ?_
        have b1 : max k1 n ≤ o.2 := by
          by_cases cx : x = -9
          · exact fFew_le _ _ _ _ (jt hE cx)
          · obtain rfl := jsm (jf hE cx)
            exact Nat.le_refl _
        have a1 := accO_le S b1
        have a2 := accO_le S hk1
        have a3 := accO_le S (Nat.le_max_left k1 n)
        refine jl_shares (k := k1) (n := n) (wx := XO x0 lp n0 s0 an tr) (rest := []) C hK hX hA hS hLL hq hk9 hn0 hn9 (cwV 1 hts gX9_fewest_X1_sharesOf rfl rfl rfl (by decide +kernel) ⟨Nat.le_of_ble_eq_true rfl, Nat.le_of_ble_eq_true rfl⟩) hl.1 rfl (Nat.le_of_ble_eq_true rfl) dX9_fewest_25 ⟨by show 2 * (accO S k1 - accO S k) + 2 * (accO S (max k1 n) - accO S k1) ≤ 2 * N; omega, by show 1406 * (accO S k1 - accO S k) + 1406 * (accO S (max k1 n) - accO S k1) ≤ 1406 * N; omega⟩ (fun sa H locs L1 f1 hsa hLL hS => ?_)
        obtain ⟨c1, m1, ⟨fs1, g1⟩, s1⟩ := hLL.sh (i := n - 1) (by omega) hsa
        obtain ⟨q1, hq1⟩ := jp_at m1 g1
        refine lv_iload_n hx hb dX9_fewest_28 rfl (lv_at hl 2 rfl) ?_
        refine lv_iload_n hx hb dX9_fewest_29 rfl (lv_at hl 3 rfl) ?_
        refine W.widen (k := 2 * (accO S (max k1 n) - accO S k)) (n := 1406 * (accO S (max k1 n) - accO S k)) (by omega) (by omega) ?_
        refine j_Vi (As := [.int u, .int d]) (rest := []) (wc := va_pl L1 f1) (w1 := va_pl L1 f1) (wf := va_pl L1 f1 ++ (XO x0 lp n0 s0 an tr ++ LX lp b0 v0 cS ba (nI (max k1 n)) (S (max k1 n)).2.2.1 (S (max k1 n)).2.2.2)) (vc := (RX6, TX6, 1)) C hK hS (jcut_perm hA hS (by rw [← List.append_assoc]; exact List.perm_append_comm)) (tX6_find l D dd L1 f1 _ cI cJ cZ cW cS cO cG _ _ _ _ _ _ _ u d hF s1) (cwV 2 hts gX9_fewest_X6_find rfl rfl rfl (by decide +kernel) ⟨Nat.le_of_ble_eq_true rfl, Nat.le_of_ble_eq_true rfl⟩) (q0 := q1) hq1 (ci := 7) rfl rfl hl.1 rfl (Nat.le_of_ble_eq_true rfl) dX9_fewest_30 ⟨by show 2 * (accO S (max k1 n) - accO S k) + 0 ≤ 2 * N; omega, by show 1406 * (accO S (max k1 n) - accO S k) + 0 ≤ 1406 * N; omega⟩ (fun H locs hS => ?_)
        have hS : jS D vwCl A (XO x0 lp n0 s0 an tr ++ (LX lp b0 v0 cS ba (nI (max k1 n)) (S (max k1 n)).2.2.1 (S (max k1 n)).2.2.2 ++ va_pl L1 f1)) s.heap H locs := jS_perm prm3 hS
        refine W.widen (k := 2 * (accO S (max k1 n) - accO S k)) (n := 1406 * (accO S (max k1 n) - accO S k)) (by show 2 * (accO S (max k1 n) - accO S k) + 0 ≤ _; omega) (by show 1406 * (accO S (max k1 n) - accO S k) + 0 ≤ _; omega) ?_
        refine lv_bipush (v := (-9 : Int32)) hx hb dX9_fewest_33 (by decide) ?_
        refine lv_icmp_eq (tgt := 40) hx hb dX9_fewest_35 (by decide) (fun c3 => ?_) (fun c3 => ?_)
        · have hE := jt hE c3
          refine lv_iinc (k := 0) (lv' := [(3, .int (nI (n + 1))), (0, .ref x0), (1, .int u), (2, .int d)]) hx hb dX9_fewest_40 hl rfl (nI_1 _) (by decide) rfl (fun ls hl => ?_)
          refine lv_goto (tgt := 14) hx hb dX9_fewest_43 (by decide) ?_
          exact ih (n + 1) (max k1 n) L1 f1 (by omega) (by omega) (by omega) (by omega) hE hLL _ _ _ hS hl
        · have hE := jf hE c3
          obtain rfl := jsm hE
          refine lv_iload_n hx hb dX9_fewest_38 rfl (lv_at hl 0 rfl) ?_
          refine W.widen (k := 2 * N) (n := 1406 * N) (by omega) (by omega) ?_
          exact ret ⟨rfl, _, rfl, L1, f1, rfl, hLL⟩ hS rfl dX9_fewest_39
    have fin := loop 9 1 k L f (by omega) (Nat.le_refl _) (Nat.le_refl _) hk9 hE hLL
    rw [Nat.sub_self] at fin
    exact fin _ _ _ hS hl
  · have hw : ¬ jTold u d := fun h => by
      unfold jTold at h
      rw [if_pos h] at c2
      exact absurd c2 (by decide)
    rw [if_neg hw] at hE
    obtain rfl := jsm hE
    refine lv_iconst (v := (-1 : Int32)) hx hb dX9_fewest_10 (by decide) ?_
    refine W.widen (k := 2 * N) (n := 1406 * N) (Nat.zero_le _) (Nat.zero_le _) ?_
    exact ret ⟨rfl, _, rfl, L, f, rfl, hLL⟩ hS rfl dX9_fewest_11
