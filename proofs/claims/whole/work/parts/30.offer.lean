def fX5_init (a1 : Int32) (a2 : Int32) (a3 : Int32) (a4 : Int32) (a5 : Int32) (a6 : Int32) : Option (Int32 × Int32 × Int32 × Int32 × Int32 × Int32) :=
  some (a1, a2, a3, a4, a5, a6)
abbrev rmX5_init : Room := { frames := 1, cells := 0, slots := 0, locals := 12 }
set_option maxHeartbeats 4000000 in
set_option maxRecDepth 100000 in
theorem tX5_init (l : Launch) (D : va_G) (h0 : Nat) (cI cJ cZ cW cS cO cG : ClassId) (vu : Int32) (vd : Int32) (vh : Int32) (vp : Int32) (vf : Int32) (vs : Int32) (a1 : Int32) (a2 : Int32) (a3 : Int32) (a4 : Int32) (a5 : Int32) (a6 : Int32) {o : Int32 × Int32 × Int32 × Int32 × Int32 × Int32} (hE : fX5_init a1 a2 a3 a4 a5 a6 = some o) : JMv l yX5_init wsX5_init rmX5_init D vwCl (TY cI cJ cZ cW cS cO cG) [.ref h0, .int a1, .int a2, .int a3, .int a4, .int a5, .int a6] ([(h0, .inr (6, [.int vu, .int vd, .int vh, .int vp, .int vf, .int vs]))]) ([(h0, .inr (6, [.int o.1, .int o.2.1, .int o.2.2.1, .int o.2.2.2.1, .int o.2.2.2.2.1, .int o.2.2.2.2.2]))]) := by
  refine JMv.of (cc := cX5_init) (maxL := 7) (by decide) rfl (Nat.le_of_ble_eq_true rfl) ?_
  intro p e s m args below meth c A ls Q C hK hA ret hS hl
  obtain ⟨⟨hx, hb, hml, hown, hts⟩, -⟩ := id C
  have hl : lv_has ls 7 [(0, .ref h0), (1, .int a1), (2, .int a2), (3, .int a3), (4, .int a4), (5, .int a5), (6, .int a6)] := hl
  have inX5 : ∀ w ∈ u_ws RX5 TX5 6, w ∈ wsX5_init := by decide +kernel
  have k0 := hts (.methodLink RX5 1 objectInit) (by decide +kernel)
  have k1 := hts (.instanceMethod objectInit) (by decide +kernel)
  have k2 := hts (.code objectInit ⟨#[0xb1]⟩ 1 none) (by decide +kernel)
  have k3 := hts (.fieldLink RX5 7 "OhmNets$Share" "upper" "I") (by decide +kernel)
  have k4 := hts (.fieldLink RX5 13 "OhmNets$Share" "lower" "I") (by decide +kernel)
  have k5 := hts (.fieldLink RX5 16 "OhmNets$Share" "how" "I") (by decide +kernel)
  have k6 := hts (.fieldLink RX5 19 "OhmNets$Share" "firstParts" "I") (by decide +kernel)
  have k7 := hts (.fieldLink RX5 22 "OhmNets$Share" "firstRank" "I") (by decide +kernel)
  have k8 := hts (.fieldLink RX5 25 "OhmNets$Share" "secondRank" "I") (by decide +kernel)
  refine lv_aload_n hx hb dX5_init_0 rfl (lv_at hl 0 rfl) ?_
  refine W.objInit hx hb hown k0 k1 k2 rfl (by rw [hml]; exact hl.1) rfl dX5_init_1 (Nat.le_of_ble_eq_true rfl) (Nat.le_of_ble_eq_true rfl) ?_
  refine W.eq (g2 := F0 m 4 ls []) rfl ?_
  refine lv_aload_n hx hb dX5_init_4 rfl (lv_at hl 0 rfl) ?_
  refine lv_iload_n hx hb dX5_init_5 rfl (lv_at hl 1 rfl) ?_
  refine j_putF (ci := 6) (v := .int a1) (ty := .int) (C := RX5) (T := TX5) (N := 6) (w' := [(h0, .inr (6, [.int a1, .int vd, .int vh, .int vp, .int vf, .int vs]))]) hx hb hts inX5 tyX5 tyX5_ok nmX5 hown hK hS 0 rfl rfl 0 (by decide) k3 (fun _ h => h) rfl C.2.2.2 rfl (by decide +kernel) rfl rfl (Nat.le_of_ble_eq_true rfl) rfl dX5_init_6 (fun H locs hS => ?_)
  refine lv_aload_n hx hb dX5_init_9 rfl (lv_at hl 0 rfl) ?_
  refine lv_iload_n hx hb dX5_init_10 rfl (lv_at hl 2 rfl) ?_
  refine j_putF (ci := 6) (v := .int a2) (ty := .int) (C := RX5) (T := TX5) (N := 6) (w' := [(h0, .inr (6, [.int a1, .int a2, .int vh, .int vp, .int vf, .int vs]))]) hx hb hts inX5 tyX5 tyX5_ok nmX5 hown hK hS 0 rfl rfl 1 (by decide) k4 (fun _ h => h) rfl C.2.2.2 rfl (by decide +kernel) rfl rfl (Nat.le_of_ble_eq_true rfl) rfl dX5_init_11 (fun H locs hS => ?_)
  refine lv_aload_n hx hb dX5_init_14 rfl (lv_at hl 0 rfl) ?_
  refine lv_iload_n hx hb dX5_init_15 rfl (lv_at hl 3 rfl) ?_
  refine j_putF (ci := 6) (v := .int a3) (ty := .int) (C := RX5) (T := TX5) (N := 6) (w' := [(h0, .inr (6, [.int a1, .int a2, .int a3, .int vp, .int vf, .int vs]))]) hx hb hts inX5 tyX5 tyX5_ok nmX5 hown hK hS 0 rfl rfl 2 (by decide) k5 (fun _ h => h) rfl C.2.2.2 rfl (by decide +kernel) rfl rfl (Nat.le_of_ble_eq_true rfl) rfl dX5_init_16 (fun H locs hS => ?_)
  refine lv_aload_n hx hb dX5_init_19 rfl (lv_at hl 0 rfl) ?_
  refine lv_iload hx hb dX5_init_20 (lv_at hl 4 rfl) ?_
  refine j_putF (ci := 6) (v := .int a4) (ty := .int) (C := RX5) (T := TX5) (N := 6) (w' := [(h0, .inr (6, [.int a1, .int a2, .int a3, .int a4, .int vf, .int vs]))]) hx hb hts inX5 tyX5 tyX5_ok nmX5 hown hK hS 0 rfl rfl 3 (by decide) k6 (fun _ h => h) rfl C.2.2.2 rfl (by decide +kernel) rfl rfl (Nat.le_of_ble_eq_true rfl) rfl dX5_init_22 (fun H locs hS => ?_)
  refine lv_aload_n hx hb dX5_init_25 rfl (lv_at hl 0 rfl) ?_
  refine lv_iload hx hb dX5_init_26 (lv_at hl 5 rfl) ?_
  refine j_putF (ci := 6) (v := .int a5) (ty := .int) (C := RX5) (T := TX5) (N := 6) (w' := [(h0, .inr (6, [.int a1, .int a2, .int a3, .int a4, .int a5, .int vs]))]) hx hb hts inX5 tyX5 tyX5_ok nmX5 hown hK hS 0 rfl rfl 4 (by decide) k7 (fun _ h => h) rfl C.2.2.2 rfl (by decide +kernel) rfl rfl (Nat.le_of_ble_eq_true rfl) rfl dX5_init_28 (fun H locs hS => ?_)
  refine lv_aload_n hx hb dX5_init_31 rfl (lv_at hl 0 rfl) ?_
  refine lv_iload hx hb dX5_init_32 (lv_at hl 6 rfl) ?_
  refine j_putF (ci := 6) (v := .int a6) (ty := .int) (C := RX5) (T := TX5) (N := 6) (w' := [(h0, .inr (6, [.int a1, .int a2, .int a3, .int a4, .int a5, .int a6]))]) hx hb hts inX5 tyX5 tyX5_ok nmX5 hown hK hS 0 rfl rfl 5 (by decide) k8 (fun _ h => h) rfl C.2.2.2 rfl (by decide +kernel) rfl rfl (Nat.le_of_ble_eq_true rfl) rfl dX5_init_34 (fun H locs hS => ?_)
  obtain rfl := jsm hE
  exact ret hS dX5_init_37
/-- a share: upper, lower, how, parts of the first, its rank, the second's rank -/
abbrev SV : Type := Int32 × Int32 × Int32 × Int32 × Int32 × Int32
def shC (x : SV) : va_E := .inr (6, [.int x.1, .int x.2.1, .int x.2.2.1, .int x.2.2.2.1, .int x.2.2.2.2.1, .int x.2.2.2.2.2])
/-- one list of shares: its object sa, its list la, its row ea of cap places -/
def jOne (cO : ClassId) (dd : Nat) (L : List Nat) (f : Nat → va_E) (sa la ea cap : Nat) (mc : Int32) (g : Nat → Option Nat) (n : Nat) (sv : Nat → SV) : Prop := sa ∈ L ∧ f sa = .inr (7, [.ref la]) ∧ la ∈ L ∧ f la = .inr (0, [.int mc, .ref ea, .int (nI n)]) ∧ n ≤ cap ∧ cap ≤ 1400 ∧ (cap = 0 ∨ 2 ≤ cap) ∧ ((cap = 0 ∧ ea = dd) ∨ (0 < cap ∧ ea ∈ L ∧ f ea = .inl (cO, cap, .inr (.inr (.inr (.inr g)))))) ∧ ∀ r, r < n → ∃ a, g r = some a ∧ a ∈ L ∧ f a = shC (sv r)
theorem jOne.sh {cO : ClassId} {dd : Nat} {L : List Nat} {f : Nat → va_E} {sa la ea cap : Nat} {mc : Int32} {g : Nat → Option Nat} {n : Nat} {sv : Nat → SV} (h : jOne cO dd L f sa la ea cap mc g n sv) (hn : n < 2 ^ 31) : jSh cO dd L f sa (nI n) (fun r => (sv r).1) (fun r => (sv r).2.1) (fun r => (sv r).2.2.1) (fun r => (sv r).2.2.2.1) (fun r => (sv r).2.2.2.2.1) (fun r => (sv r).2.2.2.2.2) := by
  obtain ⟨h1, h2, h3, h4, h5, h6, h7, h8, h9⟩ := h
  refine ⟨h1, la, ea, cap, mc, g, h2, h3, h4, by rw [nI_clamp hn]; exact h5, ?_, fun r hr => ?_⟩
  · rcases h8 with h | h
    · exact Or.inl h
    · exact Or.inr ⟨h.2.1, h.2.2⟩
  · rw [nI_clamp hn] at hr
    exact h9 r hr
def insSV (sv : Nat → SV) (k : Nat) (x : SV) : Nat → SV := fun r => if r < k then sv r else if r = k then x else sv (r - 1)
/-- what offer answers: the fraction behind it, and where a new share comes, if one does -/
def fOffer (vu vl : Int64) (n : Nat) (sv : Nat → SV) : Option (Int64 × Int64 × Option (Int32 × Int32 × Int32)) :=
  (fX6_placeOf vu.toInt32 vl.toInt32 (nI n) (fun r => (sv r).1) (fun r => (sv r).2.1)).bind (fun p =>
  (fX6_isAt p vu.toInt32 vl.toInt32 (nI n) (fun r => (sv r).1) (fun r => (sv r).2.1)).bind (fun b =>
  if b = 0 then (fX0_reduce vu vl).bind (fun o => some (o.1, o.2, some (p, o.1.toInt32, o.2.toInt32)))
  else some (vu, vl, none)))
/-- what is behind offer -/
def jOffd (cO : ClassId) (dd : Nat) (L : List Nat) (f : Nat → va_E) (v0 sa la ea cap : Nat) (mc : Int32) (g : Nat → Option Nat) (n : Nat) (sv : Nat → SV) (t : Int32 × Int32 × Int32 × Int32) (o : Int64 × Int64 × Option (Int32 × Int32 × Int32)) (v : va_W) : Prop := ∃ (L1 : List Nat) (f1 : Nat → va_E), v = FRW v0 o.1 o.2.1 ++ va_pl L1 f1 ∧ (∀ x, x ∈ L → x ∈ L1) ∧ (∀ x, x ∈ L → x ≠ la → x ≠ ea → f1 x = f x) ∧ ((o.2.2 = none ∧ (∀ x, x ∈ L → f1 x = f x)) ∨ ∃ p u d, o.2.2 = some (p, u, d) ∧ ∃ (ea1 cap1 : Nat) (g1 : Nat → Option Nat), (ea1 = ea ∨ ea1 ∉ L) ∧ 0 < cap1 ∧ jOne cO dd L1 f1 sa la ea1 cap1 (mc + 1) g1 (n + 1) (insSV sv p.toNatClampNeg (u, d, t)))
abbrev rmX6_offer : Room := { frames := 6, cells := 2, slots := 1406, locals := 210 }
set_option maxHeartbeats 4000000 in
set_option maxRecDepth 100000 in
theorem tX6_offer (l : Launch) (D : va_G) (dd mi : Nat) (cI cJ cZ cW cS cO cG : ClassId) (L : List Nat) (f : Nat → va_E) (v0 sa la ea cap : Nat) (mc : Int32) (g : Nat → Option Nat) (n : Nat) (sv : Nat → SV) (vu vl : Int64) (a1 a2 a3 a4 : Int32) (hr : jOne cO dd L f sa la ea cap mc g n sv) (hn : n ≤ 900) {o : Int64 × Int64 × Option (Int32 × Int32 × Int32)} (hE : fOffer vu vl n sv = some o) (hp : ∀ p u d, o.2.2 = some (p, u, d) → ∃ k, k ≤ n ∧ p = nI k) : JXv l yX6_offer wsX6_offer rmX6_offer D vwCl (TY cI cJ cZ cW cS cO cG) dd mi [.ref sa, .ref v0, .int a1, .int a2, .int a3, .int a4] (FRW v0 vu vl ++ va_pl L f) (jOffd cO dd L f v0 sa la ea cap mc g n sv (a1, a2, a3, a4) o) := by
  refine JXv.of (cc := cX6_offer) (maxL := 9) (by decide) rfl (Nat.le_of_ble_eq_true rfl) ?_
  intro p e s m args below meth c A ls Q C hK hX hA ret hS hl
  obtain ⟨⟨hx, hb, hml, hown, hts⟩, -⟩ := id C
  have hl : lv_has ls 9 [(0, .ref sa), (1, .ref v0), (2, .int a1), (3, .int a2), (4, .int a3), (5, .int a4)] := hl
  have inX0 : ∀ w ∈ u_ws RX0 TX0 2, w ∈ wsX6_offer := by decide +kernel
  have inX6 : ∀ w ∈ u_ws RX6 TX6 1, w ∈ wsX6_offer := by decide +kernel
  have inX5 : ∀ w ∈ u_ws RX5 TX5 6, w ∈ wsX6_offer := by decide +kernel
  have k0 := hts (.fieldLink RX6 36 "OhmNets$Fraction" "upper" "J") (by decide +kernel)
  have k1 := hts (.fieldLink RX6 42 "OhmNets$Fraction" "lower" "J") (by decide +kernel)
  have k2 := hts (.fieldLink RX6 12 "OhmNets$Shares" "inOrder" "Ljava/util/ArrayList;") (by decide +kernel)
  obtain ⟨hsa, fsa, hla, fla, hnc, hcap, hc2, hea, hel⟩ := id hr
  have hsh := hr.sh (by omega)
  obtain ⟨p0, hE0, hE⟩ := jbd hE
  obtain ⟨b0, hE1, hE⟩ := jbd hE
  refine lv_aload_n hx hb dX6_offer_0 rfl (lv_at hl 1 rfl) ?_
  refine va_get (D := D) (ci := 1) (v := .long vu) (C := RX0) (T := TX0) (N := 2) hx hb hts inX0 hown hK hS.1 0 rfl rfl 0 (by decide) k0 (fun _ h => h) rfl dX6_offer_1 ?_
  refine lv_l2i (v := vu.toInt32) hx hb dX6_offer_4 rfl ?_
  refine lv_istore (lv' := [(6, .int vu.toInt32), (0, .ref sa), (1, .ref v0), (2, .int a1), (3, .int a2), (4, .int a3), (5, .int a4)]) hx hb dX6_offer_5 hl (by decide) rfl (fun ls hl => ?_)
  refine lv_aload_n hx hb dX6_offer_7 rfl (lv_at hl 2 rfl) ?_
  refine va_get (D := D) (ci := 1) (v := .long vl) (C := RX0) (T := TX0) (N := 2) hx hb hts inX0 hown hK hS.1 0 rfl rfl 1 (by decide) k1 (fun _ h => h) rfl dX6_offer_8 ?_
  refine lv_l2i (v := vl.toInt32) hx hb dX6_offer_11 rfl ?_
  refine lv_istore (lv' := [(7, .int vl.toInt32), (6, .int vu.toInt32), (0, .ref sa), (1, .ref v0), (2, .int a1), (3, .int a2), (4, .int a3), (5, .int a4)]) hx hb dX6_offer_12 hl (by decide) rfl (fun ls hl => ?_)
  refine lv_aload_n hx hb dX6_offer_14 rfl (lv_at hl 2 rfl) ?_
  refine lv_iload hx hb dX6_offer_15 (lv_at hl 1 rfl) ?_
  refine lv_iload hx hb dX6_offer_17 (lv_at hl 0 rfl) ?_
  obtain ⟨q9, hq9⟩ := jp_at hsa fsa
  refine j_Vi (As := [.int vu.toInt32, .int vl.toInt32]) (rest := []) (wc := va_pl L f) (w1 := va_pl L f) (wf := va_pl L f ++ FRW v0 vu vl) (vc := (RX6, TX6, 1)) C hK hS (jcut_perm hA hS List.perm_append_comm) (tX6_placeOf l D dd L f sa cI cJ cZ cW cS cO cG (nI n) _ _ _ _ _ _ vu.toInt32 vl.toInt32 hE0 hsh) (cwV 2 hts gX6_offer_X6_placeOf rfl rfl rfl (by decide +kernel) ⟨Nat.le_of_ble_eq_true rfl, Nat.le_of_ble_eq_true rfl⟩) (q0 := q9) hq9 (ci := 7) rfl rfl hl.1 rfl (Nat.le_of_ble_eq_true rfl) dX6_offer_19 ⟨Nat.le_of_ble_eq_true rfl, Nat.le_of_ble_eq_true rfl⟩ (fun H locs hS => ?_)
  have hS := jS_perm List.perm_append_comm hS
  refine lv_istore (lv' := [(8, .int p0), (7, .int vl.toInt32), (6, .int vu.toInt32), (0, .ref sa), (1, .ref v0), (2, .int a1), (3, .int a2), (4, .int a3), (5, .int a4)]) hx hb dX6_offer_22 hl (by decide) rfl (fun ls hl => ?_)
  refine lv_aload_n hx hb dX6_offer_24 rfl (lv_at hl 3 rfl) ?_
  refine lv_iload hx hb dX6_offer_25 (lv_at hl 0 rfl) ?_
  refine lv_iload hx hb dX6_offer_27 (lv_at hl 2 rfl) ?_
  refine lv_iload hx hb dX6_offer_29 (lv_at hl 1 rfl) ?_
  refine j_Vi (As := [.int p0, .int vu.toInt32, .int vl.toInt32]) (rest := []) (wc := va_pl L f) (w1 := va_pl L f) (wf := va_pl L f ++ FRW v0 vu vl) (vc := (RX6, TX6, 1)) C hK hS (jcut_perm hA hS List.perm_append_comm) (tX6_isAt l D dd L f sa cI cJ cZ cW cS cO cG (nI n) _ _ _ _ _ _ p0 vu.toInt32 vl.toInt32 hE1 hsh) (cwV 3 hts gX6_offer_X6_isAt rfl rfl rfl (by decide +kernel) ⟨Nat.le_of_ble_eq_true rfl, Nat.le_of_ble_eq_true rfl⟩) (q0 := q9) hq9 (ci := 7) rfl rfl hl.1 rfl (Nat.le_of_ble_eq_true rfl) dX6_offer_31 ⟨Nat.le_of_ble_eq_true rfl, Nat.le_of_ble_eq_true rfl⟩ (fun H locs hS => ?_)
  have hS := jS_perm List.perm_append_comm hS
  refine lv_if_eq (tgt := 38) hx hb dX6_offer_34 (by decide) (fun c1 => ?_) (fun c1 => ?_)
  · have hE := jt hE c1
    obtain ⟨o1, hE2, hE⟩ := jbd hE
    obtain rfl := jsm hE
    obtain ⟨k, hk, ek⟩ := hp _ _ _ rfl
    subst ek
    refine lv_aload_n hx hb dX6_offer_38 rfl (lv_at hl 4 rfl) ?_
    refine j_Vv (As := []) (rest := []) (wc := FRW v0 vu vl) (w1 := FRW v0 o1.1 o1.2) (wf := FRW v0 o1.1 o1.2 ++ va_pl L f) (vc := (RX0, TX0, 2)) C hK hS (jcut_perm hA hS (List.Perm.refl _)) (tX0_reduce l D v0 cI cJ cZ cW cS cO cG vu vl hE2) (cwV 0 hts gX6_offer_X0_reduce rfl rfl rfl (by decide +kernel) ⟨Nat.le_of_ble_eq_true rfl, Nat.le_of_ble_eq_true rfl⟩) (q0 := 0) rfl (ci := 1) rfl rfl hl.1 rfl (Nat.le_of_ble_eq_true rfl) dX6_offer_39 ⟨Nat.le_of_ble_eq_true rfl, Nat.le_of_ble_eq_true rfl⟩ (fun H locs hS => ?_)
    refine lv_aload_n hx hb dX6_offer_42 rfl (lv_at hl 4 rfl) ?_
    refine va_get (D := D) (ci := 1) (v := .long o1.1) (C := RX0) (T := TX0) (N := 2) hx hb hts inX0 hown hK hS.1 0 rfl rfl 0 (by decide) k0 (fun _ h => h) rfl dX6_offer_43 ?_
    refine lv_l2i (v := o1.1.toInt32) hx hb dX6_offer_46 rfl ?_
    refine lv_istore (lv' := [(6, .int o1.1.toInt32), (8, .int (nI k)), (7, .int vl.toInt32), (0, .ref sa), (1, .ref v0), (2, .int a1), (3, .int a2), (4, .int a3), (5, .int a4)]) hx hb dX6_offer_47 hl (by decide) rfl (fun ls hl => ?_)
    refine lv_aload_n hx hb dX6_offer_49 rfl (lv_at hl 4 rfl) ?_
    refine va_get (D := D) (ci := 1) (v := .long o1.2) (C := RX0) (T := TX0) (N := 2) hx hb hts inX0 hown hK hS.1 0 rfl rfl 1 (by decide) k1 (fun _ h => h) rfl dX6_offer_50 ?_
    refine lv_l2i (v := o1.2.toInt32) hx hb dX6_offer_53 rfl ?_
    refine lv_istore (lv' := [(7, .int o1.2.toInt32), (6, .int o1.1.toInt32), (8, .int (nI k)), (0, .ref sa), (1, .ref v0), (2, .int a1), (3, .int a2), (4, .int a3), (5, .int a4)]) hx hb dX6_offer_54 hl (by decide) rfl (fun ls hl => ?_)
    refine lv_aload_n hx hb dX6_offer_56 rfl (lv_at hl 3 rfl) ?_
    refine jp_get (ci := 7) (v := .ref la) (C := RX6) (T := TX6) (N := 1) hx hb hts inX6 hown hK hS.1 hsa fsa rfl 0 (by decide) k2 (fun _ h => h) rfl dX6_offer_57 ?_
    refine lv_iload hx hb dX6_offer_60 (lv_at hl 2 rfl) ?_
    refine va_new (ci := 6) (fs := [.int 0, .int 0, .int 0, .int 0, .int 0, .int 0]) (C := RX5) (T := TX5) (N := 6) hx hb hts inX5 tyX5 tyX5_ok hown (hts (.classLink RX6 26 RX5) (by decide +kernel)) (hts (.instantiable RX5 6) (by decide +kernel)) (hts (.initialized RX5) (by decide +kernel)) hK hS.1 hS.2.1 hS.2.2 hA rfl (fun j hj => by rcases (show j = 0 ∨ j = 1 ∨ j = 2 ∨ j = 3 ∨ j = 4 ∨ j = 5 by omega) with rfl | rfl | rfl | rfl | rfl | rfl <;> rfl) (Nat.le_of_ble_eq_true rfl) (Nat.le_of_ble_eq_true rfl) dX6_offer_62 (fun q H p1 p2 p3 => ?_)
    have hS : jS D vwCl A ((FRW v0 o1.1 o1.2 ++ va_pl L f) ++ [(q, .inr (6, [.int 0, .int 0, .int 0, .int 0, .int 0, .int 0]))]) s.heap H locs := ⟨p1, p2, p3⟩
    have hqL : q ∉ L := fun h => by
      have hnd := (va_D_iff.mp p2).1
      rw [List.map_append, List.nodup_append] at hnd
      exact hnd.2.2 q (by rw [List.map_append]; exact List.mem_append_right _ (by unfold va_pl; rw [List.map_map]; exact List.mem_map.mpr ⟨q, h, rfl⟩)) q (List.mem_singleton_self _) rfl
    refine lv_dup hx hb dX6_offer_65 rfl ?_
    refine lv_iload hx hb dX6_offer_66 (lv_at hl 1 rfl) ?_
    refine lv_iload hx hb dX6_offer_68 (lv_at hl 0 rfl) ?_
    refine lv_iload_n hx hb dX6_offer_70 rfl (lv_at hl 5 rfl) ?_
    refine lv_iload_n hx hb dX6_offer_71 rfl (lv_at hl 6 rfl) ?_
    refine lv_iload hx hb dX6_offer_72 (lv_at hl 7 rfl) ?_
    refine lv_iload hx hb dX6_offer_74 (lv_at hl 8 rfl) ?_
    refine j_Iv (As := [.int o1.1.toInt32, .int o1.2.toInt32, .int a1, .int a2, .int a3, .int a4]) (rest := [.ref q, .int (nI k), .ref la]) (wc := [(q, .inr (6, [.int 0, .int 0, .int 0, .int 0, .int 0, .int 0]))]) (w1 := [(q, shC (o1.1.toInt32, o1.2.toInt32, a1, a2, a3, a4))]) (wf := [(q, shC (o1.1.toInt32, o1.2.toInt32, a1, a2, a3, a4))] ++ (FRW v0 o1.1 o1.2 ++ va_pl L f)) C hK hS (jcut_perm hA hS List.perm_append_comm) (tX5_init l D q cI cJ cZ cW cS cO cG 0 0 0 0 0 0 o1.1.toInt32 o1.2.toInt32 a1 a2 a3 a4 rfl) (cwI 6 hts gX6_offer_X5_init rfl rfl rfl (hts (.initialized RX5) (by decide +kernel)) (hts (.methodLink RX6 48 yX5_init) (by decide +kernel)) (hts (.instanceMethod yX5_init) (by decide +kernel)) rfl (by decide +kernel) ⟨Nat.le_of_ble_eq_true rfl, Nat.le_of_ble_eq_true rfl⟩) rfl hl.1 rfl (Nat.le_of_ble_eq_true rfl) dX6_offer_76 ⟨Nat.le_of_ble_eq_true rfl, Nat.le_of_ble_eq_true rfl⟩ (fun H locs hS => ?_)
    have hpl := va_pl_push (f := f) (e := shC (o1.1.toInt32, o1.2.toInt32, a1, a2, a3, a4)) hqL
    have hS : jS D vwCl A (va_pl (L ++ [q]) (va_up f q (shC (o1.1.toInt32, o1.2.toInt32, a1, a2, a3, a4))) ++ FRW v0 o1.1 o1.2) s.heap H locs := by
      rw [← hpl]
      refine jS_perm ?_ hS
      exact (List.perm_append_comm.trans (List.append_assoc _ _ _ ▸ List.perm_append_comm)).trans (List.Perm.refl _)
    have hne : ∀ x, x ∈ L → x ≠ q := fun x hx z => hqL (z ▸ hx)
    have fla1 : (va_up f q (shC (o1.1.toInt32, o1.2.toInt32, a1, a2, a3, a4))) la = .inr (0, [.int mc, .ref ea, .int (nI n)]) := (va_up_ne f _ (hne la hla)).trans fla
    obtain ⟨q8, hq8⟩ := jp_at (L := L ++ [q]) (List.mem_append_left _ hla) fla1
    refine j_XVvp (As := [.int (nI k), .ref q]) (rest := []) (vc := (RJx4a65c, TJx4a65c, 3)) C hK hX hA hS (List.Perm.refl _) (tJx4a65c_add_7a177 l D dd mi cI cJ cZ cW cS cO cG (L ++ [q]) _ la ea n cap k q mc g _ (List.mem_append_left _ hla) fla1 hn hc2 hnc hcap hk (by
      rcases hea with h | ⟨h1, h2, h3⟩
      · exact Or.inl h
      · exact Or.inr ⟨h1, List.mem_append_left _ h2, (va_up_ne f _ (hne ea h2)).trans h3⟩) (fun r hr2 => by
      obtain ⟨b, b1, b2, b3⟩ := hel r hr2
      exact ⟨b, b1, List.mem_append_left _ b2, _, (va_up_ne f _ (hne b b2)).trans b3⟩) (List.mem_append_right _ (List.mem_singleton_self _)) (va_up_self _ _ _)) (cwV 2 hts gX6_offer_Jx4a65c_add_7a177 rfl rfl rfl (by decide +kernel) ⟨Nat.le_of_ble_eq_true rfl, Nat.le_of_ble_eq_true rfl⟩) (q0 := q8) hq8 (ci := 0) rfl rfl hl.1 rfl (Nat.le_of_ble_eq_true rfl) dX6_offer_79 ⟨Nat.le_of_ble_eq_true rfl, Nat.le_of_ble_eq_true rfl⟩ (fun w H locs hp hS => ?_)
    obtain ⟨L1, f1, ea1, cap1, g1, ew, hsub, fl1, hea1, fea1, hc1, hc3, hold, hfr, hg1⟩ := hp
    subst ew
    have hS := jS_perm List.perm_append_comm hS
    have hlan : ∀ {x : Nat} {y : SV}, f x = shC y → x ≠ la := fun h z => by
      rw [z, fla] at h
      cases h
    have hsala : sa ≠ la := fun z => by
      rw [z, fla] at fsa
      cases fsa
    have hdd : dd ∉ L := fun h => by
      obtain ⟨cell, -, -, -, -, -, -, hn9⟩ := hX.2.2.2.2.2.2.2.2.2
      have h9 := (va_D_iff.mp hS.2.1).2 (dd, f1 dd) (List.mem_append_right _ (List.mem_map.mpr ⟨dd, hsub _ (List.mem_append_left _ h), rfl⟩))
      exact hn9 h9
    have hean : ∀ {x : Nat} {cI : Nat} {vs : List Value}, x ∈ L → f x = .inr (cI, vs) → x ≠ ea := fun hx h z => by
      rcases hea with h9 | h9
      · exact hdd (by rw [← h9.2, ← z]; exact hx)
      · rw [z, h9.2.2] at h
        cases h
    have hfr2 : ∀ x, x ∈ L → x ≠ la → x ≠ ea → f1 x = f x := fun x h1 h2 h3 => (hfr x (List.mem_append_left _ h1) h2 h3).trans (va_up_ne f _ (hne x h1))
    refine W.widen (k := 2) (n := 1406) (Nat.le_of_ble_eq_true rfl) (Nat.le_of_ble_eq_true rfl) ?_
    refine ret ⟨L1, f1, rfl, fun x h => hsub x (List.mem_append_left _ h), hfr2, Or.inr ⟨nI k, _, _, rfl, ea1, cap1, g1, ?_, by omega, hsub _ (List.mem_append_left _ hsa), (hfr2 sa hsa hsala (hean hsa fsa)).trans fsa, hsub _ (List.mem_append_left _ hla), fl1, hc1, hc3.2, Or.inr hc3.1, Or.inr ⟨by omega, hea1, fea1⟩, fun r hr2 => ?_⟩⟩ hS dX6_offer_82
    · rcases hold with h | h
      · exact Or.inl h
      · exact Or.inr (fun z => h (List.mem_append_left _ z))
    · rw [hg1 r hr2]
      unfold insSV
      rw [nI_clamp (by omega)]
      by_cases h1 : r < k
      · rw [if_pos h1, if_pos h1]
        obtain ⟨b, b1, b2, b3⟩ := hel r (by omega)
        exact ⟨b, b1, hsub _ (List.mem_append_left _ b2), (hfr2 b b2 (hlan b3) (hean b2 b3)).trans b3⟩
      · rw [if_neg h1, if_neg h1]
        by_cases h2 : r = k
        · rw [if_pos h2, if_pos h2]
          refine ⟨q, rfl, hsub _ (List.mem_append_right _ (List.mem_singleton_self _)), ?_⟩
          have hqla : q ≠ la := fun z => hqL (z ▸ hla)
          have hqea : q ≠ ea := fun z => by
            rcases hea with h9 | h9
            · obtain ⟨cell, -, -, -, -, -, -, hn9⟩ := hX.2.2.2.2.2.2.2.2.2
              exact hn9 (by rw [← h9.2, ← z]; exact (va_D_iff.mp hS.2.1).2 (q, f1 q) (List.mem_append_right _ (List.mem_map.mpr ⟨q, hsub _ (List.mem_append_right _ (List.mem_singleton_self _)), rfl⟩)))
            · exact hqL (z ▸ h9.2.1)
          rw [hfr q (List.mem_append_right _ (List.mem_singleton_self _)) hqla hqea, va_up_self]
        · rw [if_neg h2, if_neg h2]
          obtain ⟨b, b1, b2, b3⟩ := hel (r - 1) (by omega)
          exact ⟨b, b1, hsub _ (List.mem_append_left _ b2), (hfr2 b b2 (hlan b3) (hean b2 b3)).trans b3⟩
  · have hE := jf hE c1
    obtain rfl := jsm hE
    refine W.widen (k := 2) (n := 1406) (Nat.le_of_ble_eq_true rfl) (Nat.le_of_ble_eq_true rfl) ?_
    exact ret ⟨L, f, rfl, fun _ h => h, fun _ _ _ _ => rfl, Or.inl ⟨rfl, fun _ _ => rfl⟩⟩ hS dX6_offer_37
