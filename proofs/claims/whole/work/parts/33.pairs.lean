/-- the world of like parts behind: all that the lists hold is σ's -/
def jLike (lp b0 v0 : Nat) (cS cO : ClassId) (dd : Nat) (ba : Nat → Option Nat) (known : Int32) (σ : LkS) (v : va_W) : Prop := ∃ (L : List Nat) (f : Nat → va_E), v = LX lp b0 v0 cS ba known σ.2.2.1 σ.2.2.2 ++ va_pl L f ∧ jLL cO dd L f ba σ.1 σ.2.1
abbrev rmX1_offerPairs (N : Nat) : Room := { frames := 7, cells := 2 * N, slots := 1406 * N, locals := 240 }
theorem jLL.sh {cO : ClassId} {dd : Nat} {L : List Nat} {f : Nat → va_E} {ba : Nat → Option Nat} {cnt : Nat → Nat} {sv : Nat → Nat → SV} (h : jLL cO dd L f ba cnt sv) {i : Nat} (hi : i < 9) {sa : Nat} (hb : ba i = some sa) : cnt i ≤ 1400 ∧ sa ∈ L ∧ (∃ fs, f sa = .inr (7, fs)) ∧ jSh cO dd L f sa (nI (cnt i)) (fun r => (sv i r).1) (fun r => (sv i r).2.1) (fun r => (sv i r).2.2.1) (fun r => (sv i r).2.2.2.1) (fun r => (sv i r).2.2.2.2.1) (fun r => (sv i r).2.2.2.2.2) := by
  obtain ⟨fsa, la, ea, cap, mc, g, h1, h2, h3⟩ := h
  obtain ⟨b1, b2⟩ := h1 i hi
  obtain rfl : fsa i = sa := Option.some.inj (b1.symm.trans hb)
  have b3 := b2
  obtain ⟨c1, c2, c3, c4, c5, c6, -⟩ := b3
  exact ⟨by omega, c1, ⟨_, c2⟩, b2.sh (by omega)⟩
theorem jLL.ba {cO : ClassId} {dd : Nat} {L : List Nat} {f : Nat → va_E} {ba : Nat → Option Nat} {cnt : Nat → Nat} {sv : Nat → Nat → SV} (h : jLL cO dd L f ba cnt sv) : ∃ fsa : Nat → Nat, ∀ i, i < 9 → ba i = some (fsa i) := by
  obtain ⟨fsa, la, ea, cap, mc, g, h1, h2, h3⟩ := h
  exact ⟨fsa, fun i hi => (h1 i hi).1⟩
theorem pairOut_other {t i1 i2 : Nat} {how aI : Int32} {n2 : Nat} {j : Nat} (hj : j ≠ t) : ∀ (n i : Nat) (σ σ1 : LkS), pairOut t i1 i2 how aI n2 n i σ = some σ1 → σ1.1 j = σ.1 j ∧ σ1.2.1 j = σ.2.1 j
  | 0, i, σ, σ1, h => by
    have h : some σ = some σ1 := h
    obtain rfl := jsm h
    exact ⟨rfl, rfl⟩
  | n + 1, i, σ, σ1, h => by
    rw [pairOut] at h
    obtain ⟨σ2, h1, h2⟩ := jbd h
    have a := pairIn_other hj _ _ _ _ h1
    have b := pairOut_other hj n (i + 1) σ2 σ1 h2
    exact ⟨b.1.trans a.1, b.2.trans a.2⟩
set_option maxHeartbeats 4000000 in
set_option maxRecDepth 100000 in
theorem tX1_offerPairs (l : Launch) (D : va_G) (dd mi : Nat) (cI cJ cZ cW cS cO cG : ClassId) (lp b0 v0 : Nat) (ba : Nat → Option Nat) (known : Int32) (L : List Nat) (f : Nat → va_E) (σ0 σ9 : LkS) (n a n1 n2 : Nat) (how : Int32) (hLL : jLL cO dd L f ba σ0.1 σ0.2.1) (ha : 1 ≤ a) (han : a + 1 ≤ n) (hn9 : n ≤ 9) (hn1 : σ0.1 (a - 1) = n1) (hn2 : σ0.1 (n - a - 1) = n2) (hE : pairOut (n - 1) (a - 1) (n - a - 1) how (nI a) n2 n1 0 σ0 = some σ9) : JXv l yX1_offerPairs wsX1_offerPairs (rmX1_offerPairs (n1 * n2)) D vwCl (TY cI cJ cZ cW cS cO cG) dd mi [.ref lp, .int (nI n), .int how, .int (nI a)] (LX lp b0 v0 cS ba known σ0.2.2.1 σ0.2.2.2 ++ va_pl L f) (jLike lp b0 v0 cS cO dd ba known σ9) := by
  haveI hdec : DecidableEq (Nat × va_E) := Classical.typeDecidableEq _
  refine JXv.of (cc := cX1_offerPairs) (maxL := 11) (by decide) rfl (Nat.le_of_ble_eq_true rfl) ?_
  intro p e s m args below meth c A ls Q C hK hX hA ret hS hl
  obtain ⟨⟨hx, hb, hml, hown, hts⟩, -⟩ := id C
  have hl : lv_has ls 11 [(0, .ref lp), (1, .int (nI n)), (2, .int how), (3, .int (nI a))] := hl
  have inX1 : ∀ w ∈ u_ws RX1 TX1 3, w ∈ wsX1_offerPairs := by decide +kernel
  have k0 := hts (.fieldLink RX1 11 "OhmNets$LikeParts" "byParts" "[LOhmNets$Shares;") (by decide +kernel)
  have k1 := hts (.fieldLink RX1 20 "OhmNets$LikeParts" "value" "LOhmNets$Fraction;") (by decide +kernel)
  obtain ⟨fsa, hba⟩ := hLL.ba
  have e1 : nI n - 1 = nI (n - 1) := by
    have := nI_pred (n - 1)
    rwa [show n - 1 + 1 = n by omega] at this
  have e2 : nI a - 1 = nI (a - 1) := by
    have := nI_pred (a - 1)
    rwa [show a - 1 + 1 = a by omega] at this
  have e3 : nI n - nI a - 1 = nI (n - a - 1) := by
    rw [show nI n - nI a = nI (n - a) from by
      rw [show nI n = nI (n - a) + nI a by rw [nI_add, show n - a + a = n by omega]]
      exact Int32.add_sub_cancel _ _]
    have := nI_pred (n - a - 1)
    rwa [show n - a - 1 + 1 = n - a by omega] at this
  have vin : ∀ {j : Nat}, j < 9 → vp_in (nI j) 9 := fun h => nI_in h (by omega)
  refine lv_aload_n hx hb dX1_offerPairs_0 rfl (lv_at hl 0 rfl) ?_
  refine va_get (D := D) (ci := 2) (v := .ref b0) (C := RX1) (T := TX1) (N := 3) hx hb hts inX1 hown hK hS.1 0 rfl rfl 0 (by decide) k0 (fun _ h => h) rfl dX1_offerPairs_1 ?_
  refine lv_iload_n hx hb dX1_offerPairs_4 rfl (lv_at hl 1 rfl) ?_
  refine lv_iconst (v := (1 : Int32)) hx hb dX1_offerPairs_5 (by decide) ?_
  refine lv_isub hx hb dX1_offerPairs_6 ?_
  rw [e1]
  refine jn_ald hx hb hK hS.1 1 4 rfl rfl (vin (j := n - 1) (by omega)) (v := fsa (n - 1)) (by rw [nI_clamp (by omega)]; exact hba _ (by omega)) dX1_offerPairs_7 (Or.inl ⟨_, rfl⟩) ?_
  refine lv_astore (lv' := [(4, .ref (fsa (n - 1))), (0, .ref lp), (1, .int (nI n)), (2, .int how), (3, .int (nI a))]) hx hb dX1_offerPairs_8 hl (by decide) rfl (fun ls hl => ?_)
  refine lv_aload_n hx hb dX1_offerPairs_10 rfl (lv_at hl 1 rfl) ?_
  refine va_get (D := D) (ci := 2) (v := .ref b0) (C := RX1) (T := TX1) (N := 3) hx hb hts inX1 hown hK hS.1 0 rfl rfl 0 (by decide) k0 (fun _ h => h) rfl dX1_offerPairs_11 ?_
  refine lv_iload_n hx hb dX1_offerPairs_14 rfl (lv_at hl 4 rfl) ?_
  refine lv_iconst (v := (1 : Int32)) hx hb dX1_offerPairs_15 (by decide) ?_
  refine lv_isub hx hb dX1_offerPairs_16 ?_
  rw [e2]
  refine jn_ald hx hb hK hS.1 1 4 rfl rfl (vin (j := a - 1) (by omega)) (v := fsa (a - 1)) (by rw [nI_clamp (by omega)]; exact hba _ (by omega)) dX1_offerPairs_17 (Or.inl ⟨_, rfl⟩) ?_
  refine lv_astore (lv' := [(5, .ref (fsa (a - 1))), (4, .ref (fsa (n - 1))), (0, .ref lp), (1, .int (nI n)), (2, .int how), (3, .int (nI a))]) hx hb dX1_offerPairs_18 hl (by decide) rfl (fun ls hl => ?_)
  refine lv_aload_n hx hb dX1_offerPairs_20 rfl (lv_at hl 2 rfl) ?_
  refine va_get (D := D) (ci := 2) (v := .ref b0) (C := RX1) (T := TX1) (N := 3) hx hb hts inX1 hown hK hS.1 0 rfl rfl 0 (by decide) k0 (fun _ h => h) rfl dX1_offerPairs_21 ?_
  refine lv_iload_n hx hb dX1_offerPairs_24 rfl (lv_at hl 3 rfl) ?_
  refine lv_iload_n hx hb dX1_offerPairs_25 rfl (lv_at hl 5 rfl) ?_
  refine lv_isub hx hb dX1_offerPairs_26 ?_
  refine lv_iconst (v := (1 : Int32)) hx hb dX1_offerPairs_27 (by decide) ?_
  refine lv_isub hx hb dX1_offerPairs_28 ?_
  rw [e3]
  refine jn_ald hx hb hK hS.1 1 4 rfl rfl (vin (j := n - a - 1) (by omega)) (v := fsa (n - a - 1)) (by rw [nI_clamp (by omega)]; exact hba _ (by omega)) dX1_offerPairs_29 (Or.inl ⟨_, rfl⟩) ?_
  refine lv_astore (lv' := [(6, .ref (fsa (n - a - 1))), (5, .ref (fsa (a - 1))), (4, .ref (fsa (n - 1))), (0, .ref lp), (1, .int (nI n)), (2, .int how), (3, .int (nI a))]) hx hb dX1_offerPairs_30 hl (by decide) rfl (fun ls hl => ?_)
  obtain ⟨c1, m1, ⟨fs1, f1⟩, s1⟩ := hLL.sh (i := a - 1) (by omega) (hba _ (by omega))
  obtain ⟨c2, m2, ⟨fs2, f2⟩, s2⟩ := hLL.sh (i := n - a - 1) (by omega) (hba _ (by omega))
  rw [hn1] at c1 s1
  rw [hn2] at c2 s2
  obtain ⟨q1, hq1⟩ := jp_at m1 f1
  obtain ⟨q2, hq2⟩ := jp_at m2 f2
  refine lv_aload hx hb dX1_offerPairs_32 (lv_at hl 1 rfl) ?_
  refine j_Vi (As := []) (rest := []) (wc := va_pl L f) (w1 := va_pl L f) (wf := va_pl L f ++ LX lp b0 v0 cS ba known σ0.2.2.1 σ0.2.2.2) (vc := (RX6, TX6, 1)) C hK hS (jcut_perm hA hS List.perm_append_comm) (tX6_size l D dd L f _ cI cJ cZ cW cS cO cG (nI n1) _ _ _ _ _ _ (o := nI n1) rfl s1) (cwV 0 hts gX1_offerPairs_X6_size rfl rfl rfl (by decide +kernel) ⟨Nat.le_of_ble_eq_true rfl, Nat.le_of_ble_eq_true rfl⟩) (q0 := q1) hq1 (ci := 7) rfl rfl hl.1 rfl (Nat.le_of_ble_eq_true rfl) dX1_offerPairs_34 ⟨Nat.zero_le _, Nat.zero_le _⟩ (fun H locs hS => ?_)
  have hS := jS_perm List.perm_append_comm hS
  refine lv_istore (lv' := [(7, .int (nI n1)), (6, .ref (fsa (n - a - 1))), (5, .ref (fsa (a - 1))), (4, .ref (fsa (n - 1))), (0, .ref lp), (1, .int (nI n)), (2, .int how), (3, .int (nI a))]) hx hb dX1_offerPairs_37 hl (by decide) rfl (fun ls hl => ?_)
  refine lv_aload hx hb dX1_offerPairs_39 (lv_at hl 1 rfl) ?_
  refine j_Vi (As := []) (rest := []) (wc := va_pl L f) (w1 := va_pl L f) (wf := va_pl L f ++ LX lp b0 v0 cS ba known σ0.2.2.1 σ0.2.2.2) (vc := (RX6, TX6, 1)) C hK hS (jcut_perm hA hS List.perm_append_comm) (tX6_size l D dd L f _ cI cJ cZ cW cS cO cG (nI n2) _ _ _ _ _ _ (o := nI n2) rfl s2) (cwV 0 hts gX1_offerPairs_X6_size rfl rfl rfl (by decide +kernel) ⟨Nat.le_of_ble_eq_true rfl, Nat.le_of_ble_eq_true rfl⟩) (q0 := q2) hq2 (ci := 7) rfl rfl hl.1 rfl (Nat.le_of_ble_eq_true rfl) dX1_offerPairs_41 ⟨Nat.zero_le _, Nat.zero_le _⟩ (fun H locs hS => ?_)
  have hS := jS_perm List.perm_append_comm hS
  refine lv_istore (lv' := [(8, .int (nI n2)), (7, .int (nI n1)), (6, .ref (fsa (n - a - 1))), (5, .ref (fsa (a - 1))), (4, .ref (fsa (n - 1))), (0, .ref lp), (1, .int (nI n)), (2, .int how), (3, .int (nI a))]) hx hb dX1_offerPairs_44 hl (by decide) rfl (fun ls hl => ?_)
  refine lv_iconst (v := (0 : Int32)) hx hb dX1_offerPairs_46 (by decide) ?_
  refine lv_istore (lv' := [(9, .int (0 : Int32)), (8, .int (nI n2)), (7, .int (nI n1)), (6, .ref (fsa (n - a - 1))), (5, .ref (fsa (a - 1))), (4, .ref (fsa (n - 1))), (0, .ref lp), (1, .int (nI n)), (2, .int how), (3, .int (nI a))]) hx hb dX1_offerPairs_47 hl (by decide) rfl (fun ls hl => ?_)
  have hl : lv_has ls 11 [(9, .int (nI 0)), (0, .ref lp), (1, .int (nI n)), (2, .int how), (3, .int (nI a)), (4, .ref (fsa (n - 1))), (5, .ref (fsa (a - 1))), (6, .ref (fsa (n - a - 1))), (7, .int (nI n1)), (8, .int (nI n2))] := by rw [nI_0]; exact lv_sub hl [0, 6, 7, 8, 9, 5, 4, 3, 2, 1] rfl
  have inner : ∀ (i : Nat), i < n1 → ∀ (r k : Nat) (σ σ1 : LkS) (L : List Nat) (f : Nat → va_E), k + r = n2 → pairIn (n - 1) (a - 1) (n - a - 1) how (nI a) i r k σ = some σ1 → jLL cO dd L f ba σ.1 σ.2.1 → σ.1 (a - 1) = n1 → σ.1 (n - a - 1) = n2 → (∀ (L : List Nat) (f : Nat → va_E), jLL cO dd L f ba σ1.1 σ1.2.1 → jW p l e (rmX1_offerPairs (n1 * n2)) s m args below meth c (2 * (i * n2 + n2)) (1406 * (i * n2 + n2)) Q D vwCl A (LX lp b0 v0 cS ba known σ1.2.2.1 σ1.2.2.2 ++ va_pl L f) 11 [(9, .int (nI i)), (0, .ref lp), (1, .int (nI n)), (2, .int how), (3, .int (nI a)), (4, .ref (fsa (n - 1))), (5, .ref (fsa (a - 1))), (6, .ref (fsa (n - a - 1))), (7, .int (nI n1)), (8, .int (nI n2))] 109 []) → jW p l e (rmX1_offerPairs (n1 * n2)) s m args below meth c (2 * (i * n2 + k)) (1406 * (i * n2 + k)) Q D vwCl A (LX lp b0 v0 cS ba known σ.2.2.1 σ.2.2.2 ++ va_pl L f) 11 [(10, .int (nI k)), (9, .int (nI i)), (0, .ref lp), (1, .int (nI n)), (2, .int how), (3, .int (nI a)), (4, .ref (fsa (n - 1))), (5, .ref (fsa (a - 1))), (6, .ref (fsa (n - a - 1))), (7, .int (nI n1)), (8, .int (nI n2))] 59 [] := by
    intro i hi r
    induction r with
    | zero =>
      intro k σ σ1 L f hk hE hLL h1 h2 kk H locs ls hS hl
      have hE : some σ = some σ1 := hE
      obtain rfl := jsm hE
      obtain rfl : k = n2 := by omega
      refine lv_iload hx hb dX1_offerPairs_59 (lv_at hl 0 rfl) ?_
      refine lv_iload hx hb dX1_offerPairs_61 (lv_at hl 10 rfl) ?_
      refine lv_icmp_ge (tgt := 109) hx hb dX1_offerPairs_63 (by decide) (fun c9 => ?_) (fun c9 => ?_)
      · exact kk L f hLL _ _ _ hS (lv_sub hl [1, 2, 3, 4, 5, 6, 7, 8, 9, 10] rfl)
      · exact absurd (nI_le (Nat.le_refl _) (by omega)) c9
    | succ r ih =>
      intro k σ σ1 L f hk hE hLL h1 h2 kk H locs ls hS hl
      rw [pairIn] at hE
      obtain ⟨σ2, hO, hE⟩ := jbd hE
      have hbd : i * n2 + k + 1 ≤ n1 * n2 := by
        have : (i + 1) * n2 ≤ n1 * n2 := Nat.mul_le_mul_right _ hi
        rw [Nat.add_mul] at this
        omega
      refine lv_iload hx hb dX1_offerPairs_59 (lv_at hl 0 rfl) ?_
      refine lv_iload hx hb dX1_offerPairs_61 (lv_at hl 10 rfl) ?_
      refine lv_icmp_ge (tgt := 109) hx hb dX1_offerPairs_63 (by decide) (fun c9 => absurd c9 (nI_ge (by omega) (by omega))) (fun c9 => ?_)
      obtain ⟨c1, m1, ⟨fs1, f1⟩, s1⟩ := hLL.sh (i := a - 1) (by omega) (hba _ (by omega))
      obtain ⟨c2, m2, ⟨fs2, f2⟩, s2⟩ := hLL.sh (i := n - a - 1) (by omega) (hba _ (by omega))
      rw [h1] at c1 s1
      rw [h2] at c2 s2
      obtain ⟨q1, hq1⟩ := jp_at m1 f1
      obtain ⟨q2, hq2⟩ := jp_at m2 f2
      refine lv_aload_n hx hb dX1_offerPairs_66 rfl (lv_at hl 2 rfl) ?_
      refine lv_aload hx hb dX1_offerPairs_67 (lv_at hl 7 rfl) ?_
      refine lv_iload hx hb dX1_offerPairs_69 (lv_at hl 1 rfl) ?_
      refine j_QVqp (As := [.int (nI i)]) (rest := [.ref lp]) (wc := va_pl L f) (wr := LX lp b0 v0 cS ba known σ.2.2.1 σ.2.2.2) (vc := (RX6, TX6, 1)) C hK hA hS List.perm_append_comm (tX6_at l D dd L f _ cI cJ cZ cW cS cO cG (nI n1) _ _ _ _ _ _ (nI i) s1) (cwV 1 hts gX1_offerPairs_X6_at rfl rfl rfl (by decide +kernel) ⟨Nat.le_of_ble_eq_true rfl, Nat.le_of_ble_eq_true rfl⟩) (q0 := q1) hq1 (ci := 7) rfl rfl hl.1 rfl (Nat.le_of_ble_eq_true rfl) dX1_offerPairs_71 ⟨by show 2 * (i * n2 + k) ≤ 2 * (n1 * n2); omega, by show 1406 * (i * n2 + k) ≤ 1406 * (n1 * n2); omega⟩ (fun r1 w1 H locs hp hS => ?_)
      obtain ⟨ew, hp⟩ := hp
      subst ew
      rw [nI_clamp (by omega), nI_clamp (by omega)] at hp
      obtain ⟨-, ax, er, hax, fax⟩ := hp.resolve_right (fun h => h.1 ⟨nI_pos' (by omega), by rw [nI_clamp (by omega)]; exact hi⟩)
      subst er
      have hS := jS_perm List.perm_append_comm hS
      refine lv_aload hx hb dX1_offerPairs_74 (lv_at hl 8 rfl) ?_
      refine lv_iload hx hb dX1_offerPairs_76 (lv_at hl 0 rfl) ?_
      refine j_QVqp (As := [.int (nI k)]) (rest := [.ref ax, .ref lp]) (wc := va_pl L f) (wr := LX lp b0 v0 cS ba known σ.2.2.1 σ.2.2.2) (vc := (RX6, TX6, 1)) C hK hA hS List.perm_append_comm (tX6_at l D dd L f _ cI cJ cZ cW cS cO cG (nI n2) _ _ _ _ _ _ (nI k) s2) (cwV 1 hts gX1_offerPairs_X6_at rfl rfl rfl (by decide +kernel) ⟨Nat.le_of_ble_eq_true rfl, Nat.le_of_ble_eq_true rfl⟩) (q0 := q2) hq2 (ci := 7) rfl rfl hl.1 rfl (Nat.le_of_ble_eq_true rfl) dX1_offerPairs_78 ⟨by show 2 * (i * n2 + k) ≤ 2 * (n1 * n2); omega, by show 1406 * (i * n2 + k) ≤ 1406 * (n1 * n2); omega⟩ (fun r1 w1 H locs hp hS => ?_)
      obtain ⟨ew, hp⟩ := hp
      subst ew
      rw [nI_clamp (by omega), nI_clamp (by omega)] at hp
      obtain ⟨-, ay, er, hay, fay⟩ := hp.resolve_right (fun h => h.1 ⟨nI_pos' (by omega), by rw [nI_clamp (by omega)]; omega⟩)
      subst er
      have hS := jS_perm List.perm_append_comm hS
      refine lv_iload_n hx hb dX1_offerPairs_81 rfl (lv_at hl 4 rfl) ?_
      refine j_Vi (As := [.ref ax, .ref ay, .int how]) (rest := []) (wf := LX lp b0 v0 cS ba known (fJoin (σ.2.1 (a - 1) i) (σ.2.1 (n - a - 1) k) how).1 (fJoin (σ.2.1 (a - 1) i) (σ.2.1 (n - a - 1) k) how).2 ++ va_pl L f) (vc := (RX1, TX1, 3)) C hK hS (jcut_all hA hS) (tX1_join l D cI cJ cZ cW cS cO cG lp b0 v0 ba known σ.2.2.1 σ.2.2.2 L f ax ay (σ.2.1 (a - 1) i) (σ.2.1 (n - a - 1) k) how hax fax hay fay) (cwV 3 hts gX1_offerPairs_X1_join rfl rfl rfl (by decide +kernel) ⟨Nat.le_of_ble_eq_true rfl, Nat.le_of_ble_eq_true rfl⟩) (q0 := 0) rfl (ci := 2) rfl rfl hl.1 rfl (Nat.le_of_ble_eq_true rfl) dX1_offerPairs_82 ⟨by show 2 * (i * n2 + k) ≤ 2 * (n1 * n2); omega, by show 1406 * (i * n2 + k) ≤ 1406 * (n1 * n2); omega⟩ (fun H locs hS => ?_)
      refine lv_if_eq (tgt := 103) hx hb dX1_offerPairs_85 (by decide) (fun c8 => absurd c8 (by decide)) (fun c8 => ?_)
      refine lv_aload hx hb dX1_offerPairs_88 (lv_at hl 6 rfl) ?_
      refine lv_aload_n hx hb dX1_offerPairs_90 rfl (lv_at hl 2 rfl) ?_
      refine va_get (D := D) (ci := 2) (v := .ref v0) (C := RX1) (T := TX1) (N := 3) hx hb hts inX1 hown hK hS.1 0 rfl rfl 1 (by decide) k1 (fun _ h => h) rfl dX1_offerPairs_91 ?_
      refine lv_iload_n hx hb dX1_offerPairs_94 rfl (lv_at hl 4 rfl) ?_
      refine lv_iload_n hx hb dX1_offerPairs_95 rfl (lv_at hl 5 rfl) ?_
      refine lv_iload hx hb dX1_offerPairs_96 (lv_at hl 1 rfl) ?_
      refine lv_iload hx hb dX1_offerPairs_98 (lv_at hl 0 rfl) ?_
      refine jl_offer (t := n - 1) (sa := fsa (n - 1)) (rest := []) (cnt := σ.1) (sv := σ.2.1) (σ1 := σ2) C hK hX hA hS hLL (by omega) (hba _ (by omega)) hO (cwV 5 hts gX1_offerPairs_X6_offer rfl rfl rfl (by decide +kernel) ⟨Nat.le_of_ble_eq_true rfl, Nat.le_of_ble_eq_true rfl⟩) hl.1 rfl (Nat.le_of_ble_eq_true rfl) dX1_offerPairs_100 ⟨by show 2 * (i * n2 + k) + 2 ≤ 2 * (n1 * n2); omega, by show 1406 * (i * n2 + k) + 1406 ≤ 1406 * (n1 * n2); omega⟩ (fun H locs L f hLL hS => ?_)
      refine lv_iinc (k := 0) (lv' := [(10, .int (nI (k + 1))), (9, .int (nI i)), (0, .ref lp), (1, .int (nI n)), (2, .int how), (3, .int (nI a)), (4, .ref (fsa (n - 1))), (5, .ref (fsa (a - 1))), (6, .ref (fsa (n - a - 1))), (7, .int (nI n1)), (8, .int (nI n2))]) hx hb dX1_offerPairs_103 hl rfl (nI_1 k) (by decide) rfl (fun ls hl => ?_)
      refine lv_goto (tgt := 59) hx hb dX1_offerPairs_106 (by decide) ?_
      have o1 := oneOffer_other hO (i := a - 1) (by omega)
      have o2 := oneOffer_other hO (i := n - a - 1) (by omega)
      exact ih (k + 1) σ2 σ1 L f (by omega) hE hLL (o1.1.trans h1) (o2.1.trans h2) kk _ _ _ hS hl
  have outer : ∀ (r i : Nat) (σ σ1 : LkS) (L : List Nat) (f : Nat → va_E), i + r = n1 → pairOut (n - 1) (a - 1) (n - a - 1) how (nI a) n2 r i σ = some σ1 → jLL cO dd L f ba σ.1 σ.2.1 → σ.1 (a - 1) = n1 → σ.1 (n - a - 1) = n2 → (∀ (L : List Nat) (f : Nat → va_E), jLL cO dd L f ba σ1.1 σ1.2.1 → jW p l e (rmX1_offerPairs (n1 * n2)) s m args below meth c (2 * (n1 * n2)) (1406 * (n1 * n2)) Q D vwCl A (LX lp b0 v0 cS ba known σ1.2.2.1 σ1.2.2.2 ++ va_pl L f) 11 [(9, .int (nI n1)), (0, .ref lp), (1, .int (nI n)), (2, .int how), (3, .int (nI a)), (4, .ref (fsa (n - 1))), (5, .ref (fsa (a - 1))), (6, .ref (fsa (n - a - 1))), (7, .int (nI n1)), (8, .int (nI n2))] 115 []) → jW p l e (rmX1_offerPairs (n1 * n2)) s m args below meth c (2 * (i * n2)) (1406 * (i * n2)) Q D vwCl A (LX lp b0 v0 cS ba known σ.2.2.1 σ.2.2.2 ++ va_pl L f) 11 [(9, .int (nI i)), (0, .ref lp), (1, .int (nI n)), (2, .int how), (3, .int (nI a)), (4, .ref (fsa (n - 1))), (5, .ref (fsa (a - 1))), (6, .ref (fsa (n - a - 1))), (7, .int (nI n1)), (8, .int (nI n2))] 49 [] := by
    intro r
    induction r with
    | zero =>
      intro i σ σ1 L f hi hE hLL h1 h2 kk H locs ls hS hl
      have hE : some σ = some σ1 := hE
      obtain rfl := jsm hE
      obtain rfl : i = n1 := by omega
      refine lv_iload hx hb dX1_offerPairs_49 (lv_at hl 0 rfl) ?_
      refine lv_iload hx hb dX1_offerPairs_51 (lv_at hl 8 rfl) ?_
      refine lv_icmp_ge (tgt := 115) hx hb dX1_offerPairs_53 (by decide) (fun c9 => ?_) (fun c9 => ?_)
      · exact kk L f hLL _ _ _ hS hl
      · exact absurd (nI_le (Nat.le_refl _) (by omega)) c9
    | succ r ih =>
      intro i σ σ1 L f hi hE hLL h1 h2 kk H locs ls hS hl
      rw [pairOut] at hE
      obtain ⟨σ2, hO, hE⟩ := jbd hE
      refine lv_iload hx hb dX1_offerPairs_49 (lv_at hl 0 rfl) ?_
      refine lv_iload hx hb dX1_offerPairs_51 (lv_at hl 8 rfl) ?_
      refine lv_icmp_ge (tgt := 115) hx hb dX1_offerPairs_53 (by decide) (fun c9 => absurd c9 (nI_ge (by omega) (by omega))) (fun c9 => ?_)
      refine lv_iconst (v := (0 : Int32)) hx hb dX1_offerPairs_56 (by decide) ?_
      refine lv_istore (lv' := [(10, .int (0 : Int32)), (9, .int (nI i)), (0, .ref lp), (1, .int (nI n)), (2, .int how), (3, .int (nI a)), (4, .ref (fsa (n - 1))), (5, .ref (fsa (a - 1))), (6, .ref (fsa (n - a - 1))), (7, .int (nI n1)), (8, .int (nI n2))]) hx hb dX1_offerPairs_57 hl (by decide) rfl (fun ls hl => ?_)
      rw [← nI_0] at hl
      refine inner i (by omega) n2 0 σ σ2 L f (by omega) hO hLL h1 h2 (fun L f hLL H locs ls hS hl => ?_) _ _ _ hS hl
      refine lv_iinc (k := 0) (lv' := [(9, .int (nI (i + 1))), (0, .ref lp), (1, .int (nI n)), (2, .int how), (3, .int (nI a)), (4, .ref (fsa (n - 1))), (5, .ref (fsa (a - 1))), (6, .ref (fsa (n - a - 1))), (7, .int (nI n1)), (8, .int (nI n2))]) hx hb dX1_offerPairs_109 hl rfl (nI_1 i) (by decide) rfl (fun ls hl => ?_)
      refine lv_goto (tgt := 49) hx hb dX1_offerPairs_112 (by decide) ?_
      have o1 := pairIn_other (j := a - 1) (by omega) _ _ _ _ hO
      have o2 := pairIn_other (j := n - a - 1) (by omega) _ _ _ _ hO
      rw [← Nat.succ_mul]
      exact ih (i + 1) σ2 σ1 L f (by omega) hE hLL (o1.1.trans h1) (o2.1.trans h2) kk _ _ _ hS hl
  have fin := outer n1 0 σ0 σ9 L f (by omega) hE hLL hn1 hn2 (fun L f hLL H locs ls hS hl => ?_)
  · rw [Nat.zero_mul] at fin
    exact fin _ _ _ hS hl
  · exact ret ⟨L, f, rfl, hLL⟩ hS dX1_offerPairs_115
