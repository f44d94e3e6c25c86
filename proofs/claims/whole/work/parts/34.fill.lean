def fillA (n : Nat) (how : Int32) : Nat → Nat → LkS → Option LkS
  | 0, _, σ => some σ
  | r + 1, a, σ => (pairOut (n - 1) (a - 1) (n - a - 1) how (nI a) (σ.1 (n - a - 1)) (σ.1 (a - 1)) 0 σ).bind (fun σ1 => fillA n how r (a + 1) σ1)
def fFill (n : Nat) (σ : LkS) : Option LkS := if n = 1 then oneOffer 0 (0, -9, -9, -9) (σ.1, σ.2.1, 1, 1) else (fillA n 1 (n / 2) 1 σ).bind (fun σ1 => fillA n 2 (n / 2) 1 σ1)
/-- how many offers -/
def pnA (cnt : Nat → Nat) (n : Nat) : Nat → Nat → Nat
  | 0, _ => 0
  | r + 1, a => cnt (a - 1) * cnt (n - a - 1) + pnA cnt n r (a + 1)
def pnF (cnt : Nat → Nat) (n : Nat) : Nat := if n = 1 then 1 else pnA cnt n (n / 2) 1 + pnA cnt n (n / 2) 1
theorem pnA_congr {c1 c2 : Nat → Nat} {n : Nat} (h : ∀ j, j ≠ n - 1 → c1 j = c2 j) : ∀ (r a : Nat), 1 ≤ a → a + r ≤ n → pnA c1 n r a = pnA c2 n r a
  | 0, a, _, _ => rfl
  | r + 1, a, h1, h2 => by
    rw [pnA, pnA, h (a - 1) (by omega), h (n - a - 1) (by omega), pnA_congr h r (a + 1) (by omega) (by omega)]
theorem fillA_other {n : Nat} {how : Int32} {j : Nat} (hj : j ≠ n - 1) : ∀ (r a : Nat) (σ σ1 : LkS), fillA n how r a σ = some σ1 → σ1.1 j = σ.1 j ∧ σ1.2.1 j = σ.2.1 j
  | 0, a, σ, σ1, h => by
    have h : some σ = some σ1 := h
    obtain rfl := jsm h
    exact ⟨rfl, rfl⟩
  | r + 1, a, σ, σ1, h => by
    rw [fillA] at h
    obtain ⟨σ2, h1, h2⟩ := jbd h
    have a1 := pairOut_other hj _ _ _ _ h1
    have b1 := fillA_other hj r (a + 1) σ2 σ1 h2
    exact ⟨b1.1.trans a1.1, b1.2.trans a1.2⟩
abbrev rmX1_fill (N : Nat) : Room := { frames := 8, cells := 2 * N, slots := 1406 * N, locals := 280 }
set_option maxHeartbeats 4000000 in
set_option maxRecDepth 100000 in
theorem tX1_fill (l : Launch) (D : va_G) (dd mi : Nat) (cI cJ cZ cW cS cO cG : ClassId) (lp b0 v0 : Nat) (ba : Nat → Option Nat) (known : Int32) (L : List Nat) (f : Nat → va_E) (σ0 σ9 : LkS) (n : Nat) (hLL : jLL cO dd L f ba σ0.1 σ0.2.1) (hn0 : 1 ≤ n) (hn9 : n ≤ 9) (hE : fFill n σ0 = some σ9) : JXv l yX1_fill wsX1_fill (rmX1_fill (pnF σ0.1 n)) D vwCl (TY cI cJ cZ cW cS cO cG) dd mi [.ref lp, .int (nI n)] (LX lp b0 v0 cS ba known σ0.2.2.1 σ0.2.2.2 ++ va_pl L f) (jLike lp b0 v0 cS cO dd ba known σ9) := by
  haveI hdec : DecidableEq (Nat × va_E) := Classical.typeDecidableEq _
  refine JXv.of (cc := cX1_fill) (maxL := 4) (by decide) rfl (Nat.le_of_ble_eq_true rfl) ?_
  intro p e s m args below meth c A ls Q C hK hX hA ret hS hl
  obtain ⟨⟨hx, hb, hml, hown, hts⟩, -⟩ := id C
  have hl : lv_has ls 4 [(0, .ref lp), (1, .int (nI n))] := hl
  have inX1 : ∀ w ∈ u_ws RX1 TX1 3, w ∈ wsX1_fill := by decide +kernel
  have k0 := hts (.fieldLink RX1 11 "OhmNets$LikeParts" "byParts" "[LOhmNets$Shares;") (by decide +kernel)
  have k1 := hts (.fieldLink RX1 20 "OhmNets$LikeParts" "value" "LOhmNets$Fraction;") (by decide +kernel)
  obtain ⟨fsa, hba⟩ := hLL.ba
  refine lv_iload_n hx hb dX1_fill_0 rfl (lv_at hl 1 rfl) ?_
  refine lv_iconst (v := (1 : Int32)) hx hb dX1_fill_1 (by decide) ?_
  refine lv_icmp_ne (tgt := 35) hx hb dX1_fill_2 (by decide) (fun c1 => ?_) (fun c1 => ?_)
  · have hn1 : n ≠ 1 := fun h => c1 (by rw [h]; rfl)
    have eN : pnF σ0.1 n = pnA σ0.1 n (n / 2) 1 + pnA σ0.1 n (n / 2) 1 := if_neg hn1
    rw [eN] at ret ⊢
    unfold fFill at hE
    rw [if_neg hn1] at hE
    obtain ⟨σ5, hE1, hE2⟩ := jbd hE
    generalize hN : pnA σ0.1 n (n / 2) 1 + pnA σ0.1 n (n / 2) 1 = N at ret ⊢
    have inner : ∀ (how : Int32) (r a u : Nat) (σ σ1 : LkS) (L : List Nat) (f : Nat → va_E), 1 ≤ a → a - 1 + r = n / 2 → fillA n how r a σ = some σ1 → jLL cO dd L f ba σ.1 σ.2.1 → u + pnA σ.1 n r a ≤ N → (∀ (L : List Nat) (f : Nat → va_E), jLL cO dd L f ba σ1.1 σ1.2.1 → jW p l e (rmX1_fill N) s m args below meth c (2 * (u + pnA σ.1 n r a)) (1406 * (u + pnA σ.1 n r a)) Q D vwCl A (LX lp b0 v0 cS ba known σ1.2.2.1 σ1.2.2.2 ++ va_pl L f) 4 [(2, .int how), (0, .ref lp), (1, .int (nI n))] 64 []) → jW p l e (rmX1_fill N) s m args below meth c (2 * u) (1406 * u) Q D vwCl A (LX lp b0 v0 cS ba known σ.2.2.1 σ.2.2.2 ++ va_pl L f) 4 [(3, .int (nI a)), (2, .int how), (0, .ref lp), (1, .int (nI n))] 44 [] := by
      intro how r
      induction r with
      | zero =>
        intro a u σ σ1 L f ha hr hE hLL hu kk H locs ls hS hl
        have hE : some σ = some σ1 := hE
        obtain rfl := jsm hE
        have e3 : nI n - nI a = nI (n - a) := by
          rw [show nI n = nI (n - a) + nI a by rw [nI_add, show n - a + a = n by omega]]
          exact Int32.add_sub_cancel _ _
        refine lv_iload_n hx hb dX1_fill_44 rfl (lv_at hl 0 rfl) ?_
        refine lv_iload_n hx hb dX1_fill_45 rfl (lv_at hl 3 rfl) ?_
        refine lv_iload_n hx hb dX1_fill_46 rfl (lv_at hl 0 rfl) ?_
        refine lv_isub hx hb dX1_fill_47 ?_
        rw [e3]
        refine lv_icmp_gt (tgt := 64) hx hb dX1_fill_48 (by decide) (fun c9 => ?_) (fun c9 => absurd (nI_lt (by omega) (by omega)) c9)
        exact kk L f hLL _ _ _ hS (lv_sub hl [1, 2, 3] rfl)
      | succ r ih =>
        intro a u σ σ1 L f ha hr hE hLL hu kk H locs ls hS hl
        rw [fillA] at hE
        obtain ⟨σ2, hO, hE⟩ := jbd hE
        have e3 : nI n - nI a = nI (n - a) := by
          rw [show nI n = nI (n - a) + nI a by rw [nI_add, show n - a + a = n by omega]]
          exact Int32.add_sub_cancel _ _
        refine lv_iload_n hx hb dX1_fill_44 rfl (lv_at hl 0 rfl) ?_
        refine lv_iload_n hx hb dX1_fill_45 rfl (lv_at hl 3 rfl) ?_
        refine lv_iload_n hx hb dX1_fill_46 rfl (lv_at hl 0 rfl) ?_
        refine lv_isub hx hb dX1_fill_47 ?_
        rw [e3]
        refine lv_icmp_gt (tgt := 64) hx hb dX1_fill_48 (by decide) (fun c9 => absurd c9 (nI_nlt (by omega) (by omega))) (fun c9 => ?_)
        refine lv_aload_n hx hb dX1_fill_51 rfl (lv_at hl 2 rfl) ?_
        refine lv_iload_n hx hb dX1_fill_52 rfl (lv_at hl 3 rfl) ?_
        refine lv_iload_n hx hb dX1_fill_53 rfl (lv_at hl 1 rfl) ?_
        refine lv_iload_n hx hb dX1_fill_54 rfl (lv_at hl 0 rfl) ?_
        rw [pnA] at hu kk
        generalize hM : σ.1 (a - 1) * σ.1 (n - a - 1) = M at hu kk
        refine j_XVv (rm := rmX1_offerPairs (σ.1 (a - 1) * σ.1 (n - a - 1))) (As := [.int (nI n), .int how, .int (nI a)]) (rest := []) (vc := (RX1, TX1, 3)) C hK hX hA hS (tX1_offerPairs l D dd mi cI cJ cZ cW cS cO cG lp b0 v0 ba known L f σ σ2 n a _ _ how hLL ha (by omega) hn9 rfl rfl hO) (cwV 3 hts gX1_fill_X1_offerPairs rfl rfl rfl (by decide +kernel) ⟨Nat.le_of_ble_eq_true rfl, Nat.le_of_ble_eq_true rfl⟩) (q0 := 0) rfl (ci := 2) rfl rfl hl.1 rfl (Nat.le_of_ble_eq_true rfl) dX1_fill_55 ⟨by show 2 * u + 2 * (σ.1 (a - 1) * σ.1 (n - a - 1)) ≤ 2 * N; omega, by show 1406 * u + 1406 * (σ.1 (a - 1) * σ.1 (n - a - 1)) ≤ 1406 * N; omega⟩ (fun w H locs hq hS => ?_)
        obtain ⟨L, f, ew, hLL⟩ := hq
        subst ew
        have o1 := fun j (hj : j ≠ n - 1) => (pairOut_other hj _ _ _ _ hO).1
        have ec := pnA_congr (c1 := σ.1) (c2 := σ2.1) (n := n) (fun j hj => (o1 j hj).symm) r (a + 1) (by omega) (by omega)
        rw [ec] at hu kk
        refine lv_iinc (k := 0) (lv' := [(3, .int (nI (a + 1))), (2, .int how), (0, .ref lp), (1, .int (nI n))]) hx hb dX1_fill_58 hl rfl (nI_1 a) (by decide) rfl (fun ls hl => ?_)
        refine lv_goto (tgt := 44) hx hb dX1_fill_61 (by decide) ?_
        show W p l e (rmX1_fill N) s m args below meth c H locs (2 * u + 2 * (σ.1 (a - 1) * σ.1 (n - a - 1))) (1406 * u + 1406 * (σ.1 (a - 1) * σ.1 (n - a - 1))) Q _
        rw [hM, ← Nat.mul_add, ← Nat.mul_add]
        exact ih (a + 1) (u + M) σ2 σ1 L f (by omega) (by omega) hE hLL (by omega) (fun L f hLL => by
          rw [Nat.add_assoc]
          exact kk L f hLL) _ _ _ hS hl
    refine lv_iconst (v := (1 : Int32)) hx hb dX1_fill_35 (by decide) ?_
    refine lv_istore_n (lv' := [(2, .int (1 : Int32)), (0, .ref lp), (1, .int (nI n))]) hx hb dX1_fill_36 rfl hl (by decide) rfl (fun ls hl => ?_)
    refine lv_iload_n hx hb dX1_fill_37 rfl (lv_at hl 0 rfl) ?_
    refine lv_iconst (v := (2 : Int32)) hx hb dX1_fill_38 (by decide) ?_
    refine lv_icmp_gt (tgt := 70) hx hb dX1_fill_39 (by decide) (fun c9 => absurd c9 (by decide)) (fun c9 => ?_)
    refine lv_iconst (v := (1 : Int32)) hx hb dX1_fill_42 (by decide) ?_
    refine lv_istore_n (lv' := [(3, .int (nI 1)), (2, .int (1 : Int32)), (0, .ref lp), (1, .int (nI n))]) hx hb dX1_fill_43 rfl hl (by decide) rfl (fun ls hl => ?_)
    refine inner 1 (n / 2) 1 0 σ0 σ5 L f (Nat.le_refl _) (by omega) hE1 hLL (by omega) (fun L f hLL H locs ls hS hl => ?_) _ _ _ hS hl
    have o1 := fun j (hj : j ≠ n - 1) => (fillA_other hj _ _ _ _ hE1).1
    have ec := pnA_congr (c1 := σ0.1) (c2 := σ5.1) (n := n) (fun j hj => (o1 j hj).symm) (n / 2) 1 (by omega) (by omega)
    refine lv_iinc (k := 0) (lv' := [(2, .int (2 : Int32)), (0, .ref lp), (1, .int (nI n))]) hx hb dX1_fill_64 hl rfl (by decide) (by decide) rfl (fun ls hl => ?_)
    refine lv_goto (tgt := 37) hx hb dX1_fill_67 (by decide) ?_
    refine lv_iload_n hx hb dX1_fill_37 rfl (lv_at hl 0 rfl) ?_
    refine lv_iconst (v := (2 : Int32)) hx hb dX1_fill_38 (by decide) ?_
    refine lv_icmp_gt (tgt := 70) hx hb dX1_fill_39 (by decide) (fun c9 => absurd c9 (by decide)) (fun c9 => ?_)
    refine lv_iconst (v := (1 : Int32)) hx hb dX1_fill_42 (by decide) ?_
    refine lv_istore_n (lv' := [(3, .int (nI 1)), (2, .int (2 : Int32)), (0, .ref lp), (1, .int (nI n))]) hx hb dX1_fill_43 rfl hl (by decide) rfl (fun ls hl => ?_)
    refine inner 2 (n / 2) 1 (0 + pnA σ0.1 n (n / 2) 1) σ5 σ9 L f (Nat.le_refl _) (by omega) hE2 hLL (by rw [← ec]; omega) (fun L f hLL H locs ls hS hl => ?_) _ _ _ hS hl
    refine lv_iinc (k := 0) (lv' := [(2, .int (3 : Int32)), (0, .ref lp), (1, .int (nI n))]) hx hb dX1_fill_64 hl rfl (by decide) (by decide) rfl (fun ls hl => ?_)
    refine lv_goto (tgt := 37) hx hb dX1_fill_67 (by decide) ?_
    refine lv_iload_n hx hb dX1_fill_37 rfl (lv_at hl 0 rfl) ?_
    refine lv_iconst (v := (2 : Int32)) hx hb dX1_fill_38 (by decide) ?_
    refine lv_icmp_gt (tgt := 70) hx hb dX1_fill_39 (by decide) (fun c9 => ?_) (fun c9 => absurd (by decide) c9)
    rw [← ec, Nat.zero_add, hN]
    exact ret ⟨L, f, rfl, hLL⟩ hS dX1_fill_70
  · have hn1 : n = 1 := by
      have c1 : nI n = nI 1 := c1
      exact (nI_eq (by omega) (by omega)).mp c1
    subst hn1
    have hE : oneOffer 0 (0, -9, -9, -9) (σ0.1, σ0.2.1, 1, 1) = some σ9 := hE
    refine lv_aload_n hx hb dX1_fill_5 rfl (lv_at hl 0 rfl) ?_
    refine va_get (D := D) (ci := 2) (v := .ref v0) (C := RX1) (T := TX1) (N := 3) hx hb hts inX1 hown hK hS.1 0 rfl rfl 1 (by decide) k1 (fun _ h => h) rfl dX1_fill_6 ?_
    refine lv_lconst (v := (1 : Int64)) hx hb dX1_fill_9 (by decide) ?_
    refine lv_lconst (v := (1 : Int64)) hx hb dX1_fill_10 (by decide) ?_
    refine j_Vv (As := [.long 1, .long 1]) (rest := []) (wc := FRW v0 σ0.2.2.1 σ0.2.2.2) (w1 := FRW v0 1 1) (wf := FRW v0 1 1 ++ ([(lp, .inr (2, [.ref b0, .ref v0, .int known])), (b0, .inl (cS, 9, .inr (.inr (.inr (.inr ba)))))] ++ va_pl L f)) (vc := (RX0, TX0, 2)) C hK hS (jcut_perm (wr := [(lp, .inr (2, [.ref b0, .ref v0, .int known])), (b0, .inl (cS, 9, .inr (.inr (.inr (.inr ba)))))] ++ va_pl L f) hA hS (List.perm_iff_count.mpr (fun z => by simp only [List.count_append, List.count_cons, List.count_nil]; ac_rfl))) (tX0_set l D v0 cI cJ cZ cW cS cO cG σ0.2.2.1 σ0.2.2.2 1 1 rfl) (cwV 2 hts gX1_fill_X0_set rfl rfl rfl (by decide +kernel) ⟨Nat.le_of_ble_eq_true rfl, Nat.le_of_ble_eq_true rfl⟩) (q0 := 0) rfl (ci := 1) rfl rfl hl.1 rfl (Nat.le_of_ble_eq_true rfl) dX1_fill_11 ⟨Nat.zero_le _, Nat.zero_le _⟩ (fun H locs hS => ?_)
    have hS : jS D vwCl A (LX lp b0 v0 cS ba known 1 1 ++ va_pl L f) s.heap H locs := jS_perm (List.perm_iff_count.mpr (fun z => by simp only [List.count_append, List.count_cons, List.count_nil]; ac_rfl)) hS
    refine lv_aload_n hx hb dX1_fill_14 rfl (lv_at hl 0 rfl) ?_
    refine va_get (D := D) (ci := 2) (v := .ref b0) (C := RX1) (T := TX1) (N := 3) hx hb hts inX1 hown hK hS.1 0 rfl rfl 0 (by decide) k0 (fun _ h => h) rfl dX1_fill_15 ?_
    refine lv_iconst (v := (0 : Int32)) hx hb dX1_fill_18 (by decide) ?_
    refine jn_ald hx hb hK hS.1 1 4 rfl rfl (i := 0) (show vp_in (nI 0) 9 from nI_in (by omega) (by omega)) (v := fsa 0) (hba 0 (by omega)) dX1_fill_19 (Or.inl ⟨_, rfl⟩) ?_
    refine lv_aload_n hx hb dX1_fill_20 rfl (lv_at hl 0 rfl) ?_
    refine va_get (D := D) (ci := 2) (v := .ref v0) (C := RX1) (T := TX1) (N := 3) hx hb hts inX1 hown hK hS.1 0 rfl rfl 1 (by decide) k1 (fun _ h => h) rfl dX1_fill_21 ?_
    refine lv_iconst (v := (0 : Int32)) hx hb dX1_fill_24 (by decide) ?_
    refine lv_bipush (v := (-9 : Int32)) hx hb dX1_fill_25 (by decide) ?_
    refine lv_bipush (v := (-9 : Int32)) hx hb dX1_fill_27 (by decide) ?_
    refine lv_bipush (v := (-9 : Int32)) hx hb dX1_fill_29 (by decide) ?_
    refine jl_offer (t := 0) (sa := fsa 0) (rest := []) (cnt := σ0.1) (sv := σ0.2.1) (σ1 := σ9) C hK hX hA hS hLL (by omega) (hba _ (by omega)) hE (cwV 5 hts gX1_fill_X6_offer rfl rfl rfl (by decide +kernel) ⟨Nat.le_of_ble_eq_true rfl, Nat.le_of_ble_eq_true rfl⟩) hl.1 rfl (Nat.le_of_ble_eq_true rfl) dX1_fill_31 ⟨Nat.le_of_ble_eq_true rfl, Nat.le_of_ble_eq_true rfl⟩ (fun H locs L f hLL hS => ?_)
    exact ret ⟨L, f, rfl, hLL⟩ hS dX1_fill_34
/-! SHARES OF -/
def accO (S : Nat → LkS) : Nat → Nat
  | 0 => 0
  | k + 1 => accO S k + pnF (S k).1 (k + 1)
theorem accO_le (S : Nat → LkS) {a b : Nat} (h : a ≤ b) : accO S a ≤ accO S b := by
  induction b with
  | zero => obtain rfl : a = 0 := by omega
            exact Nat.le_refl _
  | succ b ih =>
    rcases Nat.lt_or_ge b a with h1 | h1
    · obtain rfl : a = b + 1 := by omega
      exact Nat.le_refl _
    · rw [accO]
      have := ih h1
      omega
def jSeq (S : Nat → LkS) : Prop := ∀ k, k < 9 → fFill (k + 1) (S k) = some (S (k + 1))
abbrev rmX1_sharesOf (N : Nat) : Room := { frames := 9, cells := 2 * N, slots := 1406 * N, locals := 310 }
set_option maxHeartbeats 4000000 in
set_option maxRecDepth 100000 in
theorem tX1_sharesOf (l : Launch) (D : va_G) (dd mi : Nat) (cI cJ cZ cW cS cO cG : ClassId) (lp b0 v0 : Nat) (ba : Nat → Option Nat) (L : List Nat) (f : Nat → va_E) (S : Nat → LkS) (hq : jSeq S) (k n : Nat) (hLL : jLL cO dd L f ba (S k).1 (S k).2.1) (hk9 : k ≤ 9) (hn0 : 1 ≤ n) (hn9 : n ≤ 9) : JXq l yX1_sharesOf wsX1_sharesOf (rmX1_sharesOf (accO S (max k n) - accO S k)) D vwCl (TY cI cJ cZ cW cS cO cG) dd mi [.ref lp, .int (nI n)] (LX lp b0 v0 cS ba (nI k) (S k).2.2.1 (S k).2.2.2 ++ va_pl L f) (fun r v => r = ba (n - 1) ∧ jLike lp b0 v0 cS cO dd ba (nI (max k n)) (S (max k n)) v) := by
  refine JXq.of (cc := cX1_sharesOf) (maxL := 3) (by decide) rfl (Nat.le_of_ble_eq_true rfl) ?_
  intro p e s m args below meth c A ls Q C hK hX hA ret hS hl
  obtain ⟨⟨hx, hb, hml, hown, hts⟩, -⟩ := id C
  have hl : lv_has ls 3 [(0, .ref lp), (1, .int (nI n))] := hl
  have inX1 : ∀ w ∈ u_ws RX1 TX1 3, w ∈ wsX1_sharesOf := by decide +kernel
  have k0 := hts (.fieldLink RX1 11 "OhmNets$LikeParts" "byParts" "[LOhmNets$Shares;") (by decide +kernel)
  have k2 := hts (.fieldLink RX1 24 "OhmNets$LikeParts" "known" "I") (by decide +kernel)
  obtain ⟨fsa, hba⟩ := hLL.ba
  generalize hN : accO S (max k n) - accO S k = N at ret ⊢
  have loop : ∀ (r j : Nat) (L : List Nat) (f : Nat → va_E), k ≤ j → j + r = max k n → jLL cO dd L f ba (S j).1 (S j).2.1 → jW p l e (rmX1_sharesOf N) s m args below meth c (2 * (accO S j - accO S k)) (1406 * (accO S j - accO S k)) Q D vwCl A (LX lp b0 v0 cS ba (nI j) (S j).2.2.1 (S j).2.2.2 ++ va_pl L f) 3 [(2, .int (nI (j + 1))), (0, .ref lp), (1, .int (nI n))] 7 [] := by
    intro r
    induction r with
    | zero =>
      intro j L f hj hr hLL H locs ls hS hl
      obtain rfl : j = max k n := by omega
      refine lv_iload_n hx hb dX1_sharesOf_7 rfl (lv_at hl 0 rfl) ?_
      refine lv_iload_n hx hb dX1_sharesOf_8 rfl (lv_at hl 2 rfl) ?_
      refine lv_icmp_gt (tgt := 28) hx hb dX1_sharesOf_9 (by decide) (fun c9 => ?_) (fun c9 => absurd (nI_lt (by omega) (by omega)) c9)
      refine lv_aload_n hx hb dX1_sharesOf_28 rfl (lv_at hl 1 rfl) ?_
      refine va_get (D := D) (ci := 2) (v := .ref b0) (C := RX1) (T := TX1) (N := 3) hx hb hts inX1 hown hK hS.1 0 rfl rfl 0 (by decide) k0 (fun _ h => h) rfl dX1_sharesOf_29 ?_
      refine lv_iload_n hx hb dX1_sharesOf_32 rfl (lv_at hl 2 rfl) ?_
      refine lv_iconst (v := (1 : Int32)) hx hb dX1_sharesOf_33 (by decide) ?_
      refine lv_isub hx hb dX1_sharesOf_34 ?_
      have e1 : nI n - 1 = nI (n - 1) := by
        have := nI_pred (n - 1)
        rwa [show n - 1 + 1 = n by omega] at this
      rw [e1]
      refine jn_ald hx hb hK hS.1 1 4 rfl rfl (show vp_in (nI (n - 1)) 9 from nI_in (by omega) (by omega)) (v := fsa (n - 1)) (by rw [nI_clamp (by omega)]; exact hba _ (by omega)) dX1_sharesOf_35 (Or.inl ⟨_, rfl⟩) ?_
      rw [hN]
      exact ret (r := some (fsa (n - 1))) ⟨(hba _ (by omega)).symm, L, f, rfl, hLL⟩ hS (Or.inl ⟨_, rfl⟩) dX1_sharesOf_36
    | succ r ih =>
      intro j L f hj hr hLL H locs ls hS hl
      refine lv_iload_n hx hb dX1_sharesOf_7 rfl (lv_at hl 0 rfl) ?_
      refine lv_iload_n hx hb dX1_sharesOf_8 rfl (lv_at hl 2 rfl) ?_
      refine lv_icmp_gt (tgt := 28) hx hb dX1_sharesOf_9 (by decide) (fun c9 => absurd c9 (nI_nlt (by omega) (by omega))) (fun c9 => ?_)
      refine lv_aload_n hx hb dX1_sharesOf_12 rfl (lv_at hl 1 rfl) ?_
      refine lv_iload_n hx hb dX1_sharesOf_13 rfl (lv_at hl 0 rfl) ?_
      have h1 := accO_le S (a := j + 1) (b := max k n) (by omega)
      have h2 := accO_le S hj
      have h3 : accO S (j + 1) = accO S j + pnF (S j).1 (j + 1) := rfl
      refine j_XVv (rm := rmX1_fill (pnF (S j).1 (j + 1))) (As := [.int (nI (j + 1))]) (rest := []) (vc := (RX1, TX1, 3)) C hK hX hA hS (tX1_fill l D dd mi cI cJ cZ cW cS cO cG lp b0 v0 ba (nI j) L f (S j) (S (j + 1)) (j + 1) hLL (by omega) (by omega) (hq j (by omega))) (cwV 1 hts gX1_sharesOf_X1_fill rfl rfl rfl (by decide +kernel) ⟨Nat.le_of_ble_eq_true rfl, Nat.le_of_ble_eq_true rfl⟩) (q0 := 0) rfl (ci := 2) rfl rfl hl.1 rfl (Nat.le_of_ble_eq_true rfl) dX1_sharesOf_14 ⟨by show 2 * (accO S j - accO S k) + 2 * pnF (S j).1 (j + 1) ≤ 2 * N; omega, by show 1406 * (accO S j - accO S k) + 1406 * pnF (S j).1 (j + 1) ≤ 1406 * N; omega⟩ (fun w H locs hq hS => ?_)
      obtain ⟨L, f, ew, hLL⟩ := hq
      subst ew
      refine lv_aload_n hx hb dX1_sharesOf_17 rfl (lv_at hl 1 rfl) ?_
      refine lv_iload_n hx hb dX1_sharesOf_18 rfl (lv_at hl 0 rfl) ?_
      refine j_put (ci := 2) (v := .int (nI (j + 1))) (ty := .int) (C := RX1) (T := TX1) (N := 3) (w' := LX lp b0 v0 cS ba (nI (j + 1)) (S (j + 1)).2.2.1 (S (j + 1)).2.2.2 ++ va_pl L f) hx hb hts inX1 tyX1 tyX1_ok nmX1 hown hK hS 0 rfl rfl 2 (by decide) k2 (fun _ h => h) rfl (by decide +kernel) rfl rfl (Nat.le_of_ble_eq_true rfl) rfl dX1_sharesOf_19 (fun H locs hS => ?_)
      refine lv_iinc (k := 0) (lv' := [(2, .int (nI (j + 1 + 1))), (0, .ref lp), (1, .int (nI n))]) hx hb dX1_sharesOf_22 hl rfl (nI_1 _) (by decide) rfl (fun ls hl => ?_)
      refine lv_goto (tgt := 7) hx hb dX1_sharesOf_25 (by decide) ?_
      show W p l e (rmX1_sharesOf N) s m args below meth c H locs (2 * (accO S j - accO S k) + 2 * pnF (S j).1 (j + 1)) (1406 * (accO S j - accO S k) + 1406 * pnF (S j).1 (j + 1)) Q _
      rw [← Nat.mul_add, ← Nat.mul_add, show accO S j - accO S k + pnF (S j).1 (j + 1) = accO S (j + 1) - accO S k by omega]
      exact ih (j + 1) L f (by omega) (by omega) hLL _ _ _ hS hl
  refine lv_aload_n hx hb dX1_sharesOf_0 rfl (lv_at hl 0 rfl) ?_
  refine va_get (D := D) (ci := 2) (v := .int (nI k)) (C := RX1) (T := TX1) (N := 3) hx hb hts inX1 hown hK hS.1 0 rfl rfl 2 (by decide) k2 (fun _ h => h) rfl dX1_sharesOf_1 ?_
  refine lv_iconst (v := (1 : Int32)) hx hb dX1_sharesOf_4 (by decide) ?_
  refine lv_iadd hx hb dX1_sharesOf_5 ?_
  rw [nI_1]
  refine lv_istore_n (lv' := [(2, .int (nI (k + 1))), (0, .ref lp), (1, .int (nI n))]) hx hb dX1_sharesOf_6 rfl hl (by decide) rfl (fun ls hl => ?_)
  have fin := loop (max k n - k) k L f (Nat.le_refl _) (by omega) hLL
  rw [Nat.sub_self] at fin
  exact fin _ _ _ hS hl
