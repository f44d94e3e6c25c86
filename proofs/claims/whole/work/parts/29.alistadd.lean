/-- what is behind add(k, a) -/
def jAdded (cO : ClassId) (L : List Nat) (f : Nat → va_E) (la ea n k a : Nat) (mc : Int32) (g : Nat → Option Nat) (v : va_W) : Prop := ∃ (L1 : List Nat) (f1 : Nat → va_E) (ea1 cap1 : Nat) (g1 : Nat → Option Nat), v = va_pl L1 f1 ∧ (∀ x, x ∈ L → x ∈ L1) ∧ f1 la = .inr (0, [.int (mc + 1), .ref ea1, .int (nI (n + 1))]) ∧ ea1 ∈ L1 ∧ f1 ea1 = .inl (cO, cap1, .inr (.inr (.inr (.inr g1)))) ∧ n + 1 ≤ cap1 ∧ (2 ≤ cap1 ∧ cap1 ≤ 1400) ∧ (ea1 = ea ∨ ea1 ∉ L) ∧ (∀ x, x ∈ L → x ≠ la → x ≠ ea → f1 x = f x) ∧ ∀ r, r < n + 1 → g1 r = if r < k then g r else if r = k then some a else g (r - 1)
abbrev rmJx4a65c_add_7a177 : Room := { frames := 5, cells := 1, slots := 1400, locals := 180 }
set_option maxHeartbeats 4000000 in
set_option maxRecDepth 100000 in
theorem tJx4a65c_add_7a177 (l : Launch) (D : va_G) (dd mi : Nat) (cI cJ cZ cW cS cO cG : ClassId) (L : List Nat) (f : Nat → va_E) (la ea n cap k a : Nat) (mc : Int32) (g : Nat → Option Nat) (fs : List Value) (hla : la ∈ L) (fla : f la = .inr (0, [.int mc, .ref ea, .int (nI n)])) (hn2 : n ≤ 900) (hn1 : cap = 0 ∨ 2 ≤ cap) (hnc : n ≤ cap) (hcap : cap ≤ 1400) (hkn : k ≤ n) (hea : (cap = 0 ∧ ea = dd) ∨ (0 < cap ∧ ea ∈ L ∧ f ea = .inl (cO, cap, .inr (.inr (.inr (.inr g)))))) (hel : ∀ r, r < n → ∃ a, g r = some a ∧ a ∈ L ∧ ∃ fs, f a = .inr (6, fs)) (ha : a ∈ L) (fa : f a = .inr (6, fs)) : JXv l yJx4a65c_add_7a177 wsJx4a65c_add_7a177 rmJx4a65c_add_7a177 D vwCl (TY cI cJ cZ cW cS cO cG) dd mi [.ref la, .int (nI k), .ref a] (va_pl L f) (jAdded cO L f la ea n k a mc g) := by
  refine JXv.of (cc := cJx4a65c_add_7a177) (maxL := 5) (by decide) rfl (Nat.le_of_ble_eq_true rfl) ?_
  intro p e s m args below meth c A ls Q C hK hX hA ret hS hl
  obtain ⟨⟨hx, hb, hml, hown, hts⟩, -⟩ := id C
  have hl : lv_has ls 5 [(0, .ref la), (1, .int (nI k)), (2, .ref a)] := hl
  have inA : ∀ w ∈ u_ws RJx4a65c TJx4a65c 3, w ∈ wsJx4a65c_add_7a177 := by decide +kernel
  have k0 := hts (.fieldLink RJx4a65c 9 "java/util/ArrayList" "elementData" "[Ljava/lang/Object;") (by decide +kernel)
  have k1 := hts (.fieldLink RJx4a65c 48 "java/util/ArrayList" "size" "I") (by decide +kernel)
  have k2 := hts (.fieldLink RJx4a65c 63 "java/util/ArrayList" "modCount" "I") (by decide +kernel)
  have hdd : dd ∉ L := fun h => by
    obtain ⟨cell, -, -, -, -, -, -, hn⟩ := hX.2.2.2.2.2.2.2.2.2
    exact hn ((va_D_iff.mp hS.2.1).2 (dd, f dd) (List.mem_map.mpr ⟨dd, h, rfl⟩))
  have hlan : ∀ {x : Nat} {cA : ClassId} {z : vp_A}, f x = .inl (cA, z) → x ≠ la := fun h q => by
    rw [q, fla] at h
    cases h
  have hla6 : ∀ {x : Nat} {fs : List Value}, f x = .inr (6, fs) → x ≠ la := fun h q => by
    rw [q, fla] at h
    cases h
  have ksame := u_same (hts (.sameField "java/util/ArrayList" "java/util/AbstractList" "modCount" "I") (by decide +kernel))
  -- the tail: the row ea1 has room
  have tail : ∀ (L1 : List Nat) (f1 : Nat → va_E) (ea1 cap1 : Nat) (g1 : Nat → Option Nat), (∀ x, x ∈ L → x ∈ L1) → f1 la = .inr (0, [.int (mc + 1), .ref ea1, .int (nI n)]) → ea1 ∈ L1 → f1 ea1 = .inl (cO, cap1, .inr (.inr (.inr (.inr g1)))) → n + 1 ≤ cap1 → (2 ≤ cap1 ∧ cap1 ≤ 1400) → (ea1 = ea ∨ ea1 ∉ L) → (∀ x, x ∈ L → x ≠ la → x ≠ ea → f1 x = f x) → (∀ r, r < n → g1 r = g r) →
      jY p l e rmJx4a65c_add_7a177 s m args below meth c 1 1400 Q (jS D vwCl A (va_pl L1 f1) s.heap) 5 [(4, .ref ea1), (3, .int (nI n)), (0, .ref la), (1, .int (nI k)), (2, .ref a)] 38 [] := by
    intro L1 f1 ea1 cap1 g1 hsub fla1 hea1 fea1 hc1 hc2 hold hfr hg1 H locs ls hS hl
    have hel1 : ∀ x fs, x ∈ L → f x = .inr (6, fs) → f1 x = .inr (6, fs) := fun x fs hx hf => by
      have h1 : x ≠ ea := fun q => by
        rcases hea with h | h
        · exact hdd (by rw [← h.2, ← q]; exact hx)
        · rw [q, h.2.2] at hf
          cases hf
      rw [hfr x hx (hla6 hf) h1]
      exact hf
    refine lv_aload hx hb dJx4a65c_add_7a177_38 (lv_at hl 0 rfl) ?_
    refine lv_iload_n hx hb dJx4a65c_add_7a177_40 rfl (lv_at hl 3 rfl) ?_
    refine lv_aload hx hb dJx4a65c_add_7a177_41 (lv_at hl 0 rfl) ?_
    refine lv_iload_n hx hb dJx4a65c_add_7a177_43 rfl (lv_at hl 3 rfl) ?_
    refine lv_iconst (v := (1 : Int32)) hx hb dJx4a65c_add_7a177_44 (by decide) ?_
    refine lv_iadd hx hb dJx4a65c_add_7a177_45 ?_
    rw [nI_1]
    refine lv_iload_n hx hb dJx4a65c_add_7a177_46 rfl (lv_at hl 1 rfl) ?_
    refine lv_iload_n hx hb dJx4a65c_add_7a177_47 rfl (lv_at hl 3 rfl) ?_
    refine lv_isub hx hb dJx4a65c_add_7a177_48 ?_
    rw [pk_sub hkn]
    obtain ⟨q8, hq8⟩ := va_pl_get0 (f := f1) hea1
    have hq7 := hq8
    rw [fea1] at hq8
    have e1 : (nI k).toNatClampNeg = k := nI_clamp (by omega)
    have e2 : (nI (k + 1)).toNatClampNeg = k + 1 := nI_clamp (by omega)
    have e3 : (nI (n - k)).toNatClampNeg = n - k := nI_clamp (by omega)
    refine va_copyM (E0 := "java/lang/Object") (E1 := "java/lang/Object") hx hb (by rw [hml]; exact hl.1.symm) hown (hts (.methodLink RJx4a65c 112 arraycopyName) (by decide +kernel)) (hts (.native arraycopyName) (by decide +kernel)) (hts (.static arraycopyName) (by decide +kernel)) (hts (.initialized "java/lang/System") (by decide +kernel)) hK hS.1 hS.2.1 hS.2.2 q8 q8 5 5 hq8 hq8 rfl rfl (nI_pos (by omega)) (nI_pos (by omega)) (nI_pos (by omega)) (by rw [e1, e3]; omega) (by rw [e2, e3]; omega) (fun i hi y hy => ?_) (Nat.le_of_ble_eq_true rfl) (by decide) dJx4a65c_add_7a177_49 (fun H locs p1 p2 p3 => ?_)
    · rw [e3] at hi
      rw [e1, hg1 _ (by omega)] at hy
      obtain ⟨b, b1, b2, fs2, b3⟩ := hel (k + i) (by omega)
      have ey : y = b := Option.some.inj (hy.symm.trans b1)
      subst ey
      exact jAny (X := []) hK hS.1 (hsub _ b2) (hel1 _ _ b2 b3) hX.2.2.1
    · rw [e1, e2, e3] at p1 p2
      have es := va_pl_set0 (e := .inl (cO, cap1, .inr (.inr (.inr (.inr (va_cpy g1 g1 k (k + 1) (n - k))))))) hS.2.1 hea1 hq7
      rw [es] at p1 p2
      have hS : jS D vwCl A (va_pl L1 (va_up f1 ea1 (.inl (cO, cap1, .inr (.inr (.inr (.inr (va_cpy g1 g1 k (k + 1) (n - k))))))))) s.heap H locs := ⟨p1, p2, p3⟩
      have hne1 : la ≠ ea1 := fun q => by
        rw [← q, fla1] at fea1
        cases fea1
      have hane : a ≠ ea1 := fun q => by
        have h9 := hel1 a fs ha fa
        rw [q, fea1] at h9
        cases h9
      refine lv_aload hx hb dJx4a65c_add_7a177_52 (lv_at hl 0 rfl) ?_
      refine lv_iload_n hx hb dJx4a65c_add_7a177_54 rfl (lv_at hl 3 rfl) ?_
      refine lv_aload_n hx hb dJx4a65c_add_7a177_55 rfl (lv_at hl 4 rfl) ?_
      obtain ⟨q6, hq6⟩ := va_pl_get0 (f := va_up f1 ea1 (.inl (cO, cap1, .inr (.inr (.inr (.inr (va_cpy g1 g1 k (k + 1) (n - k)))))))) hea1
      have hq5 := hq6
      rw [va_up_self] at hq6
      refine va_astqM (E := "java/lang/Object") hx hb hK hS.1 hS.2.1 hS.2.2 q6 5 hq6 rfl (jAny (X := []) hK hS.1 (hsub _ ha) ((va_up_ne f1 _ hane).trans (hel1 _ _ ha fa)) hX.2.2.1) (vp_in_nI (by omega) (by omega)) dJx4a65c_add_7a177_56 (fun H locs p1 p2 p3 => ?_)
      rw [e1] at p1 p2
      have es2 := va_pl_set0 (e := .inl (cO, cap1, .inr (.inr (.inr (.inr (va_up (va_cpy g1 g1 k (k + 1) (n - k)) k (some a))))))) hS.2.1 hea1 hq5
      rw [es2, bx_uu] at p1 p2
      have hS : jS D vwCl A (va_pl L1 (va_up f1 ea1 (.inl (cO, cap1, .inr (.inr (.inr (.inr (va_up (va_cpy g1 g1 k (k + 1) (n - k)) k (some a))))))))) s.heap H locs := ⟨p1, p2, p3⟩
      refine lv_aload_n hx hb dJx4a65c_add_7a177_57 rfl (lv_at hl 2 rfl) ?_
      refine lv_iload_n hx hb dJx4a65c_add_7a177_58 rfl (lv_at hl 1 rfl) ?_
      refine lv_iconst (v := (1 : Int32)) hx hb dJx4a65c_add_7a177_59 (by decide) ?_
      refine lv_iadd hx hb dJx4a65c_add_7a177_60 ?_
      rw [nI_1]
      refine jp_put (X := []) (ci := 0) (v := .int (nI (n + 1))) (ty := .int) (fs := [.int (mc + 1), .ref ea1, .int (nI n)]) (C := RJx4a65c) (T := TJx4a65c) (N := 3) hx hb hts inA tyJx4a65c tyJx4a65c_ok nmJx4a65c hown hK hS (hsub _ hla) ((va_up_ne f1 _ hne1).trans fla1) rfl 2 (by decide) k1 (fun _ h => h) rfl (by decide +kernel) rfl rfl (Nat.le_of_ble_eq_true rfl) dJx4a65c_add_7a177_61 (fun H locs hS => ?_)
      refine ret ⟨L1, _, ea1, cap1, va_up (va_cpy g1 g1 k (k + 1) (n - k)) k (some a), rfl, hsub, va_up_self _ _ _, hea1, (va_up_ne _ _ (Ne.symm hne1)).trans (va_up_self _ _ _), hc1, hc2, hold, fun x hx1 hx2 hx3 => ?_, fun r hr => ?_⟩ hS dJx4a65c_add_7a177_64
      · have hx4 : x ≠ ea1 := fun q => by
          rcases hold with h | h
          · exact hx3 (q.trans h)
          · exact h (q ▸ hx1)
        rw [va_up_ne _ _ hx2, va_up_ne _ _ hx4]
        exact hfr x hx1 hx2 hx3
      · by_cases h1 : r < k
        · rw [if_pos h1, va_up_ne _ _ (by omega), pk_cpy_out (Or.inl (by omega)), hg1 r (by omega)]
        · rw [if_neg h1]
          by_cases h2 : r = k
          · rw [if_pos h2, h2, va_up_self]
          · rw [if_neg h2, va_up_ne _ _ h2, pk_cpy_in (by omega) (by omega), show k + (r - (k + 1)) = r - 1 by omega, hg1 (r - 1) (by omega)]
  -- the head
  refine lv_aload_n hx hb dJx4a65c_add_7a177_0 rfl (lv_at hl 0 rfl) ?_
  refine lv_iload_n hx hb dJx4a65c_add_7a177_1 rfl (lv_at hl 1 rfl) ?_
  obtain ⟨q9, hq9⟩ := jp_at hla fla
  refine j_Vv (As := [.int (nI k)]) (rest := []) (wf := va_pl L f) (vc := (RJx4a65c, TJx4a65c, 3)) C hK hS (jcut_all hA hS) (tJx4a65c_rangeCheckForAdd_d00df l D cI cJ cZ cW cS cO cG L f la ea mc (nI n) (nI k) hla fla (nI_pos' (by omega)) (nI_nlt hkn (by omega))) (cwV 1 hts gJx4a65c_add_7a177_Jx4a65c_rangeCheckForAdd_d00df rfl rfl rfl (by decide +kernel) ⟨Nat.le_of_ble_eq_true rfl, Nat.le_of_ble_eq_true rfl⟩) (q0 := q9) hq9 (ci := 0) rfl rfl hl.1 rfl (Nat.le_of_ble_eq_true rfl) dJx4a65c_add_7a177_2 ⟨Nat.zero_le _, Nat.zero_le _⟩ (fun H locs hS => ?_)
  refine lv_aload_n hx hb dJx4a65c_add_7a177_5 rfl (lv_at hl 0 rfl) ?_
  refine lv_dup hx hb dJx4a65c_add_7a177_6 rfl ?_
  refine jp_get (X := []) (ci := 0) (v := .int mc) (C := RJx4a65c) (T := TJx4a65c) (N := 3) hx hb hts inA hown hK hS.1 hla fla rfl 0 (by decide) k2 ksame rfl dJx4a65c_add_7a177_7 ?_
  refine lv_iconst (v := (1 : Int32)) hx hb dJx4a65c_add_7a177_10 (by decide) ?_
  refine lv_iadd hx hb dJx4a65c_add_7a177_11 ?_
  refine jp_put (X := []) (ci := 0) (v := .int (mc + 1)) (ty := .int) (fs := [.int mc, .ref ea, .int (nI n)]) (C := RJx4a65c) (T := TJx4a65c) (N := 3) hx hb hts inA tyJx4a65c tyJx4a65c_ok nmJx4a65c hown hK hS hla fla rfl 0 (by decide) k2 ksame rfl (by decide +kernel) rfl rfl (Nat.le_of_ble_eq_true rfl) dJx4a65c_add_7a177_12 (fun H locs hS => ?_)
  have hS : jS D vwCl A (va_pl L (va_up f la (.inr (0, [.int (mc + 1), .ref ea, .int (nI n)])))) s.heap H locs := hS
  have fla1 : (va_up f la (.inr (0, [.int (mc + 1), .ref ea, .int (nI n)]))) la = .inr (0, [.int (mc + 1), .ref ea, .int (nI n)]) := va_up_self _ _ _
  refine lv_aload_n hx hb dJx4a65c_add_7a177_15 rfl (lv_at hl 0 rfl) ?_
  refine jp_get (X := []) (ci := 0) (v := .int (nI n)) (C := RJx4a65c) (T := TJx4a65c) (N := 3) hx hb hts inA hown hK hS.1 hla fla1 rfl 2 (by decide) k1 (fun _ h => h) rfl dJx4a65c_add_7a177_16 ?_
  refine lv_dup hx hb dJx4a65c_add_7a177_19 rfl ?_
  refine lv_istore_n (lv' := [(3, .int (nI n)), (0, .ref la), (1, .int (nI k)), (2, .ref a)]) hx hb dJx4a65c_add_7a177_20 rfl hl (by decide) rfl (fun ls hl => ?_)
  refine lv_aload_n hx hb dJx4a65c_add_7a177_21 rfl (lv_at hl 1 rfl) ?_
  refine jp_get (X := []) (ci := 0) (v := .ref ea) (C := RJx4a65c) (T := TJx4a65c) (N := 3) hx hb hts inA hown hK hS.1 hla fla1 rfl 1 (by decide) k0 (fun _ h => h) rfl dJx4a65c_add_7a177_22 ?_
  refine lv_dup hx hb dJx4a65c_add_7a177_25 rfl ?_
  refine lv_astore (lv' := [(4, .ref ea), (3, .int (nI n)), (0, .ref la), (1, .int (nI k)), (2, .ref a)]) hx hb dJx4a65c_add_7a177_26 hl (by decide) rfl (fun ls hl => ?_)
  have halen : ∀ (kk : W p l e rmJx4a65c_add_7a177 s m args below meth c H locs 0 0 Q (F0 m 29 ls [.int (nI cap), .int (nI n)])), W p l e rmJx4a65c_add_7a177 s m args below meth c H locs 0 0 Q (F0 m 28 ls [.ref ea, .int (nI n)]) := fun kk => by
    rcases hea with ⟨e0, e1⟩ | ⟨-, e1, e2⟩
    · subst e0
      subst e1
      exact va_tlen hx hb hX.2.2.2.2.2.2.2.2.2 hS.2.2 rfl dJx4a65c_add_7a177_28 kk
    · obtain ⟨q8, hq8⟩ := jp_at e1 ((va_up_ne f _ (hlan e2)).trans e2)
      exact va_alen (v := nI cap) hx hb hK hS.1 q8 5 hq8 rfl rfl dJx4a65c_add_7a177_28 kk
  refine halen ?_
  refine lv_icmp_ne (tgt := 38) hx hb dJx4a65c_add_7a177_29 (by decide) (fun c1 => ?_) (fun c1 => ?_)
  · have hlt : n < cap := by
      rcases Nat.lt_or_ge n cap with h | h
      · exact h
      · exact absurd (by rw [show n = cap by omega]) c1
    obtain ⟨-, e1, e2⟩ := hea.resolve_left (fun h => by omega)
    refine W.widen (k := 1) (n := 1400) (Nat.zero_le _) (Nat.zero_le _) ?_
    exact tail L _ ea cap g (fun _ h => h) fla1 e1 ((va_up_ne f _ (hlan e2)).trans e2) (by omega) ⟨by omega, hcap⟩ (Or.inl rfl) (fun x h1 h2 h3 => va_up_ne f _ h2) (fun r hr => rfl) _ _ _ hS hl
  · have heq : n = cap := (nI_eq (by omega) (by omega)).mp c1
    subst heq
    refine lv_aload_n hx hb dJx4a65c_add_7a177_32 rfl (lv_at hl 2 rfl) ?_
    obtain ⟨q8, hq8⟩ := jp_at hla fla1
    have hea2 : (n = 0 ∧ ea = dd) ∨ (0 < n ∧ ea ∈ L ∧ (va_up f la (.inr (0, [.int (mc + 1), .ref ea, .int (nI n)]))) ea = .inl (cO, n, .inr (.inr (.inr (.inr g))))) := by
      rcases hea with h | ⟨h1, h2, h3⟩
      · exact Or.inl h
      · exact Or.inr ⟨h1, h2, (va_up_ne f _ (hlan h3)).trans h3⟩
    refine j_XVq (As := []) (rest := []) (vc := (RJx4a65c, TJx4a65c, 3)) C hK hX hA hS (tJx4a65c_grow_d5877 l D dd mi cI cJ cZ cW cS cO cG L _ la ea n (mc + 1) g hla fla1 hn2 hn1 hea2 (fun r hr => by
      obtain ⟨b, b1, b2, fs2, b3⟩ := hel r hr
      exact ⟨b, b1, b2, fs2, (va_up_ne f _ (hla6 b3)).trans b3⟩)) (cwV 0 hts gJx4a65c_add_7a177_Jx4a65c_grow_d5877 rfl rfl rfl (by decide +kernel) ⟨Nat.le_of_ble_eq_true rfl, Nat.le_of_ble_eq_true rfl⟩) (q0 := q8) hq8 (ci := 0) rfl rfl hl.1 rfl (Nat.le_of_ble_eq_true rfl) dJx4a65c_add_7a177_33 ⟨Nat.le_of_ble_eq_true rfl, Nat.le_of_ble_eq_true rfl⟩ (fun r w H locs hp hS => ?_)
    obtain ⟨q, N, g1, hq, er, hN1, hN2, hg1, ew⟩ := hp
    subst er
    subst ew
    have hlq : la ≠ q := fun h => hq (h ▸ hla)
    refine lv_astore (lv' := [(4, .ref q), (3, .int (nI n)), (0, .ref la), (1, .int (nI k)), (2, .ref a)]) hx hb dJx4a65c_add_7a177_36 hl (by decide) rfl (fun ls hl => ?_)
    exact tail (L ++ [q]) _ q N g1 (fun _ h => List.mem_append_left _ h) (va_up_self _ _ _) (List.mem_append_right _ (List.mem_singleton_self _)) ((va_up_ne _ _ (Ne.symm hlq)).trans (va_up_self _ _ _)) hN1 hN2 (Or.inr hq) (fun x h1 h2 h3 => by
      rw [va_up_ne _ _ h2, va_up_ne _ _ (show x ≠ q from fun z => hq (by rw [← z]; exact h1)), va_up_ne _ _ h2]) hg1 _ _ _ hS hl
