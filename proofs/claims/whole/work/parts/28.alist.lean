/-! a list grows -/
theorem va_pl_set0 {A : Nat → Prop} {L : List Nat} {f : Nat → va_E} {a k : Nat} {e : va_E} (hD : va_D A (va_pl L f)) (h : a ∈ L) (hk : (va_pl L f)[k]? = some (a, f a)) : (va_pl L f).set k (a, e) = va_pl L (va_up f a e) := va_pl_set (X := []) hD h hk
theorem va_pl_get0 {L : List Nat} {f : Nat → va_E} {a : Nat} (h : a ∈ L) : ∃ k : Nat, (va_pl L f)[k]? = some (a, f a) := va_pl_get (X := []) h
theorem tyUniq {U : State} {c1 c2 : ClassId} {C : String} (h1 : va_RA U c1 (.object C)) (h2 : va_RA U c2 (.object C)) : c1 = c2 := by
  obtain ⟨-, -, -, -, -, e1⟩ := h1
  obtain ⟨-, -, -, -, -, e2⟩ := h2
  exact Option.some.inj (e1.symm.trans e2)
/-- an object of the pool in whose place an Object may stand -/
theorem jAny {s : State} {H : Heap} {D : va_G} {tys : List (ClassId × FieldType)} {X : va_W} {L : List Nat} {f : Nat → va_E} {a : Nat} {fs : List Value} (hK : va_K D vwCl tys s) (hP : va_P D vwCl (X ++ va_pl L f) H) (hm : a ∈ L) (hf : f a = .inr (6, fs)) (hc : va_Nw (.castable RX5 "java/lang/Object") s) : va_Any "java/lang/Object" s H a := by
  obtain ⟨k, hk⟩ := va_pl_get (X := X) (f := f) hm
  rw [hf] at hk
  refine va_rAny hK hP hk (r := (RX5, TX5, 6)) rfl (fun comp c0 h1 h2 => ?_)
  obtain ⟨c1, t1, f1, f2, f3⟩ := Cond.castable_spec (va_Nw.use (A := #[]) rfl hc)
  cases h2.symm.trans f1
  cases h1.symm.trans f2
  exact f3
section JPPUT
variable {p : Program} {l : Launch} {e : Env} {R : Room} {s : State} {m : MethodId} {args : Array Value} {below : List Frame} {meth : Method} {c : Code} {H : Heap} {locs : List Loc} {cells slots : Nat} {Q : State → Prop}
variable {cc : ByteArray} {pc : Nat} {ls : Array Slot} {rest : List Value} {D : va_G} {cl : List vw_C} {A : Nat → Prop} {tys : List (ClassId × FieldType)} {X : va_W} {L : List Nat} {f : Nat → va_E} {a : Nat} {H0 : Heap}
theorem jp_put (hx : p.tables.exec = Jvm.exec) (hb : c.code = cc) {own ref C : String} {T : u_T} {N ci index : Nat} {Ts : List Cond} (hts : ∀ w ∈ Ts, w.before args s = true) (hin : ∀ w ∈ u_ws C T N, w ∈ Ts) (ty0 : Nat → FieldType) (hty : ∀ k, k < N → parseFieldDescriptor (T k).2.2.1 = some (ty0 k)) (hnm : ∀ a, a < N → ∀ b, b < N → a ≠ b → (T a).2.1 ≠ (T b).2.1) (hown : s.vm.findClass own = some m.cls) (hK : va_K D cl tys s) (hS : jS D cl A (X ++ va_pl L f) H0 H locs) (hm : a ∈ L) {fs : List Value} (hf : f a = .inr (ci, fs)) (hc : cl[ci]? = some (C, T, N)) (k : Nat) (hk : k < N) (hlink : (Cond.fieldLink own index ref (T k).2.1 (T k).2.2.1).before args s = true) (hsame : ∀ x, s.fieldFound? (T k).1 (T k).2.1 (T k).2.2.1 = some x → s.fieldFound? ref (T k).2.1 (T k).2.2.1 = some x) (hfin : (T k).2.2.2 = false) {ty : FieldType} {v : Value} (hd : parseFieldDescriptor (T k).2.2.1 = some ty) (hn : narrow ty v = v) (hfit : fits ty v = true) (hl : k < fs.length)
    (hdg : decode cc pc = .ok (.putfield index, 3)) (kk : ∀ (H1 : Heap) (locs1 : List Loc), jS D cl A (X ++ va_pl L (va_up f a (.inr (ci, fs.set k v)))) H0 H1 locs1 → W p l e R s m args below meth c H1 locs1 cells slots Q (F0 m (pc + 3) ls rest)) : W p l e R s m args below meth c H locs cells slots Q (F0 m pc ls (v :: .ref a :: rest)) := by
  obtain ⟨k9, hk9⟩ := va_pl_get (X := X) (f := f) hm
  have hk8 := hk9
  rw [hf] at hk9
  refine va_put hx hb hts hin ty0 hty hnm hown hK hS.1 hS.2.1 hS.2.2 k9 hk9 hc k hk hlink hsame hfin hd hn hfit hl hdg (fun H1 locs1 a1 a2 a3 => ?_)
  rw [va_pl_set hS.2.1 hm hk8] at a1 a2
  exact kk H1 locs1 ⟨a1, a2, a3⟩
end JPPUT
abbrev rmJx4a65c_rangeCheckForAdd_d00df : Room := { frames := 0, cells := 0, slots := 0, locals := 0 }
set_option maxHeartbeats 4000000 in
set_option maxRecDepth 100000 in
theorem tJx4a65c_rangeCheckForAdd_d00df (l : Launch) (D : va_G) (cI cJ cZ cW cS cO cG : ClassId) (L : List Nat) (f : Nat → va_E) (la ea : Nat) (mc cnt i : Int32) (hla : la ∈ L) (fla : f la = .inr (0, [.int mc, .ref ea, .int cnt])) (h0 : 0 ≤ i) (h1 : ¬ cnt < i) : JMv l yJx4a65c_rangeCheckForAdd_d00df wsJx4a65c_rangeCheckForAdd_d00df rmJx4a65c_rangeCheckForAdd_d00df D vwCl (TY cI cJ cZ cW cS cO cG) [.ref la, .int i] (va_pl L f) (va_pl L f) := by
  refine JMv.of (cc := cJx4a65c_rangeCheckForAdd_d00df) (maxL := 2) (by decide) rfl (Nat.le_of_ble_eq_true rfl) ?_
  intro p e s m args below meth c A ls Q C hK hA ret hS hl
  obtain ⟨⟨hx, hb, hml, hown, hts⟩, -⟩ := id C
  have hl : lv_has ls 2 [(0, .ref la), (1, .int i)] := hl
  have inA : ∀ w ∈ u_ws RJx4a65c TJx4a65c 3, w ∈ wsJx4a65c_rangeCheckForAdd_d00df := by decide +kernel
  have k0 := hts (.fieldLink RJx4a65c 48 "java/util/ArrayList" "size" "I") (by decide +kernel)
  refine lv_iload_n hx hb dJx4a65c_rangeCheckForAdd_d00df_0 rfl (lv_at hl 1 rfl) ?_
  refine lv_aload_n hx hb dJx4a65c_rangeCheckForAdd_d00df_1 rfl (lv_at hl 0 rfl) ?_
  refine jp_get (X := []) (ci := 0) (v := .int cnt) (C := RJx4a65c) (T := TJx4a65c) (N := 3) hx hb hts inA hown hK hS.1 hla fla rfl 2 (by decide) k0 (fun _ h => h) rfl dJx4a65c_rangeCheckForAdd_d00df_2 ?_
  refine lv_icmp_gt (tgt := 12) hx hb dJx4a65c_rangeCheckForAdd_d00df_5 (by decide) (fun c1 => absurd c1 h1) (fun _ => ?_)
  refine lv_iload_n hx hb dJx4a65c_rangeCheckForAdd_d00df_8 rfl (lv_at hl 1 rfl) ?_
  refine lv_if_ge (tgt := 25) hx hb dJx4a65c_rangeCheckForAdd_d00df_9 (by decide) (fun _ => ?_) (fun c1 => absurd h0 c1)
  exact ret hS dJx4a65c_rangeCheckForAdd_d00df_25
abbrev rmJ8_newLength_cabcc : Room := { frames := 1, cells := 0, slots := 0, locals := 14 }
set_option maxHeartbeats 4000000 in
set_option maxRecDepth 100000 in
theorem tJ8_newLength_cabcc (l : Launch) (D : va_G) (cI cJ cZ cW cS cO cG : ClassId) (c0 d0 : Nat) (hd : 1 ≤ d0) (hb0 : c0 + d0 < 100000) : JMi l yJ8_newLength_cabcc wsJ8_newLength_cabcc rmJ8_newLength_cabcc D vwCl (TY cI cJ cZ cW cS cO cG) [.int (nI c0), .int (nI 1), .int (nI d0)] [] [] (nI (c0 + d0)) := by
  refine JMi.of (cc := cJ8_newLength_cabcc) (maxL := 4) (by decide) rfl (Nat.le_of_ble_eq_true rfl) ?_
  intro p e s m args below meth c A ls Q C hK hA ret hS hl
  obtain ⟨⟨hx, hb, hml, hown, hts⟩, -⟩ := id C
  have hl : lv_has ls 4 [(0, .int (nI c0)), (1, .int (nI 1)), (2, .int (nI d0))] := hl
  have em : (if nI 1 < nI d0 then nI d0 else nI 1) = nI d0 := by
    by_cases h : 1 < d0
    · rw [if_pos (nI_lt h (by omega))]
    · rw [if_neg (nI_nlt (by omega) (by omega)), show d0 = 1 by omega]
  refine lv_iload_n hx hb dJ8_newLength_cabcc_0 rfl (lv_at hl 0 rfl) ?_
  refine lv_iload_n hx hb dJ8_newLength_cabcc_1 rfl (lv_at hl 1 rfl) ?_
  refine lv_iload_n hx hb dJ8_newLength_cabcc_2 rfl (lv_at hl 2 rfl) ?_
  refine va_mmax hx hb (by rw [hml]; exact hl.1.symm) hown (hts (.methodLink RJ8 194 Lib.Math.max.name) (by decide +kernel)) (hts (.static Lib.Math.max.name) (by decide +kernel)) (hts (.initialized "java/lang/Math") (by decide +kernel)) (hts (.code Lib.Math.max.name Lib.Math.max.code 2 (some .int)) (by decide +kernel)) (Nat.le_of_ble_eq_true rfl) (Nat.le_of_ble_eq_true rfl) (Nat.zero_le _) (Nat.zero_le _) dJ8_newLength_cabcc_3 ?_
  rw [em]
  refine lv_iadd hx hb dJ8_newLength_cabcc_6 ?_
  rw [nI_add]
  refine lv_istore_n (lv' := [(3, .int (nI (c0 + d0))), (0, .int (nI c0)), (1, .int (nI 1)), (2, .int (nI d0))]) hx hb dJ8_newLength_cabcc_7 rfl hl (by decide) rfl (fun ls hl => ?_)
  refine lv_iconst (v := (0 : Int32)) hx hb dJ8_newLength_cabcc_8 (by decide) ?_
  refine lv_iload_n hx hb dJ8_newLength_cabcc_9 rfl (lv_at hl 0 rfl) ?_
  refine lv_icmp_ge (tgt := 21) hx hb dJ8_newLength_cabcc_10 (by decide) (fun c1 => absurd c1 (nI_nle (by omega) (by omega))) (fun _ => ?_)
  refine lv_iload_n hx hb dJ8_newLength_cabcc_13 rfl (lv_at hl 0 rfl) ?_
  refine lv_ldc (v := (2147483639 : Int32)) hx hb hown (hts (.constant RJ8 200 (2147483639)) (by decide +kernel)) dJ8_newLength_cabcc_14 ?_
  refine lv_icmp_gt (tgt := 21) hx hb dJ8_newLength_cabcc_16 (by decide) (fun c1 => absurd c1 (nI_nlt (a := 2147483639) (b := c0 + d0) (by omega) (by decide))) (fun _ => ?_)
  refine lv_iload_n hx hb dJ8_newLength_cabcc_19 rfl (lv_at hl 0 rfl) ?_
  exact ret hS rfl dJ8_newLength_cabcc_20
abbrev rmJ7_copyOf_6403c : Room := { frames := 1, cells := 1, slots := 1400, locals := 60 }
set_option maxHeartbeats 4000000 in
set_option maxRecDepth 100000 in
theorem tJ7_copyOf_6403c (l : Launch) (D : va_G) (dd mi : Nat) (cI cJ cZ cW cS cO cG : ClassId) (L : List Nat) (f : Nat → va_E) (ea cap N : Nat) (g : Nat → Option Nat) (hea : ea ∈ L) (fea : f ea = .inl (cO, cap, .inr (.inr (.inr (.inr g))))) (hN : cap ≤ N) (hN2 : N ≤ 1400) (hel : ∀ r, r < cap → ∃ a, g r = some a ∧ a ∈ L ∧ ∃ fs, f a = .inr (6, fs)) : JXq l yJ7_copyOf_6403c wsJ7_copyOf_6403c rmJ7_copyOf_6403c D vwCl (TY cI cJ cZ cW cS cO cG) dd mi [.ref ea, .int (nI N), .ref mi] (va_pl L f) (fun r v => ∃ q, q ∉ L ∧ r = some q ∧ ∃ g1 : Nat → Option Nat, (∀ r, r < cap → g1 r = g r) ∧ v = va_pl (L ++ [q]) (va_up f q (.inl (cO, N, .inr (.inr (.inr (.inr g1))))))) := by
  refine JXq.of (cc := cJ7_copyOf_6403c) (maxL := 4) (by decide) rfl (Nat.le_of_ble_eq_true rfl) ?_
  intro p e s m args below meth c A ls Q C hK hX hA ret hS hl
  obtain ⟨⟨hx, hb, hml, hown, hts⟩, -⟩ := id C
  have hl : lv_has ls 4 [(0, .ref ea), (1, .int (nI N)), (2, .ref mi)] := hl
  refine lv_aload_n hx hb dJ7_copyOf_6403c_0 rfl (lv_at hl 2 rfl) ?_
  refine va_ldcM hx hb hown (hts (.classLink RJ7 110 "[Ljava/lang/Object;") (by decide +kernel)) hX.2.2.2.2.2.2.1 dJ7_copyOf_6403c_1 ?_
  refine lv_acmp_ne (rx := some mi) (ry := some mi) (tgt := 13) hx hb dJ7_copyOf_6403c_3 (by decide) (fun c1 => absurd rfl c1) (fun _ => ?_)
  refine lv_iload_n hx hb dJ7_copyOf_6403c_6 rfl (lv_at hl 1 rfl) ?_
  have eN : (nI N).toNatClampNeg = N := nI_clamp (by omega)
  refine va_newq hx hb hown (hts (.classLink RJ7 2 "java/lang/Object") (by decide +kernel)) hX.2.2.2.2.2.1 hK hS.1 hS.2.1 hS.2.2 hA (N' := N) (nI_pos (by omega)) eN (by omega) (by show 0 + 1 ≤ 1; omega) (by show 0 + N ≤ 1400; omega) dJ7_copyOf_6403c_7 (fun q cA H hK2 p1 p2 p3 => ?_)
  have ec : cA = cO := tyUniq (hK2.2 7 _ rfl).2 (hK.2 5 _ rfl).2
  subst ec
  have hq : q ∉ L := fun hq => by
    have hn := (va_D_iff.mp p2).1
    rw [List.map_append, List.nodup_append] at hn
    exact hn.2.2 q (by unfold va_pl; rw [List.map_map]; exact List.mem_map.mpr ⟨q, hq, rfl⟩) q (List.mem_singleton_self _) rfl
  have hS : jS D vwCl A (va_pl (L ++ [q]) (va_up f q (.inl (cA, N, .inr (.inr (.inr (.inr (fun _ => none)))))))) s.heap H [] := by
    rw [← va_pl_push hq]
    exact ⟨p1, p2, p3⟩
  refine lv_goto (tgt := 24) hx hb dJ7_copyOf_6403c_10 (by decide) ?_
  refine lv_astore_n (lv' := [(3, .ref q), (0, .ref ea), (1, .int (nI N)), (2, .ref mi)]) hx hb dJ7_copyOf_6403c_24 rfl hl (by decide) rfl (fun ls hl => ?_)
  refine lv_aload_n hx hb dJ7_copyOf_6403c_25 rfl (lv_at hl 1 rfl) ?_
  refine lv_iconst (v := (0 : Int32)) hx hb dJ7_copyOf_6403c_26 (by decide) ?_
  refine lv_aload_n hx hb dJ7_copyOf_6403c_27 rfl (lv_at hl 0 rfl) ?_
  refine lv_iconst (v := (0 : Int32)) hx hb dJ7_copyOf_6403c_28 (by decide) ?_
  refine lv_aload_n hx hb dJ7_copyOf_6403c_29 rfl (lv_at hl 1 rfl) ?_
  have hne : ea ≠ q := fun h => hq (h ▸ hea)
  have hea2 : ea ∈ L ++ [q] := List.mem_append_left _ hea
  have fea2 : (va_up f q (.inl (cA, N, .inr (.inr (.inr (.inr (fun _ => none))))))) ea = .inl (cA, cap, .inr (.inr (.inr (.inr g)))) := by rw [va_up_ne _ _ hne]; exact fea
  have hq2 : q ∈ L ++ [q] := List.mem_append_right _ (List.mem_singleton_self _)
  obtain ⟨q8, hq8⟩ := jp_at hea2 fea2
  obtain ⟨q9, hq9⟩ := va_pl_get0 (f := va_up f q (.inl (cA, N, .inr (.inr (.inr (.inr (fun _ => none))))))) hq2
  have hq7 := hq9
  rw [va_up_self] at hq9
  refine va_alen (v := nI cap) hx hb hK hS.1 q8 5 hq8 rfl rfl dJ7_copyOf_6403c_30 ?_
  refine lv_iload_n hx hb dJ7_copyOf_6403c_31 rfl (lv_at hl 2 rfl) ?_
  refine va_mmin hx hb (by rw [hml]; exact hl.1.symm) hown (hts (.methodLink RJ7 304 Lib.Math.min.name) (by decide +kernel)) (hts (.static Lib.Math.min.name) (by decide +kernel)) (hts (.initialized "java/lang/Math") (by decide +kernel)) (hts (.code Lib.Math.min.name Lib.Math.min.code 2 (some .int)) (by decide +kernel)) (Nat.le_of_ble_eq_true rfl) (Nat.le_of_ble_eq_true rfl) (by show 0 + 1 ≤ 1; omega) (by show 0 + N ≤ 1400; omega) dJ7_copyOf_6403c_32 ?_
  rw [if_neg (nI_nlt hN (by omega))]
  have ec : (nI cap).toNatClampNeg = cap := nI_clamp (by omega)
  refine va_copyM (E0 := "java/lang/Object") (E1 := "java/lang/Object") hx hb (by rw [hml]; exact hl.1.symm) hown (hts (.methodLink RJ7 150 arraycopyName) (by decide +kernel)) (hts (.native arraycopyName) (by decide +kernel)) (hts (.static arraycopyName) (by decide +kernel)) (hts (.initialized "java/lang/System") (by decide +kernel)) hK hS.1 hS.2.1 hS.2.2 q8 q9 5 5 hq8 hq9 rfl rfl (by decide) (by decide) (nI_pos (by omega)) (by rw [ec]; exact Nat.le_of_eq (Nat.zero_add cap)) (by rw [ec]; exact Nat.le_trans (Nat.le_of_eq (Nat.zero_add cap)) hN) (fun i hi y hy => ?_) (Nat.le_of_ble_eq_true rfl) (by decide) dJ7_copyOf_6403c_35 (fun H locs p1 p2 p3 => ?_)
  · rw [ec] at hi
    obtain ⟨a, b1, b2, fs, b3⟩ := hel i hi
    have ey : y = a := by
      have h9 : g (0 + i) = some y := hy
      rw [Nat.zero_add, b1] at h9
      exact (Option.some.inj h9).symm
    subst ey
    have hyq : y ≠ q := fun z => hq (by rw [← z]; exact b2)
    exact jAny (X := []) hK hS.1 (List.mem_append_left _ b2) ((va_up_ne f _ hyq).trans b3) hX.2.2.1
  · have e2 := va_pl_set0 (e := .inl (cA, N, .inr (.inr (.inr (.inr (va_cpy g (fun _ => none) (0 : Int32).toNatClampNeg (0 : Int32).toNatClampNeg (nI cap).toNatClampNeg)))))) hS.2.1 hq2 hq7
    rw [e2] at p1 p2
    refine lv_aload_n hx hb dJ7_copyOf_6403c_38 rfl (lv_at hl 0 rfl) ?_
    refine W.widen (k := 1) (n := 1400) (by show 0 + 1 ≤ 1; omega) (by show 0 + N ≤ 1400; omega) ?_
    refine ret (r := some q) ⟨q, hq, rfl, va_cpy g (fun _ => none) (0 : Int32).toNatClampNeg (0 : Int32).toNatClampNeg (nI cap).toNatClampNeg, fun r hr => ?_, ?_⟩ ⟨p1, p2, p3⟩ (Or.inr ⟨_, rfl⟩) dJ7_copyOf_6403c_39
    · have h1 : va_cpy g (fun _ => none) (0 : Int32).toNatClampNeg (0 : Int32).toNatClampNeg (nI cap).toNatClampNeg r = g ((0 : Int32).toNatClampNeg + (r - (0 : Int32).toNatClampNeg)) := pk_cpy_in (Nat.zero_le _) (by rw [ec]; exact Nat.lt_of_lt_of_le hr (Nat.le_of_eq (Nat.zero_add cap).symm))
      rw [h1]
      show g (0 + (r - 0)) = g r
      rw [Nat.zero_add, Nat.sub_zero]
    · rw [bx_uu]
abbrev rmJ7_copyOf_1904c : Room := { frames := 2, cells := 1, slots := 1400, locals := 90 }
set_option maxHeartbeats 4000000 in
set_option maxRecDepth 100000 in
theorem tJ7_copyOf_1904c (l : Launch) (D : va_G) (dd mi : Nat) (cI cJ cZ cW cS cO cG : ClassId) (L : List Nat) (f : Nat → va_E) (ea cap N : Nat) (g : Nat → Option Nat) (hea : ea ∈ L) (fea : f ea = .inl (cO, cap, .inr (.inr (.inr (.inr g))))) (hN : cap ≤ N) (hN2 : N ≤ 1400) (hel : ∀ r, r < cap → ∃ a, g r = some a ∧ a ∈ L ∧ ∃ fs, f a = .inr (6, fs)) : JXq l yJ7_copyOf_1904c wsJ7_copyOf_1904c rmJ7_copyOf_1904c D vwCl (TY cI cJ cZ cW cS cO cG) dd mi [.ref ea, .int (nI N)] (va_pl L f) (fun r v => ∃ q, q ∉ L ∧ r = some q ∧ ∃ g1 : Nat → Option Nat, (∀ r, r < cap → g1 r = g r) ∧ v = va_pl (L ++ [q]) (va_up f q (.inl (cO, N, .inr (.inr (.inr (.inr g1))))))) := by
  refine JXq.of (cc := cJ7_copyOf_1904c) (maxL := 2) (by decide) rfl (Nat.le_of_ble_eq_true rfl) ?_
  intro p e s m args below meth c A ls Q C hK hX hA ret hS hl
  obtain ⟨⟨hx, hb, hml, hown, hts⟩, -⟩ := id C
  have hl : lv_has ls 2 [(0, .ref ea), (1, .int (nI N))] := hl
  refine lv_aload_n hx hb dJ7_copyOf_1904c_0 rfl (lv_at hl 0 rfl) ?_
  refine lv_iload_n hx hb dJ7_copyOf_1904c_1 rfl (lv_at hl 1 rfl) ?_
  refine lv_aload_n hx hb dJ7_copyOf_1904c_2 rfl (lv_at hl 0 rfl) ?_
  obtain ⟨q8, hq8⟩ := jp_at hea fea
  have hra := (hK.2 5 _ rfl).2
  refine va_getC (C := "[Ljava/lang/Object;") (mi := mi) hx hb (by rw [hml]; exact hl.1.symm) hown (hts (.methodLink RJ7 86 ⟨"java/lang/Object", "getClass", "()Ljava/lang/Class;"⟩) (by decide +kernel)) (va_Dc.use hX.2.2.2.2.2.2.2.1) (hts (.selects "[Ljava/lang/Object;" ⟨"java/lang/Object", "getClass", "()Ljava/lang/Class;"⟩ ⟨"java/lang/Object", "getClass", "()Ljava/lang/Class;"⟩) (by decide +kernel)) (hts (.instanceMethod ⟨"java/lang/Object", "getClass", "()Ljava/lang/Class;"⟩) (by decide +kernel)) (hts (.native ⟨"java/lang/Object", "getClass", "()Ljava/lang/Class;"⟩) (by decide +kernel)) hX.2.2.2.2.2.2.1 ?_ (Nat.le_of_ble_eq_true rfl) (Nat.le_of_ble_eq_true rfl) dJ7_copyOf_1904c_3 ?_
  · obtain ⟨kA, comp, -, -, -, e9⟩ := hra
    exact ⟨_, hS.1 q8 _ hq8, rfl, e9⟩
  · refine j_XSq (As := [.ref ea, .int (nI N), .ref mi]) (rest := []) C hK hX hA hS (tJ7_copyOf_6403c l D dd mi cI cJ cZ cW cS cO cG L f ea cap N g hea fea hN hN2 hel) (va_cwS 3 hts gJ7_copyOf_1904c_J7_copyOf_6403c rfl rfl rfl (by decide +kernel) ⟨Nat.le_of_ble_eq_true rfl, Nat.le_of_ble_eq_true rfl⟩) rfl hl.1 rfl (Nat.le_of_ble_eq_true rfl) dJ7_copyOf_1904c_6 ⟨Nat.le_of_ble_eq_true rfl, Nat.le_of_ble_eq_true rfl⟩ (fun r w H locs hp hS => ?_)
    exact ret hp hS (Or.inr ⟨_, rfl⟩) dJ7_copyOf_1904c_9
/-- what is behind grow: the list has another row, of more places, with the same elements -/
def jGrown (cO : ClassId) (L : List Nat) (f : Nat → va_E) (la : Nat) (mc cnt : Int32) (n : Nat) (g : Nat → Option Nat) (r : Option Nat) (v : va_W) : Prop := ∃ (q N : Nat) (g1 : Nat → Option Nat), q ∉ L ∧ r = some q ∧ n + 1 ≤ N ∧ (2 ≤ N ∧ N ≤ 1400) ∧ (∀ r, r < n → g1 r = g r) ∧ v = va_pl (L ++ [q]) (va_up (va_up f q (.inl (cO, N, .inr (.inr (.inr (.inr g1)))))) la (.inr (0, [.int mc, .ref q, .int cnt])))
abbrev rmJx4a65c_grow_92f84 : Room := { frames := 3, cells := 1, slots := 1400, locals := 120 }
set_option maxHeartbeats 4000000 in
set_option maxRecDepth 100000 in
theorem tJx4a65c_grow_92f84 (l : Launch) (D : va_G) (dd mi : Nat) (cI cJ cZ cW cS cO cG : ClassId) (L : List Nat) (f : Nat → va_E) (la ea n : Nat) (mc cnt : Int32) (g : Nat → Option Nat) (hla : la ∈ L) (fla : f la = .inr (0, [.int mc, .ref ea, .int cnt])) (hn2 : n ≤ 900) (hn1 : n = 0 ∨ 2 ≤ n) (hea : (n = 0 ∧ ea = dd) ∨ (0 < n ∧ ea ∈ L ∧ f ea = .inl (cO, n, .inr (.inr (.inr (.inr g)))))) (hel : ∀ r, r < n → ∃ a, g r = some a ∧ a ∈ L ∧ ∃ fs, f a = .inr (6, fs)) : JXq l yJx4a65c_grow_92f84 wsJx4a65c_grow_92f84 rmJx4a65c_grow_92f84 D vwCl (TY cI cJ cZ cW cS cO cG) dd mi [.ref la, .int (nI (n + 1))] (va_pl L f) (jGrown cO L f la mc cnt n g) := by
  refine JXq.of (cc := cJx4a65c_grow_92f84) (maxL := 4) (by decide) rfl (Nat.le_of_ble_eq_true rfl) ?_
  intro p e s m args below meth c A ls Q C hK hX hA ret hS hl
  obtain ⟨⟨hx, hb, hml, hown, hts⟩, -⟩ := id C
  have hl : lv_has ls 4 [(0, .ref la), (1, .int (nI (n + 1)))] := hl
  have inA : ∀ w ∈ u_ws RJx4a65c TJx4a65c 3, w ∈ wsJx4a65c_grow_92f84 := by decide +kernel
  have k0 := hts (.fieldLink RJx4a65c 9 "java/util/ArrayList" "elementData" "[Ljava/lang/Object;") (by decide +kernel)
  refine lv_aload_n hx hb dJx4a65c_grow_92f84_0 rfl (lv_at hl 0 rfl) ?_
  refine jp_get (X := []) (ci := 0) (v := .ref ea) (C := RJx4a65c) (T := TJx4a65c) (N := 3) hx hb hts inA hown hK hS.1 hla fla rfl 1 (by decide) k0 (fun _ h => h) rfl dJx4a65c_grow_92f84_1 ?_
  have halen : ∀ (kk : W p l e rmJx4a65c_grow_92f84 s m args below meth c s.heap [] 0 0 Q (F0 m 5 ls [.int (nI n)])), W p l e rmJx4a65c_grow_92f84 s m args below meth c s.heap [] 0 0 Q (F0 m 4 ls [.ref ea]) := fun kk => by
    rcases hea with ⟨e0, e1⟩ | ⟨-, e1, e2⟩
    · subst e0
      subst e1
      exact va_tlen hx hb hX.2.2.2.2.2.2.2.2.2 hS.2.2 rfl dJx4a65c_grow_92f84_4 kk
    · obtain ⟨q8, hq8⟩ := jp_at e1 e2
      exact va_alen (v := nI n) hx hb hK hS.1 q8 5 hq8 rfl rfl dJx4a65c_grow_92f84_4 kk
  refine halen ?_
  refine lv_istore_n (lv' := [(2, .int (nI n)), (0, .ref la), (1, .int (nI (n + 1)))]) hx hb dJx4a65c_grow_92f84_5 rfl hl (by decide) rfl (fun ls hl => ?_)
  refine lv_iload_n hx hb dJx4a65c_grow_92f84_6 rfl (lv_at hl 0 rfl) ?_
  refine lv_if_gt (tgt := 20) hx hb dJx4a65c_grow_92f84_7 (by decide) (fun c1 => ?_) (fun c1 => ?_)
  · have hpos : 0 < n := by
      rcases Nat.eq_zero_or_pos n with h | h
      · rw [h] at c1
        exact absurd c1 (by decide)
      · exact h
    obtain ⟨e1, e2⟩ := (hea.resolve_left (fun h => by omega)).2
    refine lv_iload_n hx hb dJx4a65c_grow_92f84_20 rfl (lv_at hl 0 rfl) ?_
    refine lv_iload_n hx hb dJx4a65c_grow_92f84_21 rfl (lv_at hl 2 rfl) ?_
    refine lv_iload_n hx hb dJx4a65c_grow_92f84_22 rfl (lv_at hl 0 rfl) ?_
    refine lv_isub hx hb dJx4a65c_grow_92f84_23 ?_
    rw [pk_sub (Nat.le_succ n), show n + 1 - n = 1 by omega]
    refine lv_iload_n hx hb dJx4a65c_grow_92f84_24 rfl (lv_at hl 0 rfl) ?_
    refine lv_iconst (v := (1 : Int32)) hx hb dJx4a65c_grow_92f84_25 (by decide) ?_
    refine lv_ishr hx hb dJx4a65c_grow_92f84_26 ?_
    rw [pk_shrN (by omega) ((1 : Int32) &&& 31) 1 (by decide), show n / 2 ^ 1 = n / 2 by rfl]
    refine j_Si (As := [.int (nI n), .int (nI 1), .int (nI (n / 2))]) (rest := []) (wf := va_pl L f) C hK hS (jcut_nil hA hS) (tJ8_newLength_cabcc l D cI cJ cZ cW cS cO cG n (n / 2) (by omega) (by omega)) (va_cwS 3 hts gJx4a65c_grow_92f84_J8_newLength_cabcc rfl rfl rfl (by decide +kernel) ⟨Nat.le_of_ble_eq_true rfl, Nat.le_of_ble_eq_true rfl⟩) rfl hl.1 rfl (Nat.le_of_ble_eq_true rfl) dJx4a65c_grow_92f84_27 ⟨Nat.zero_le _, Nat.zero_le _⟩ (fun H locs hS => ?_)
    refine lv_istore_n (lv' := [(3, .int (nI (n + n / 2))), (2, .int (nI n)), (0, .ref la), (1, .int (nI (n + 1)))]) hx hb dJx4a65c_grow_92f84_30 rfl hl (by decide) rfl (fun ls hl => ?_)
    refine lv_aload_n hx hb dJx4a65c_grow_92f84_31 rfl (lv_at hl 2 rfl) ?_
    refine lv_aload_n hx hb dJx4a65c_grow_92f84_32 rfl (lv_at hl 2 rfl) ?_
    refine jp_get (X := []) (ci := 0) (v := .ref ea) (C := RJx4a65c) (T := TJx4a65c) (N := 3) hx hb hts inA hown hK hS.1 hla fla rfl 1 (by decide) k0 (fun _ h => h) rfl dJx4a65c_grow_92f84_33 ?_
    refine lv_iload_n hx hb dJx4a65c_grow_92f84_36 rfl (lv_at hl 0 rfl) ?_
    refine j_XSq (As := [.ref ea, .int (nI (n + n / 2))]) (rest := [.ref la]) C hK hX hA hS (tJ7_copyOf_1904c l D dd mi cI cJ cZ cW cS cO cG L f ea n (n + n / 2) g e1 e2 (by omega) (by omega) hel) (va_cwS 2 hts gJx4a65c_grow_92f84_J7_copyOf_1904c rfl rfl rfl (by decide +kernel) ⟨Nat.le_of_ble_eq_true rfl, Nat.le_of_ble_eq_true rfl⟩) rfl hl.1 rfl (Nat.le_of_ble_eq_true rfl) dJx4a65c_grow_92f84_37 ⟨Nat.le_of_ble_eq_true rfl, Nat.le_of_ble_eq_true rfl⟩ (fun r w H locs hp hS => ?_)
    obtain ⟨q, hq, er, g1, hg1, ew⟩ := hp
    subst er
    subst ew
    have hlq : la ≠ q := fun h => hq (h ▸ hla)
    refine lv_dup_x1 hx hb dJx4a65c_grow_92f84_40 rfl rfl ?_
    refine jp_put (X := []) (ci := 0) (v := .ref q) (ty := .array (.object "java/lang/Object")) (fs := [.int mc, .ref ea, .int cnt]) (C := RJx4a65c) (T := TJx4a65c) (N := 3) hx hb hts inA tyJx4a65c tyJx4a65c_ok nmJx4a65c hown hK hS (List.mem_append_left _ hla) ((va_up_ne f _ hlq).trans fla) rfl 1 (by decide) k0 (fun _ h => h) rfl (by decide +kernel) rfl rfl (Nat.le_of_ble_eq_true rfl) dJx4a65c_grow_92f84_41 (fun H locs hS => ?_)
    exact ret (r := some q) ⟨q, n + n / 2, g1, hq, rfl, by omega, ⟨by omega, by omega⟩, hg1, rfl⟩ hS (Or.inr ⟨_, rfl⟩) dJx4a65c_grow_92f84_44
  · have hz : n = 0 := by
      rcases Nat.eq_zero_or_pos n with h | h
      · exact h
      · exact absurd (nI_lt (a := 0) h (by omega)) c1
    subst hz
    have e1 : ea = dd := by
      rcases hea with h | h
      · exact h.2
      · omega
    subst e1
    refine lv_aload_n hx hb dJx4a65c_grow_92f84_10 rfl (lv_at hl 1 rfl) ?_
    refine jp_get (X := []) (ci := 0) (v := .ref ea) (C := RJx4a65c) (T := TJx4a65c) (N := 3) hx hb hts inA hown hK hS.1 hla fla rfl 1 (by decide) k0 (fun _ h => h) rfl dJx4a65c_grow_92f84_11 ?_
    refine va_gets hx hb hX.2.2.2.2.2.2.2.2.1 hS.2.2 hown (hts (.fieldLink RJx4a65c 39 "java/util/ArrayList" "DEFAULTCAPACITY_EMPTY_ELEMENTDATA" "[Ljava/lang/Object;") (by decide +kernel)) (fun _ h => h) dJx4a65c_grow_92f84_14 ?_
    refine lv_acmp_eq (rx := some ea) (ry := some ea) (tgt := 45) hx hb dJx4a65c_grow_92f84_17 (by decide) (fun _ => ?_) (fun c2 => absurd rfl c2)
    refine lv_aload_n hx hb dJx4a65c_grow_92f84_45 rfl (lv_at hl 1 rfl) ?_
    refine lv_bipush (v := (10 : Int32)) hx hb dJx4a65c_grow_92f84_46 (by decide) ?_
    refine lv_iload_n hx hb dJx4a65c_grow_92f84_48 rfl (lv_at hl 2 rfl) ?_
    refine va_mmax hx hb (by rw [hml]; exact hl.1.symm) hown (hts (.methodLink RJx4a65c 79 Lib.Math.max.name) (by decide +kernel)) (hts (.static Lib.Math.max.name) (by decide +kernel)) (hts (.initialized "java/lang/Math") (by decide +kernel)) (hts (.code Lib.Math.max.name Lib.Math.max.code 2 (some .int)) (by decide +kernel)) (Nat.le_of_ble_eq_true rfl) (Nat.le_of_ble_eq_true rfl) (Nat.zero_le _) (Nat.zero_le _) dJx4a65c_grow_92f84_49 ?_
    rw [show (if (10 : Int32) < nI (0 + 1) then nI (0 + 1) else (10 : Int32)) = 10 from by decide]
    refine va_newq hx hb hown (hts (.classLink RJx4a65c 7 "java/lang/Object") (by decide +kernel)) hX.2.2.2.2.2.1 hK hS.1 hS.2.1 hS.2.2 hA (N' := 10) (by decide) (by decide) (by decide) (Nat.le_of_ble_eq_true rfl) (Nat.le_of_ble_eq_true rfl) dJx4a65c_grow_92f84_52 (fun q cA H hK2 p1 p2 p3 => ?_)
    have ec : cA = cO := tyUniq (hK2.2 7 _ rfl).2 (hK.2 5 _ rfl).2
    subst ec
    have hq : q ∉ L := fun hq => by
      have hn := (va_D_iff.mp p2).1
      rw [List.map_append, List.nodup_append] at hn
      exact hn.2.2 q (by unfold va_pl; rw [List.map_map]; exact List.mem_map.mpr ⟨q, hq, rfl⟩) q (List.mem_singleton_self _) rfl
    have hS : jS D vwCl A (va_pl (L ++ [q]) (va_up f q (.inl (cA, 10, .inr (.inr (.inr (.inr (fun _ => none)))))))) s.heap H [] := by
      rw [← va_pl_push hq]
      exact ⟨p1, p2, p3⟩
    have hlq : la ≠ q := fun h => hq (h ▸ hla)
    refine lv_dup_x1 hx hb dJx4a65c_grow_92f84_55 rfl rfl ?_
    refine jp_put (X := []) (ci := 0) (v := .ref q) (ty := .array (.object "java/lang/Object")) (fs := [.int mc, .ref ea, .int cnt]) (C := RJx4a65c) (T := TJx4a65c) (N := 3) hx hb hts inA tyJx4a65c tyJx4a65c_ok nmJx4a65c hown hK hS (List.mem_append_left _ hla) ((va_up_ne f _ hlq).trans fla) rfl 1 (by decide) k0 (fun _ h => h) rfl (by decide +kernel) rfl rfl (Nat.le_of_ble_eq_true rfl) dJx4a65c_grow_92f84_56 (fun H locs hS => ?_)
    refine W.widen (k := 1) (n := 1400) (Nat.le_of_ble_eq_true rfl) (Nat.le_of_ble_eq_true rfl) ?_
    exact ret (r := some q) ⟨q, 10, fun _ => none, hq, rfl, by omega, ⟨by omega, by omega⟩, fun r hr => absurd hr (Nat.not_lt_zero r), rfl⟩ hS (Or.inr ⟨_, rfl⟩) dJx4a65c_grow_92f84_59
abbrev rmJx4a65c_grow_d5877 : Room := { frames := 4, cells := 1, slots := 1400, locals := 150 }
set_option maxHeartbeats 4000000 in
set_option maxRecDepth 100000 in
theorem tJx4a65c_grow_d5877 (l : Launch) (D : va_G) (dd mi : Nat) (cI cJ cZ cW cS cO cG : ClassId) (L : List Nat) (f : Nat → va_E) (la ea n : Nat) (mc : Int32) (g : Nat → Option Nat) (hla : la ∈ L) (fla : f la = .inr (0, [.int mc, .ref ea, .int (nI n)])) (hn2 : n ≤ 900) (hn1 : n = 0 ∨ 2 ≤ n) (hea : (n = 0 ∧ ea = dd) ∨ (0 < n ∧ ea ∈ L ∧ f ea = .inl (cO, n, .inr (.inr (.inr (.inr g)))))) (hel : ∀ r, r < n → ∃ a, g r = some a ∧ a ∈ L ∧ ∃ fs, f a = .inr (6, fs)) : JXq l yJx4a65c_grow_d5877 wsJx4a65c_grow_d5877 rmJx4a65c_grow_d5877 D vwCl (TY cI cJ cZ cW cS cO cG) dd mi [.ref la] (va_pl L f) (jGrown cO L f la mc (nI n) n g) := by
  refine JXq.of (cc := cJx4a65c_grow_d5877) (maxL := 1) (by decide) rfl (Nat.le_of_ble_eq_true rfl) ?_
  intro p e s m args below meth c A ls Q C hK hX hA ret hS hl
  obtain ⟨⟨hx, hb, hml, hown, hts⟩, -⟩ := id C
  have hl : lv_has ls 1 [(0, .ref la)] := hl
  have inA : ∀ w ∈ u_ws RJx4a65c TJx4a65c 3, w ∈ wsJx4a65c_grow_d5877 := by decide +kernel
  have k0 := hts (.fieldLink RJx4a65c 48 "java/util/ArrayList" "size" "I") (by decide +kernel)
  refine lv_aload_n hx hb dJx4a65c_grow_d5877_0 rfl (lv_at hl 0 rfl) ?_
  refine lv_aload_n hx hb dJx4a65c_grow_d5877_1 rfl (lv_at hl 0 rfl) ?_
  refine jp_get (X := []) (ci := 0) (v := .int (nI n)) (C := RJx4a65c) (T := TJx4a65c) (N := 3) hx hb hts inA hown hK hS.1 hla fla rfl 2 (by decide) k0 (fun _ h => h) rfl dJx4a65c_grow_d5877_2 ?_
  refine lv_iconst (v := (1 : Int32)) hx hb dJx4a65c_grow_d5877_5 (by decide) ?_
  refine lv_iadd hx hb dJx4a65c_grow_d5877_6 ?_
  rw [nI_1]
  obtain ⟨q9, hq9⟩ := jp_at hla fla
  refine j_XVq (As := [.int (nI (n + 1))]) (rest := []) (vc := (RJx4a65c, TJx4a65c, 3)) C hK hX hA hS (tJx4a65c_grow_92f84 l D dd mi cI cJ cZ cW cS cO cG L f la ea n mc (nI n) g hla fla hn2 hn1 hea hel) (cwV 1 hts gJx4a65c_grow_d5877_Jx4a65c_grow_92f84 rfl rfl rfl (by decide +kernel) ⟨Nat.le_of_ble_eq_true rfl, Nat.le_of_ble_eq_true rfl⟩) (q0 := q9) hq9 (ci := 0) rfl rfl hl.1 rfl (Nat.le_of_ble_eq_true rfl) dJx4a65c_grow_d5877_7 ⟨Nat.le_of_ble_eq_true rfl, Nat.le_of_ble_eq_true rfl⟩ (fun r w H locs hp hS => ?_)
  exact ret hp hS (Or.inr ⟨_, rfl⟩) dJx4a65c_grow_d5877_10
