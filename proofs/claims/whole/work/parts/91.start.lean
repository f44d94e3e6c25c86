/-! THE CLAIM OUT OF ONE WALK OF THE LAW'S BODY. Your part is whole_start (and what it stands on); all else here is the same for every law, but numbers. -/
def R_law : String := "OhmNetsLaw"
def lw_P (b : Addr) (xs : List Int32) (args : Array Value) (s : State) : Prop := args = #[.ref b] ∧ s.IntsAt b xs ∧ xs.length ≤ 3072 ∧ (Jvm.Cond.and given_1 narrow_1).before args s = true
def lw_Q (_ : Array Value) (s : State) (o : Outcome) (t : State) : Prop := o = .returned (some (.int 1)) ∧ Framed s o t [] 600000 7302250
def lw_Z (below : List Frame) (a : Array Value) (s : State) : State → Prop := fun t => ∃ o, t.status = .running ∧ Ended t below o ∧ lw_Q a s o t
/-- the law's own end, with 1 on the stack, nothing written that was there before, its room as the claim has it -/
theorem lw_ret {p : Program} {l : Launch} {e : Env} {s : State} {m : MethodId} {below : List Frame} {meth : Method} {c : Code} {b : Nat} (hx : p.tables.exec = Jvm.exec) (hb : c.code = code) (hr : meth.sig.returnType = ret) (hlocks : meth.locks = false) {pc : Nat} {H : Heap} {ls : Array Slot} (hdg : decode code pc = .ok (.ireturn, 1)) : W p l e room_1 s m #[Value.ref b] below meth c H [] 600000 7302250 (lw_Z below #[Value.ref b] s) (F0 m pc ls [.int 1]) := by
  intro T hT X
  obtain ⟨fs, hret, hrun, hended, hW, hframe⟩ := X.leave (v := some (.int 1)) (hlocks := hlocks) (fun h => by rw [hr] at h; cases h)
  have hmeth' : T.vm.method? m = some meth := X.method'
  refine ⟨T.setFrames fs, ?_, .returned (some (.int 1)), hrun, hended, rfl, ⟨_, rfl⟩, hW, hframe⟩
  jvm_step X.here [X.here.top, hx, hb, hdg, hmeth', hr, ret, narrow_b1]
  (try refine ⟨rfl, ?_⟩); (try refine ⟨rfl, ?_⟩)
  first | (intro acts; rw [hret _ acts rfl rfl rfl]) | rw [hret _ _ rfl rfl rfl]
  exact Steps.refl _
/-- what holds at the law's entry: the machine, the code, the tables' words (any of lw_tbl by 'hts w (by decide +kernel)'), the script of L ints xs at the cell b, what the Statement gives of the start (any of its parts by flat_of_before) -/
def lw_At (p : Program) (s : State) (m : MethodId) (meth : Method) (c : Code) (b L : Nat) (xs : Nat → Int32) : Prop :=
  p.tables.exec = Jvm.exec ∧ c.code = code ∧ meth.sig.returnType = ret ∧ c.maxLocals = 4 ∧ s.vm.findClass R_law = some m.cls ∧ (∀ w ∈ lw_tbl, w.before #[Value.ref b] s = true) ∧ va_X b L xs s s.heap ∧ b < s.heap.size ∧ meth.locks = false ∧ (Jvm.Cond.and given_1 narrow_1).before #[Value.ref b] s = true
theorem lw_aoa {U : State} {t : FieldType} (h : va_AOA t U) : ∃ comp c k, U.vm.classes[c]? = some k ∧ k.kind = .array comp (.array t) ∧ U.vm.findClass ("[" ++ (FieldType.array t).toString) = some c := by
  unfold va_AOA Cond.before at h
  simp only [Cond.holds, Cond.value, beq_iff_eq] at h
  cases hc : U.vm.findClass (FieldType.array t).toString with
  | none => simp [hc] at h
  | some comp =>
    simp only [hc, Option.bind_some, Option.bind_eq_some_iff, Option.map_eq_some_iff] at h
    obtain ⟨c, hi, k, hk, hb⟩ := h
    obtain ⟨hlt, hp, -⟩ := Array.findIdx?_eq_some_iff_getElem.mp hi
    have hkk : U.vm.classes[c] = k := (Array.getElem?_eq_some_iff.mp hk).2
    rw [hkk] at hp
    cases hkind : k.kind with
    | array component ty =>
      rw [hkind] at hb hp
      simp at hb hp
      exact ⟨comp, c, k, hk, by rw [hkind, hp, hb.1], hb.2⟩
    | _ => rw [hkind] at hb; simp at hb
theorem lw_eqi {args : Array Value} {s : State} {tm : Term} {z : Int32} (h : (Cond.eq tm (.int z)).before args s = true) : tm.eval args s none [] s = some (.int z) := by
  cases hv : tm.eval args s none [] s with
  | none => simp [Cond.before, Cond.holds, Cond.value, hv] at h
  | some w =>
    have hz : (Term.int z).eval args s none [] s = some (.int z) := rfl
    simp only [Cond.before, Cond.holds, Cond.value, hv, hz] at h
    cases w <;> simp_all
theorem lw_arrP {args : Array Value} {s : State} {ty : FieldType} (h : (Cond.arrayClass ty).before args s = true) : ∃ cA, ArrOfT s cA ty ∧ s.vm.findClass ("[" ++ ty.toString) = some cA := by
  obtain ⟨cA, kA, comp, h1, h2, h3⟩ := Cond.arrayClass_spec h
  exact ⟨cA, fun n z => ⟨fun k h => (by cases h), kA, h2, comp, h3⟩, h1⟩
theorem lw_arrO {s : State} {C : String} (h : va_AO C s) : ∃ cA, ArrOfT s cA (.object C) ∧ va_RA s cA (.object C) := by
  obtain ⟨comp, cA, kA, h1, -, h3, h4, h5⟩ := Cond.arrayOver_spec h
  exact ⟨cA, fun n z => ⟨fun k h => (by cases h), kA, h3, comp, h4⟩, kA, comp, h3, h4, h1, h5⟩
theorem lw_arrA {s : State} {t : FieldType} (h : va_AOA t s) : ∃ cA, ArrOfT s cA (.array t) ∧ va_RA s cA (.array t) := by
  obtain ⟨comp, cA, kA, h3, h4, h5⟩ := lw_aoa h
  exact ⟨cA, fun n z => ⟨fun k h => (by cases h), kA, h3, comp, h4⟩, h5⟩
/-- what the tables say of the classes -/
theorem lw_K {s : State} {args : Array Value} (hts : ∀ w ∈ lw_tbl, w.before args s = true) : ∃ (D : va_G) (cI cJ cZ cW cS cO cG : ClassId), va_K D vwCl (TY cI cJ cZ cW cS cO cG) s := by
  obtain ⟨c0, i0, h0⟩ := u_known (C := RJx4a65c) (T := TJx4a65c) (N := 3) (n := 3) hts inJx4a65c (hts (.instantiable RJx4a65c 3) (List.mem_of_getElem? (i := 107) (by decide +kernel)))
  obtain ⟨c1, i1, h1⟩ := u_known (C := RX0) (T := TX0) (N := 2) (n := 2) hts inX0 (hts (.instantiable RX0 2) (List.mem_of_getElem? (i := 81) (by decide +kernel)))
  obtain ⟨c2, i2, h2⟩ := u_known (C := RX1) (T := TX1) (N := 3) (n := 3) hts inX1 (hts (.instantiable RX1 3) (List.mem_of_getElem? (i := 73) (by decide +kernel)))
  obtain ⟨c3, i3, h3⟩ := u_known (C := RX2) (T := TX2) (N := 4) (n := 4) hts inX2 (hts (.instantiable RX2 4) (List.mem_of_getElem? (i := 485) (by decide +kernel)))
  obtain ⟨c4, i4, h4⟩ := u_known (C := RX3) (T := TX3) (N := 8) (n := 8) hts inX3 (hts (.instantiable RX3 8) (List.mem_of_getElem? (i := 147) (by decide +kernel)))
  obtain ⟨c5, i5, h5⟩ := u_known (C := RX4) (T := TX4) (N := 3) (n := 3) hts inX4 (hts (.instantiable RX4 3) (List.mem_of_getElem? (i := 493) (by decide +kernel)))
  obtain ⟨c6, i6, h6⟩ := u_known (C := RX5) (T := TX5) (N := 6) (n := 6) hts inX5 (hts (.instantiable RX5 6) (List.mem_of_getElem? (i := 290) (by decide +kernel)))
  obtain ⟨c7, i7, h7⟩ := u_known (C := RX6) (T := TX6) (N := 1) (n := 1) hts inX6 (hts (.instantiable RX6 1) (List.mem_of_getElem? (i := 101) (by decide +kernel)))
  obtain ⟨c8, i8, h8⟩ := u_known (C := RX7) (T := TX7) (N := 5) (n := 5) hts inX7 (hts (.instantiable RX7 5) (List.mem_of_getElem? (i := 186) (by decide +kernel)))
  obtain ⟨c9, i9, h9⟩ := u_known (C := RX8) (T := TX8) (N := 5) (n := 5) hts inX8 (hts (.instantiable RX8 5) (List.mem_of_getElem? (i := 452) (by decide +kernel)))
  obtain ⟨c10, i10, h10⟩ := u_known (C := RX9) (T := TX9) (N := 5) (n := 5) hts inX9 (hts (.instantiable RX9 5) (List.mem_of_getElem? (i := 65) (by decide +kernel)))
  obtain ⟨c11, i11, h11⟩ := u_known (C := RX10) (T := TX10) (N := 24) (n := 24) hts inX10 (hts (.instantiable RX10 24) (List.mem_of_getElem? (i := 722) (by decide +kernel)))
  obtain ⟨cI, aI, rI⟩ := lw_arrP (ty := .int) (hts (.arrayClass .int) (List.mem_of_getElem? (i := 184) (by decide +kernel)))
  obtain ⟨cJ, aJ, rJ⟩ := lw_arrP (ty := .long) (hts (.arrayClass .long) (List.mem_of_getElem? (i := 183) (by decide +kernel)))
  obtain ⟨cZ, aZ, rZ⟩ := lw_arrP (ty := .boolean) (hts (.arrayClass .boolean) (List.mem_of_getElem? (i := 800) (by decide +kernel)))
  obtain ⟨cW, aW, rW⟩ := lw_arrO (va_AO.of (C := RX4) (hts (.arrayOver (.object RX4)) (List.mem_of_getElem? (i := 153) (by decide +kernel))))
  obtain ⟨cS, aS, rS⟩ := lw_arrO (va_AO.of (C := RX6) (hts (.arrayOver (.object RX6)) (List.mem_of_getElem? (i := 79) (by decide +kernel))))
  obtain ⟨cO, aO, rO⟩ := lw_arrO (va_AO.of (C := "java/lang/Object") (hts (.arrayOver (.object "java/lang/Object")) (List.mem_of_getElem? (i := 373) (by decide +kernel))))
  obtain ⟨cG, aG, rG⟩ := lw_arrA (show va_AOA .long s from hts (.arrayOver (.array .long)) (List.mem_of_getElem? (i := 157) (by decide +kernel)))
  refine ⟨(fun k => if k = 0 then c0 else if k = 1 then c1 else if k = 2 then c2 else if k = 3 then c3 else if k = 4 then c4 else if k = 5 then c5 else if k = 6 then c6 else if k = 7 then c7 else if k = 8 then c8 else if k = 9 then c9 else if k = 10 then c10 else c11, fun k => if k = 0 then i0 else if k = 1 then i1 else if k = 2 then i2 else if k = 3 then i3 else if k = 4 then i4 else if k = 5 then i5 else if k = 6 then i6 else if k = 7 then i7 else if k = 8 then i8 else if k = 9 then i9 else if k = 10 then i10 else i11), cI, cJ, cZ, cW, cS, cO, cG, fun k q hq => ?_, fun k q hq => ?_⟩
  · match k, hq with
    | 0, hq => cases hq; exact h0
    | 1, hq => cases hq; exact h1
    | 2, hq => cases hq; exact h2
    | 3, hq => cases hq; exact h3
    | 4, hq => cases hq; exact h4
    | 5, hq => cases hq; exact h5
    | 6, hq => cases hq; exact h6
    | 7, hq => cases hq; exact h7
    | 8, hq => cases hq; exact h8
    | 9, hq => cases hq; exact h9
    | 10, hq => cases hq; exact h10
    | 11, hq => cases hq; exact h11
    | k + 12, hq => simp [vwCl] at hq
  · match k, hq with
    | 0, hq => cases hq; exact ⟨aI, rI⟩
    | 1, hq => cases hq; exact ⟨aJ, rJ⟩
    | 2, hq => cases hq; exact ⟨aZ, rZ⟩
    | 3, hq => cases hq; exact ⟨aW, rW⟩
    | 4, hq => cases hq; exact ⟨aS, rS⟩
    | 5, hq => cases hq; exact ⟨aO, rO⟩
    | 6, hq => cases hq; exact ⟨aG, rG⟩
    | k + 7, hq => simp [TY] at hq
/-- what the statement gives of the start -/
theorem lw_X {s : State} {b : Nat} (hts : ∀ w ∈ lw_tbl, w.before #[Value.ref b] s = true) (hgv : (Jvm.Cond.and given_1 narrow_1).before #[Value.ref b] s = true) : ∃ dd mi, jX dd mi (lwA s) s := by
  have hs := flat_of_before _ hgv
  have hA : ∀ a : Nat, a < s.heap.size → ¬ lwA s a := fun a h => Nat.not_le.mpr h
  have e0 := lw_eqi (hs (Cond.eq (.length (.static "java/util/ArrayList" "DEFAULTCAPACITY_EMPTY_ELEMENTDATA" "[Ljava/lang/Object;")) (.int 0)) (by decide +kernel))
  obtain ⟨dd, hd1, hd2⟩ := va_Tof (N := 0) (f := fun _ => .null) (A := lwA s) (by decide) (hs (Cond.arrayOf (.static "java/util/ArrayList" "DEFAULTCAPACITY_EMPTY_ELEMENTDATA" "[Ljava/lang/Object;") (.object "java/lang/Object")) (by decide +kernel)) e0 (fun j hj => absurd hj (Nat.not_lt_zero j)) hA
  obtain ⟨mi, hmi⟩ := va_Mi.of (hs (Cond.isRef (.mirror "[Ljava/lang/Object;")) (by decide +kernel))
  refine ⟨dd, mi, ⟨va_Nw.of rfl (hts (.castable RX2 RX4) (List.mem_of_getElem? (i := 996) (by decide +kernel))), hts (.arrayOver (.array .long)) (List.mem_of_getElem? (i := 157) (by decide +kernel)), va_Nw.of rfl (hts (.methodLinkNest RX1 19 yX0_init RX9) (List.mem_of_getElem? (i := 82) (by decide +kernel))), va_Nw.of rfl (hts (.methodLinkNest RX1 28 yX6_init RX9) (List.mem_of_getElem? (i := 102) (by decide +kernel))), va_Nw.of rfl (hts (.methodLinkNest RX9 18 yX3_init RX9) (List.mem_of_getElem? (i := 148) (by decide +kernel))), va_Nw.of rfl (hts (.methodLinkNest RX3 27 yX0_init RX9) (List.mem_of_getElem? (i := 155) (by decide +kernel))), va_Nw.of rfl (hts (.methodLinkNest RX9 25 yX7_init RX9) (List.mem_of_getElem? (i := 187) (by decide +kernel))), va_Nw.of rfl (hts (.methodLinkNest RX7 24 yX0_init RX9) (List.mem_of_getElem? (i := 192) (by decide +kernel))), va_Nw.of rfl (hts (.methodLinkNest RX9 32 yX0_init RX9) (List.mem_of_getElem? (i := 210) (by decide +kernel)))⟩, va_Nw.of rfl (hts (.castable RX8 RX4) (List.mem_of_getElem? (i := 995) (by decide +kernel))), va_Nw.of rfl (hts (.castable RX5 "java/lang/Object") (List.mem_of_getElem? (i := 992) (by decide +kernel))), va_AO.of (hts (.arrayOver (.object RX6)) (List.mem_of_getElem? (i := 79) (by decide +kernel))), va_AO.of (hts (.arrayOver (.object RX4)) (List.mem_of_getElem? (i := 153) (by decide +kernel))), va_AO.of (hts (.arrayOver (.object "java/lang/Object")) (List.mem_of_getElem? (i := 373) (by decide +kernel))), hmi, va_Dc.of (hts (.declares ⟨"java/lang/Object", "getClass", "()Ljava/lang/Class;"⟩) (List.mem_of_getElem? (i := 999) (by decide +kernel))), va_Zof (hts (.laysStatic "java/util/ArrayList" "DEFAULTCAPACITY_EMPTY_ELEMENTDATA" "[Ljava/lang/Object;") (List.mem_of_getElem? (i := 119) (by decide +kernel))) (hts (.initialized "java/util/ArrayList") (List.mem_of_getElem? (i := 49) (by decide +kernel))) hd1 hA, hd2⟩
set_option maxHeartbeats 4000000 in
set_option maxRecDepth 100000 in
theorem whole_start {p : Program} {e : Env} {s : State} {m : MethodId} {below : List Frame} {meth : Method} {c : Code} (l : Launch) {b L : Nat} {xs : Nat → Int32} (hL : L ≤ 3072) (C0 : lw_At p s m meth c b L xs) : W p l e room_1 s m #[Value.ref b] below meth c s.heap [] 0 0 (lw_Z below #[Value.ref b] s) (entryFrame m ([Value.ref b] : List Value).toArray 4) := by
  obtain ⟨hx, hb, hr, hml, hown, htb, hX0, hbl, hlocks, hgv⟩ := id C0
  obtain ⟨D, cI, cJ, cZ, cW, cS, cO, cG, hK⟩ := lw_K htb
  obtain ⟨dd, mi, hX⟩ := lw_X htb hgv
  have hts : ∀ w ∈ wsL_law, w.before #[Value.ref b] s = true := fun w h => htb w (wsL_law_in w h)
  have C : jC p s m meth c cL_law 4 #[Value.ref b] wsL_law ⟨RL, meth.name, ""⟩ ret := ⟨⟨hx, hb, hml, hown, hts⟩, hr, hlocks, rfl⟩
  have K : LCx p s m meth c b L xs D cI cJ cZ cW cS cO cG dd mi := ⟨C, hK, hX, hX0, hbl⟩
  have hA : ∀ q : Nat, s.heap.size ≤ q → lwA s q := fun _ h => h
  have hb : c.code = cL_law := hb
  have hl := lv_entry ([.ref b]) (n := 4) (Nat.le_of_ble_eq_true rfl)
  rw [lg_entry_eq]
  generalize (lg_sl ([.ref b]) ++ List.replicate (4 - (lg_sl ([.ref b])).length) Slot.unset).toArray = ls at hl ⊢
  have hl : lv_has ls 4 [(0, .ref b)] := hl
  have hP : va_P D vwCl [] s.heap := fun k q h => by simp at h
  have hD : va_D (lwA s) [] := ⟨fun i j p q h => by simp at h, fun k q h => by simp at h⟩
  refine va_new (ci := 10) (fs := [.null, .null, .null, .null, .long 0]) (C := RX9) (T := TX9) (N := 5) hx hb htb inX9 tyX9 tyX9_ok hown (htb (.classLink RL 7 RX9) (List.mem_of_getElem? (i := 64) (by decide +kernel))) (htb (.instantiable RX9 5) (List.mem_of_getElem? (i := 65) (by decide +kernel))) (htb (.initialized RX9) (List.mem_of_getElem? (i := 43) (by decide +kernel))) hK hP hD va_S.rf hA rfl (fun j hj => by rcases (show j = 0 ∨ j = 1 ∨ j = 2 ∨ j = 3 ∨ j = 4 by omega) with rfl | rfl | rfl | rfl | rfl <;> rfl) (Nat.le_of_ble_eq_true rfl) (Nat.le_of_ble_eq_true rfl) dL_law_0 (fun x0 H hP hD hS => ?_)
  have hS : jS D vwCl (lwA s) [(x0, .inr (10, [.null, .null, .null, .null, .long 0]))] s.heap H [] := ⟨hP, hD, hS⟩
  refine lv_dup hx hb dL_law_3 rfl ?_
  refine j_XIv (As := []) (rest := [.ref x0]) C hK hX hA hS (tX9_init l D dd mi cI cJ cZ cW cS cO cG x0 svz (fun _ => 0) (fun _ => 0) (fun _ => 0) (fun _ => 0) (fun _ => 0)) (cwI 0 hts gL_law_X9_init rfl rfl rfl (htb (.initialized RX9) (List.mem_of_getElem? (i := 43) (by decide +kernel))) (htb (.methodLink RL 9 yX9_init) (List.mem_of_getElem? (i := 66) (by decide +kernel))) (htb (.instanceMethod yX9_init) (List.mem_of_getElem? (i := 67) (by decide +kernel))) rfl (by decide +kernel) ⟨Nat.le_of_ble_eq_true rfl, Nat.le_of_ble_eq_true rfl⟩) rfl hl.1 rfl (Nat.le_of_ble_eq_true rfl) dL_law_4 ⟨Nat.le_of_ble_eq_true rfl, Nat.le_of_ble_eq_true rfl⟩ (fun wv H locs hp hS => ?_)
  obtain ⟨lp, b0, v0, n0, n1, n2, n3, n4, n5, n6, s0, s1, s2, s3, s4, an, ba, Lp, f, wN, ew, hLL, hNP⟩ := hp
  generalize hwv : (wN ++ (FRW an 0 1 ++ SHW s0 s1 s2 s3 s4 cI 0 (fun _ => 0) (fun _ => 0) 0 1 0 1)) = NT at ew
  subst ew
  refine lv_astore_n (lv' := [(1, .ref x0), (0, .ref b)]) hx hb dL_law_7 rfl hl (by decide) rfl (fun ls hl => ?_)
  refine va_new (ci := 11) (fs := [.int 0, .long 0, .null, .null, .null, .int 0, .int 0, .int 0, .null, .null, .null, .null, .null, .null, .null, .null, .null, .null, .null, .int 0, .null, .null, .long 0, .long 0]) (C := RX10) (T := TX10) (N := 24) hx hb htb inX10 tyX10 tyX10_ok hown (htb (.classLink RL 10 RX10) (List.mem_of_getElem? (i := 721) (by decide +kernel))) (htb (.instantiable RX10 24) (List.mem_of_getElem? (i := 722) (by decide +kernel))) (htb (.initialized RX10) (List.mem_of_getElem? (i := 52) (by decide +kernel))) hK hS.1 hS.2.1 hS.2.2 hA rfl (fun j hj => by rcases (show j = 0 ∨ j = 1 ∨ j = 2 ∨ j = 3 ∨ j = 4 ∨ j = 5 ∨ j = 6 ∨ j = 7 ∨ j = 8 ∨ j = 9 ∨ j = 10 ∨ j = 11 ∨ j = 12 ∨ j = 13 ∨ j = 14 ∨ j = 15 ∨ j = 16 ∨ j = 17 ∨ j = 18 ∨ j = 19 ∨ j = 20 ∨ j = 21 ∨ j = 22 ∨ j = 23 by omega) with rfl | rfl | rfl | rfl | rfl | rfl | rfl | rfl | rfl | rfl | rfl | rfl | rfl | rfl | rfl | rfl | rfl | rfl | rfl | rfl | rfl | rfl | rfl | rfl <;> rfl) (Nat.le_of_ble_eq_true rfl) (Nat.le_of_ble_eq_true rfl) dL_law_8 (fun mq H hP hD hS => ?_)
  have hS := (⟨hP, hD, hS⟩ : jS D vwCl (lwA s) _ s.heap H locs)
  refine lv_dup hx hb dL_law_11 rfl ?_
  refine j_QIvp (As := []) (rest := [.ref mq]) C hK hA hS List.perm_append_comm (tX10_init l D cI cJ cZ cW cS cO cG mq) (cwI 0 hts gL_law_X10_init rfl rfl rfl (htb (.initialized RX10) (List.mem_of_getElem? (i := 52) (by decide +kernel))) (htb (.methodLink RL 12 yX10_init) (List.mem_of_getElem? (i := 723) (by decide +kernel))) (htb (.instanceMethod yX10_init) (List.mem_of_getElem? (i := 724) (by decide +kernel))) rfl (by decide +kernel) ⟨Nat.le_of_ble_eq_true rfl, Nat.le_of_ble_eq_true rfl⟩) rfl hl.1 rfl (Nat.le_of_ble_eq_true rfl) dL_law_12 ⟨Nat.le_of_ble_eq_true rfl, Nat.le_of_ble_eq_true rfl⟩ (fun wm H locs hp hS => ?_)
  obtain ⟨ad, e0, em⟩ := hp
  subst em
  subst hwv
  rw [← List.append_assoc (XO x0 lp n0 s0 an 0)] at hS
  have hS : jS D vwCl (lwA s) (([(x0, .inr (10, [.ref lp, .ref n0, .ref s0, .ref an, .long 0]))] ++ (wN ++ [(an, .inr (1, [.long 0, .long 1])), (s0, .inr (8, [.ref s1, .ref s2, .int (nI 0), .ref s3, .ref s4])), (s1, .inl (cI, 6, .inl (fun _ => 0))), (s2, .inl (cI, 6, .inl (fun _ => 0))), (s3, .inr (1, [.long 0, .long 1])), (s4, .inr (1, [.long 0, .long 1]))])) ++ ((LX lp b0 v0 cS ba (nI 0) (Sq svz 0).2.2.1 (Sq svz 0).2.2.2 ++ va_pl Lp f) ++ MW ad cI cZ 0 0 (fun _ => 0) (fun _ => 0) (fun _ => 0) 0 0 (nI 0) (fun _ => 0) (fun _ => 0) (fun _ => 0) (fun _ => 0) (fun _ => 0) (fun _ => 0) (fun _ => 0) (fun _ => 0) (fun _ => 0) (fun _ => 0) (fun _ => 0) (nI 0) (fun _ => 0) (fun _ => 0) 0 0)) s.heap H locs := jS_perm lwpB.symm hS
  refine lv_astore_n (lv' := [(2, .ref mq), (1, .ref x0), (0, .ref b)]) hx hb dL_law_15 rfl hl (by decide) rfl (fun ls hl => ?_)
  refine lv_iconst (v := (0 : Int32)) hx hb dL_law_16 (by decide) ?_
  refine lv_istore_n (lv' := [(3, .int (0 : Int32)), (2, .ref mq), (1, .ref x0), (0, .ref b)]) hx hb dL_law_17 rfl hl (by decide) rfl (fun ls hl => ?_)
  refine W.widen (k := 60 + 2 * accO (Sq svz) 0 + 0) (n := 3600 + 1406 * accO (Sq svz) 0 + 5 * 0) (Nat.le_of_ble_eq_true rfl) (Nat.le_of_ble_eq_true rfl) ?_
  refine law_loop K hL (fun H locs ls cells slots hS h1 h2 => ?_) (L + 1) 0 0 0 H locs ls rfl (Nat.zero_le L) (by omega) ⟨lp, an, s0, s1, s2, s3, s4, n0, n1, n2, n3, n4, n5, n6, b0, v0, 0, 0, (fun _ => 0), (fun _ => 0), (fun _ => 0), (fun _ => 0), (fun _ => 0), (fun _ => 0), 0, 1, (fun _ => 0), (fun _ _ => 0), (fun _ => 0), 0, 0, 0, 1, (fun _ => 0), (fun _ => 0), 0, 1, 0, 1, ba, Lp, f, wN, ad, 0, (fun _ => 0), (fun _ => 0), (fun _ => 0), 0, 0, (fun _ => 0), (fun _ => 0), (fun _ => 0), (fun _ => 0), (fun _ => 0), (fun _ => 0), (fun _ => 0), (fun _ => 0), (fun _ => 0), (fun _ => 0), (fun _ => 0), (fun _ => 0), (fun _ => 0), 0, 0, (fun _ => 0), (fun _ => 0), ⟨e0, Nat.zero_le 9⟩, hNP, hLL, ⟨Nat.zero_le _, fun w hw => absurd hw (Nat.not_lt_zero w)⟩, ⟨Nat.zero_le _, fun w hw => absurd hw (Nat.not_lt_zero w)⟩, Or.inl rfl, hS⟩ (lv_sub hl [3, 2, 1, 0] rfl)
  refine lv_iconst (v := (1 : Int32)) hx hb dL_law_770 (by decide) ?_
  refine va_forget (fun q h => hS.2.2 q h) ?_
  refine W.widen (k := 600000) (n := 7302250) h1 h2 ?_
  exact lw_ret hx hb hr hlocks dL_law_771
