/-! what the tables and the statics say, for the methods that need more than their words -/
theorem va_AOA.moved {ty : FieldType} {u U : State} (hvm : u.vm.Alike U.vm) (h : va_AOA ty u) : va_AOA ty U := by
  have e : (Cond.arrayOver (.array ty)).before #[] (u.setVm U.vm) = true := by rw [Cond.arrayOver_setVmC hvm]; exact h
  unfold va_AOA
  unfold Cond.before Cond.holds at e ⊢
  simp only [Cond.value] at e ⊢
  exact e
/-- the private constructors that a nest mate may call -/
def jN (U : State) : Prop := va_Nw (.methodLinkNest RX1 19 yX0_init RX9) U ∧ va_Nw (.methodLinkNest RX1 28 yX6_init RX9) U ∧ va_Nw (.methodLinkNest RX9 18 yX3_init RX9) U ∧ va_Nw (.methodLinkNest RX3 27 yX0_init RX9) U ∧ va_Nw (.methodLinkNest RX9 25 yX7_init RX9) U ∧ va_Nw (.methodLinkNest RX7 24 yX0_init RX9) U ∧ va_Nw (.methodLinkNest RX9 32 yX0_init RX9) U
theorem jN.warm {s U : State} (hW : s.WarmedH U.vm) (h : jN s) : jN U := by
  obtain ⟨h1, h2, h3, h4, h5, h6, h7⟩ := h
  exact ⟨h1.warmM hW, h2.warmM hW, h3.warmM hW, h4.warmM hW, h5.warmM hW, h6.warmM hW, h7.warmM hW⟩
theorem jN.same {s U : State} (e : s.vm = U.vm) (h : jN s) : jN U := by
  obtain ⟨h1, h2, h3, h4, h5, h6, h7⟩ := h
  exact ⟨h1.same rfl e, h2.same rfl e, h3.same rfl e, h4.same rfl e, h5.same rfl e, h6.same rfl e, h7.same rfl e⟩
def jX (dd mi : Nat) (A : Nat → Prop) (U : State) : Prop :=
  (va_Nw (.castable RX2 RX4) U ∧ va_AOA .long U ∧ jN U) ∧ va_Nw (.castable RX8 RX4) U ∧ va_Nw (.castable RX5 "java/lang/Object") U ∧ va_AO RX6 U ∧ va_AO RX4 U ∧ va_AO "java/lang/Object" U ∧ va_Mi "[Ljava/lang/Object;" mi U ∧ va_Dc U ∧ va_Z "java/util/ArrayList" "DEFAULTCAPACITY_EMPTY_ELEMENTDATA" "[Ljava/lang/Object;" (.ref dd) A U U.heap ∧ va_T (.object "java/lang/Object") dd 0 (fun _ => .null) A U U.heap
theorem jX_step {dd mi : Nat} {A A1 : Nat → Prop} {s U : State} {H : Heap} {locs : List Loc} (h : jX dd mi A s) (hS : va_S A s.heap H locs) (hA : ∀ q, A1 q → A q) (hU : U.heap = H) (hW : s.WarmedH U.vm) : jX dd mi A1 U := by
  obtain ⟨h1, h2, h3, h4, h5, h6, h7, h8, h9, h10⟩ := h
  have hv := hW.alike
  refine ⟨⟨h1.1.warmC hW, h1.2.1.moved hv, h1.2.2.warm hW⟩, h2.warmC hW, h3.warmC hW, h4.moved hv, h5.moved hv, h6.moved hv, h7.moved hv, h8.moved hv, ?_, ?_⟩
  · rw [hU]
    exact ((h9.kept (fun a h1 h2 => hS.2.1 a h1 h2)).narrow hA).moved hv
  · rw [hU]
    exact ((h10.kept (fun a h1 h2 => hS.2.1 a h1 h2)).narrow hA).moved hv
theorem jX_calling {dd mi : Nat} {A : Nat → Prop} {U : State} {g : JFrame} {mk : MethodId} {a : Array Value} (h : jX dd mi A U) : jX dd mi A (U.calling g mk a) := by
  obtain ⟨h1, h2, h3, h4, h5, h6, h7, h8, h9, h10⟩ := h
  have hv : U.vm.Alike (U.calling g mk a).vm := Vm.Alike.refl U.vm
  exact ⟨⟨h1.1.same rfl rfl, h1.2.1.moved hv, h1.2.2.same rfl⟩, h2.same rfl rfl, h3.same rfl rfl, h4.moved hv, h5.moved hv, h6.moved hv, h7.moved hv, h8.moved hv, h9.moved hv, h10.moved hv⟩
def JXi (l : Launch) (y : MethodName) (ws : List Cond) (rm : Room) (D : va_G) (cl : List vw_C) (tys : List (ClassId × FieldType)) (dd mi : Nat) (av : List Value) (w : va_W) (P1 : Int32 → va_W → Prop) : Prop := ∀ sz, Met l y ws rm (va_Pc av (fun U => jPre D cl tys w sz U ∧ jX dd mi (va_A w sz) U)) (va_Qi P1 (fun w1 => jB D cl tys (va_A w sz) w1) (va_A w sz)) rm.cells rm.slots (va_A w sz)
def JXl (l : Launch) (y : MethodName) (ws : List Cond) (rm : Room) (D : va_G) (cl : List vw_C) (tys : List (ClassId × FieldType)) (dd mi : Nat) (av : List Value) (w : va_W) (P1 : Int64 → va_W → Prop) : Prop := ∀ sz, Met l y ws rm (va_Pc av (fun U => jPre D cl tys w sz U ∧ jX dd mi (va_A w sz) U)) (va_Ql P1 (fun w1 => jB D cl tys (va_A w sz) w1) (va_A w sz)) rm.cells rm.slots (va_A w sz)
def JXv (l : Launch) (y : MethodName) (ws : List Cond) (rm : Room) (D : va_G) (cl : List vw_C) (tys : List (ClassId × FieldType)) (dd mi : Nat) (av : List Value) (w : va_W) (P1 : va_W → Prop) : Prop := ∀ sz, Met l y ws rm (va_Pc av (fun U => jPre D cl tys w sz U ∧ jX dd mi (va_A w sz) U)) (va_Qv P1 (fun w1 => jB D cl tys (va_A w sz) w1) (va_A w sz)) rm.cells rm.slots (va_A w sz)
def JXq (l : Launch) (y : MethodName) (ws : List Cond) (rm : Room) (D : va_G) (cl : List vw_C) (tys : List (ClassId × FieldType)) (dd mi : Nat) (av : List Value) (w : va_W) (P1 : Option Nat → va_W → Prop) : Prop := ∀ sz, Met l y ws rm (va_Pc av (fun U => jPre D cl tys w sz U ∧ jX dd mi (va_A w sz) U)) (va_Qq P1 (fun w1 => jB D cl tys (va_A w sz) w1) (va_A w sz)) rm.cells rm.slots (va_A w sz)
theorem jXPre_blind {av : List Value} {D : va_G} {cl : List vw_C} {tys : List (ClassId × FieldType)} {dd mi : Nat} {w : va_W} {sz : Nat} : FrameBlind (va_Pc av (fun U => jPre D cl tys w sz U ∧ jX dd mi (va_A w sz) U)) := fun a U g mk q => by
  obtain ⟨q0, ⟨q1, qP, qK, qD⟩, qX⟩ := q
  exact ⟨q0, ⟨q1, qP, va_K.moved (u := U) (U := U.calling g mk a) (Vm.Alike.refl U.vm) qK, qD⟩, jX_calling qX⟩
section JXOF
variable {l : Launch} {y : MethodName} {ws ws' : List Cond} {rm : Room} {D : va_G} {cl : List vw_C} {tys : List (ClassId × FieldType)} {dd mi : Nat} {av : List Value} {w : va_W} {cc : ByteArray} {maxL : Nat} {rt : FieldType}
theorem JXi.of {P1 : Int32 → va_W → Prop} (hy : plainName y.cls = true) (hw : ws = Cond.code y cc maxL (some rt) :: ws') (hle : (lg_sl av).length ≤ maxL)
    (body : ∀ (p : Program) (e : Env) (s : State) (m : MethodId) (args : Array Value) (below : List Frame) (meth : Method) (c : Code) (A : Nat → Prop) (ls : Array Slot) (Q : State → Prop), jC p s m meth c cc maxL args ws y (some rt) → va_K D cl tys s → jX dd mi A s → (∀ q, s.heap.size ≤ q → A q) →
      (∀ {r : Int32} {w1 : va_W} {H : Heap} {locs : List Loc} {pc : Nat} {ls : Array Slot}, P1 r w1 → jS D cl A w1 s.heap H locs → narrow rt (.int r) = .int r → decode cc pc = .ok (.ireturn, 1) → W p l e rm s m args below meth c H locs rm.cells rm.slots Q (F0 m pc ls [.int r])) → jS D cl A w s.heap s.heap [] → lv_has ls maxL (lv_args 0 av) → W p l e rm s m args below meth c s.heap [] 0 0 Q (F0 m 0 ls [])) : JXi l y ws rm D cl tys dd mi av w P1 := by
  intro sz
  refine Met.ofW (cc := cc) (maxL := maxL) (ret := (some rt)) hy hw ?_
  intro p e s m args below meth c s₁ B hml hv
  obtain ⟨rfl, ⟨hsz, hP, hK, hD0⟩, hX⟩ := hv
  subst hsz
  rw [lg_entry_eq]
  have C : jC p s m meth c cc maxL av.toArray ws y (some rt) := ⟨⟨B.exec, B.bytes, hml, findClass_of_methodNamed B.named, atoms_spec (ws := ws) B.pre⟩, B.returns, B.notSynchronized, (name_of_methodNamed B.named B.method).1⟩
  exact body p e s m av.toArray below meth c (va_A w s.heap.size) _ _ C hK hX (fun q h => Or.inr h) (fun {r w1 H locs pc ls} hp hS hn hd => W.zret C.1.1 C.1.2.1 C.2.1 hn (fun t ht hW => ⟨⟨r, w1, rfl, hp, by rw [ht]; exact hS.1, va_K.moved hW.alike hK, hS.2.1⟩, hS.2.2.F ht⟩) hS.2.2.2.2 hd C.2.2.1) ⟨hP, hD0.self (sz := s.heap.size), va_S.rf⟩ (lv_entry av hle)
theorem JXv.of {P1 : va_W → Prop} (hy : plainName y.cls = true) (hw : ws = Cond.code y cc maxL none :: ws') (hle : (lg_sl av).length ≤ maxL)
    (body : ∀ (p : Program) (e : Env) (s : State) (m : MethodId) (args : Array Value) (below : List Frame) (meth : Method) (c : Code) (A : Nat → Prop) (ls : Array Slot) (Q : State → Prop), jC p s m meth c cc maxL args ws y none → va_K D cl tys s → jX dd mi A s → (∀ q, s.heap.size ≤ q → A q) →
      (∀ {w1 : va_W} {H : Heap} {locs : List Loc} {pc : Nat} {ls : Array Slot}, P1 w1 → jS D cl A w1 s.heap H locs → decode cc pc = .ok (.return_, 1) → W p l e rm s m args below meth c H locs rm.cells rm.slots Q (F0 m pc ls [])) → jS D cl A w s.heap s.heap [] → lv_has ls maxL (lv_args 0 av) → W p l e rm s m args below meth c s.heap [] 0 0 Q (F0 m 0 ls [])) : JXv l y ws rm D cl tys dd mi av w P1 := by
  intro sz
  refine Met.ofW (cc := cc) (maxL := maxL) (ret := none) hy hw ?_
  intro p e s m args below meth c s₁ B hml hv
  obtain ⟨rfl, ⟨hsz, hP, hK, hD0⟩, hX⟩ := hv
  subst hsz
  rw [lg_entry_eq]
  have C : jC p s m meth c cc maxL av.toArray ws y none := ⟨⟨B.exec, B.bytes, hml, findClass_of_methodNamed B.named, atoms_spec (ws := ws) B.pre⟩, B.returns, B.notSynchronized, (name_of_methodNamed B.named B.method).1⟩
  exact body p e s m av.toArray below meth c (va_A w s.heap.size) _ _ C hK hX (fun q h => Or.inr h) (fun {w1 H locs pc ls} hp hS hd => W.vret C.1.1 C.1.2.1 C.2.1 (fun t ht hW => ⟨⟨w1, rfl, hp, by rw [ht]; exact hS.1, va_K.moved hW.alike hK, hS.2.1⟩, hS.2.2.F ht⟩) hS.2.2.2.2 hd C.2.2.1) ⟨hP, hD0.self (sz := s.heap.size), va_S.rf⟩ (lv_entry av hle)
theorem JXq.of {P1 : Option Nat → va_W → Prop} (hy : plainName y.cls = true) (hw : ws = Cond.code y cc maxL (some rt) :: ws') (hle : (lg_sl av).length ≤ maxL)
    (body : ∀ (p : Program) (e : Env) (s : State) (m : MethodId) (args : Array Value) (below : List Frame) (meth : Method) (c : Code) (A : Nat → Prop) (ls : Array Slot) (Q : State → Prop), jC p s m meth c cc maxL args ws y (some rt) → va_K D cl tys s → jX dd mi A s → (∀ q, s.heap.size ≤ q → A q) →
      (∀ {r : Option Nat} {w1 : va_W} {H : Heap} {locs : List Loc} {pc : Nat} {ls : Array Slot}, P1 r w1 → jS D cl A w1 s.heap H locs → ((∃ n, rt = .object n) ∨ ∃ t, rt = .array t) → decode cc pc = .ok (.areturn, 1) → W p l e rm s m args below meth c H locs rm.cells rm.slots Q (F0 m pc ls [va_rf r])) → jS D cl A w s.heap s.heap [] → lv_has ls maxL (lv_args 0 av) → W p l e rm s m args below meth c s.heap [] 0 0 Q (F0 m 0 ls [])) : JXq l y ws rm D cl tys dd mi av w P1 := by
  intro sz
  refine Met.ofW (cc := cc) (maxL := maxL) (ret := (some rt)) hy hw ?_
  intro p e s m args below meth c s₁ B hml hv
  obtain ⟨rfl, ⟨hsz, hP, hK, hD0⟩, hX⟩ := hv
  subst hsz
  rw [lg_entry_eq]
  have C : jC p s m meth c cc maxL av.toArray ws y (some rt) := ⟨⟨B.exec, B.bytes, hml, findClass_of_methodNamed B.named, atoms_spec (ws := ws) B.pre⟩, B.returns, B.notSynchronized, (name_of_methodNamed B.named B.method).1⟩
  exact body p e s m av.toArray below meth c (va_A w s.heap.size) _ _ C hK hX (fun q h => Or.inr h) (fun {r w1 H locs pc ls} hp hS hn hd => W.aret C.1.1 C.1.2.1 C.2.1 hn (va_rf_or r) (fun t ht hW => ⟨⟨r, w1, rfl, hp, by rw [ht]; exact hS.1, va_K.moved hW.alike hK, hS.2.1⟩, hS.2.2.F ht⟩) hS.2.2.2.2 hd C.2.2.1) ⟨hP, hD0.self (sz := s.heap.size), va_S.rf⟩ (lv_entry av hle)
end JXOF
section JXCALL
variable {p : Program} {l : Launch} {e : Env} {R : Room} {s : State} {m : MethodId} {args : Array Value} {below : List Frame} {meth : Method} {c : Code} {H : Heap} {locs : List Loc} {cells slots : Nat} {Q : State → Prop}
variable {cc : ByteArray} {pc nL : Nat} {ls : Array Slot} {rest : List Value} {D : va_G} {cl : List vw_C} {A : Nat → Prop} {tys : List (ClassId × FieldType)} {dd mi : Nat} {w wc wr : va_W} {Ts : List Cond} {y0 : MethodName} {rtt : Option FieldType}
variable {index maxL n b q0 ci : Nat} {y : MethodName} {bytes : ByteArray} {ret : Option FieldType} {ws : List Cond} {rm : Room} {As st0 : List Value} {vc : vw_C} {fs : List Value}
theorem j_XVip {P1 : Int32 → va_W → Prop} (C : jC p s m meth c cc nL args Ts y0 rtt) (hK : va_K D cl tys s) (hX : jX dd mi A s) (hA : ∀ q, s.heap.size ≤ q → A q) (hS : jS D cl A w s.heap H locs) (hp : w.Perm (wc ++ wr)) (hM : JXi l y ws rm D cl tys dd mi (.ref b :: As) wc P1)
    (cw : CallW R s args y0.cls vc.1 index y bytes maxL ret ws rm rm.cells rm.slots n) (hq : wc[q0]? = some (b, .inr (ci, fs))) (hc : cl[ci]? = some vc) (hn : As.length = n) (hsz : ls.size = nL) (hst : st0 = As.reverse ++ .ref b :: rest) (hW : (rest.map fun v => v.category).sum ≤ 8) (hdg : decode cc pc = .ok (.invokevirtual index, 3)) (hf : cells + rm.cells ≤ R.cells ∧ slots + rm.slots ≤ R.slots)
    (kk : ∀ (r : Int32) (w1 : va_W) (H1 : Heap) (locs1 : List Loc), P1 r w1 → jS D cl A (w1 ++ wr) s.heap H1 locs1 → W p l e R s m args below meth c H1 locs1 (cells + rm.cells) (slots + rm.slots) Q (F0 m (pc + 3) ls (.int r :: rest))) : W p l e R s m args below meth c H locs cells slots Q (F0 m pc ls st0) := by
  obtain ⟨⟨hPc, hDc⟩, hF, hJ⟩ : (va_P D cl wc H ∧ va_D (fun _ => True) wc) ∧ (∀ q, va_A wc H.size q → A q) ∧ ∀ (w1 : va_W) (H1 : Heap) (locs1 : List Loc), (∀ q : Nat, q < H.size → ¬ va_A wc H.size q → H1[q]? = H[q]?) → va_P D cl w1 H1 → va_D (va_A wc H.size) w1 → va_S A s.heap H1 locs1 → jS D cl A (w1 ++ wr) s.heap H1 locs1 := by
    have k0 := jcut_perm (w1 := []) hA hS hp
    exact ⟨k0.1, k0.2.1, fun w1 => (jcut_perm (w1 := w1) hA hS hp).2.2⟩
  subst hst
  refine va_calli (va_runV (As := As) (rest := rest) C.1 (hM H.size) cw ⟨jXPre_blind, va_recv hK hPc hc hq, fun U hU hWm => ⟨rfl, ⟨by rw [hU], by rw [hU]; exact hPc, va_K.moved hWm.alike hK, hDc⟩, jX_step hX hS.2.2 hF hU hWm⟩⟩ rfl hn hsz rfl (lv_room hW) hdg hf) hS.2.2 (fun q _ h => hF q h) hF (fun r' u t H1 locs1 ht hvm hw hB hz hk hS1 => ?_)
  exact kk r' u H1 locs1 hw (hJ u H1 locs1 hk (by rw [← ht]; exact hB.1) hB.2.2 hS1)
theorem j_XVi {P1 : Int32 → va_W → Prop} (C : jC p s m meth c cc nL args Ts y0 rtt) (hK : va_K D cl tys s) (hX : jX dd mi A s) (hA : ∀ q, s.heap.size ≤ q → A q) (hS : jS D cl A w s.heap H locs) (hM : JXi l y ws rm D cl tys dd mi (.ref b :: As) w P1)
    (cw : CallW R s args y0.cls vc.1 index y bytes maxL ret ws rm rm.cells rm.slots n) (hq : w[q0]? = some (b, .inr (ci, fs))) (hc : cl[ci]? = some vc) (hn : As.length = n) (hsz : ls.size = nL) (hst : st0 = As.reverse ++ .ref b :: rest) (hW : (rest.map fun v => v.category).sum ≤ 8) (hdg : decode cc pc = .ok (.invokevirtual index, 3)) (hf : cells + rm.cells ≤ R.cells ∧ slots + rm.slots ≤ R.slots)
    (kk : ∀ (r : Int32) (w1 : va_W) (H1 : Heap) (locs1 : List Loc), P1 r w1 → jS D cl A w1 s.heap H1 locs1 → W p l e R s m args below meth c H1 locs1 (cells + rm.cells) (slots + rm.slots) Q (F0 m (pc + 3) ls (.int r :: rest))) : W p l e R s m args below meth c H locs cells slots Q (F0 m pc ls st0) := by
  obtain ⟨⟨hPc, hDc⟩, hF, hJ⟩ : (va_P D cl w H ∧ va_D (fun _ => True) w) ∧ (∀ q, va_A w H.size q → A q) ∧ ∀ (w1 : va_W) (H1 : Heap) (locs1 : List Loc), (∀ q : Nat, q < H.size → ¬ va_A w H.size q → H1[q]? = H[q]?) → va_P D cl w1 H1 → va_D (va_A w H.size) w1 → va_S A s.heap H1 locs1 → jS D cl A w1 s.heap H1 locs1 := by
    have k0 := jcut_all (w1 := []) hA hS
    exact ⟨k0.1, k0.2.1, fun w1 => (jcut_all (w1 := w1) hA hS).2.2⟩
  subst hst
  refine va_calli (va_runV (As := As) (rest := rest) C.1 (hM H.size) cw ⟨jXPre_blind, va_recv hK hPc hc hq, fun U hU hWm => ⟨rfl, ⟨by rw [hU], by rw [hU]; exact hPc, va_K.moved hWm.alike hK, hDc⟩, jX_step hX hS.2.2 hF hU hWm⟩⟩ rfl hn hsz rfl (lv_room hW) hdg hf) hS.2.2 (fun q _ h => hF q h) hF (fun r' u t H1 locs1 ht hvm hw hB hz hk hS1 => ?_)
  exact kk r' u H1 locs1 hw (hJ u H1 locs1 hk (by rw [← ht]; exact hB.1) hB.2.2 hS1)
theorem j_XSip {P1 : Int32 → va_W → Prop} (C : jC p s m meth c cc nL args Ts y0 rtt) (hK : va_K D cl tys s) (hX : jX dd mi A s) (hA : ∀ q, s.heap.size ≤ q → A q) (hS : jS D cl A w s.heap H locs) (hp : w.Perm (wc ++ wr)) (hM : JXi l y ws rm D cl tys dd mi As wc P1)
    (cw : CallB R s args y0.cls index y bytes maxL ret ws rm rm.cells rm.slots n ∧ (Cond.static y).before args s = true) (hn : As.length = n) (hsz : ls.size = nL) (hst : st0 = As.reverse ++ rest) (hW : (rest.map fun v => v.category).sum ≤ 8) (hdg : decode cc pc = .ok (.invokestatic index, 3)) (hf : cells + rm.cells ≤ R.cells ∧ slots + rm.slots ≤ R.slots)
    (kk : ∀ (r : Int32) (w1 : va_W) (H1 : Heap) (locs1 : List Loc), P1 r w1 → jS D cl A (w1 ++ wr) s.heap H1 locs1 → W p l e R s m args below meth c H1 locs1 (cells + rm.cells) (slots + rm.slots) Q (F0 m (pc + 3) ls (.int r :: rest))) : W p l e R s m args below meth c H locs cells slots Q (F0 m pc ls st0) := by
  obtain ⟨⟨hPc, hDc⟩, hF, hJ⟩ : (va_P D cl wc H ∧ va_D (fun _ => True) wc) ∧ (∀ q, va_A wc H.size q → A q) ∧ ∀ (w1 : va_W) (H1 : Heap) (locs1 : List Loc), (∀ q : Nat, q < H.size → ¬ va_A wc H.size q → H1[q]? = H[q]?) → va_P D cl w1 H1 → va_D (va_A wc H.size) w1 → va_S A s.heap H1 locs1 → jS D cl A (w1 ++ wr) s.heap H1 locs1 := by
    have k0 := jcut_perm (w1 := []) hA hS hp
    exact ⟨k0.1, k0.2.1, fun w1 => (jcut_perm (w1 := w1) hA hS hp).2.2⟩
  subst hst
  refine va_calli (va_runS (As := As) (rest := rest) C.1 (hM H.size) cw ⟨jXPre_blind, fun U hU hWm => ⟨rfl, ⟨by rw [hU], by rw [hU]; exact hPc, va_K.moved hWm.alike hK, hDc⟩, jX_step hX hS.2.2 hF hU hWm⟩⟩ rfl hn hsz rfl (lv_room hW) hdg hf) hS.2.2 (fun q _ h => hF q h) hF (fun r' u t H1 locs1 ht hvm hw hB hz hk hS1 => ?_)
  exact kk r' u H1 locs1 hw (hJ u H1 locs1 hk (by rw [← ht]; exact hB.1) hB.2.2 hS1)
theorem j_XSi {P1 : Int32 → va_W → Prop} (C : jC p s m meth c cc nL args Ts y0 rtt) (hK : va_K D cl tys s) (hX : jX dd mi A s) (hA : ∀ q, s.heap.size ≤ q → A q) (hS : jS D cl A w s.heap H locs) (hM : JXi l y ws rm D cl tys dd mi As w P1)
    (cw : CallB R s args y0.cls index y bytes maxL ret ws rm rm.cells rm.slots n ∧ (Cond.static y).before args s = true) (hn : As.length = n) (hsz : ls.size = nL) (hst : st0 = As.reverse ++ rest) (hW : (rest.map fun v => v.category).sum ≤ 8) (hdg : decode cc pc = .ok (.invokestatic index, 3)) (hf : cells + rm.cells ≤ R.cells ∧ slots + rm.slots ≤ R.slots)
    (kk : ∀ (r : Int32) (w1 : va_W) (H1 : Heap) (locs1 : List Loc), P1 r w1 → jS D cl A w1 s.heap H1 locs1 → W p l e R s m args below meth c H1 locs1 (cells + rm.cells) (slots + rm.slots) Q (F0 m (pc + 3) ls (.int r :: rest))) : W p l e R s m args below meth c H locs cells slots Q (F0 m pc ls st0) := by
  obtain ⟨⟨hPc, hDc⟩, hF, hJ⟩ : (va_P D cl w H ∧ va_D (fun _ => True) w) ∧ (∀ q, va_A w H.size q → A q) ∧ ∀ (w1 : va_W) (H1 : Heap) (locs1 : List Loc), (∀ q : Nat, q < H.size → ¬ va_A w H.size q → H1[q]? = H[q]?) → va_P D cl w1 H1 → va_D (va_A w H.size) w1 → va_S A s.heap H1 locs1 → jS D cl A w1 s.heap H1 locs1 := by
    have k0 := jcut_all (w1 := []) hA hS
    exact ⟨k0.1, k0.2.1, fun w1 => (jcut_all (w1 := w1) hA hS).2.2⟩
  subst hst
  refine va_calli (va_runS (As := As) (rest := rest) C.1 (hM H.size) cw ⟨jXPre_blind, fun U hU hWm => ⟨rfl, ⟨by rw [hU], by rw [hU]; exact hPc, va_K.moved hWm.alike hK, hDc⟩, jX_step hX hS.2.2 hF hU hWm⟩⟩ rfl hn hsz rfl (lv_room hW) hdg hf) hS.2.2 (fun q _ h => hF q h) hF (fun r' u t H1 locs1 ht hvm hw hB hz hk hS1 => ?_)
  exact kk r' u H1 locs1 hw (hJ u H1 locs1 hk (by rw [← ht]; exact hB.1) hB.2.2 hS1)
theorem j_XVvp {P1 : va_W → Prop} (C : jC p s m meth c cc nL args Ts y0 rtt) (hK : va_K D cl tys s) (hX : jX dd mi A s) (hA : ∀ q, s.heap.size ≤ q → A q) (hS : jS D cl A w s.heap H locs) (hp : w.Perm (wc ++ wr)) (hM : JXv l y ws rm D cl tys dd mi (.ref b :: As) wc P1)
    (cw : CallW R s args y0.cls vc.1 index y bytes maxL ret ws rm rm.cells rm.slots n) (hq : wc[q0]? = some (b, .inr (ci, fs))) (hc : cl[ci]? = some vc) (hn : As.length = n) (hsz : ls.size = nL) (hst : st0 = As.reverse ++ .ref b :: rest) (hW : (rest.map fun v => v.category).sum ≤ 8) (hdg : decode cc pc = .ok (.invokevirtual index, 3)) (hf : cells + rm.cells ≤ R.cells ∧ slots + rm.slots ≤ R.slots)
    (kk : ∀ (w1 : va_W) (H1 : Heap) (locs1 : List Loc), P1 w1 → jS D cl A (w1 ++ wr) s.heap H1 locs1 → W p l e R s m args below meth c H1 locs1 (cells + rm.cells) (slots + rm.slots) Q (F0 m (pc + 3) ls rest)) : W p l e R s m args below meth c H locs cells slots Q (F0 m pc ls st0) := by
  obtain ⟨⟨hPc, hDc⟩, hF, hJ⟩ : (va_P D cl wc H ∧ va_D (fun _ => True) wc) ∧ (∀ q, va_A wc H.size q → A q) ∧ ∀ (w1 : va_W) (H1 : Heap) (locs1 : List Loc), (∀ q : Nat, q < H.size → ¬ va_A wc H.size q → H1[q]? = H[q]?) → va_P D cl w1 H1 → va_D (va_A wc H.size) w1 → va_S A s.heap H1 locs1 → jS D cl A (w1 ++ wr) s.heap H1 locs1 := by
    have k0 := jcut_perm (w1 := []) hA hS hp
    exact ⟨k0.1, k0.2.1, fun w1 => (jcut_perm (w1 := w1) hA hS hp).2.2⟩
  subst hst
  refine va_callv (va_runV (As := As) (rest := rest) C.1 (hM H.size) cw ⟨jXPre_blind, va_recv hK hPc hc hq, fun U hU hWm => ⟨rfl, ⟨by rw [hU], by rw [hU]; exact hPc, va_K.moved hWm.alike hK, hDc⟩, jX_step hX hS.2.2 hF hU hWm⟩⟩ rfl hn hsz rfl (lv_room hW) hdg hf) hS.2.2 (fun q _ h => hF q h) hF (fun u t H1 locs1 ht hvm hw hB hz hk hS1 => ?_)
  exact kk u H1 locs1 hw (hJ u H1 locs1 hk (by rw [← ht]; exact hB.1) hB.2.2 hS1)
theorem j_XVv {P1 : va_W → Prop} (C : jC p s m meth c cc nL args Ts y0 rtt) (hK : va_K D cl tys s) (hX : jX dd mi A s) (hA : ∀ q, s.heap.size ≤ q → A q) (hS : jS D cl A w s.heap H locs) (hM : JXv l y ws rm D cl tys dd mi (.ref b :: As) w P1)
    (cw : CallW R s args y0.cls vc.1 index y bytes maxL ret ws rm rm.cells rm.slots n) (hq : w[q0]? = some (b, .inr (ci, fs))) (hc : cl[ci]? = some vc) (hn : As.length = n) (hsz : ls.size = nL) (hst : st0 = As.reverse ++ .ref b :: rest) (hW : (rest.map fun v => v.category).sum ≤ 8) (hdg : decode cc pc = .ok (.invokevirtual index, 3)) (hf : cells + rm.cells ≤ R.cells ∧ slots + rm.slots ≤ R.slots)
    (kk : ∀ (w1 : va_W) (H1 : Heap) (locs1 : List Loc), P1 w1 → jS D cl A w1 s.heap H1 locs1 → W p l e R s m args below meth c H1 locs1 (cells + rm.cells) (slots + rm.slots) Q (F0 m (pc + 3) ls rest)) : W p l e R s m args below meth c H locs cells slots Q (F0 m pc ls st0) := by
  obtain ⟨⟨hPc, hDc⟩, hF, hJ⟩ : (va_P D cl w H ∧ va_D (fun _ => True) w) ∧ (∀ q, va_A w H.size q → A q) ∧ ∀ (w1 : va_W) (H1 : Heap) (locs1 : List Loc), (∀ q : Nat, q < H.size → ¬ va_A w H.size q → H1[q]? = H[q]?) → va_P D cl w1 H1 → va_D (va_A w H.size) w1 → va_S A s.heap H1 locs1 → jS D cl A w1 s.heap H1 locs1 := by
    have k0 := jcut_all (w1 := []) hA hS
    exact ⟨k0.1, k0.2.1, fun w1 => (jcut_all (w1 := w1) hA hS).2.2⟩
  subst hst
  refine va_callv (va_runV (As := As) (rest := rest) C.1 (hM H.size) cw ⟨jXPre_blind, va_recv hK hPc hc hq, fun U hU hWm => ⟨rfl, ⟨by rw [hU], by rw [hU]; exact hPc, va_K.moved hWm.alike hK, hDc⟩, jX_step hX hS.2.2 hF hU hWm⟩⟩ rfl hn hsz rfl (lv_room hW) hdg hf) hS.2.2 (fun q _ h => hF q h) hF (fun u t H1 locs1 ht hvm hw hB hz hk hS1 => ?_)
  exact kk u H1 locs1 hw (hJ u H1 locs1 hk (by rw [← ht]; exact hB.1) hB.2.2 hS1)
theorem j_XSvp {P1 : va_W → Prop} (C : jC p s m meth c cc nL args Ts y0 rtt) (hK : va_K D cl tys s) (hX : jX dd mi A s) (hA : ∀ q, s.heap.size ≤ q → A q) (hS : jS D cl A w s.heap H locs) (hp : w.Perm (wc ++ wr)) (hM : JXv l y ws rm D cl tys dd mi As wc P1)
    (cw : CallB R s args y0.cls index y bytes maxL ret ws rm rm.cells rm.slots n ∧ (Cond.static y).before args s = true) (hn : As.length = n) (hsz : ls.size = nL) (hst : st0 = As.reverse ++ rest) (hW : (rest.map fun v => v.category).sum ≤ 8) (hdg : decode cc pc = .ok (.invokestatic index, 3)) (hf : cells + rm.cells ≤ R.cells ∧ slots + rm.slots ≤ R.slots)
    (kk : ∀ (w1 : va_W) (H1 : Heap) (locs1 : List Loc), P1 w1 → jS D cl A (w1 ++ wr) s.heap H1 locs1 → W p l e R s m args below meth c H1 locs1 (cells + rm.cells) (slots + rm.slots) Q (F0 m (pc + 3) ls rest)) : W p l e R s m args below meth c H locs cells slots Q (F0 m pc ls st0) := by
  obtain ⟨⟨hPc, hDc⟩, hF, hJ⟩ : (va_P D cl wc H ∧ va_D (fun _ => True) wc) ∧ (∀ q, va_A wc H.size q → A q) ∧ ∀ (w1 : va_W) (H1 : Heap) (locs1 : List Loc), (∀ q : Nat, q < H.size → ¬ va_A wc H.size q → H1[q]? = H[q]?) → va_P D cl w1 H1 → va_D (va_A wc H.size) w1 → va_S A s.heap H1 locs1 → jS D cl A (w1 ++ wr) s.heap H1 locs1 := by
    have k0 := jcut_perm (w1 := []) hA hS hp
    exact ⟨k0.1, k0.2.1, fun w1 => (jcut_perm (w1 := w1) hA hS hp).2.2⟩
  subst hst
  refine va_callv (va_runS (As := As) (rest := rest) C.1 (hM H.size) cw ⟨jXPre_blind, fun U hU hWm => ⟨rfl, ⟨by rw [hU], by rw [hU]; exact hPc, va_K.moved hWm.alike hK, hDc⟩, jX_step hX hS.2.2 hF hU hWm⟩⟩ rfl hn hsz rfl (lv_room hW) hdg hf) hS.2.2 (fun q _ h => hF q h) hF (fun u t H1 locs1 ht hvm hw hB hz hk hS1 => ?_)
  exact kk u H1 locs1 hw (hJ u H1 locs1 hk (by rw [← ht]; exact hB.1) hB.2.2 hS1)
theorem j_XSv {P1 : va_W → Prop} (C : jC p s m meth c cc nL args Ts y0 rtt) (hK : va_K D cl tys s) (hX : jX dd mi A s) (hA : ∀ q, s.heap.size ≤ q → A q) (hS : jS D cl A w s.heap H locs) (hM : JXv l y ws rm D cl tys dd mi As w P1)
    (cw : CallB R s args y0.cls index y bytes maxL ret ws rm rm.cells rm.slots n ∧ (Cond.static y).before args s = true) (hn : As.length = n) (hsz : ls.size = nL) (hst : st0 = As.reverse ++ rest) (hW : (rest.map fun v => v.category).sum ≤ 8) (hdg : decode cc pc = .ok (.invokestatic index, 3)) (hf : cells + rm.cells ≤ R.cells ∧ slots + rm.slots ≤ R.slots)
    (kk : ∀ (w1 : va_W) (H1 : Heap) (locs1 : List Loc), P1 w1 → jS D cl A w1 s.heap H1 locs1 → W p l e R s m args below meth c H1 locs1 (cells + rm.cells) (slots + rm.slots) Q (F0 m (pc + 3) ls rest)) : W p l e R s m args below meth c H locs cells slots Q (F0 m pc ls st0) := by
  obtain ⟨⟨hPc, hDc⟩, hF, hJ⟩ : (va_P D cl w H ∧ va_D (fun _ => True) w) ∧ (∀ q, va_A w H.size q → A q) ∧ ∀ (w1 : va_W) (H1 : Heap) (locs1 : List Loc), (∀ q : Nat, q < H.size → ¬ va_A w H.size q → H1[q]? = H[q]?) → va_P D cl w1 H1 → va_D (va_A w H.size) w1 → va_S A s.heap H1 locs1 → jS D cl A w1 s.heap H1 locs1 := by
    have k0 := jcut_all (w1 := []) hA hS
    exact ⟨k0.1, k0.2.1, fun w1 => (jcut_all (w1 := w1) hA hS).2.2⟩
  subst hst
  refine va_callv (va_runS (As := As) (rest := rest) C.1 (hM H.size) cw ⟨jXPre_blind, fun U hU hWm => ⟨rfl, ⟨by rw [hU], by rw [hU]; exact hPc, va_K.moved hWm.alike hK, hDc⟩, jX_step hX hS.2.2 hF hU hWm⟩⟩ rfl hn hsz rfl (lv_room hW) hdg hf) hS.2.2 (fun q _ h => hF q h) hF (fun u t H1 locs1 ht hvm hw hB hz hk hS1 => ?_)
  exact kk u H1 locs1 hw (hJ u H1 locs1 hk (by rw [← ht]; exact hB.1) hB.2.2 hS1)
theorem j_XVqp {P1 : Option Nat → va_W → Prop} (C : jC p s m meth c cc nL args Ts y0 rtt) (hK : va_K D cl tys s) (hX : jX dd mi A s) (hA : ∀ q, s.heap.size ≤ q → A q) (hS : jS D cl A w s.heap H locs) (hp : w.Perm (wc ++ wr)) (hM : JXq l y ws rm D cl tys dd mi (.ref b :: As) wc P1)
    (cw : CallW R s args y0.cls vc.1 index y bytes maxL ret ws rm rm.cells rm.slots n) (hq : wc[q0]? = some (b, .inr (ci, fs))) (hc : cl[ci]? = some vc) (hn : As.length = n) (hsz : ls.size = nL) (hst : st0 = As.reverse ++ .ref b :: rest) (hW : (rest.map fun v => v.category).sum ≤ 8) (hdg : decode cc pc = .ok (.invokevirtual index, 3)) (hf : cells + rm.cells ≤ R.cells ∧ slots + rm.slots ≤ R.slots)
    (kk : ∀ (r : Option Nat) (w1 : va_W) (H1 : Heap) (locs1 : List Loc), P1 r w1 → jS D cl A (w1 ++ wr) s.heap H1 locs1 → W p l e R s m args below meth c H1 locs1 (cells + rm.cells) (slots + rm.slots) Q (F0 m (pc + 3) ls (va_rf r :: rest))) : W p l e R s m args below meth c H locs cells slots Q (F0 m pc ls st0) := by
  obtain ⟨⟨hPc, hDc⟩, hF, hJ⟩ : (va_P D cl wc H ∧ va_D (fun _ => True) wc) ∧ (∀ q, va_A wc H.size q → A q) ∧ ∀ (w1 : va_W) (H1 : Heap) (locs1 : List Loc), (∀ q : Nat, q < H.size → ¬ va_A wc H.size q → H1[q]? = H[q]?) → va_P D cl w1 H1 → va_D (va_A wc H.size) w1 → va_S A s.heap H1 locs1 → jS D cl A (w1 ++ wr) s.heap H1 locs1 := by
    have k0 := jcut_perm (w1 := []) hA hS hp
    exact ⟨k0.1, k0.2.1, fun w1 => (jcut_perm (w1 := w1) hA hS hp).2.2⟩
  subst hst
  refine va_callq (va_runV (As := As) (rest := rest) C.1 (hM H.size) cw ⟨jXPre_blind, va_recv hK hPc hc hq, fun U hU hWm => ⟨rfl, ⟨by rw [hU], by rw [hU]; exact hPc, va_K.moved hWm.alike hK, hDc⟩, jX_step hX hS.2.2 hF hU hWm⟩⟩ rfl hn hsz rfl (lv_room hW) hdg hf) hS.2.2 (fun q _ h => hF q h) hF (fun r' u t H1 locs1 ht hvm hw hB hz hk hS1 => ?_)
  exact kk r' u H1 locs1 hw (hJ u H1 locs1 hk (by rw [← ht]; exact hB.1) hB.2.2 hS1)
theorem j_XVq {P1 : Option Nat → va_W → Prop} (C : jC p s m meth c cc nL args Ts y0 rtt) (hK : va_K D cl tys s) (hX : jX dd mi A s) (hA : ∀ q, s.heap.size ≤ q → A q) (hS : jS D cl A w s.heap H locs) (hM : JXq l y ws rm D cl tys dd mi (.ref b :: As) w P1)
    (cw : CallW R s args y0.cls vc.1 index y bytes maxL ret ws rm rm.cells rm.slots n) (hq : w[q0]? = some (b, .inr (ci, fs))) (hc : cl[ci]? = some vc) (hn : As.length = n) (hsz : ls.size = nL) (hst : st0 = As.reverse ++ .ref b :: rest) (hW : (rest.map fun v => v.category).sum ≤ 8) (hdg : decode cc pc = .ok (.invokevirtual index, 3)) (hf : cells + rm.cells ≤ R.cells ∧ slots + rm.slots ≤ R.slots)
    (kk : ∀ (r : Option Nat) (w1 : va_W) (H1 : Heap) (locs1 : List Loc), P1 r w1 → jS D cl A w1 s.heap H1 locs1 → W p l e R s m args below meth c H1 locs1 (cells + rm.cells) (slots + rm.slots) Q (F0 m (pc + 3) ls (va_rf r :: rest))) : W p l e R s m args below meth c H locs cells slots Q (F0 m pc ls st0) := by
  obtain ⟨⟨hPc, hDc⟩, hF, hJ⟩ : (va_P D cl w H ∧ va_D (fun _ => True) w) ∧ (∀ q, va_A w H.size q → A q) ∧ ∀ (w1 : va_W) (H1 : Heap) (locs1 : List Loc), (∀ q : Nat, q < H.size → ¬ va_A w H.size q → H1[q]? = H[q]?) → va_P D cl w1 H1 → va_D (va_A w H.size) w1 → va_S A s.heap H1 locs1 → jS D cl A w1 s.heap H1 locs1 := by
    have k0 := jcut_all (w1 := []) hA hS
    exact ⟨k0.1, k0.2.1, fun w1 => (jcut_all (w1 := w1) hA hS).2.2⟩
  subst hst
  refine va_callq (va_runV (As := As) (rest := rest) C.1 (hM H.size) cw ⟨jXPre_blind, va_recv hK hPc hc hq, fun U hU hWm => ⟨rfl, ⟨by rw [hU], by rw [hU]; exact hPc, va_K.moved hWm.alike hK, hDc⟩, jX_step hX hS.2.2 hF hU hWm⟩⟩ rfl hn hsz rfl (lv_room hW) hdg hf) hS.2.2 (fun q _ h => hF q h) hF (fun r' u t H1 locs1 ht hvm hw hB hz hk hS1 => ?_)
  exact kk r' u H1 locs1 hw (hJ u H1 locs1 hk (by rw [← ht]; exact hB.1) hB.2.2 hS1)
theorem j_XSqp {P1 : Option Nat → va_W → Prop} (C : jC p s m meth c cc nL args Ts y0 rtt) (hK : va_K D cl tys s) (hX : jX dd mi A s) (hA : ∀ q, s.heap.size ≤ q → A q) (hS : jS D cl A w s.heap H locs) (hp : w.Perm (wc ++ wr)) (hM : JXq l y ws rm D cl tys dd mi As wc P1)
    (cw : CallB R s args y0.cls index y bytes maxL ret ws rm rm.cells rm.slots n ∧ (Cond.static y).before args s = true) (hn : As.length = n) (hsz : ls.size = nL) (hst : st0 = As.reverse ++ rest) (hW : (rest.map fun v => v.category).sum ≤ 8) (hdg : decode cc pc = .ok (.invokestatic index, 3)) (hf : cells + rm.cells ≤ R.cells ∧ slots + rm.slots ≤ R.slots)
    (kk : ∀ (r : Option Nat) (w1 : va_W) (H1 : Heap) (locs1 : List Loc), P1 r w1 → jS D cl A (w1 ++ wr) s.heap H1 locs1 → W p l e R s m args below meth c H1 locs1 (cells + rm.cells) (slots + rm.slots) Q (F0 m (pc + 3) ls (va_rf r :: rest))) : W p l e R s m args below meth c H locs cells slots Q (F0 m pc ls st0) := by
  obtain ⟨⟨hPc, hDc⟩, hF, hJ⟩ : (va_P D cl wc H ∧ va_D (fun _ => True) wc) ∧ (∀ q, va_A wc H.size q → A q) ∧ ∀ (w1 : va_W) (H1 : Heap) (locs1 : List Loc), (∀ q : Nat, q < H.size → ¬ va_A wc H.size q → H1[q]? = H[q]?) → va_P D cl w1 H1 → va_D (va_A wc H.size) w1 → va_S A s.heap H1 locs1 → jS D cl A (w1 ++ wr) s.heap H1 locs1 := by
    have k0 := jcut_perm (w1 := []) hA hS hp
    exact ⟨k0.1, k0.2.1, fun w1 => (jcut_perm (w1 := w1) hA hS hp).2.2⟩
  subst hst
  refine va_callq (va_runS (As := As) (rest := rest) C.1 (hM H.size) cw ⟨jXPre_blind, fun U hU hWm => ⟨rfl, ⟨by rw [hU], by rw [hU]; exact hPc, va_K.moved hWm.alike hK, hDc⟩, jX_step hX hS.2.2 hF hU hWm⟩⟩ rfl hn hsz rfl (lv_room hW) hdg hf) hS.2.2 (fun q _ h => hF q h) hF (fun r' u t H1 locs1 ht hvm hw hB hz hk hS1 => ?_)
  exact kk r' u H1 locs1 hw (hJ u H1 locs1 hk (by rw [← ht]; exact hB.1) hB.2.2 hS1)
theorem j_XSq {P1 : Option Nat → va_W → Prop} (C : jC p s m meth c cc nL args Ts y0 rtt) (hK : va_K D cl tys s) (hX : jX dd mi A s) (hA : ∀ q, s.heap.size ≤ q → A q) (hS : jS D cl A w s.heap H locs) (hM : JXq l y ws rm D cl tys dd mi As w P1)
    (cw : CallB R s args y0.cls index y bytes maxL ret ws rm rm.cells rm.slots n ∧ (Cond.static y).before args s = true) (hn : As.length = n) (hsz : ls.size = nL) (hst : st0 = As.reverse ++ rest) (hW : (rest.map fun v => v.category).sum ≤ 8) (hdg : decode cc pc = .ok (.invokestatic index, 3)) (hf : cells + rm.cells ≤ R.cells ∧ slots + rm.slots ≤ R.slots)
    (kk : ∀ (r : Option Nat) (w1 : va_W) (H1 : Heap) (locs1 : List Loc), P1 r w1 → jS D cl A w1 s.heap H1 locs1 → W p l e R s m args below meth c H1 locs1 (cells + rm.cells) (slots + rm.slots) Q (F0 m (pc + 3) ls (va_rf r :: rest))) : W p l e R s m args below meth c H locs cells slots Q (F0 m pc ls st0) := by
  obtain ⟨⟨hPc, hDc⟩, hF, hJ⟩ : (va_P D cl w H ∧ va_D (fun _ => True) w) ∧ (∀ q, va_A w H.size q → A q) ∧ ∀ (w1 : va_W) (H1 : Heap) (locs1 : List Loc), (∀ q : Nat, q < H.size → ¬ va_A w H.size q → H1[q]? = H[q]?) → va_P D cl w1 H1 → va_D (va_A w H.size) w1 → va_S A s.heap H1 locs1 → jS D cl A w1 s.heap H1 locs1 := by
    have k0 := jcut_all (w1 := []) hA hS
    exact ⟨k0.1, k0.2.1, fun w1 => (jcut_all (w1 := w1) hA hS).2.2⟩
  subst hst
  refine va_callq (va_runS (As := As) (rest := rest) C.1 (hM H.size) cw ⟨jXPre_blind, fun U hU hWm => ⟨rfl, ⟨by rw [hU], by rw [hU]; exact hPc, va_K.moved hWm.alike hK, hDc⟩, jX_step hX hS.2.2 hF hU hWm⟩⟩ rfl hn hsz rfl (lv_room hW) hdg hf) hS.2.2 (fun q _ h => hF q h) hF (fun r' u t H1 locs1 ht hvm hw hB hz hk hS1 => ?_)
  exact kk r' u H1 locs1 hw (hJ u H1 locs1 hk (by rw [← ht]; exact hB.1) hB.2.2 hS1)
theorem j_XIvp {P1 : va_W → Prop} (C : jC p s m meth c cc nL args Ts y0 rtt) (hK : va_K D cl tys s) (hX : jX dd mi A s) (hA : ∀ q, s.heap.size ≤ q → A q) (hS : jS D cl A w s.heap H locs) (hp : w.Perm (wc ++ wr)) (hM : JXv l y ws rm D cl tys dd mi (.ref b :: As) wc P1)
    (cw : CallB R s args y0.cls index y bytes maxL none ws rm rm.cells rm.slots n ∧ y.name = "<init>" ∧ (Cond.instanceMethod y).before args s = true) (hn : As.length = n) (hsz : ls.size = nL) (hst : st0 = As.reverse ++ .ref b :: rest) (hW : (rest.map fun v => v.category).sum ≤ 8) (hdg : decode cc pc = .ok (.invokespecial index, 3)) (hf : cells + rm.cells ≤ R.cells ∧ slots + rm.slots ≤ R.slots)
    (kk : ∀ (w1 : va_W) (H1 : Heap) (locs1 : List Loc), P1 w1 → jS D cl A (w1 ++ wr) s.heap H1 locs1 → W p l e R s m args below meth c H1 locs1 (cells + rm.cells) (slots + rm.slots) Q (F0 m (pc + 3) ls rest)) : W p l e R s m args below meth c H locs cells slots Q (F0 m pc ls st0) := by
  obtain ⟨⟨hPc, hDc⟩, hF, hJ⟩ : (va_P D cl wc H ∧ va_D (fun _ => True) wc) ∧ (∀ q, va_A wc H.size q → A q) ∧ ∀ (w1 : va_W) (H1 : Heap) (locs1 : List Loc), (∀ q : Nat, q < H.size → ¬ va_A wc H.size q → H1[q]? = H[q]?) → va_P D cl w1 H1 → va_D (va_A wc H.size) w1 → va_S A s.heap H1 locs1 → jS D cl A (w1 ++ wr) s.heap H1 locs1 := by
    have k0 := jcut_perm (w1 := []) hA hS hp
    exact ⟨k0.1, k0.2.1, fun w1 => (jcut_perm (w1 := w1) hA hS hp).2.2⟩
  subst hst
  refine va_callv (va_runI (As := As) (rest := rest) C.1 (hM H.size) cw ⟨jXPre_blind, fun U hU hWm => ⟨rfl, ⟨by rw [hU], by rw [hU]; exact hPc, va_K.moved hWm.alike hK, hDc⟩, jX_step hX hS.2.2 hF hU hWm⟩⟩ rfl hn hsz rfl (lv_room hW) hdg hf) hS.2.2 (fun q _ h => hF q h) hF (fun u t H1 locs1 ht hvm hw hB hz hk hS1 => ?_)
  exact kk u H1 locs1 hw (hJ u H1 locs1 hk (by rw [← ht]; exact hB.1) hB.2.2 hS1)
theorem j_XIv {P1 : va_W → Prop} (C : jC p s m meth c cc nL args Ts y0 rtt) (hK : va_K D cl tys s) (hX : jX dd mi A s) (hA : ∀ q, s.heap.size ≤ q → A q) (hS : jS D cl A w s.heap H locs) (hM : JXv l y ws rm D cl tys dd mi (.ref b :: As) w P1)
    (cw : CallB R s args y0.cls index y bytes maxL none ws rm rm.cells rm.slots n ∧ y.name = "<init>" ∧ (Cond.instanceMethod y).before args s = true) (hn : As.length = n) (hsz : ls.size = nL) (hst : st0 = As.reverse ++ .ref b :: rest) (hW : (rest.map fun v => v.category).sum ≤ 8) (hdg : decode cc pc = .ok (.invokespecial index, 3)) (hf : cells + rm.cells ≤ R.cells ∧ slots + rm.slots ≤ R.slots)
    (kk : ∀ (w1 : va_W) (H1 : Heap) (locs1 : List Loc), P1 w1 → jS D cl A w1 s.heap H1 locs1 → W p l e R s m args below meth c H1 locs1 (cells + rm.cells) (slots + rm.slots) Q (F0 m (pc + 3) ls rest)) : W p l e R s m args below meth c H locs cells slots Q (F0 m pc ls st0) := by
  obtain ⟨⟨hPc, hDc⟩, hF, hJ⟩ : (va_P D cl w H ∧ va_D (fun _ => True) w) ∧ (∀ q, va_A w H.size q → A q) ∧ ∀ (w1 : va_W) (H1 : Heap) (locs1 : List Loc), (∀ q : Nat, q < H.size → ¬ va_A w H.size q → H1[q]? = H[q]?) → va_P D cl w1 H1 → va_D (va_A w H.size) w1 → va_S A s.heap H1 locs1 → jS D cl A w1 s.heap H1 locs1 := by
    have k0 := jcut_all (w1 := []) hA hS
    exact ⟨k0.1, k0.2.1, fun w1 => (jcut_all (w1 := w1) hA hS).2.2⟩
  subst hst
  refine va_callv (va_runI (As := As) (rest := rest) C.1 (hM H.size) cw ⟨jXPre_blind, fun U hU hWm => ⟨rfl, ⟨by rw [hU], by rw [hU]; exact hPc, va_K.moved hWm.alike hK, hDc⟩, jX_step hX hS.2.2 hF hU hWm⟩⟩ rfl hn hsz rfl (lv_room hW) hdg hf) hS.2.2 (fun q _ h => hF q h) hF (fun u t H1 locs1 ht hvm hw hB hz hk hS1 => ?_)
  exact kk u H1 locs1 hw (hJ u H1 locs1 hk (by rw [← ht]; exact hB.1) hB.2.2 hS1)
end JXCALL
