/-! contracts whose world behind is said by a predicate -/
def JQi (l : Launch) (y : MethodName) (ws : List Cond) (rm : Room) (D : va_G) (cl : List vw_C) (tys : List (ClassId × FieldType)) (av : List Value) (w : va_W) (P1 : Int32 → va_W → Prop) : Prop := ∀ sz, Met l y ws rm (va_Pc av (jPre D cl tys w sz)) (va_Qi P1 (fun w1 => jB D cl tys (va_A w sz) w1) (va_A w sz)) rm.cells rm.slots (va_A w sz)
def JQl (l : Launch) (y : MethodName) (ws : List Cond) (rm : Room) (D : va_G) (cl : List vw_C) (tys : List (ClassId × FieldType)) (av : List Value) (w : va_W) (P1 : Int64 → va_W → Prop) : Prop := ∀ sz, Met l y ws rm (va_Pc av (jPre D cl tys w sz)) (va_Ql P1 (fun w1 => jB D cl tys (va_A w sz) w1) (va_A w sz)) rm.cells rm.slots (va_A w sz)
def JQv (l : Launch) (y : MethodName) (ws : List Cond) (rm : Room) (D : va_G) (cl : List vw_C) (tys : List (ClassId × FieldType)) (av : List Value) (w : va_W) (P1 : va_W → Prop) : Prop := ∀ sz, Met l y ws rm (va_Pc av (jPre D cl tys w sz)) (va_Qv P1 (fun w1 => jB D cl tys (va_A w sz) w1) (va_A w sz)) rm.cells rm.slots (va_A w sz)
def JQq (l : Launch) (y : MethodName) (ws : List Cond) (rm : Room) (D : va_G) (cl : List vw_C) (tys : List (ClassId × FieldType)) (av : List Value) (w : va_W) (P1 : Option Nat → va_W → Prop) : Prop := ∀ sz, Met l y ws rm (va_Pc av (jPre D cl tys w sz)) (va_Qq P1 (fun w1 => jB D cl tys (va_A w sz) w1) (va_A w sz)) rm.cells rm.slots (va_A w sz)
/-- a place of a body, whatever the heap is of which Z holds -/
def jY (p : Program) (l : Launch) (e : Env) (R : Room) (s : State) (m : MethodId) (args : Array Value) (below : List Frame) (meth : Method) (c : Code) (cells slots : Nat) (Q : State → Prop) (Z : Heap → List Loc → Prop) (nL : Nat) (lv : List (Nat × Value)) (pc : Nat) (st : List Value) : Prop :=
  ∀ (H : Heap) (locs : List Loc) (ls : Array Slot), Z H locs → lv_has ls nL lv → W p l e R s m args below meth c H locs cells slots Q (F0 m pc ls st)
section JQOF
variable {l : Launch} {y : MethodName} {ws ws' : List Cond} {rm : Room} {D : va_G} {cl : List vw_C} {tys : List (ClassId × FieldType)} {av : List Value} {w : va_W} {cc : ByteArray} {maxL : Nat} {rt : FieldType}
theorem JQi.of {P1 : Int32 → va_W → Prop} (hy : plainName y.cls = true) (hw : ws = Cond.code y cc maxL (some rt) :: ws') (hle : (lg_sl av).length ≤ maxL)
    (body : ∀ (p : Program) (e : Env) (s : State) (m : MethodId) (args : Array Value) (below : List Frame) (meth : Method) (c : Code) (A : Nat → Prop) (ls : Array Slot) (Q : State → Prop), jC p s m meth c cc maxL args ws y (some rt) → va_K D cl tys s → (∀ q, s.heap.size ≤ q → A q) →
      (∀ {r : Int32} {w1 : va_W} {H : Heap} {locs : List Loc} {pc : Nat} {ls : Array Slot}, P1 r w1 → jS D cl A w1 s.heap H locs → narrow rt (.int r) = .int r → decode cc pc = .ok (.ireturn, 1) → W p l e rm s m args below meth c H locs rm.cells rm.slots Q (F0 m pc ls [.int r])) → jS D cl A w s.heap s.heap [] → lv_has ls maxL (lv_args 0 av) → W p l e rm s m args below meth c s.heap [] 0 0 Q (F0 m 0 ls [])) : JQi l y ws rm D cl tys av w P1 := by
  intro sz
  refine Met.ofW (cc := cc) (maxL := maxL) (ret := (some rt)) hy hw ?_
  intro p e s m args below meth c s₁ B hml hv
  obtain ⟨rfl, hsz, hP, hK, hD0⟩ := hv
  subst hsz
  rw [lg_entry_eq]
  have C : jC p s m meth c cc maxL av.toArray ws y (some rt) := ⟨⟨B.exec, B.bytes, hml, findClass_of_methodNamed B.named, atoms_spec (ws := ws) B.pre⟩, B.returns, B.notSynchronized, (name_of_methodNamed B.named B.method).1⟩
  exact body p e s m av.toArray below meth c (va_A w s.heap.size) _ _ C hK (fun q h => Or.inr h) (fun {r w1 H locs pc ls} hp hS hn hd => W.zret C.1.1 C.1.2.1 C.2.1 hn (fun t ht hW => ⟨⟨r, w1, rfl, hp, by rw [ht]; exact hS.1, va_K.moved hW.alike hK, hS.2.1⟩, hS.2.2.F ht⟩) hS.2.2.2.2 hd C.2.2.1) ⟨hP, hD0.self (sz := s.heap.size), va_S.rf⟩ (lv_entry av hle)
theorem JQl.of {P1 : Int64 → va_W → Prop} (hy : plainName y.cls = true) (hw : ws = Cond.code y cc maxL (some .long) :: ws') (hle : (lg_sl av).length ≤ maxL)
    (body : ∀ (p : Program) (e : Env) (s : State) (m : MethodId) (args : Array Value) (below : List Frame) (meth : Method) (c : Code) (A : Nat → Prop) (ls : Array Slot) (Q : State → Prop), jC p s m meth c cc maxL args ws y (some .long) → va_K D cl tys s → (∀ q, s.heap.size ≤ q → A q) →
      (∀ {r : Int64} {w1 : va_W} {H : Heap} {locs : List Loc} {pc : Nat} {ls : Array Slot}, P1 r w1 → jS D cl A w1 s.heap H locs → decode cc pc = .ok (.lreturn, 1) → W p l e rm s m args below meth c H locs rm.cells rm.slots Q (F0 m pc ls [.long r])) → jS D cl A w s.heap s.heap [] → lv_has ls maxL (lv_args 0 av) → W p l e rm s m args below meth c s.heap [] 0 0 Q (F0 m 0 ls [])) : JQl l y ws rm D cl tys av w P1 := by
  intro sz
  refine Met.ofW (cc := cc) (maxL := maxL) (ret := (some .long)) hy hw ?_
  intro p e s m args below meth c s₁ B hml hv
  obtain ⟨rfl, hsz, hP, hK, hD0⟩ := hv
  subst hsz
  rw [lg_entry_eq]
  have C : jC p s m meth c cc maxL av.toArray ws y (some .long) := ⟨⟨B.exec, B.bytes, hml, findClass_of_methodNamed B.named, atoms_spec (ws := ws) B.pre⟩, B.returns, B.notSynchronized, (name_of_methodNamed B.named B.method).1⟩
  exact body p e s m av.toArray below meth c (va_A w s.heap.size) _ _ C hK (fun q h => Or.inr h) (fun {r w1 H locs pc ls} hp hS hd => W.lret C.1.1 C.1.2.1 C.2.1 (fun t ht hW => ⟨⟨r, w1, rfl, hp, by rw [ht]; exact hS.1, va_K.moved hW.alike hK, hS.2.1⟩, hS.2.2.F ht⟩) hS.2.2.2.2 hd C.2.2.1) ⟨hP, hD0.self (sz := s.heap.size), va_S.rf⟩ (lv_entry av hle)
theorem JQv.of {P1 : va_W → Prop} (hy : plainName y.cls = true) (hw : ws = Cond.code y cc maxL none :: ws') (hle : (lg_sl av).length ≤ maxL)
    (body : ∀ (p : Program) (e : Env) (s : State) (m : MethodId) (args : Array Value) (below : List Frame) (meth : Method) (c : Code) (A : Nat → Prop) (ls : Array Slot) (Q : State → Prop), jC p s m meth c cc maxL args ws y none → va_K D cl tys s → (∀ q, s.heap.size ≤ q → A q) →
      (∀ {w1 : va_W} {H : Heap} {locs : List Loc} {pc : Nat} {ls : Array Slot}, P1 w1 → jS D cl A w1 s.heap H locs → decode cc pc = .ok (.return_, 1) → W p l e rm s m args below meth c H locs rm.cells rm.slots Q (F0 m pc ls [])) → jS D cl A w s.heap s.heap [] → lv_has ls maxL (lv_args 0 av) → W p l e rm s m args below meth c s.heap [] 0 0 Q (F0 m 0 ls [])) : JQv l y ws rm D cl tys av w P1 := by
  intro sz
  refine Met.ofW (cc := cc) (maxL := maxL) (ret := none) hy hw ?_
  intro p e s m args below meth c s₁ B hml hv
  obtain ⟨rfl, hsz, hP, hK, hD0⟩ := hv
  subst hsz
  rw [lg_entry_eq]
  have C : jC p s m meth c cc maxL av.toArray ws y none := ⟨⟨B.exec, B.bytes, hml, findClass_of_methodNamed B.named, atoms_spec (ws := ws) B.pre⟩, B.returns, B.notSynchronized, (name_of_methodNamed B.named B.method).1⟩
  exact body p e s m av.toArray below meth c (va_A w s.heap.size) _ _ C hK (fun q h => Or.inr h) (fun {w1 H locs pc ls} hp hS hd => W.vret C.1.1 C.1.2.1 C.2.1 (fun t ht hW => ⟨⟨w1, rfl, hp, by rw [ht]; exact hS.1, va_K.moved hW.alike hK, hS.2.1⟩, hS.2.2.F ht⟩) hS.2.2.2.2 hd C.2.2.1) ⟨hP, hD0.self (sz := s.heap.size), va_S.rf⟩ (lv_entry av hle)
theorem JQq.of {P1 : Option Nat → va_W → Prop} (hy : plainName y.cls = true) (hw : ws = Cond.code y cc maxL (some rt) :: ws') (hle : (lg_sl av).length ≤ maxL)
    (body : ∀ (p : Program) (e : Env) (s : State) (m : MethodId) (args : Array Value) (below : List Frame) (meth : Method) (c : Code) (A : Nat → Prop) (ls : Array Slot) (Q : State → Prop), jC p s m meth c cc maxL args ws y (some rt) → va_K D cl tys s → (∀ q, s.heap.size ≤ q → A q) →
      (∀ {r : Option Nat} {w1 : va_W} {H : Heap} {locs : List Loc} {pc : Nat} {ls : Array Slot}, P1 r w1 → jS D cl A w1 s.heap H locs → ((∃ n, rt = .object n) ∨ ∃ t, rt = .array t) → decode cc pc = .ok (.areturn, 1) → W p l e rm s m args below meth c H locs rm.cells rm.slots Q (F0 m pc ls [va_rf r])) → jS D cl A w s.heap s.heap [] → lv_has ls maxL (lv_args 0 av) → W p l e rm s m args below meth c s.heap [] 0 0 Q (F0 m 0 ls [])) : JQq l y ws rm D cl tys av w P1 := by
  intro sz
  refine Met.ofW (cc := cc) (maxL := maxL) (ret := (some rt)) hy hw ?_
  intro p e s m args below meth c s₁ B hml hv
  obtain ⟨rfl, hsz, hP, hK, hD0⟩ := hv
  subst hsz
  rw [lg_entry_eq]
  have C : jC p s m meth c cc maxL av.toArray ws y (some rt) := ⟨⟨B.exec, B.bytes, hml, findClass_of_methodNamed B.named, atoms_spec (ws := ws) B.pre⟩, B.returns, B.notSynchronized, (name_of_methodNamed B.named B.method).1⟩
  exact body p e s m av.toArray below meth c (va_A w s.heap.size) _ _ C hK (fun q h => Or.inr h) (fun {r w1 H locs pc ls} hp hS hn hd => W.aret C.1.1 C.1.2.1 C.2.1 hn (va_rf_or r) (fun t ht hW => ⟨⟨r, w1, rfl, hp, by rw [ht]; exact hS.1, va_K.moved hW.alike hK, hS.2.1⟩, hS.2.2.F ht⟩) hS.2.2.2.2 hd C.2.2.1) ⟨hP, hD0.self (sz := s.heap.size), va_S.rf⟩ (lv_entry av hle)
end JQOF
section JQCALL
variable {p : Program} {l : Launch} {e : Env} {R : Room} {s : State} {m : MethodId} {args : Array Value} {below : List Frame} {meth : Method} {c : Code} {H : Heap} {locs : List Loc} {cells slots : Nat} {Q : State → Prop}
variable {cc : ByteArray} {pc nL : Nat} {ls : Array Slot} {rest : List Value} {D : va_G} {cl : List vw_C} {A : Nat → Prop} {tys : List (ClassId × FieldType)} {w wc wr : va_W} {Ts : List Cond} {y0 : MethodName} {rtt : Option FieldType}
variable {index maxL n b q0 ci : Nat} {y : MethodName} {bytes : ByteArray} {ret : Option FieldType} {ws : List Cond} {rm : Room} {As st0 : List Value} {vc : vw_C} {fs : List Value}
theorem j_QVip {P1 : Int32 → va_W → Prop} (C : jC p s m meth c cc nL args Ts y0 rtt) (hK : va_K D cl tys s) (hA : ∀ q, s.heap.size ≤ q → A q) (hS : jS D cl A w s.heap H locs) (hp : w.Perm (wc ++ wr)) (hM : JQi l y ws rm D cl tys (.ref b :: As) wc P1)
    (cw : CallW R s args y0.cls vc.1 index y bytes maxL ret ws rm rm.cells rm.slots n) (hq : wc[q0]? = some (b, .inr (ci, fs))) (hc : cl[ci]? = some vc) (hn : As.length = n) (hsz : ls.size = nL) (hst : st0 = As.reverse ++ .ref b :: rest) (hW : (rest.map fun v => v.category).sum ≤ 8) (hdg : decode cc pc = .ok (.invokevirtual index, 3)) (hf : cells + rm.cells ≤ R.cells ∧ slots + rm.slots ≤ R.slots)
    (kk : ∀ (r : Int32) (w1 : va_W) (H1 : Heap) (locs1 : List Loc), P1 r w1 → jS D cl A (w1 ++ wr) s.heap H1 locs1 → W p l e R s m args below meth c H1 locs1 (cells + rm.cells) (slots + rm.slots) Q (F0 m (pc + 3) ls (.int r :: rest))) : W p l e R s m args below meth c H locs cells slots Q (F0 m pc ls st0) := by
  obtain ⟨⟨hPc, hDc⟩, hF, hJ⟩ : (va_P D cl wc H ∧ va_D (fun _ => True) wc) ∧ (∀ q, va_A wc H.size q → A q) ∧ ∀ (w1 : va_W) (H1 : Heap) (locs1 : List Loc), (∀ q : Nat, q < H.size → ¬ va_A wc H.size q → H1[q]? = H[q]?) → va_P D cl w1 H1 → va_D (va_A wc H.size) w1 → va_S A s.heap H1 locs1 → jS D cl A (w1 ++ wr) s.heap H1 locs1 := by
    have k0 := jcut_perm (w1 := []) hA hS hp
    exact ⟨k0.1, k0.2.1, fun w1 => (jcut_perm (w1 := w1) hA hS hp).2.2⟩
  subst hst
  refine va_calli (va_runV (As := As) (rest := rest) C.1 (hM H.size) cw ⟨jPre_blind, va_recv hK hPc hc hq, fun U hU hWm => ⟨rfl, by rw [hU], by rw [hU]; exact hPc, va_K.moved hWm.alike hK, hDc⟩⟩ rfl hn hsz rfl (lv_room hW) hdg hf) hS.2.2 (fun q _ h => hF q h) hF (fun r' u t H1 locs1 ht hvm hw hB hz hk hS1 => ?_)
  exact kk r' u H1 locs1 hw (hJ u H1 locs1 hk (by rw [← ht]; exact hB.1) hB.2.2 hS1)
theorem j_QVi {P1 : Int32 → va_W → Prop} (C : jC p s m meth c cc nL args Ts y0 rtt) (hK : va_K D cl tys s) (hA : ∀ q, s.heap.size ≤ q → A q) (hS : jS D cl A w s.heap H locs) (hM : JQi l y ws rm D cl tys (.ref b :: As) w P1)
    (cw : CallW R s args y0.cls vc.1 index y bytes maxL ret ws rm rm.cells rm.slots n) (hq : w[q0]? = some (b, .inr (ci, fs))) (hc : cl[ci]? = some vc) (hn : As.length = n) (hsz : ls.size = nL) (hst : st0 = As.reverse ++ .ref b :: rest) (hW : (rest.map fun v => v.category).sum ≤ 8) (hdg : decode cc pc = .ok (.invokevirtual index, 3)) (hf : cells + rm.cells ≤ R.cells ∧ slots + rm.slots ≤ R.slots)
    (kk : ∀ (r : Int32) (w1 : va_W) (H1 : Heap) (locs1 : List Loc), P1 r w1 → jS D cl A w1 s.heap H1 locs1 → W p l e R s m args below meth c H1 locs1 (cells + rm.cells) (slots + rm.slots) Q (F0 m (pc + 3) ls (.int r :: rest))) : W p l e R s m args below meth c H locs cells slots Q (F0 m pc ls st0) := by
  obtain ⟨⟨hPc, hDc⟩, hF, hJ⟩ : (va_P D cl w H ∧ va_D (fun _ => True) w) ∧ (∀ q, va_A w H.size q → A q) ∧ ∀ (w1 : va_W) (H1 : Heap) (locs1 : List Loc), (∀ q : Nat, q < H.size → ¬ va_A w H.size q → H1[q]? = H[q]?) → va_P D cl w1 H1 → va_D (va_A w H.size) w1 → va_S A s.heap H1 locs1 → jS D cl A w1 s.heap H1 locs1 := by
    have k0 := jcut_all (w1 := []) hA hS
    exact ⟨k0.1, k0.2.1, fun w1 => (jcut_all (w1 := w1) hA hS).2.2⟩
  subst hst
  refine va_calli (va_runV (As := As) (rest := rest) C.1 (hM H.size) cw ⟨jPre_blind, va_recv hK hPc hc hq, fun U hU hWm => ⟨rfl, by rw [hU], by rw [hU]; exact hPc, va_K.moved hWm.alike hK, hDc⟩⟩ rfl hn hsz rfl (lv_room hW) hdg hf) hS.2.2 (fun q _ h => hF q h) hF (fun r' u t H1 locs1 ht hvm hw hB hz hk hS1 => ?_)
  exact kk r' u H1 locs1 hw (hJ u H1 locs1 hk (by rw [← ht]; exact hB.1) hB.2.2 hS1)
theorem j_QSip {P1 : Int32 → va_W → Prop} (C : jC p s m meth c cc nL args Ts y0 rtt) (hK : va_K D cl tys s) (hA : ∀ q, s.heap.size ≤ q → A q) (hS : jS D cl A w s.heap H locs) (hp : w.Perm (wc ++ wr)) (hM : JQi l y ws rm D cl tys As wc P1)
    (cw : CallB R s args y0.cls index y bytes maxL ret ws rm rm.cells rm.slots n ∧ (Cond.static y).before args s = true) (hn : As.length = n) (hsz : ls.size = nL) (hst : st0 = As.reverse ++ rest) (hW : (rest.map fun v => v.category).sum ≤ 8) (hdg : decode cc pc = .ok (.invokestatic index, 3)) (hf : cells + rm.cells ≤ R.cells ∧ slots + rm.slots ≤ R.slots)
    (kk : ∀ (r : Int32) (w1 : va_W) (H1 : Heap) (locs1 : List Loc), P1 r w1 → jS D cl A (w1 ++ wr) s.heap H1 locs1 → W p l e R s m args below meth c H1 locs1 (cells + rm.cells) (slots + rm.slots) Q (F0 m (pc + 3) ls (.int r :: rest))) : W p l e R s m args below meth c H locs cells slots Q (F0 m pc ls st0) := by
  obtain ⟨⟨hPc, hDc⟩, hF, hJ⟩ : (va_P D cl wc H ∧ va_D (fun _ => True) wc) ∧ (∀ q, va_A wc H.size q → A q) ∧ ∀ (w1 : va_W) (H1 : Heap) (locs1 : List Loc), (∀ q : Nat, q < H.size → ¬ va_A wc H.size q → H1[q]? = H[q]?) → va_P D cl w1 H1 → va_D (va_A wc H.size) w1 → va_S A s.heap H1 locs1 → jS D cl A (w1 ++ wr) s.heap H1 locs1 := by
    have k0 := jcut_perm (w1 := []) hA hS hp
    exact ⟨k0.1, k0.2.1, fun w1 => (jcut_perm (w1 := w1) hA hS hp).2.2⟩
  subst hst
  refine va_calli (va_runS (As := As) (rest := rest) C.1 (hM H.size) cw ⟨jPre_blind, fun U hU hWm => ⟨rfl, by rw [hU], by rw [hU]; exact hPc, va_K.moved hWm.alike hK, hDc⟩⟩ rfl hn hsz rfl (lv_room hW) hdg hf) hS.2.2 (fun q _ h => hF q h) hF (fun r' u t H1 locs1 ht hvm hw hB hz hk hS1 => ?_)
  exact kk r' u H1 locs1 hw (hJ u H1 locs1 hk (by rw [← ht]; exact hB.1) hB.2.2 hS1)
theorem j_QSi {P1 : Int32 → va_W → Prop} (C : jC p s m meth c cc nL args Ts y0 rtt) (hK : va_K D cl tys s) (hA : ∀ q, s.heap.size ≤ q → A q) (hS : jS D cl A w s.heap H locs) (hM : JQi l y ws rm D cl tys As w P1)
    (cw : CallB R s args y0.cls index y bytes maxL ret ws rm rm.cells rm.slots n ∧ (Cond.static y).before args s = true) (hn : As.length = n) (hsz : ls.size = nL) (hst : st0 = As.reverse ++ rest) (hW : (rest.map fun v => v.category).sum ≤ 8) (hdg : decode cc pc = .ok (.invokestatic index, 3)) (hf : cells + rm.cells ≤ R.cells ∧ slots + rm.slots ≤ R.slots)
    (kk : ∀ (r : Int32) (w1 : va_W) (H1 : Heap) (locs1 : List Loc), P1 r w1 → jS D cl A w1 s.heap H1 locs1 → W p l e R s m args below meth c H1 locs1 (cells + rm.cells) (slots + rm.slots) Q (F0 m (pc + 3) ls (.int r :: rest))) : W p l e R s m args below meth c H locs cells slots Q (F0 m pc ls st0) := by
  obtain ⟨⟨hPc, hDc⟩, hF, hJ⟩ : (va_P D cl w H ∧ va_D (fun _ => True) w) ∧ (∀ q, va_A w H.size q → A q) ∧ ∀ (w1 : va_W) (H1 : Heap) (locs1 : List Loc), (∀ q : Nat, q < H.size → ¬ va_A w H.size q → H1[q]? = H[q]?) → va_P D cl w1 H1 → va_D (va_A w H.size) w1 → va_S A s.heap H1 locs1 → jS D cl A w1 s.heap H1 locs1 := by
    have k0 := jcut_all (w1 := []) hA hS
    exact ⟨k0.1, k0.2.1, fun w1 => (jcut_all (w1 := w1) hA hS).2.2⟩
  subst hst
  refine va_calli (va_runS (As := As) (rest := rest) C.1 (hM H.size) cw ⟨jPre_blind, fun U hU hWm => ⟨rfl, by rw [hU], by rw [hU]; exact hPc, va_K.moved hWm.alike hK, hDc⟩⟩ rfl hn hsz rfl (lv_room hW) hdg hf) hS.2.2 (fun q _ h => hF q h) hF (fun r' u t H1 locs1 ht hvm hw hB hz hk hS1 => ?_)
  exact kk r' u H1 locs1 hw (hJ u H1 locs1 hk (by rw [← ht]; exact hB.1) hB.2.2 hS1)
theorem j_QVlp {P1 : Int64 → va_W → Prop} (C : jC p s m meth c cc nL args Ts y0 rtt) (hK : va_K D cl tys s) (hA : ∀ q, s.heap.size ≤ q → A q) (hS : jS D cl A w s.heap H locs) (hp : w.Perm (wc ++ wr)) (hM : JQl l y ws rm D cl tys (.ref b :: As) wc P1)
    (cw : CallW R s args y0.cls vc.1 index y bytes maxL ret ws rm rm.cells rm.slots n) (hq : wc[q0]? = some (b, .inr (ci, fs))) (hc : cl[ci]? = some vc) (hn : As.length = n) (hsz : ls.size = nL) (hst : st0 = As.reverse ++ .ref b :: rest) (hW : (rest.map fun v => v.category).sum ≤ 8) (hdg : decode cc pc = .ok (.invokevirtual index, 3)) (hf : cells + rm.cells ≤ R.cells ∧ slots + rm.slots ≤ R.slots)
    (kk : ∀ (r : Int64) (w1 : va_W) (H1 : Heap) (locs1 : List Loc), P1 r w1 → jS D cl A (w1 ++ wr) s.heap H1 locs1 → W p l e R s m args below meth c H1 locs1 (cells + rm.cells) (slots + rm.slots) Q (F0 m (pc + 3) ls (.long r :: rest))) : W p l e R s m args below meth c H locs cells slots Q (F0 m pc ls st0) := by
  obtain ⟨⟨hPc, hDc⟩, hF, hJ⟩ : (va_P D cl wc H ∧ va_D (fun _ => True) wc) ∧ (∀ q, va_A wc H.size q → A q) ∧ ∀ (w1 : va_W) (H1 : Heap) (locs1 : List Loc), (∀ q : Nat, q < H.size → ¬ va_A wc H.size q → H1[q]? = H[q]?) → va_P D cl w1 H1 → va_D (va_A wc H.size) w1 → va_S A s.heap H1 locs1 → jS D cl A (w1 ++ wr) s.heap H1 locs1 := by
    have k0 := jcut_perm (w1 := []) hA hS hp
    exact ⟨k0.1, k0.2.1, fun w1 => (jcut_perm (w1 := w1) hA hS hp).2.2⟩
  subst hst
  refine va_calll (va_runV (As := As) (rest := rest) C.1 (hM H.size) cw ⟨jPre_blind, va_recv hK hPc hc hq, fun U hU hWm => ⟨rfl, by rw [hU], by rw [hU]; exact hPc, va_K.moved hWm.alike hK, hDc⟩⟩ rfl hn hsz rfl (lv_room hW) hdg hf) hS.2.2 (fun q _ h => hF q h) hF (fun r' u t H1 locs1 ht hvm hw hB hz hk hS1 => ?_)
  exact kk r' u H1 locs1 hw (hJ u H1 locs1 hk (by rw [← ht]; exact hB.1) hB.2.2 hS1)
theorem j_QVl {P1 : Int64 → va_W → Prop} (C : jC p s m meth c cc nL args Ts y0 rtt) (hK : va_K D cl tys s) (hA : ∀ q, s.heap.size ≤ q → A q) (hS : jS D cl A w s.heap H locs) (hM : JQl l y ws rm D cl tys (.ref b :: As) w P1)
    (cw : CallW R s args y0.cls vc.1 index y bytes maxL ret ws rm rm.cells rm.slots n) (hq : w[q0]? = some (b, .inr (ci, fs))) (hc : cl[ci]? = some vc) (hn : As.length = n) (hsz : ls.size = nL) (hst : st0 = As.reverse ++ .ref b :: rest) (hW : (rest.map fun v => v.category).sum ≤ 8) (hdg : decode cc pc = .ok (.invokevirtual index, 3)) (hf : cells + rm.cells ≤ R.cells ∧ slots + rm.slots ≤ R.slots)
    (kk : ∀ (r : Int64) (w1 : va_W) (H1 : Heap) (locs1 : List Loc), P1 r w1 → jS D cl A w1 s.heap H1 locs1 → W p l e R s m args below meth c H1 locs1 (cells + rm.cells) (slots + rm.slots) Q (F0 m (pc + 3) ls (.long r :: rest))) : W p l e R s m args below meth c H locs cells slots Q (F0 m pc ls st0) := by
  obtain ⟨⟨hPc, hDc⟩, hF, hJ⟩ : (va_P D cl w H ∧ va_D (fun _ => True) w) ∧ (∀ q, va_A w H.size q → A q) ∧ ∀ (w1 : va_W) (H1 : Heap) (locs1 : List Loc), (∀ q : Nat, q < H.size → ¬ va_A w H.size q → H1[q]? = H[q]?) → va_P D cl w1 H1 → va_D (va_A w H.size) w1 → va_S A s.heap H1 locs1 → jS D cl A w1 s.heap H1 locs1 := by
    have k0 := jcut_all (w1 := []) hA hS
    exact ⟨k0.1, k0.2.1, fun w1 => (jcut_all (w1 := w1) hA hS).2.2⟩
  subst hst
  refine va_calll (va_runV (As := As) (rest := rest) C.1 (hM H.size) cw ⟨jPre_blind, va_recv hK hPc hc hq, fun U hU hWm => ⟨rfl, by rw [hU], by rw [hU]; exact hPc, va_K.moved hWm.alike hK, hDc⟩⟩ rfl hn hsz rfl (lv_room hW) hdg hf) hS.2.2 (fun q _ h => hF q h) hF (fun r' u t H1 locs1 ht hvm hw hB hz hk hS1 => ?_)
  exact kk r' u H1 locs1 hw (hJ u H1 locs1 hk (by rw [← ht]; exact hB.1) hB.2.2 hS1)
theorem j_QSlp {P1 : Int64 → va_W → Prop} (C : jC p s m meth c cc nL args Ts y0 rtt) (hK : va_K D cl tys s) (hA : ∀ q, s.heap.size ≤ q → A q) (hS : jS D cl A w s.heap H locs) (hp : w.Perm (wc ++ wr)) (hM : JQl l y ws rm D cl tys As wc P1)
    (cw : CallB R s args y0.cls index y bytes maxL ret ws rm rm.cells rm.slots n ∧ (Cond.static y).before args s = true) (hn : As.length = n) (hsz : ls.size = nL) (hst : st0 = As.reverse ++ rest) (hW : (rest.map fun v => v.category).sum ≤ 8) (hdg : decode cc pc = .ok (.invokestatic index, 3)) (hf : cells + rm.cells ≤ R.cells ∧ slots + rm.slots ≤ R.slots)
    (kk : ∀ (r : Int64) (w1 : va_W) (H1 : Heap) (locs1 : List Loc), P1 r w1 → jS D cl A (w1 ++ wr) s.heap H1 locs1 → W p l e R s m args below meth c H1 locs1 (cells + rm.cells) (slots + rm.slots) Q (F0 m (pc + 3) ls (.long r :: rest))) : W p l e R s m args below meth c H locs cells slots Q (F0 m pc ls st0) := by
  obtain ⟨⟨hPc, hDc⟩, hF, hJ⟩ : (va_P D cl wc H ∧ va_D (fun _ => True) wc) ∧ (∀ q, va_A wc H.size q → A q) ∧ ∀ (w1 : va_W) (H1 : Heap) (locs1 : List Loc), (∀ q : Nat, q < H.size → ¬ va_A wc H.size q → H1[q]? = H[q]?) → va_P D cl w1 H1 → va_D (va_A wc H.size) w1 → va_S A s.heap H1 locs1 → jS D cl A (w1 ++ wr) s.heap H1 locs1 := by
    have k0 := jcut_perm (w1 := []) hA hS hp
    exact ⟨k0.1, k0.2.1, fun w1 => (jcut_perm (w1 := w1) hA hS hp).2.2⟩
  subst hst
  refine va_calll (va_runS (As := As) (rest := rest) C.1 (hM H.size) cw ⟨jPre_blind, fun U hU hWm => ⟨rfl, by rw [hU], by rw [hU]; exact hPc, va_K.moved hWm.alike hK, hDc⟩⟩ rfl hn hsz rfl (lv_room hW) hdg hf) hS.2.2 (fun q _ h => hF q h) hF (fun r' u t H1 locs1 ht hvm hw hB hz hk hS1 => ?_)
  exact kk r' u H1 locs1 hw (hJ u H1 locs1 hk (by rw [← ht]; exact hB.1) hB.2.2 hS1)
theorem j_QSl {P1 : Int64 → va_W → Prop} (C : jC p s m meth c cc nL args Ts y0 rtt) (hK : va_K D cl tys s) (hA : ∀ q, s.heap.size ≤ q → A q) (hS : jS D cl A w s.heap H locs) (hM : JQl l y ws rm D cl tys As w P1)
    (cw : CallB R s args y0.cls index y bytes maxL ret ws rm rm.cells rm.slots n ∧ (Cond.static y).before args s = true) (hn : As.length = n) (hsz : ls.size = nL) (hst : st0 = As.reverse ++ rest) (hW : (rest.map fun v => v.category).sum ≤ 8) (hdg : decode cc pc = .ok (.invokestatic index, 3)) (hf : cells + rm.cells ≤ R.cells ∧ slots + rm.slots ≤ R.slots)
    (kk : ∀ (r : Int64) (w1 : va_W) (H1 : Heap) (locs1 : List Loc), P1 r w1 → jS D cl A w1 s.heap H1 locs1 → W p l e R s m args below meth c H1 locs1 (cells + rm.cells) (slots + rm.slots) Q (F0 m (pc + 3) ls (.long r :: rest))) : W p l e R s m args below meth c H locs cells slots Q (F0 m pc ls st0) := by
  obtain ⟨⟨hPc, hDc⟩, hF, hJ⟩ : (va_P D cl w H ∧ va_D (fun _ => True) w) ∧ (∀ q, va_A w H.size q → A q) ∧ ∀ (w1 : va_W) (H1 : Heap) (locs1 : List Loc), (∀ q : Nat, q < H.size → ¬ va_A w H.size q → H1[q]? = H[q]?) → va_P D cl w1 H1 → va_D (va_A w H.size) w1 → va_S A s.heap H1 locs1 → jS D cl A w1 s.heap H1 locs1 := by
    have k0 := jcut_all (w1 := []) hA hS
    exact ⟨k0.1, k0.2.1, fun w1 => (jcut_all (w1 := w1) hA hS).2.2⟩
  subst hst
  refine va_calll (va_runS (As := As) (rest := rest) C.1 (hM H.size) cw ⟨jPre_blind, fun U hU hWm => ⟨rfl, by rw [hU], by rw [hU]; exact hPc, va_K.moved hWm.alike hK, hDc⟩⟩ rfl hn hsz rfl (lv_room hW) hdg hf) hS.2.2 (fun q _ h => hF q h) hF (fun r' u t H1 locs1 ht hvm hw hB hz hk hS1 => ?_)
  exact kk r' u H1 locs1 hw (hJ u H1 locs1 hk (by rw [← ht]; exact hB.1) hB.2.2 hS1)
theorem j_QVvp {P1 : va_W → Prop} (C : jC p s m meth c cc nL args Ts y0 rtt) (hK : va_K D cl tys s) (hA : ∀ q, s.heap.size ≤ q → A q) (hS : jS D cl A w s.heap H locs) (hp : w.Perm (wc ++ wr)) (hM : JQv l y ws rm D cl tys (.ref b :: As) wc P1)
    (cw : CallW R s args y0.cls vc.1 index y bytes maxL ret ws rm rm.cells rm.slots n) (hq : wc[q0]? = some (b, .inr (ci, fs))) (hc : cl[ci]? = some vc) (hn : As.length = n) (hsz : ls.size = nL) (hst : st0 = As.reverse ++ .ref b :: rest) (hW : (rest.map fun v => v.category).sum ≤ 8) (hdg : decode cc pc = .ok (.invokevirtual index, 3)) (hf : cells + rm.cells ≤ R.cells ∧ slots + rm.slots ≤ R.slots)
    (kk : ∀ (w1 : va_W) (H1 : Heap) (locs1 : List Loc), P1 w1 → jS D cl A (w1 ++ wr) s.heap H1 locs1 → W p l e R s m args below meth c H1 locs1 (cells + rm.cells) (slots + rm.slots) Q (F0 m (pc + 3) ls rest)) : W p l e R s m args below meth c H locs cells slots Q (F0 m pc ls st0) := by
  obtain ⟨⟨hPc, hDc⟩, hF, hJ⟩ : (va_P D cl wc H ∧ va_D (fun _ => True) wc) ∧ (∀ q, va_A wc H.size q → A q) ∧ ∀ (w1 : va_W) (H1 : Heap) (locs1 : List Loc), (∀ q : Nat, q < H.size → ¬ va_A wc H.size q → H1[q]? = H[q]?) → va_P D cl w1 H1 → va_D (va_A wc H.size) w1 → va_S A s.heap H1 locs1 → jS D cl A (w1 ++ wr) s.heap H1 locs1 := by
    have k0 := jcut_perm (w1 := []) hA hS hp
    exact ⟨k0.1, k0.2.1, fun w1 => (jcut_perm (w1 := w1) hA hS hp).2.2⟩
  subst hst
  refine va_callv (va_runV (As := As) (rest := rest) C.1 (hM H.size) cw ⟨jPre_blind, va_recv hK hPc hc hq, fun U hU hWm => ⟨rfl, by rw [hU], by rw [hU]; exact hPc, va_K.moved hWm.alike hK, hDc⟩⟩ rfl hn hsz rfl (lv_room hW) hdg hf) hS.2.2 (fun q _ h => hF q h) hF (fun u t H1 locs1 ht hvm hw hB hz hk hS1 => ?_)
  exact kk u H1 locs1 hw (hJ u H1 locs1 hk (by rw [← ht]; exact hB.1) hB.2.2 hS1)
theorem j_QVv {P1 : va_W → Prop} (C : jC p s m meth c cc nL args Ts y0 rtt) (hK : va_K D cl tys s) (hA : ∀ q, s.heap.size ≤ q → A q) (hS : jS D cl A w s.heap H locs) (hM : JQv l y ws rm D cl tys (.ref b :: As) w P1)
    (cw : CallW R s args y0.cls vc.1 index y bytes maxL ret ws rm rm.cells rm.slots n) (hq : w[q0]? = some (b, .inr (ci, fs))) (hc : cl[ci]? = some vc) (hn : As.length = n) (hsz : ls.size = nL) (hst : st0 = As.reverse ++ .ref b :: rest) (hW : (rest.map fun v => v.category).sum ≤ 8) (hdg : decode cc pc = .ok (.invokevirtual index, 3)) (hf : cells + rm.cells ≤ R.cells ∧ slots + rm.slots ≤ R.slots)
    (kk : ∀ (w1 : va_W) (H1 : Heap) (locs1 : List Loc), P1 w1 → jS D cl A w1 s.heap H1 locs1 → W p l e R s m args below meth c H1 locs1 (cells + rm.cells) (slots + rm.slots) Q (F0 m (pc + 3) ls rest)) : W p l e R s m args below meth c H locs cells slots Q (F0 m pc ls st0) := by
  obtain ⟨⟨hPc, hDc⟩, hF, hJ⟩ : (va_P D cl w H ∧ va_D (fun _ => True) w) ∧ (∀ q, va_A w H.size q → A q) ∧ ∀ (w1 : va_W) (H1 : Heap) (locs1 : List Loc), (∀ q : Nat, q < H.size → ¬ va_A w H.size q → H1[q]? = H[q]?) → va_P D cl w1 H1 → va_D (va_A w H.size) w1 → va_S A s.heap H1 locs1 → jS D cl A w1 s.heap H1 locs1 := by
    have k0 := jcut_all (w1 := []) hA hS
    exact ⟨k0.1, k0.2.1, fun w1 => (jcut_all (w1 := w1) hA hS).2.2⟩
  subst hst
  refine va_callv (va_runV (As := As) (rest := rest) C.1 (hM H.size) cw ⟨jPre_blind, va_recv hK hPc hc hq, fun U hU hWm => ⟨rfl, by rw [hU], by rw [hU]; exact hPc, va_K.moved hWm.alike hK, hDc⟩⟩ rfl hn hsz rfl (lv_room hW) hdg hf) hS.2.2 (fun q _ h => hF q h) hF (fun u t H1 locs1 ht hvm hw hB hz hk hS1 => ?_)
  exact kk u H1 locs1 hw (hJ u H1 locs1 hk (by rw [← ht]; exact hB.1) hB.2.2 hS1)
theorem j_QSvp {P1 : va_W → Prop} (C : jC p s m meth c cc nL args Ts y0 rtt) (hK : va_K D cl tys s) (hA : ∀ q, s.heap.size ≤ q → A q) (hS : jS D cl A w s.heap H locs) (hp : w.Perm (wc ++ wr)) (hM : JQv l y ws rm D cl tys As wc P1)
    (cw : CallB R s args y0.cls index y bytes maxL ret ws rm rm.cells rm.slots n ∧ (Cond.static y).before args s = true) (hn : As.length = n) (hsz : ls.size = nL) (hst : st0 = As.reverse ++ rest) (hW : (rest.map fun v => v.category).sum ≤ 8) (hdg : decode cc pc = .ok (.invokestatic index, 3)) (hf : cells + rm.cells ≤ R.cells ∧ slots + rm.slots ≤ R.slots)
    (kk : ∀ (w1 : va_W) (H1 : Heap) (locs1 : List Loc), P1 w1 → jS D cl A (w1 ++ wr) s.heap H1 locs1 → W p l e R s m args below meth c H1 locs1 (cells + rm.cells) (slots + rm.slots) Q (F0 m (pc + 3) ls rest)) : W p l e R s m args below meth c H locs cells slots Q (F0 m pc ls st0) := by
  obtain ⟨⟨hPc, hDc⟩, hF, hJ⟩ : (va_P D cl wc H ∧ va_D (fun _ => True) wc) ∧ (∀ q, va_A wc H.size q → A q) ∧ ∀ (w1 : va_W) (H1 : Heap) (locs1 : List Loc), (∀ q : Nat, q < H.size → ¬ va_A wc H.size q → H1[q]? = H[q]?) → va_P D cl w1 H1 → va_D (va_A wc H.size) w1 → va_S A s.heap H1 locs1 → jS D cl A (w1 ++ wr) s.heap H1 locs1 := by
    have k0 := jcut_perm (w1 := []) hA hS hp
    exact ⟨k0.1, k0.2.1, fun w1 => (jcut_perm (w1 := w1) hA hS hp).2.2⟩
  subst hst
  refine va_callv (va_runS (As := As) (rest := rest) C.1 (hM H.size) cw ⟨jPre_blind, fun U hU hWm => ⟨rfl, by rw [hU], by rw [hU]; exact hPc, va_K.moved hWm.alike hK, hDc⟩⟩ rfl hn hsz rfl (lv_room hW) hdg hf) hS.2.2 (fun q _ h => hF q h) hF (fun u t H1 locs1 ht hvm hw hB hz hk hS1 => ?_)
  exact kk u H1 locs1 hw (hJ u H1 locs1 hk (by rw [← ht]; exact hB.1) hB.2.2 hS1)
theorem j_QSv {P1 : va_W → Prop} (C : jC p s m meth c cc nL args Ts y0 rtt) (hK : va_K D cl tys s) (hA : ∀ q, s.heap.size ≤ q → A q) (hS : jS D cl A w s.heap H locs) (hM : JQv l y ws rm D cl tys As w P1)
    (cw : CallB R s args y0.cls index y bytes maxL ret ws rm rm.cells rm.slots n ∧ (Cond.static y).before args s = true) (hn : As.length = n) (hsz : ls.size = nL) (hst : st0 = As.reverse ++ rest) (hW : (rest.map fun v => v.category).sum ≤ 8) (hdg : decode cc pc = .ok (.invokestatic index, 3)) (hf : cells + rm.cells ≤ R.cells ∧ slots + rm.slots ≤ R.slots)
    (kk : ∀ (w1 : va_W) (H1 : Heap) (locs1 : List Loc), P1 w1 → jS D cl A w1 s.heap H1 locs1 → W p l e R s m args below meth c H1 locs1 (cells + rm.cells) (slots + rm.slots) Q (F0 m (pc + 3) ls rest)) : W p l e R s m args below meth c H locs cells slots Q (F0 m pc ls st0) := by
  obtain ⟨⟨hPc, hDc⟩, hF, hJ⟩ : (va_P D cl w H ∧ va_D (fun _ => True) w) ∧ (∀ q, va_A w H.size q → A q) ∧ ∀ (w1 : va_W) (H1 : Heap) (locs1 : List Loc), (∀ q : Nat, q < H.size → ¬ va_A w H.size q → H1[q]? = H[q]?) → va_P D cl w1 H1 → va_D (va_A w H.size) w1 → va_S A s.heap H1 locs1 → jS D cl A w1 s.heap H1 locs1 := by
    have k0 := jcut_all (w1 := []) hA hS
    exact ⟨k0.1, k0.2.1, fun w1 => (jcut_all (w1 := w1) hA hS).2.2⟩
  subst hst
  refine va_callv (va_runS (As := As) (rest := rest) C.1 (hM H.size) cw ⟨jPre_blind, fun U hU hWm => ⟨rfl, by rw [hU], by rw [hU]; exact hPc, va_K.moved hWm.alike hK, hDc⟩⟩ rfl hn hsz rfl (lv_room hW) hdg hf) hS.2.2 (fun q _ h => hF q h) hF (fun u t H1 locs1 ht hvm hw hB hz hk hS1 => ?_)
  exact kk u H1 locs1 hw (hJ u H1 locs1 hk (by rw [← ht]; exact hB.1) hB.2.2 hS1)
theorem j_QVqp {P1 : Option Nat → va_W → Prop} (C : jC p s m meth c cc nL args Ts y0 rtt) (hK : va_K D cl tys s) (hA : ∀ q, s.heap.size ≤ q → A q) (hS : jS D cl A w s.heap H locs) (hp : w.Perm (wc ++ wr)) (hM : JQq l y ws rm D cl tys (.ref b :: As) wc P1)
    (cw : CallW R s args y0.cls vc.1 index y bytes maxL ret ws rm rm.cells rm.slots n) (hq : wc[q0]? = some (b, .inr (ci, fs))) (hc : cl[ci]? = some vc) (hn : As.length = n) (hsz : ls.size = nL) (hst : st0 = As.reverse ++ .ref b :: rest) (hW : (rest.map fun v => v.category).sum ≤ 8) (hdg : decode cc pc = .ok (.invokevirtual index, 3)) (hf : cells + rm.cells ≤ R.cells ∧ slots + rm.slots ≤ R.slots)
    (kk : ∀ (r : Option Nat) (w1 : va_W) (H1 : Heap) (locs1 : List Loc), P1 r w1 → jS D cl A (w1 ++ wr) s.heap H1 locs1 → W p l e R s m args below meth c H1 locs1 (cells + rm.cells) (slots + rm.slots) Q (F0 m (pc + 3) ls (va_rf r :: rest))) : W p l e R s m args below meth c H locs cells slots Q (F0 m pc ls st0) := by
  obtain ⟨⟨hPc, hDc⟩, hF, hJ⟩ : (va_P D cl wc H ∧ va_D (fun _ => True) wc) ∧ (∀ q, va_A wc H.size q → A q) ∧ ∀ (w1 : va_W) (H1 : Heap) (locs1 : List Loc), (∀ q : Nat, q < H.size → ¬ va_A wc H.size q → H1[q]? = H[q]?) → va_P D cl w1 H1 → va_D (va_A wc H.size) w1 → va_S A s.heap H1 locs1 → jS D cl A (w1 ++ wr) s.heap H1 locs1 := by
    have k0 := jcut_perm (w1 := []) hA hS hp
    exact ⟨k0.1, k0.2.1, fun w1 => (jcut_perm (w1 := w1) hA hS hp).2.2⟩
  subst hst
  refine va_callq (va_runV (As := As) (rest := rest) C.1 (hM H.size) cw ⟨jPre_blind, va_recv hK hPc hc hq, fun U hU hWm => ⟨rfl, by rw [hU], by rw [hU]; exact hPc, va_K.moved hWm.alike hK, hDc⟩⟩ rfl hn hsz rfl (lv_room hW) hdg hf) hS.2.2 (fun q _ h => hF q h) hF (fun r' u t H1 locs1 ht hvm hw hB hz hk hS1 => ?_)
  exact kk r' u H1 locs1 hw (hJ u H1 locs1 hk (by rw [← ht]; exact hB.1) hB.2.2 hS1)
theorem j_QVq {P1 : Option Nat → va_W → Prop} (C : jC p s m meth c cc nL args Ts y0 rtt) (hK : va_K D cl tys s) (hA : ∀ q, s.heap.size ≤ q → A q) (hS : jS D cl A w s.heap H locs) (hM : JQq l y ws rm D cl tys (.ref b :: As) w P1)
    (cw : CallW R s args y0.cls vc.1 index y bytes maxL ret ws rm rm.cells rm.slots n) (hq : w[q0]? = some (b, .inr (ci, fs))) (hc : cl[ci]? = some vc) (hn : As.length = n) (hsz : ls.size = nL) (hst : st0 = As.reverse ++ .ref b :: rest) (hW : (rest.map fun v => v.category).sum ≤ 8) (hdg : decode cc pc = .ok (.invokevirtual index, 3)) (hf : cells + rm.cells ≤ R.cells ∧ slots + rm.slots ≤ R.slots)
    (kk : ∀ (r : Option Nat) (w1 : va_W) (H1 : Heap) (locs1 : List Loc), P1 r w1 → jS D cl A w1 s.heap H1 locs1 → W p l e R s m args below meth c H1 locs1 (cells + rm.cells) (slots + rm.slots) Q (F0 m (pc + 3) ls (va_rf r :: rest))) : W p l e R s m args below meth c H locs cells slots Q (F0 m pc ls st0) := by
  obtain ⟨⟨hPc, hDc⟩, hF, hJ⟩ : (va_P D cl w H ∧ va_D (fun _ => True) w) ∧ (∀ q, va_A w H.size q → A q) ∧ ∀ (w1 : va_W) (H1 : Heap) (locs1 : List Loc), (∀ q : Nat, q < H.size → ¬ va_A w H.size q → H1[q]? = H[q]?) → va_P D cl w1 H1 → va_D (va_A w H.size) w1 → va_S A s.heap H1 locs1 → jS D cl A w1 s.heap H1 locs1 := by
    have k0 := jcut_all (w1 := []) hA hS
    exact ⟨k0.1, k0.2.1, fun w1 => (jcut_all (w1 := w1) hA hS).2.2⟩
  subst hst
  refine va_callq (va_runV (As := As) (rest := rest) C.1 (hM H.size) cw ⟨jPre_blind, va_recv hK hPc hc hq, fun U hU hWm => ⟨rfl, by rw [hU], by rw [hU]; exact hPc, va_K.moved hWm.alike hK, hDc⟩⟩ rfl hn hsz rfl (lv_room hW) hdg hf) hS.2.2 (fun q _ h => hF q h) hF (fun r' u t H1 locs1 ht hvm hw hB hz hk hS1 => ?_)
  exact kk r' u H1 locs1 hw (hJ u H1 locs1 hk (by rw [← ht]; exact hB.1) hB.2.2 hS1)
theorem j_QSqp {P1 : Option Nat → va_W → Prop} (C : jC p s m meth c cc nL args Ts y0 rtt) (hK : va_K D cl tys s) (hA : ∀ q, s.heap.size ≤ q → A q) (hS : jS D cl A w s.heap H locs) (hp : w.Perm (wc ++ wr)) (hM : JQq l y ws rm D cl tys As wc P1)
    (cw : CallB R s args y0.cls index y bytes maxL ret ws rm rm.cells rm.slots n ∧ (Cond.static y).before args s = true) (hn : As.length = n) (hsz : ls.size = nL) (hst : st0 = As.reverse ++ rest) (hW : (rest.map fun v => v.category).sum ≤ 8) (hdg : decode cc pc = .ok (.invokestatic index, 3)) (hf : cells + rm.cells ≤ R.cells ∧ slots + rm.slots ≤ R.slots)
    (kk : ∀ (r : Option Nat) (w1 : va_W) (H1 : Heap) (locs1 : List Loc), P1 r w1 → jS D cl A (w1 ++ wr) s.heap H1 locs1 → W p l e R s m args below meth c H1 locs1 (cells + rm.cells) (slots + rm.slots) Q (F0 m (pc + 3) ls (va_rf r :: rest))) : W p l e R s m args below meth c H locs cells slots Q (F0 m pc ls st0) := by
  obtain ⟨⟨hPc, hDc⟩, hF, hJ⟩ : (va_P D cl wc H ∧ va_D (fun _ => True) wc) ∧ (∀ q, va_A wc H.size q → A q) ∧ ∀ (w1 : va_W) (H1 : Heap) (locs1 : List Loc), (∀ q : Nat, q < H.size → ¬ va_A wc H.size q → H1[q]? = H[q]?) → va_P D cl w1 H1 → va_D (va_A wc H.size) w1 → va_S A s.heap H1 locs1 → jS D cl A (w1 ++ wr) s.heap H1 locs1 := by
    have k0 := jcut_perm (w1 := []) hA hS hp
    exact ⟨k0.1, k0.2.1, fun w1 => (jcut_perm (w1 := w1) hA hS hp).2.2⟩
  subst hst
  refine va_callq (va_runS (As := As) (rest := rest) C.1 (hM H.size) cw ⟨jPre_blind, fun U hU hWm => ⟨rfl, by rw [hU], by rw [hU]; exact hPc, va_K.moved hWm.alike hK, hDc⟩⟩ rfl hn hsz rfl (lv_room hW) hdg hf) hS.2.2 (fun q _ h => hF q h) hF (fun r' u t H1 locs1 ht hvm hw hB hz hk hS1 => ?_)
  exact kk r' u H1 locs1 hw (hJ u H1 locs1 hk (by rw [← ht]; exact hB.1) hB.2.2 hS1)
theorem j_QSq {P1 : Option Nat → va_W → Prop} (C : jC p s m meth c cc nL args Ts y0 rtt) (hK : va_K D cl tys s) (hA : ∀ q, s.heap.size ≤ q → A q) (hS : jS D cl A w s.heap H locs) (hM : JQq l y ws rm D cl tys As w P1)
    (cw : CallB R s args y0.cls index y bytes maxL ret ws rm rm.cells rm.slots n ∧ (Cond.static y).before args s = true) (hn : As.length = n) (hsz : ls.size = nL) (hst : st0 = As.reverse ++ rest) (hW : (rest.map fun v => v.category).sum ≤ 8) (hdg : decode cc pc = .ok (.invokestatic index, 3)) (hf : cells + rm.cells ≤ R.cells ∧ slots + rm.slots ≤ R.slots)
    (kk : ∀ (r : Option Nat) (w1 : va_W) (H1 : Heap) (locs1 : List Loc), P1 r w1 → jS D cl A w1 s.heap H1 locs1 → W p l e R s m args below meth c H1 locs1 (cells + rm.cells) (slots + rm.slots) Q (F0 m (pc + 3) ls (va_rf r :: rest))) : W p l e R s m args below meth c H locs cells slots Q (F0 m pc ls st0) := by
  obtain ⟨⟨hPc, hDc⟩, hF, hJ⟩ : (va_P D cl w H ∧ va_D (fun _ => True) w) ∧ (∀ q, va_A w H.size q → A q) ∧ ∀ (w1 : va_W) (H1 : Heap) (locs1 : List Loc), (∀ q : Nat, q < H.size → ¬ va_A w H.size q → H1[q]? = H[q]?) → va_P D cl w1 H1 → va_D (va_A w H.size) w1 → va_S A s.heap H1 locs1 → jS D cl A w1 s.heap H1 locs1 := by
    have k0 := jcut_all (w1 := []) hA hS
    exact ⟨k0.1, k0.2.1, fun w1 => (jcut_all (w1 := w1) hA hS).2.2⟩
  subst hst
  refine va_callq (va_runS (As := As) (rest := rest) C.1 (hM H.size) cw ⟨jPre_blind, fun U hU hWm => ⟨rfl, by rw [hU], by rw [hU]; exact hPc, va_K.moved hWm.alike hK, hDc⟩⟩ rfl hn hsz rfl (lv_room hW) hdg hf) hS.2.2 (fun q _ h => hF q h) hF (fun r' u t H1 locs1 ht hvm hw hB hz hk hS1 => ?_)
  exact kk r' u H1 locs1 hw (hJ u H1 locs1 hk (by rw [← ht]; exact hB.1) hB.2.2 hS1)
theorem j_QIvp {P1 : va_W → Prop} (C : jC p s m meth c cc nL args Ts y0 rtt) (hK : va_K D cl tys s) (hA : ∀ q, s.heap.size ≤ q → A q) (hS : jS D cl A w s.heap H locs) (hp : w.Perm (wc ++ wr)) (hM : JQv l y ws rm D cl tys (.ref b :: As) wc P1)
    (cw : CallB R s args y0.cls index y bytes maxL none ws rm rm.cells rm.slots n ∧ y.name = "<init>" ∧ (Cond.instanceMethod y).before args s = true) (hn : As.length = n) (hsz : ls.size = nL) (hst : st0 = As.reverse ++ .ref b :: rest) (hW : (rest.map fun v => v.category).sum ≤ 8) (hdg : decode cc pc = .ok (.invokespecial index, 3)) (hf : cells + rm.cells ≤ R.cells ∧ slots + rm.slots ≤ R.slots)
    (kk : ∀ (w1 : va_W) (H1 : Heap) (locs1 : List Loc), P1 w1 → jS D cl A (w1 ++ wr) s.heap H1 locs1 → W p l e R s m args below meth c H1 locs1 (cells + rm.cells) (slots + rm.slots) Q (F0 m (pc + 3) ls rest)) : W p l e R s m args below meth c H locs cells slots Q (F0 m pc ls st0) := by
  obtain ⟨⟨hPc, hDc⟩, hF, hJ⟩ : (va_P D cl wc H ∧ va_D (fun _ => True) wc) ∧ (∀ q, va_A wc H.size q → A q) ∧ ∀ (w1 : va_W) (H1 : Heap) (locs1 : List Loc), (∀ q : Nat, q < H.size → ¬ va_A wc H.size q → H1[q]? = H[q]?) → va_P D cl w1 H1 → va_D (va_A wc H.size) w1 → va_S A s.heap H1 locs1 → jS D cl A (w1 ++ wr) s.heap H1 locs1 := by
    have k0 := jcut_perm (w1 := []) hA hS hp
    exact ⟨k0.1, k0.2.1, fun w1 => (jcut_perm (w1 := w1) hA hS hp).2.2⟩
  subst hst
  refine va_callv (va_runI (As := As) (rest := rest) C.1 (hM H.size) cw ⟨jPre_blind, fun U hU hWm => ⟨rfl, by rw [hU], by rw [hU]; exact hPc, va_K.moved hWm.alike hK, hDc⟩⟩ rfl hn hsz rfl (lv_room hW) hdg hf) hS.2.2 (fun q _ h => hF q h) hF (fun u t H1 locs1 ht hvm hw hB hz hk hS1 => ?_)
  exact kk u H1 locs1 hw (hJ u H1 locs1 hk (by rw [← ht]; exact hB.1) hB.2.2 hS1)
theorem j_QIv {P1 : va_W → Prop} (C : jC p s m meth c cc nL args Ts y0 rtt) (hK : va_K D cl tys s) (hA : ∀ q, s.heap.size ≤ q → A q) (hS : jS D cl A w s.heap H locs) (hM : JQv l y ws rm D cl tys (.ref b :: As) w P1)
    (cw : CallB R s args y0.cls index y bytes maxL none ws rm rm.cells rm.slots n ∧ y.name = "<init>" ∧ (Cond.instanceMethod y).before args s = true) (hn : As.length = n) (hsz : ls.size = nL) (hst : st0 = As.reverse ++ .ref b :: rest) (hW : (rest.map fun v => v.category).sum ≤ 8) (hdg : decode cc pc = .ok (.invokespecial index, 3)) (hf : cells + rm.cells ≤ R.cells ∧ slots + rm.slots ≤ R.slots)
    (kk : ∀ (w1 : va_W) (H1 : Heap) (locs1 : List Loc), P1 w1 → jS D cl A w1 s.heap H1 locs1 → W p l e R s m args below meth c H1 locs1 (cells + rm.cells) (slots + rm.slots) Q (F0 m (pc + 3) ls rest)) : W p l e R s m args below meth c H locs cells slots Q (F0 m pc ls st0) := by
  obtain ⟨⟨hPc, hDc⟩, hF, hJ⟩ : (va_P D cl w H ∧ va_D (fun _ => True) w) ∧ (∀ q, va_A w H.size q → A q) ∧ ∀ (w1 : va_W) (H1 : Heap) (locs1 : List Loc), (∀ q : Nat, q < H.size → ¬ va_A w H.size q → H1[q]? = H[q]?) → va_P D cl w1 H1 → va_D (va_A w H.size) w1 → va_S A s.heap H1 locs1 → jS D cl A w1 s.heap H1 locs1 := by
    have k0 := jcut_all (w1 := []) hA hS
    exact ⟨k0.1, k0.2.1, fun w1 => (jcut_all (w1 := w1) hA hS).2.2⟩
  subst hst
  refine va_callv (va_runI (As := As) (rest := rest) C.1 (hM H.size) cw ⟨jPre_blind, fun U hU hWm => ⟨rfl, by rw [hU], by rw [hU]; exact hPc, va_K.moved hWm.alike hK, hDc⟩⟩ rfl hn hsz rfl (lv_room hW) hdg hf) hS.2.2 (fun q _ h => hF q h) hF (fun u t H1 locs1 ht hvm hw hB hz hk hS1 => ?_)
  exact kk u H1 locs1 hw (hJ u H1 locs1 hk (by rw [← ht]; exact hB.1) hB.2.2 hS1)
end JQCALL
/-! THE NET's world -/
/-- a wire's cell, by its kind -/
def jwc (k a b q m : Int32) : va_E := if k = 0 then .inr (5, [.int k, .int a, .int b]) else if k = 1 then .inr (3, [.int k, .int a, .int b, .int q]) else .inr (9, [.int q, .int k, .int a, .int b, .int m])
def jWr (L : List Nat) (f : Nat → va_E) (wa : Nat → Option Nat) (n : Nat) (wk w1 w2 wq wm : Nat → Int32) : Prop := ∀ j, j < n → ∃ a, wa j = some a ∧ a ∈ L ∧ f a = jwc (wk j) (w1 j) (w2 j) (wq j) (wm j)
def jGr (L : List Nat) (f : Nat → va_E) (cJ : ClassId) (ga : Nat → Option Nat) (lines : Nat → Nat → Int64) : Prop := (∀ i, i < 5 → ∃ a, ga i = some a ∧ a ∈ L ∧ f a = .inl (cJ, 6, .inr (.inl (lines i)))) ∧ ∀ i j, i < 5 → j < 5 → ga i = ga j → i = j
def jgup (M : Nat → Nat → Int64) (i j : Nat) (x : Int64) : Nat → Nat → Int64 := fun r => if r = i then vp_updL (M i) j x else M r
abbrev NWX (n0 n1 n2 n3 n4 n5 n6 : Nat) (cI cJ cW cG : ClassId) (wa ga : Nat → Option Nat) (size : Int32) (flows : Nat → Int64) (mu ml : Int64) (nb lineOf : Nat → Int32) (lc : Int32) : va_W := [(n0, .inr (4, [.ref n1, .ref n2, .int size, .ref n3, .ref n4, .ref n5, .ref n6, .int lc])), (n1, .inl (cW, 12, .inr (.inr (.inr (.inr wa))))), (n2, .inl (cJ, 12, .inr (.inl flows))), (n3, .inr (1, [.long mu, .long ml])), (n4, .inl (cI, 6, .inl nb)), (n5, .inl (cG, 5, .inr (.inr (.inr (.inr ga))))), (n6, .inl (cI, 6, .inl lineOf))]
def NP (n0 n1 n2 n3 n4 n5 n6 : Nat) (cI cJ cW cG : ClassId) (size : Int32) (wk w1 w2 wq wm : Nat → Int32) (flows : Nat → Int64) (mu ml : Int64) (nb : Nat → Int32) (lines : Nat → Nat → Int64) (lineOf : Nat → Int32) (lc : Int32) (w : va_W) : Prop :=
  size.toNatClampNeg ≤ 12 ∧ ∃ (L : List Nat) (wa ga : Nat → Option Nat) (f : Nat → va_E), w = NWX n0 n1 n2 n3 n4 n5 n6 cI cJ cW cG wa ga size flows mu ml nb lineOf lc ++ va_pl L f ∧ jWr L f wa size.toNatClampNeg wk w1 w2 wq wm ∧ jGr L f cJ ga lines
def NZ (D : va_G) (cl : List vw_C) (A : Nat → Prop) (n0 n1 n2 n3 n4 n5 n6 : Nat) (cI cJ cW cG : ClassId) (size : Int32) (wk w1 w2 wq wm : Nat → Int32) (flows : Nat → Int64) (mu ml : Int64) (nb : Nat → Int32) (lines : Nat → Nat → Int64) (lineOf : Nat → Int32) (lc : Int32) (H0 H : Heap) (locs : List Loc) : Prop :=
  ∃ w, NP n0 n1 n2 n3 n4 n5 n6 cI cJ cW cG size wk w1 w2 wq wm flows mu ml nb lines lineOf lc w ∧ jS D cl A w H0 H locs
theorem jwc_ne {k a b q m : Int32} {x : ClassId × vp_A} : jwc k a b q m ≠ .inl x := by
  unfold jwc
  intro h
  split at h
  · cases h
  · split at h <;> cases h
theorem jGr_put {L : List Nat} {f : Nat → va_E} {cJ : ClassId} {ga : Nat → Option Nat} {lines : Nat → Nat → Int64} {i a : Nat} (h : jGr L f cJ ga lines) (hi : i < 5) (ha : ga i = some a) (j : Nat) (x : Int64) : jGr L (va_up f a (.inl (cJ, 6, .inr (.inl (vp_updL (lines i) j x))))) cJ ga (jgup lines i j x) := by
  refine ⟨fun r hr => ?_, h.2⟩
  obtain ⟨b, h1, h2, h3⟩ := h.1 r hr
  refine ⟨b, h1, h2, ?_⟩
  by_cases e : r = i
  · subst e
    have hb : b = a := Option.some.inj (h1.symm.trans ha)
    subst hb
    rw [va_up_self]
    unfold jgup
    rw [if_pos rfl]
  · have hb : b ≠ a := fun q => e (h.2 r i hr hi (by rw [h1, ha, q]))
    rw [va_up_ne _ _ hb, h3]
    unfold jgup
    rw [if_neg e]
theorem jWr_put {L : List Nat} {f : Nat → va_E} {wa : Nat → Option Nat} {n : Nat} {wk w1 w2 wq wm : Nat → Int32} {a : Nat} {x : ClassId × vp_A} {e : va_E} (h : jWr L f wa n wk w1 w2 wq wm) (ha : f a = .inl x) : jWr L (va_up f a e) wa n wk w1 w2 wq wm := by
  intro j hj
  obtain ⟨b, h1, h2, h3⟩ := h j hj
  have hb : b ≠ a := fun q => jwc_ne (h3.symm.trans (by rw [q]; exact ha))
  exact ⟨b, h1, h2, by rw [va_up_ne _ _ hb]; exact h3⟩
section JNET
variable {p : Program} {l : Launch} {e : Env} {R : Room} {s : State} {m : MethodId} {args : Array Value} {below : List Frame} {meth : Method} {c : Code} {H : Heap} {locs : List Loc} {cells slots : Nat} {Q : State → Prop}
variable {cc : ByteArray} {pc : Nat} {ls : Array Slot} {rest : List Value} {D : va_G} {cl : List vw_C} {A : Nat → Prop} {tys : List (ClassId × FieldType)} {w X : va_W} {L : List Nat} {f : Nat → va_E} {a : Nat} {H0 : Heap}
/-- a reference out of an array of references -/
theorem jn_ald (hx : p.tables.exec = Jvm.exec) (hb : c.code = cc) (hK : va_K D cl tys s) (hP : va_P D cl w H) (q0 t0 : Nat) {cA : ClassId} {ty : FieldType} {n v : Nat} {g : Nat → Option Nat} (ha : w[q0]? = some (a, .inl (cA, n, .inr (.inr (.inr (.inr g)))))) (ht : tys[t0]? = some (cA, ty)) {i : Int32} (hin : vp_in i n) (hv : g i.toNatClampNeg = some v) (hdg : decode cc pc = .ok (.aaload, 1)) (hr : (∃ C, ty = .object C) ∨ ∃ t, ty = .array t)
    (kk : W p l e R s m args below meth c H locs cells slots Q (F0 m (pc + 1) ls (.ref v :: rest))) : W p l e R s m args below meth c H locs cells slots Q (F0 m pc ls (.int i :: .ref a :: rest)) := by
  have hlt : i.toNatClampNeg < n := Nat.not_le.mp fun q => hin (Or.inr q)
  have kk : W p l e R s m args below meth c H locs cells slots Q (F0 m (pc + 1) ls (va_rf (g i.toNatClampNeg) :: rest)) := by rw [hv]; exact kk
  rcases hr with ⟨C, rfl⟩ | ⟨t, rfl⟩
  · exact W.aald (v := va_rf (g i.toNatClampNeg)) (ty := .object C) hx hb (hP q0 _ ha) ((hK.2 t0 _ ht).1 n (fun j => va_rf (g j))) rfl (fun q => by cases q) (by show ¬ (i < 0 ∨ (arrV _ _ _).slots.size ≤ _); rw [arrV_size]; exact hin) (by show (arrV _ _ _).slots[_]? = _; rw [arrV_read _ _ hlt]) rfl rfl hdg kk
  · exact W.aald (v := va_rf (g i.toNatClampNeg)) (ty := .array t) hx hb (hP q0 _ ha) ((hK.2 t0 _ ht).1 n (fun j => va_rf (g j))) rfl (fun q => by cases q) (by show ¬ (i < 0 ∨ (arrV _ _ _).slots.size ≤ _); rw [arrV_size]; exact hin) (by show (arrV _ _ _).slots[_]? = _; rw [arrV_read _ _ hlt]) rfl rfl hdg kk
/-- a long out of a pooled row -/
theorem jn_lald (hx : p.tables.exec = Jvm.exec) (hb : c.code = cc) (hK : va_K D cl tys s) (hP : va_P D cl (X ++ va_pl L f) H) (hm : a ∈ L) (t0 : Nat) {cA : ClassId} {n : Nat} {g : Nat → Int64} (hf : f a = .inl (cA, n, .inr (.inl g))) (ht : tys[t0]? = some (cA, .long)) {i : Int32} (hin : vp_in i n) (hdg : decode cc pc = .ok (.laload, 1))
    (kk : W p l e R s m args below meth c H locs cells slots Q (F0 m (pc + 1) ls (.long (g i.toNatClampNeg) :: rest))) : W p l e R s m args below meth c H locs cells slots Q (F0 m pc ls (.int i :: .ref a :: rest)) := by
  obtain ⟨k, hk⟩ := va_pl_get (X := X) (f := f) hm
  rw [hf] at hk
  exact va_lald hx hb hK hP k t0 hk ht hin hdg kk
theorem jn_last {cA : ClassId} {ga wa : Nat → Option Nat} {lines : Nat → Nat → Int64} {r n : Nat} {wk w1 w2 wq wm : Nat → Int32} (hx : p.tables.exec = Jvm.exec) (hb : c.code = cc) (hK : va_K D cl tys s) (hS : jS D cl A (X ++ va_pl L f) H0 H locs) (hm : a ∈ L) (t0 : Nat) (hf : f a = .inl (cA, 6, .inr (.inl (lines r)))) (hr : r < 5) (hg : ga r = some a) (hG : jGr L f cA ga lines) (hW : jWr L f wa n wk w1 w2 wq wm) (ht : tys[t0]? = some (cA, .long)) {i : Int32} {x : Int64} (hin : vp_in i 6) (hdg : decode cc pc = .ok (.lastore, 1))
    (kk : ∀ (H1 : Heap) (locs1 : List Loc) (f1 : Nat → va_E), jWr L f1 wa n wk w1 w2 wq wm → jGr L f1 cA ga (jgup lines r i.toNatClampNeg x) → jS D cl A (X ++ va_pl L f1) H0 H1 locs1 → W p l e R s m args below meth c H1 locs1 cells slots Q (F0 m (pc + 1) ls rest)) : W p l e R s m args below meth c H locs cells slots Q (F0 m pc ls (.long x :: .int i :: .ref a :: rest)) := by
  obtain ⟨k, hk⟩ := va_pl_get (X := X) (f := f) hm
  have hk2 := hk
  rw [hf] at hk
  refine va_last hx hb hK hS.1 hS.2.1 hS.2.2 k t0 hk ht hin hdg (fun H1 locs1 a1 a2 a3 => ?_)
  rw [va_pl_set hS.2.1 hm hk2] at a1 a2
  exact kk H1 locs1 _ (jWr_put hW hf) (jGr_put hG hr hg _ _) ⟨a1, a2, a3⟩
theorem jn_kind {k a1 a2 q mm : Int32} {own : String} {index : Nat} {Ts : List Cond} (hx : p.tables.exec = Jvm.exec) (hb : c.code = cc) (hts : ∀ w ∈ Ts, w.before args s = true) (in4 : ∀ w ∈ u_ws RX4 TX4 3, w ∈ Ts) (in2 : ∀ w ∈ u_ws RX2 TX2 4, w ∈ Ts) (in8 : ∀ w ∈ u_ws RX8 TX8 5, w ∈ Ts) (hown : s.vm.findClass own = some m.cls) (hK : va_K D vwCl tys s) (hP : va_P D vwCl (X ++ va_pl L f) H) (hm : a ∈ L) (hf : f a = jwc k a1 a2 q mm) (hlink : (Cond.fieldLink own index "OhmNets$OneWire" "kind" "I").before args s = true) (hdg : decode cc pc = .ok (.getfield index, 3))
    (kk : W p l e R s m args below meth c H locs cells slots Q (F0 m (pc + 3) ls (.int k :: rest))) : W p l e R s m args below meth c H locs cells slots Q (F0 m pc ls (.ref a :: rest)) := by
  obtain ⟨k9, hk⟩ := va_pl_get (X := X) (f := f) hm
  rw [hf] at hk
  unfold jwc at hk
  by_cases e0 : k = 0
  · rw [if_pos e0] at hk
    exact va_get (D := D) (ci := 5) (v := .int k) (C := RX4) (T := TX4) (N := 3) hx hb hts in4 hown hK hP k9 hk rfl 0 (by decide) hlink (fun _ h => h) rfl hdg kk
  · rw [if_neg e0] at hk
    by_cases e1 : k = 1
    · rw [if_pos e1] at hk
      exact va_get (D := D) (ci := 3) (v := .int k) (C := RX2) (T := TX2) (N := 4) hx hb hts in2 hown hK hP k9 hk rfl 0 (by decide) hlink (fun _ h => h) rfl hdg kk
    · rw [if_neg e1] at hk
      exact va_get (D := D) (ci := 9) (v := .int k) (C := RX8) (T := TX8) (N := 5) hx hb hts in8 hown hK hP k9 hk rfl 1 (by decide) hlink (fun _ h => h) rfl hdg kk
theorem jn_first {k a1 a2 q mm : Int32} {own : String} {index : Nat} {Ts : List Cond} (hx : p.tables.exec = Jvm.exec) (hb : c.code = cc) (hts : ∀ w ∈ Ts, w.before args s = true) (in4 : ∀ w ∈ u_ws RX4 TX4 3, w ∈ Ts) (in2 : ∀ w ∈ u_ws RX2 TX2 4, w ∈ Ts) (in8 : ∀ w ∈ u_ws RX8 TX8 5, w ∈ Ts) (hown : s.vm.findClass own = some m.cls) (hK : va_K D vwCl tys s) (hP : va_P D vwCl (X ++ va_pl L f) H) (hm : a ∈ L) (hf : f a = jwc k a1 a2 q mm) (hlink : (Cond.fieldLink own index "OhmNets$OneWire" "first" "I").before args s = true) (hdg : decode cc pc = .ok (.getfield index, 3))
    (kk : W p l e R s m args below meth c H locs cells slots Q (F0 m (pc + 3) ls (.int a1 :: rest))) : W p l e R s m args below meth c H locs cells slots Q (F0 m pc ls (.ref a :: rest)) := by
  obtain ⟨k9, hk⟩ := va_pl_get (X := X) (f := f) hm
  rw [hf] at hk
  unfold jwc at hk
  by_cases e0 : k = 0
  · rw [if_pos e0] at hk
    exact va_get (D := D) (ci := 5) (v := .int a1) (C := RX4) (T := TX4) (N := 3) hx hb hts in4 hown hK hP k9 hk rfl 1 (by decide) hlink (fun _ h => h) rfl hdg kk
  · rw [if_neg e0] at hk
    by_cases e1 : k = 1
    · rw [if_pos e1] at hk
      exact va_get (D := D) (ci := 3) (v := .int a1) (C := RX2) (T := TX2) (N := 4) hx hb hts in2 hown hK hP k9 hk rfl 1 (by decide) hlink (fun _ h => h) rfl hdg kk
    · rw [if_neg e1] at hk
      exact va_get (D := D) (ci := 9) (v := .int a1) (C := RX8) (T := TX8) (N := 5) hx hb hts in8 hown hK hP k9 hk rfl 2 (by decide) hlink (fun _ h => h) rfl hdg kk
theorem jn_second {k a1 a2 q mm : Int32} {own : String} {index : Nat} {Ts : List Cond} (hx : p.tables.exec = Jvm.exec) (hb : c.code = cc) (hts : ∀ w ∈ Ts, w.before args s = true) (in4 : ∀ w ∈ u_ws RX4 TX4 3, w ∈ Ts) (in2 : ∀ w ∈ u_ws RX2 TX2 4, w ∈ Ts) (in8 : ∀ w ∈ u_ws RX8 TX8 5, w ∈ Ts) (hown : s.vm.findClass own = some m.cls) (hK : va_K D vwCl tys s) (hP : va_P D vwCl (X ++ va_pl L f) H) (hm : a ∈ L) (hf : f a = jwc k a1 a2 q mm) (hlink : (Cond.fieldLink own index "OhmNets$OneWire" "second" "I").before args s = true) (hdg : decode cc pc = .ok (.getfield index, 3))
    (kk : W p l e R s m args below meth c H locs cells slots Q (F0 m (pc + 3) ls (.int a2 :: rest))) : W p l e R s m args below meth c H locs cells slots Q (F0 m pc ls (.ref a :: rest)) := by
  obtain ⟨k9, hk⟩ := va_pl_get (X := X) (f := f) hm
  rw [hf] at hk
  unfold jwc at hk
  by_cases e0 : k = 0
  · rw [if_pos e0] at hk
    exact va_get (D := D) (ci := 5) (v := .int a2) (C := RX4) (T := TX4) (N := 3) hx hb hts in4 hown hK hP k9 hk rfl 2 (by decide) hlink (fun _ h => h) rfl hdg kk
  · rw [if_neg e0] at hk
    by_cases e1 : k = 1
    · rw [if_pos e1] at hk
      exact va_get (D := D) (ci := 3) (v := .int a2) (C := RX2) (T := TX2) (N := 4) hx hb hts in2 hown hK hP k9 hk rfl 2 (by decide) hlink (fun _ h => h) rfl hdg kk
    · rw [if_neg e1] at hk
      exact va_get (D := D) (ci := 9) (v := .int a2) (C := RX8) (T := TX8) (N := 5) hx hb hts in8 hown hK hP k9 hk rfl 3 (by decide) hlink (fun _ h => h) rfl hdg kk
end JNET
/-! calls on a wire out of the pool -/
theorem va_pl_perm {L : List Nat} {f : Nat → va_E} {a : Nat} (hm : a ∈ L) : (va_pl L f).Perm ((a, f a) :: va_pl (L.erase a) f) := by
  have h := (List.perm_cons_erase hm).map (fun a => ((a, f a) : Nat × va_E))
  exact h
theorem jcut_pool1 {D : va_G} {cl : List vw_C} {A : Nat → Prop} {X : va_W} {L : List Nat} {f : Nat → va_E} {a : Nat} {e : va_E} {H0 H : Heap} {locs : List Loc} (hA : ∀ q, H0.size ≤ q → A q) (hS : jS D cl A (X ++ va_pl L f) H0 H locs) (hm : a ∈ L) (hf : f a = e) : jCut D cl A (X ++ va_pl L f) (X ++ va_pl L f) H0 H locs [(a, e)] [(a, e)] := by
  subst hf
  have hp : (X ++ va_pl L f).Perm ([(a, f a)] ++ (X ++ va_pl (L.erase a) f)) := ((va_pl_perm hm).append_left X).trans List.perm_middle
  obtain ⟨h1, h2, h3⟩ := jcut_perm (w1 := [(a, f a)]) hA hS hp
  exact ⟨h1, h2, fun H1 locs1 a1 a2 a3 a4 => jS_perm hp.symm (h3 H1 locs1 a1 a2 a3 a4)⟩
/-- a wire and one fixed cell -/
theorem jcut_pool2 {D : va_G} {cl : List vw_C} {A : Nat → Prop} {X X1 X' : va_W} {d d' : Nat × va_E} {L : List Nat} {f : Nat → va_E} {a : Nat} {e : va_E} {H0 H : Heap} {locs : List Loc} (hA : ∀ q, H0.size ≤ q → A q) (hS : jS D cl A (X ++ va_pl L f) H0 H locs) (hm : a ∈ L) (hf : f a = e) (hX : X.Perm (d :: X')) (hX1 : X1.Perm (d' :: X')) : jCut D cl A (X ++ va_pl L f) (X1 ++ va_pl L f) H0 H locs [(a, e), d] [(a, e), d'] := by
  subst hf
  have key : ∀ {Y : va_W} {b : Nat × va_E}, Y.Perm (b :: X') → (Y ++ va_pl L f).Perm ([(a, f a), b] ++ (X' ++ va_pl (L.erase a) f)) := fun hY => by
    refine (hY.append (va_pl_perm hm)).trans ?_
    exact List.perm_middle.trans (List.Perm.refl _)
  obtain ⟨h1, h2, h3⟩ := jcut_perm (w1 := [(a, f a), d']) hA hS (key hX)
  exact ⟨h1, h2, fun H1 locs1 a1 a2 a3 a4 => jS_perm (key hX1).symm (h3 H1 locs1 a1 a2 a3 a4)⟩
section JNC
variable {p : Program} {l : Launch} {e : Env} {R : Room} {s : State} {m : MethodId} {args : Array Value} {below : List Frame} {meth : Method} {c : Code} {H : Heap} {locs : List Loc} {cells slots : Nat} {Q : State → Prop}
variable {cc : ByteArray} {pc nL : Nat} {ls : Array Slot} {rest : List Value} {D : va_G} {A : Nat → Prop} {tys : List (ClassId × FieldType)} {w wf wc w1 : va_W} {Ts : List Cond} {y0 : MethodName} {rtt : Option FieldType}
variable {index maxL n b q0 ci : Nat} {x y : MethodName} {bytes : ByteArray} {ret : Option FieldType} {ws : List Cond} {rm : Room} {As st0 : List Value} {owner : String}
/-- the class of a wire, by its kind -/
theorem jwc_recv {k a1 a2 q mm : Int32} {a q0 : Nat} {w : va_W} (hK : va_K D vwCl tys s) (hP : va_P D vwCl w H) (hq : w[q0]? = some (a, jwc k a1 a2 q mm)) (C : String) (hC : C = if k = 0 then RX4 else if k = 1 then RX2 else RX8) : ∃ cell : Cell, H[a]? = some cell ∧ cell.vm.isStatics = false ∧ s.vm.findClass C = some cell.cls := by
  subst hC
  unfold jwc at hq
  by_cases e0 : k = 0
  · rw [if_pos e0] at hq ⊢
    exact va_recv hK hP (ci := 5) (q := (RX4, TX4, 3)) rfl hq
  · rw [if_neg e0] at hq ⊢
    by_cases e1 : k = 1
    · rw [if_pos e1] at hq ⊢
      exact va_recv hK hP (ci := 3) (q := (RX2, TX2, 4)) rfl hq
    · rw [if_neg e1] at hq ⊢
      exact va_recv hK hP (ci := 9) (q := (RX8, TX8, 5)) rfl hq
/-- a virtual call on a wire whose method is y, whatever its class: va_Run of the three classes -/
theorem jn_touch {X : va_W} {L : List Nat} {f : Nat → va_E} {a : Nat} {k a1 a2 q mm kn r : Int32} (C : jC p s m meth c cc nL args Ts y0 rtt) (hK : va_K D vwCl tys s) (hA : ∀ q, s.heap.size ≤ q → A q) (hS : jS D vwCl A (X ++ va_pl L f) s.heap H locs) (hm : a ∈ L) (hf : f a = jwc k a1 a2 q mm) (hM : JMi l y ws rm D vwCl tys [.ref a, .int kn] [(a, jwc k a1 a2 q mm)] [(a, jwc k a1 a2 q mm)] r)
    (cw4 : CallW R s args y0.cls RX4 index y bytes maxL ret ws rm rm.cells rm.slots 1) (cw2 : va_CU R s args y0.cls RX2 owner index x y bytes maxL ret ws rm rm.cells rm.slots 1) (cw8 : va_CU R s args y0.cls RX8 owner index x y bytes maxL ret ws rm rm.cells rm.slots 1)
    (hsz : ls.size = nL) (hst : st0 = .int kn :: .ref a :: rest) (hW : (rest.map fun v => v.category).sum ≤ 8) (hdg : decode cc pc = .ok (.invokevirtual index, 3)) (hf2 : cells + rm.cells ≤ R.cells ∧ slots + rm.slots ≤ R.slots)
    (kk : ∀ (H1 : Heap) (locs1 : List Loc), jS D vwCl A (X ++ va_pl L f) s.heap H1 locs1 → W p l e R s m args below meth c H1 locs1 (cells + rm.cells) (slots + rm.slots) Q (F0 m (pc + 3) ls (.int r :: rest))) : W p l e R s m args below meth c H locs cells slots Q (F0 m pc ls st0) := by
  obtain ⟨⟨hPc, hDc⟩, hF, hJ⟩ := jcut_pool1 hA hS hm hf
  subst hst
  have hpre : ∀ U : State, U.heap = H → s.WarmedH U.vm → va_Pc [.ref a, .int kn] (jPre D vwCl tys [(a, jwc k a1 a2 q mm)] H.size) (Value.ref a :: [Value.int kn]).toArray U := fun U hU hWm => ⟨rfl, by rw [hU], by rw [hU]; exact hPc, va_K.moved hWm.alike hK, hDc⟩
  have run : va_Run p l e R s m args below meth c H locs cells slots rm.cells rm.slots (F0 m pc ls (.int kn :: .ref a :: rest)) rest (jQi D vwCl tys (va_A [(a, jwc k a1 a2 q mm)] H.size) [(a, jwc k a1 a2 q mm)] r (Value.ref a :: [Value.int kn]).toArray) (va_A [(a, jwc k a1 a2 q mm)] H.size) := by
    by_cases e0 : k = 0
    · exact va_runV (C := RX4) (b := a) (As := [.int kn]) (rest := rest) C.1 (hM H.size) cw4 ⟨jPre_blind, jwc_recv (q0 := 0) hK hPc rfl RX4 (by rw [if_pos e0]), hpre⟩ rfl rfl hsz rfl (lv_room hW) hdg hf2
    · by_cases e1 : k = 1
      · exact va_runU (C := RX2) (b := a) (As := [.int kn]) (rest := rest) C.1 (hM H.size) cw2 ⟨jPre_blind, jwc_recv (q0 := 0) hK hPc rfl RX2 (by rw [if_neg e0, if_pos e1]), hpre⟩ rfl rfl hsz rfl (lv_room hW) hdg hf2
      · exact va_runU (C := RX8) (b := a) (As := [.int kn]) (rest := rest) C.1 (hM H.size) cw8 ⟨jPre_blind, jwc_recv (q0 := 0) hK hPc rfl RX8 (by rw [if_neg e0, if_neg e1]), hpre⟩ rfl rfl hsz rfl (lv_room hW) hdg hf2
  refine va_calli run hS.2.2 (fun q _ h => hF q h) hF (fun r' u t H1 locs1 ht hvm hw hB hz hk hS1 => ?_)
  subst hw
  exact kk H1 locs1 (hJ H1 locs1 hk (by rw [← ht]; exact hB.1) hB.2.2 hS1)
end JNC
