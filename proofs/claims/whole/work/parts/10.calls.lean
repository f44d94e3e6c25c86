/-- what a call needs of the caller's world, and what it gives back: the callee has wc and leaves w1; the caller had w and has wf -/
def jCut (D : va_G) (cl : List vw_C) (A : Nat → Prop) (w wf : va_W) (H0 H : Heap) (locs : List Loc) (wc w1 : va_W) : Prop :=
  (va_P D cl wc H ∧ va_D (fun _ => True) wc) ∧ (∀ q, va_A wc H.size q → A q) ∧ ∀ (H1 : Heap) (locs1 : List Loc), (∀ q : Nat, q < H.size → ¬ va_A wc H.size q → H1[q]? = H[q]?) → va_P D cl w1 H1 → va_D (va_A wc H.size) w1 → va_S A H0 H1 locs1 → jS D cl A wf H0 H1 locs1
theorem jPre_blind {av : List Value} {D : va_G} {cl : List vw_C} {tys : List (ClassId × FieldType)} {w : va_W} {sz : Nat} : FrameBlind (va_Pc av (jPre D cl tys w sz)) := fun a U g mk q => by
  obtain ⟨q0, q1, qP, qK, qD⟩ := q
  exact ⟨q0, q1, qP, va_K.moved (u := U) (U := U.calling g mk a) (Vm.Alike.refl U.vm) qK, qD⟩
section JCUT
variable {D : va_G} {cl : List vw_C} {A : Nat → Prop} {w wc w1 : va_W} {H0 H : Heap} {locs : List Loc}
/-- the callee has the whole world -/
theorem jcut_all (hA : ∀ q, H0.size ≤ q → A q) (hS : jS D cl A w H0 H locs) : jCut D cl A w w1 H0 H locs w w1 := by
  obtain ⟨hP, hD, hS⟩ := hS
  have hF : ∀ q, va_A w H.size q → A q := fun q h => by
    rcases h with ⟨k, e, h⟩ | h
    · exact hD.2 k (q, e) h
    · exact hA q (Nat.le_trans hS.1 h)
  exact ⟨⟨hP, hD.weaken (fun _ _ _ _ => trivial)⟩, hF, fun H1 locs1 hk hP1 hD1 hS1 => ⟨hP1, hD1.weaken (fun _ _ _ h => hF _ h), hS1⟩⟩
/-- the callee has the cells at the places isC; isF says where the cells of the new world come from -/
theorem jcut_at {wr wf : va_W} (hA : ∀ q, H0.size ≤ q → A q) (hS : jS D cl A w H0 H locs) (isC isR isF : List Nat) (hC : isC.map (fun i => w[i]?) = wc.map some) (hR : isR.map (fun i => w[i]?) = wr.map some) (hF : isF.map (fun i => (wr ++ w1)[i]?) = wf.map some) (hn : va_nd isC = true ∧ va_nd isR = true ∧ va_nd isF = true ∧ ∀ i ∈ isR, i ∉ isC) : jCut D cl A w wf H0 H locs wc w1 := by
  obtain ⟨hP, hD, hS⟩ := hS
  obtain ⟨n1, n2, n3, n4⟩ := hn
  have hFr := va_free hD hS hA isC hC
  have hDc := hD.sub isC n1 hC
  refine ⟨⟨fun k q hk => ?_, hDc.weaken (fun _ _ _ _ => trivial)⟩, hFr, fun H1 locs1 hk hP1 hD1 hS1 => ?_⟩
  · have h1 : (isC.map (fun i => w[i]?))[k]? = some (some q) := by rw [hC, List.getElem?_map, hk]; rfl
    rw [List.getElem?_map] at h1
    cases hi : isC[k]? with
    | none => rw [hi] at h1; cases h1
    | some i => rw [hi] at h1; exact hP i q (Option.some.inj h1)
  · obtain ⟨g1, g2⟩ := va_join hP hD isC isR hC hR n2 n4 hk hFr hP1 hD1
    have hDf := g2.sub isF n3 hF
    refine ⟨fun k q hk => ?_, hDf, hS1⟩
    have h1 : (isF.map (fun i => (wr ++ w1)[i]?))[k]? = some (some q) := by rw [hF, List.getElem?_map, hk]; rfl
    rw [List.getElem?_map] at h1
    cases hi : isF[k]? with
    | none => rw [hi] at h1; cases h1
    | some i => rw [hi] at h1; exact g1 i q (Option.some.inj h1)
/-- the callee has no cells -/
theorem jcut_nil (hA : ∀ q, H0.size ≤ q → A q) (hS : jS D cl A w H0 H locs) : jCut D cl A w w H0 H locs [] [] := by
  obtain ⟨hP, hD, hS⟩ := hS
  refine ⟨⟨fun k q h => by simp at h, ⟨fun i j p q h => by simp at h, fun k q h => by simp at h⟩⟩, fun q h => ?_, fun H1 locs1 hk hP1 hD1 hS1 => ⟨hP.kept (fun k q hq => hk q.1 (hP k q hq).lt (fun h => ?_)), hD, hS1⟩⟩
  · rcases h with ⟨k, e, h⟩ | h
    · simp at h
    · exact hA q (Nat.le_trans hS.1 h)
  · rcases h with ⟨k, e, h⟩ | h
    · simp at h
    · exact absurd (hP k q hq).lt (Nat.not_lt.mpr h)
end JCUT
section JCALL
variable {p : Program} {l : Launch} {e : Env} {R : Room} {s : State} {m : MethodId} {args : Array Value} {below : List Frame} {meth : Method} {c : Code} {H : Heap} {locs : List Loc} {cells slots : Nat} {Q : State → Prop}
variable {cc : ByteArray} {pc nL : Nat} {ls : Array Slot} {rest : List Value} {D : va_G} {cl : List vw_C} {A : Nat → Prop} {tys : List (ClassId × FieldType)} {w wf wc w1 : va_W} {Ts : List Cond} {y0 : MethodName} {rtt : Option FieldType}
variable {index maxL n b q0 ci : Nat} {y : MethodName} {bytes : ByteArray} {ret : Option FieldType} {ws : List Cond} {rm : Room} {As st0 : List Value} {vc : vw_C} {fs : List Value}
theorem j_Vi {r : Int32} (C : jC p s m meth c cc nL args Ts y0 rtt) (hK : va_K D cl tys s) (hS : jS D cl A w s.heap H locs) (k : jCut D cl A w wf s.heap H locs wc w1) (hM : JMi l y ws rm D cl tys (.ref b :: As) wc w1 r)
    (cw : CallW R s args y0.cls vc.1 index y bytes maxL ret ws rm rm.cells rm.slots n) (hq : wc[q0]? = some (b, .inr (ci, fs))) (hc : cl[ci]? = some vc) (hn : As.length = n) (hsz : ls.size = nL) (hst : st0 = As.reverse ++ .ref b :: rest) (hW : (rest.map fun v => v.category).sum ≤ 8) (hdg : decode cc pc = .ok (.invokevirtual index, 3)) (hf : cells + rm.cells ≤ R.cells ∧ slots + rm.slots ≤ R.slots)
    (kk : ∀ (H1 : Heap) (locs1 : List Loc), jS D cl A wf s.heap H1 locs1 → W p l e R s m args below meth c H1 locs1 (cells + rm.cells) (slots + rm.slots) Q (F0 m (pc + 3) ls (.int r :: rest))) : W p l e R s m args below meth c H locs cells slots Q (F0 m pc ls st0) := by
  obtain ⟨⟨hPc, hDc⟩, hF, hJ⟩ := k
  subst hst
  refine va_calli (va_runV (As := As) (rest := rest) C.1 (hM H.size) cw ⟨jPre_blind, va_recv hK hPc hc hq, fun U hU hWm => ⟨rfl, by rw [hU], by rw [hU]; exact hPc, va_K.moved hWm.alike hK, hDc⟩⟩ rfl hn hsz rfl (lv_room hW) hdg hf) hS.2.2 (fun q _ h => hF q h) hF (fun r' u t H1 locs1 ht hvm hw hB hz hk hS1 => ?_)
  subst hw
  exact kk H1 locs1 (hJ H1 locs1 hk (by rw [← ht]; exact hB.1) hB.2.2 hS1)
theorem j_Vl {r : Int64} (C : jC p s m meth c cc nL args Ts y0 rtt) (hK : va_K D cl tys s) (hS : jS D cl A w s.heap H locs) (k : jCut D cl A w wf s.heap H locs wc w1) (hM : JMl l y ws rm D cl tys (.ref b :: As) wc w1 r)
    (cw : CallW R s args y0.cls vc.1 index y bytes maxL ret ws rm rm.cells rm.slots n) (hq : wc[q0]? = some (b, .inr (ci, fs))) (hc : cl[ci]? = some vc) (hn : As.length = n) (hsz : ls.size = nL) (hst : st0 = As.reverse ++ .ref b :: rest) (hW : (rest.map fun v => v.category).sum ≤ 8) (hdg : decode cc pc = .ok (.invokevirtual index, 3)) (hf : cells + rm.cells ≤ R.cells ∧ slots + rm.slots ≤ R.slots)
    (kk : ∀ (H1 : Heap) (locs1 : List Loc), jS D cl A wf s.heap H1 locs1 → W p l e R s m args below meth c H1 locs1 (cells + rm.cells) (slots + rm.slots) Q (F0 m (pc + 3) ls (.long r :: rest))) : W p l e R s m args below meth c H locs cells slots Q (F0 m pc ls st0) := by
  obtain ⟨⟨hPc, hDc⟩, hF, hJ⟩ := k
  subst hst
  refine va_calll (va_runV (As := As) (rest := rest) C.1 (hM H.size) cw ⟨jPre_blind, va_recv hK hPc hc hq, fun U hU hWm => ⟨rfl, by rw [hU], by rw [hU]; exact hPc, va_K.moved hWm.alike hK, hDc⟩⟩ rfl hn hsz rfl (lv_room hW) hdg hf) hS.2.2 (fun q _ h => hF q h) hF (fun r' u t H1 locs1 ht hvm hw hB hz hk hS1 => ?_)
  subst hw
  exact kk H1 locs1 (hJ H1 locs1 hk (by rw [← ht]; exact hB.1) hB.2.2 hS1)
theorem j_Vv (C : jC p s m meth c cc nL args Ts y0 rtt) (hK : va_K D cl tys s) (hS : jS D cl A w s.heap H locs) (k : jCut D cl A w wf s.heap H locs wc w1) (hM : JMv l y ws rm D cl tys (.ref b :: As) wc w1)
    (cw : CallW R s args y0.cls vc.1 index y bytes maxL ret ws rm rm.cells rm.slots n) (hq : wc[q0]? = some (b, .inr (ci, fs))) (hc : cl[ci]? = some vc) (hn : As.length = n) (hsz : ls.size = nL) (hst : st0 = As.reverse ++ .ref b :: rest) (hW : (rest.map fun v => v.category).sum ≤ 8) (hdg : decode cc pc = .ok (.invokevirtual index, 3)) (hf : cells + rm.cells ≤ R.cells ∧ slots + rm.slots ≤ R.slots)
    (kk : ∀ (H1 : Heap) (locs1 : List Loc), jS D cl A wf s.heap H1 locs1 → W p l e R s m args below meth c H1 locs1 (cells + rm.cells) (slots + rm.slots) Q (F0 m (pc + 3) ls rest)) : W p l e R s m args below meth c H locs cells slots Q (F0 m pc ls st0) := by
  obtain ⟨⟨hPc, hDc⟩, hF, hJ⟩ := k
  subst hst
  refine va_callv (va_runV (As := As) (rest := rest) C.1 (hM H.size) cw ⟨jPre_blind, va_recv hK hPc hc hq, fun U hU hWm => ⟨rfl, by rw [hU], by rw [hU]; exact hPc, va_K.moved hWm.alike hK, hDc⟩⟩ rfl hn hsz rfl (lv_room hW) hdg hf) hS.2.2 (fun q _ h => hF q h) hF (fun u t H1 locs1 ht hvm hw hB hz hk hS1 => ?_)
  exact kk H1 locs1 (hJ H1 locs1 hk (by rw [← ht]; exact hB.1) hB.2.2 hS1)
/-! a constructor, or a method of the class above, by invokespecial -/
theorem j_Iv (C : jC p s m meth c cc nL args Ts y0 rtt) (hK : va_K D cl tys s) (hS : jS D cl A w s.heap H locs) (k : jCut D cl A w wf s.heap H locs wc w1) (hM : JMv l y ws rm D cl tys (.ref b :: As) wc w1)
    (cw : CallB R s args y0.cls index y bytes maxL none ws rm rm.cells rm.slots n ∧ y.name = "<init>" ∧ (Cond.instanceMethod y).before args s = true) (hn : As.length = n) (hsz : ls.size = nL) (hst : st0 = As.reverse ++ .ref b :: rest) (hW : (rest.map fun v => v.category).sum ≤ 8) (hdg : decode cc pc = .ok (.invokespecial index, 3)) (hf : cells + rm.cells ≤ R.cells ∧ slots + rm.slots ≤ R.slots)
    (kk : ∀ (H1 : Heap) (locs1 : List Loc), jS D cl A wf s.heap H1 locs1 → W p l e R s m args below meth c H1 locs1 (cells + rm.cells) (slots + rm.slots) Q (F0 m (pc + 3) ls rest)) : W p l e R s m args below meth c H locs cells slots Q (F0 m pc ls st0) := by
  obtain ⟨⟨hPc, hDc⟩, hF, hJ⟩ := k
  subst hst
  refine va_callv (va_runI (As := As) (rest := rest) C.1 (hM H.size) cw ⟨jPre_blind, fun U hU hWm => ⟨rfl, by rw [hU], by rw [hU]; exact hPc, va_K.moved hWm.alike hK, hDc⟩⟩ rfl hn hsz rfl (lv_room hW) hdg hf) hS.2.2 (fun q _ h => hF q h) hF (fun u t H1 locs1 ht hvm hw hB hz hk hS1 => ?_)
  exact kk H1 locs1 (hJ H1 locs1 hk (by rw [← ht]; exact hB.1) hB.2.2 hS1)
/-! a static method that has a world -/
theorem j_Si {r : Int32} (C : jC p s m meth c cc nL args Ts y0 rtt) (hK : va_K D cl tys s) (hS : jS D cl A w s.heap H locs) (k : jCut D cl A w wf s.heap H locs wc w1) (hM : JMi l y ws rm D cl tys As wc w1 r)
    (cw : CallB R s args y0.cls index y bytes maxL ret ws rm rm.cells rm.slots n ∧ (Cond.static y).before args s = true) (hn : As.length = n) (hsz : ls.size = nL) (hst : st0 = As.reverse ++ rest) (hW : (rest.map fun v => v.category).sum ≤ 8) (hdg : decode cc pc = .ok (.invokestatic index, 3)) (hf : cells + rm.cells ≤ R.cells ∧ slots + rm.slots ≤ R.slots)
    (kk : ∀ (H1 : Heap) (locs1 : List Loc), jS D cl A wf s.heap H1 locs1 → W p l e R s m args below meth c H1 locs1 (cells + rm.cells) (slots + rm.slots) Q (F0 m (pc + 3) ls (.int r :: rest))) : W p l e R s m args below meth c H locs cells slots Q (F0 m pc ls st0) := by
  obtain ⟨⟨hPc, hDc⟩, hF, hJ⟩ := k
  subst hst
  refine va_calli (va_runS (As := As) (rest := rest) C.1 (hM H.size) cw ⟨jPre_blind, fun U hU hWm => ⟨rfl, by rw [hU], by rw [hU]; exact hPc, va_K.moved hWm.alike hK, hDc⟩⟩ rfl hn hsz rfl (lv_room hW) hdg hf) hS.2.2 (fun q _ h => hF q h) hF (fun r' u t H1 locs1 ht hvm hw hB hz hk hS1 => ?_)
  subst hw
  exact kk H1 locs1 (hJ H1 locs1 hk (by rw [← ht]; exact hB.1) hB.2.2 hS1)
theorem j_Sl {r : Int64} (C : jC p s m meth c cc nL args Ts y0 rtt) (hK : va_K D cl tys s) (hS : jS D cl A w s.heap H locs) (k : jCut D cl A w wf s.heap H locs wc w1) (hM : JMl l y ws rm D cl tys As wc w1 r)
    (cw : CallB R s args y0.cls index y bytes maxL ret ws rm rm.cells rm.slots n ∧ (Cond.static y).before args s = true) (hn : As.length = n) (hsz : ls.size = nL) (hst : st0 = As.reverse ++ rest) (hW : (rest.map fun v => v.category).sum ≤ 8) (hdg : decode cc pc = .ok (.invokestatic index, 3)) (hf : cells + rm.cells ≤ R.cells ∧ slots + rm.slots ≤ R.slots)
    (kk : ∀ (H1 : Heap) (locs1 : List Loc), jS D cl A wf s.heap H1 locs1 → W p l e R s m args below meth c H1 locs1 (cells + rm.cells) (slots + rm.slots) Q (F0 m (pc + 3) ls (.long r :: rest))) : W p l e R s m args below meth c H locs cells slots Q (F0 m pc ls st0) := by
  obtain ⟨⟨hPc, hDc⟩, hF, hJ⟩ := k
  subst hst
  refine va_calll (va_runS (As := As) (rest := rest) C.1 (hM H.size) cw ⟨jPre_blind, fun U hU hWm => ⟨rfl, by rw [hU], by rw [hU]; exact hPc, va_K.moved hWm.alike hK, hDc⟩⟩ rfl hn hsz rfl (lv_room hW) hdg hf) hS.2.2 (fun q _ h => hF q h) hF (fun r' u t H1 locs1 ht hvm hw hB hz hk hS1 => ?_)
  subst hw
  exact kk H1 locs1 (hJ H1 locs1 hk (by rw [← ht]; exact hB.1) hB.2.2 hS1)
end JCALL
