abbrev LkS : Type := (Nat → Nat) × (Nat → Nat → SV) × Int64 × Int64
/-- all nine lists -/
def jLL (cO : ClassId) (dd : Nat) (L : List Nat) (f : Nat → va_E) (ba : Nat → Option Nat) (cnt : Nat → Nat) (sv : Nat → Nat → SV) : Prop := ∃ (sa la ea cap : Nat → Nat) (mc : Nat → Int32) (g : Nat → Nat → Option Nat), (∀ i, i < 9 → ba i = some (sa i) ∧ jOne cO dd L f (sa i) (la i) (ea i) (cap i) (mc i) (g i) (cnt i) (sv i)) ∧ (∀ i j, i < 9 → j < 9 → la i = la j → i = j) ∧ ∀ i j, i < 9 → j < 9 → 0 < cap i → 0 < cap j → ea i = ea j → i = j
def oneOffer (t : Nat) (q : Int32 × Int32 × Int32 × Int32) (σ : LkS) : Option LkS :=
  if σ.1 t ≤ 900 then (fOffer σ.2.2.1 σ.2.2.2 (σ.1 t) (σ.2.1 t)).bind (fun o => match o.2.2 with
    | none => some (σ.1, σ.2.1, o.1, o.2.1)
    | some z => if 0 ≤ z.1 ∧ z.1.toNatClampNeg ≤ σ.1 t then some (va_up σ.1 t (σ.1 t + 1), va_up σ.2.1 t (insSV (σ.2.1 t) z.1.toNatClampNeg (z.2.1, z.2.2, q)), o.1, o.2.1) else none)
  else none
theorem jOne_keep {cO : ClassId} {dd : Nat} {L L1 : List Nat} {f f1 : Nat → va_E} {sa la ea cap : Nat} {mc : Int32} {g : Nat → Option Nat} {n : Nat} {sv : Nat → SV} (h : jOne cO dd L f sa la ea cap mc g n sv) (hsub : ∀ x, x ∈ L → x ∈ L1) (h1 : f1 sa = f sa) (h2 : f1 la = f la) (h3 : 0 < cap → f1 ea = f ea) (h4 : ∀ x y, x ∈ L → f x = shC y → f1 x = f x) : jOne cO dd L1 f1 sa la ea cap mc g n sv := by
  obtain ⟨a1, a2, a3, a4, a5, a6, a7, a8, a9⟩ := h
  refine ⟨hsub _ a1, h1.trans a2, hsub _ a3, h2.trans a4, a5, a6, a7, ?_, fun r hr => ?_⟩
  · rcases a8 with h | ⟨b1, b2, b3⟩
    · exact Or.inl h
    · exact Or.inr ⟨b1, hsub _ b2, (h3 b1).trans b3⟩
  · obtain ⟨a, b1, b2, b3⟩ := a9 r hr
    exact ⟨a, b1, hsub _ b2, (h4 _ _ b2 b3).trans b3⟩
theorem jOffd_LL {cO : ClassId} {dd : Nat} {L L1 : List Nat} {f f1 : Nat → va_E} {ba : Nat → Option Nat} {cnt : Nat → Nat} {sv sv1 : Nat → Nat → SV} {cnt1 : Nat → Nat} {sa la ea cap : Nat → Nat} {mc : Nat → Int32} {g : Nat → Nat → Option Nat} {t : Nat} (ht : t < 9) (hdd : dd ∉ L)
    (h1 : ∀ i, i < 9 → ba i = some (sa i) ∧ jOne cO dd L f (sa i) (la i) (ea i) (cap i) (mc i) (g i) (cnt i) (sv i)) (h2 : ∀ i j, i < 9 → j < 9 → la i = la j → i = j) (h3 : ∀ i j, i < 9 → j < 9 → 0 < cap i → 0 < cap j → ea i = ea j → i = j)
    (hsub : ∀ x, x ∈ L → x ∈ L1) (hfr : ∀ x, x ∈ L → x ≠ la t → x ≠ ea t → f1 x = f x) {ea1 cap1 : Nat} {mc1 : Int32} {g1 : Nat → Option Nat} (hold : ea1 = ea t ∨ ea1 ∉ L) (hone : jOne cO dd L1 f1 (sa t) (la t) ea1 cap1 mc1 g1 (cnt1 t) (sv1 t)) (ho : ∀ i, i ≠ t → cnt1 i = cnt i ∧ sv1 i = sv i) : jLL cO dd L1 f1 ba cnt1 sv1 := by
  have kla : ∀ {x : Nat}, x ∈ L → (∀ vs, f x ≠ .inr (0, vs)) → x ≠ la t := fun hx h z => by
    have h9 := (h1 t ht).2.2.2.2.1
    rw [← z] at h9
    exact h _ h9
  have kea : ∀ {x : Nat}, x ∈ L → (∀ vs, f x ≠ .inl vs) → x ≠ ea t := fun hx h z => by
    rcases (h1 t ht).2.2.2.2.2.2.2.2.1 with h9 | h9
    · exact hdd (by rw [← h9.2, ← z]; exact hx)
    · exact h _ (by rw [z]; exact h9.2.2)
  refine ⟨sa, la, fun i => if i = t then ea1 else ea i, fun i => if i = t then cap1 else cap i, fun i => if i = t then mc1 else mc i, fun i => if i = t then g1 else g i, fun i hi => ⟨(h1 i hi).1, ?_⟩, h2, fun i j hi hj => ?_⟩
  · by_cases e : i = t
    · subst e
      simp only [if_true]
      exact hone
    · simp only [if_neg e]
      rw [(ho i e).1, (ho i e).2]
      have hI := (h1 i hi).2
      obtain ⟨a1, a2, a3, a4, a5, a6, a7, a8, a9⟩ := id hI
      refine jOne_keep hI hsub (hfr _ a1 (kla a1 (fun vs h => ?_)) (kea a1 (fun vs h => ?_))) (hfr _ a3 (fun z => e (h2 i t hi ht z)) (kea a3 (fun vs h => ?_))) (fun hc => ?_) (fun x y hx hf => hfr x hx (kla hx (fun vs h => ?_)) (kea hx (fun vs h => ?_)))
      · rw [a2] at h; cases h
      · rw [a2] at h; cases h
      · rw [a4] at h; cases h
      · obtain ⟨-, b2, b3⟩ := a8.resolve_left (fun h => by omega)
        refine hfr _ b2 (kla b2 (fun vs h => ?_)) (fun z => ?_)
        · rw [b3] at h; cases h
        · rcases (h1 t ht).2.2.2.2.2.2.2.2.1 with h9 | h9
          · exact hdd (by rw [← h9.2, ← z]; exact b2)
          · exact e (h3 i t hi ht hc h9.1 z)
      · rw [hf] at h; cases h
      · rw [hf] at h; cases h
  · have key : ∀ i, i < 9 → i ≠ t → 0 < cap i → ea i ≠ ea1 := fun i hi e hc z => by
      obtain ⟨-, b2, b3⟩ := (h1 i hi).2.2.2.2.2.2.2.2.1.resolve_left (fun h => by omega)
      rcases hold with h | h
      · rcases (h1 t ht).2.2.2.2.2.2.2.2.1 with h9 | h9
        · exact hdd (by rw [← h9.2, ← h, ← z]; exact b2)
        · exact e (h3 i t hi ht hc h9.1 (z.trans h))
      · exact h (z ▸ b2)
    by_cases e1 : i = t <;> by_cases e2 : j = t
    · intro _ _ _; rw [e1, e2]
    · subst e1
      simp only [if_true, if_neg e2]
      intro _ hc z
      exact absurd z.symm (key j hj e2 hc)
    · subst e2
      simp only [if_true, if_neg e1]
      intro hc _ z
      exact absurd z (key i hi e1 hc)
    · simp only [if_neg e1, if_neg e2]
      exact h3 i j hi hj
theorem jnn {p : Int32} {n : Nat} (h : 0 ≤ p ∧ p.toNatClampNeg ≤ n) : ∃ k, k ≤ n ∧ p = nI k := by
  obtain ⟨j, hj, rfl⟩ := nI_of (x := p) (fun q => by
    have h1 := h.1
    rw [Int32.lt_iff_toInt_lt] at q
    rw [Int32.le_iff_toInt_le] at h1
    omega)
  exact ⟨j, by have := h.2; rw [nI_clamp hj] at this; exact this, rfl⟩
section JLOFF
variable {p : Program} {l : Launch} {e : Env} {R : Room} {s : State} {m : MethodId} {args : Array Value} {below : List Frame} {meth : Method} {c : Code} {H : Heap} {locs : List Loc} {cells slots : Nat} {Q : State → Prop}
variable {cc : ByteArray} {pc nL : Nat} {ls : Array Slot} {rest : List Value} {D : va_G} {A : Nat → Prop} {dd mi : Nat} {Ts : List Cond} {y0 : MethodName} {rtt : Option FieldType} {index : Nat} {st0 : List Value} {cI cJ cZ cW cS cO cG : ClassId}
/-- offer to the list of the index t -/
theorem jl_offer {lp b0 v0 t sa : Nat} {ba : Nat → Option Nat} {known : Int32} {vu vl : Int64} {L : List Nat} {f : Nat → va_E} {cnt : Nat → Nat} {sv : Nat → Nat → SV} {q1 q2 q3 q4 : Int32} {σ1 : LkS} (C : jC p s m meth c cc nL args Ts y0 rtt) (hK : va_K D vwCl (TY cI cJ cZ cW cS cO cG) s) (hX : jX dd mi A s) (hA : ∀ q, s.heap.size ≤ q → A q) (hS : jS D vwCl A (LX lp b0 v0 cS ba known vu vl ++ va_pl L f) s.heap H locs) (hLL : jLL cO dd L f ba cnt sv) (ht : t < 9) (hst : ba t = some sa) (hE : oneOffer t (q1, q2, q3, q4) (cnt, sv, vu, vl) = some σ1)
    (cw : CallW R s args y0.cls RX6 index yX6_offer cX6_offer 9 none wsX6_offer rmX6_offer 2 1406 5) (hsz : ls.size = nL) (hst0 : st0 = [.int q4, .int q3, .int q2, .int q1, .ref v0, .ref sa] ++ rest) (hW : (rest.map fun v => v.category).sum ≤ 8) (hdg : decode cc pc = .ok (.invokevirtual index, 3)) (hf : cells + 2 ≤ R.cells ∧ slots + 1406 ≤ R.slots)
    (kk : ∀ (H1 : Heap) (locs1 : List Loc) (L1 : List Nat) (f1 : Nat → va_E), jLL cO dd L1 f1 ba σ1.1 σ1.2.1 → jS D vwCl A (LX lp b0 v0 cS ba known σ1.2.2.1 σ1.2.2.2 ++ va_pl L1 f1) s.heap H1 locs1 → W p l e R s m args below meth c H1 locs1 (cells + 2) (slots + 1406) Q (F0 m (pc + 3) ls rest)) : W p l e R s m args below meth c H locs cells slots Q (F0 m pc ls st0) := by
  haveI hdec : DecidableEq (Nat × va_E) := Classical.typeDecidableEq _
  obtain ⟨fsa, la, ea, cap, mc, g, h1, h2, h3⟩ := hLL
  have hsa : fsa t = sa := Option.some.inj ((h1 t ht).1.symm.trans hst)
  subst hsa
  have hdd : dd ∉ L := fun h => by
    obtain ⟨cell, -, -, -, -, -, -, hn9⟩ := hX.2.2.2.2.2.2.2.2.2
    exact hn9 ((va_D_iff.mp hS.2.1).2 (dd, f dd) (List.mem_append_right _ (List.mem_map.mpr ⟨dd, h, rfl⟩)))
  obtain ⟨hn, hE⟩ := jgd hE
  obtain ⟨o, hO, hE⟩ := jbd hE
  have hp : ∀ p u d, o.2.2 = some (p, u, d) → ∃ k, k ≤ cnt t ∧ p = nI k := fun p u d h => by
    rw [h] at hE
    exact jnn (jgd hE).1
  obtain ⟨q8, hq8⟩ := jp_at (h1 t ht).2.1 (h1 t ht).2.2.1
  have hq9 : (FRW v0 vu vl ++ va_pl L f)[q8 + 1]? = some (fsa t, .inr (7, [.ref (la t)])) := hq8
  refine j_XVvp (As := [.ref v0, .int q1, .int q2, .int q3, .int q4]) (rest := rest) (wc := FRW v0 vu vl ++ va_pl L f) (wr := [(lp, .inr (2, [.ref b0, .ref v0, .int known])), (b0, .inl (cS, 9, .inr (.inr (.inr (.inr ba)))))]) (vc := (RX6, TX6, 1)) C hK hX hA hS (List.perm_iff_count.mpr (fun z => by simp only [List.count_append, List.count_cons, List.count_nil]; ac_rfl)) (tX6_offer l D dd mi cI cJ cZ cW cS cO cG L f v0 (fsa t) (la t) (ea t) (cap t) (mc t) (g t) (cnt t) (sv t) vu vl q1 q2 q3 q4 (h1 t ht).2 hn hO hp) cw (q0 := q8 + 1) hq9 (ci := 7) rfl rfl hsz hst0 hW hdg hf (fun w H locs hq hS => ?_)
  obtain ⟨L1, f1, ew, hsub, hfr, hor⟩ := hq
  subst ew
  have hS : jS D vwCl A (LX lp b0 v0 cS ba known o.1 o.2.1 ++ va_pl L1 f1) s.heap H locs := jS_perm (List.perm_iff_count.mpr (fun z => by simp only [List.count_append, List.count_cons, List.count_nil]; ac_rfl)) hS
  rcases hor with ⟨e0, hall⟩ | ⟨p0, u0, d0, e0, ea1, cap1, g1, hold, hc1, hone⟩
  · rw [e0] at hE
    obtain rfl := jsm hE
    exact kk H locs L1 f1 ⟨fsa, la, ea, cap, mc, g, fun i hi => ⟨(h1 i hi).1, by
      obtain ⟨a1, a2, a3, a4, a5, a6, a7, a8, a9⟩ := id (h1 i hi).2
      exact jOne_keep (h1 i hi).2 hsub (hall _ a1) (hall _ a3) (fun hc => hall _ (a8.resolve_left (fun h => by omega)).2.1) (fun x y hx _ => hall x hx)⟩, h2, h3⟩ hS
  · rw [e0] at hE
    obtain ⟨hg, hE⟩ := jgd hE
    obtain rfl := jsm hE
    refine kk H locs L1 f1 (jOffd_LL ht hdd h1 h2 h3 hsub hfr hold (mc1 := mc t + 1) (g1 := g1) (cap1 := cap1) ?_ (fun i hi => ⟨va_up_ne _ _ hi, va_up_ne _ _ hi⟩)) hS
    show jOne cO dd L1 f1 (fsa t) (la t) ea1 cap1 (mc t + 1) g1 (va_up cnt t (cnt t + 1) t) (va_up sv t _ t)
    rw [va_up_self, va_up_self]
    exact hone
end JLOFF
theorem oneOffer_other {t : Nat} {q : Int32 × Int32 × Int32 × Int32} {σ σ1 : LkS} (hE : oneOffer t q σ = some σ1) {i : Nat} (hi : i ≠ t) : σ1.1 i = σ.1 i ∧ σ1.2.1 i = σ.2.1 i := by
  obtain ⟨-, hE⟩ := jgd hE
  obtain ⟨o, -, hE⟩ := jbd hE
  cases ho : o.2.2 with
  | none =>
    rw [ho] at hE
    obtain rfl := jsm hE
    exact ⟨rfl, rfl⟩
  | some z =>
    rw [ho] at hE
    obtain ⟨-, hE⟩ := jgd hE
    obtain rfl := jsm hE
    exact ⟨va_up_ne _ _ hi, va_up_ne _ _ hi⟩
/-- the pairs of one of the first list with all of the second -/
def pairIn (t i1 i2 : Nat) (how aI : Int32) (i : Nat) : Nat → Nat → LkS → Option LkS
  | 0, _, σ => some σ
  | n + 1, k, σ => (oneOffer t (how, aI, nI i, nI k) (σ.1, σ.2.1, fJoin (σ.2.1 i1 i) (σ.2.1 i2 k) how)).bind (fun σ1 => pairIn t i1 i2 how aI i n (k + 1) σ1)
def pairOut (t i1 i2 : Nat) (how aI : Int32) (n2 : Nat) : Nat → Nat → LkS → Option LkS
  | 0, _, σ => some σ
  | n + 1, i, σ => (pairIn t i1 i2 how aI i n2 0 σ).bind (fun σ1 => pairOut t i1 i2 how aI n2 n (i + 1) σ1)
theorem pairIn_other {t i1 i2 : Nat} {how aI : Int32} {i : Nat} {j : Nat} (hj : j ≠ t) : ∀ (n k : Nat) (σ σ1 : LkS), pairIn t i1 i2 how aI i n k σ = some σ1 → σ1.1 j = σ.1 j ∧ σ1.2.1 j = σ.2.1 j
  | 0, k, σ, σ1, h => by
    have h : some σ = some σ1 := h
    obtain rfl := jsm h
    exact ⟨rfl, rfl⟩
  | n + 1, k, σ, σ1, h => by
    rw [pairIn] at h
    obtain ⟨σ2, h1, h2⟩ := jbd h
    have a := oneOffer_other h1 hj
    have b := pairIn_other hj n (k + 1) σ2 σ1 h2
    exact ⟨b.1.trans a.1, b.2.trans a.2⟩
