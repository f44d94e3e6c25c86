/-! the reference's lists are laid -/
/-- where the list of j + 1 parts begins -/
def bgn (j : Nat) : Nat := [0, 1, 3, 7, 16, 38, 91, 222, 559, 1428].getD j 0
theorem bgn_len' : ∀ j : Fin 9, bgn j.1 + (shL j.1).length = bgn (j.1 + 1) := by
  intro j
  rw [shl_len j]
  revert j
  decide
theorem bgn_len {j : Nat} (h : j < 9) : bgn j + (shL j).length = bgn (j + 1) := bgn_len' ⟨j, h⟩
theorem bgn_mono' : ∀ m j : Fin 10, j.1 ≤ m.1 → bgn j.1 ≤ bgn m.1 := by decide
theorem bgn_mono {m j : Nat} (hm : m < 10) (h : j ≤ m) : bgn j ≤ bgn m := bgn_mono' ⟨m, hm⟩ ⟨j, by omega⟩ h
theorem bgn_8 {j : Nat} (h : j < 9) : bgn j ≤ 559 := bgn_mono (m := 8) (by omega) (by omega)
theorem bgn_9 {j : Nat} (h : j < 10) : bgn j ≤ 1428 := bgn_mono (m := 9) (by omega) (by omega)
theorem nI_mn {n a : Nat} (h : a ≤ n) : nI n - nI a = nI (n - a) := by
  rw [show nI n = nI (n - a) + nI a by rw [nI_add, show n - a + a = n by omega]]
  exact Int32.add_sub_cancel _ _
def Lad (m : Nat) (upper lower : Nat → Int32) : Prop := ∀ j, j < m → SegL upper lower (bgn j) (shL j)
def Bgs (m : Nat) (begins : Nat → Int32) : Prop := ∀ j, 1 ≤ j → j ≤ m → begins j = nI (bgn (j - 1))
theorem Lad.keep {m : Nat} {upper lower upper' lower' : Nat → Int32} (hm : m ≤ 9) (h : Lad m upper lower) (hk : ∀ x, x < bgn m → upper' x = upper x ∧ lower' x = lower x) : Lad m upper' lower' := fun j hj => by
  refine ⟨(h j hj).1, fun r e he => ?_⟩
  have hr := (List.getElem?_eq_some_iff.mp he).1
  have b1 := bgn_len (show j < 9 by omega)
  have b2 := bgn_mono (m := m) (j := j + 1) (by omega) (by omega)
  have k := hk (bgn j + r) (by omega)
  rw [k.1, k.2]
  exact (h j hj).2 r e he
theorem ofs_len : ∀ os t : List En, t.length ≤ (ofs os t).length
  | [], t => Nat.le_refl _
  | o :: os, t => Nat.le_trans (ofrL_len _ _ _ _ _ _ t) (ofs_len os _)
theorem zzN (a b : Nat) : Zl (a : Int) * Zl (b : Int) = Zl ((a * b : Nat) : Int) := by
  rw [Int.natCast_mul]
  exact (Int64.ofInt_mul _ _).symm
theorem zaN (a b : Nat) : Zl (a : Int) + Zl (b : Int) = Zl ((a + b : Nat) : Int) := by
  rw [Int.natCast_add]
  exact (Int64.ofInt_add _ _).symm
section NEED
variable {n : Nat} {begins : Nat → Int32}
theorem n86 {a i : Nat} {x : En} (hn9 : n ≤ 9) (ha : 1 ≤ a) (han : a + 1 ≤ n) (hB : Bgs n begins) (hx : (shL (a - 1))[i]? = some x) : ∀ (l : List En) (j : Nat) (t : List En) (upper lower : Nat → Int32) (ab bl : Int64) (fuel : Nat), Lad (n - 1) upper lower → SegL upper lower (bgn (n - 1)) t → LOk t → COk t → j + l.length = (shL (n - a - 1)).length → (∀ r, (shL (n - a - 1))[j + r]? = l[r]?) → (ofs (inR x l) t).length ≤ 869 → l.length < fuel → ∃ upper' lower' ab' bl', LX10_needShares_86 (nI n) begins (nI a) (nI (bgn (a - 1) + i)) fuel (nI (bgn (n - a - 1) + j)) upper lower (nI (bgn (n - 1) + t.length)) ab bl = some (upper', lower', nI (bgn (n - 1) + (ofs (inR x l) t).length), ab', bl') ∧ Lad (n - 1) upper' lower' ∧ SegL upper' lower' (bgn (n - 1)) (ofs (inR x l) t) ∧ LOk (ofs (inR x l) t) ∧ COk (ofs (inR x l) t) := by
  have b1 := bgn_len (show n - a - 1 < 9 by omega)
  have b2 := bgn_8 (show n - a - 1 < 9 by omega)
  have b3 := bgn_len (show a - 1 < 9 by omega)
  have b4 := bgn_mono (m := n - 1) (j := a - 1 + 1) (by omega) (by omega)
  have b5 := bgn_8 (show n - 1 < 9 by omega)
  have b6 := bgn_mono (m := n - 1) (j := n - a - 1 + 1) (by omega) (by omega)
  have hi := (List.getElem?_eq_some_iff.mp hx).1
  have eb : begins (n - a + 1) = nI (bgn (n - a - 1 + 1)) := by
    have := hB (n - a + 1) (by omega) (by omega)
    rw [this, show n - a + 1 - 1 = n - a - 1 + 1 by omega]
  have en : begins n = nI (bgn (n - 1)) := hB n (by omega) (Nat.le_refl n)
  intro l
  induction l with
  | nil =>
    intro j t upper lower ab bl fuel hL hS hO hC hj hk hlen hf
    obtain ⟨f, rfl⟩ : ∃ f, fuel = f + 1 := ⟨fuel - 1, by omega⟩
    refine ⟨upper, lower, ab, bl, ?_, hL, hS, hO, hC⟩
    have hj : j + 0 = (shL (n - a - 1)).length := hj
    unfold LX10_needShares_86
    rw [nI_mn (by omega), nI_1, if_pos (jok_nI (by omega) (by omega)), nI_clamp (by omega), eb, if_pos (nI_le (by omega) (by omega))]
    rfl
  | cons y l ih =>
    intro j t upper lower ab bl fuel hL hS hO hC hj hk hlen hf
    obtain ⟨f, rfl⟩ : ∃ f, fuel = f + 1 := ⟨fuel - 1, by omega⟩
    rw [List.length_cons] at hj hf
    have hy : (shL (n - a - 1))[j]? = some y := by
      have := hk 0
      rw [Nat.add_zero] at this
      exact this
    have sx := shl_sml ⟨a - 1, by omega⟩ x (List.mem_of_getElem? hx)
    have sy := shl_sml ⟨n - a - 1, by omega⟩ y (List.mem_of_getElem? hy)
    have m1 : x.1 * y.2.1 ≤ 100 * 100 := Nat.mul_le_mul sx.2.1 sy.2.2.2
    have m2 : y.1 * x.2.1 ≤ 100 * 100 := Nat.mul_le_mul sy.2.1 sx.2.2.2
    have m3 : x.2.1 * y.2.1 ≤ 100 * 100 := Nat.mul_le_mul sx.2.2.2 sy.2.2.2
    have m4 : x.1 * y.1 ≤ 100 * 100 := Nat.mul_le_mul sx.2.1 sy.2.1
    have p1 : 0 < x.1 * y.2.1 := Nat.mul_pos sx.1 sy.2.2.1
    have p3 : 0 < x.2.1 * y.2.1 := Nat.mul_pos sx.2.2.1 sy.2.2.1
    have p4 : 0 < x.1 * y.1 := Nat.mul_pos sx.1 sy.1
    have ux := (hL (a - 1) (by omega)).2 i x hx
    have uy := (hL (n - a - 1) (by omega)).2 j y hy
    have eo : ofs (inR x (y :: l)) t = ofs (inR x l) (ofrL (x.1 * y.1) (x.1 * y.2.1 + y.1 * x.2.1) 1 0 0 0 (ofrL (x.1 * y.2.1 + y.1 * x.2.1) (x.2.1 * y.2.1) 1 0 0 0 t)) := rfl
    rw [eo] at hlen ⊢
    have l1 := ofs_len (inR x l) (ofrL (x.1 * y.1) (x.1 * y.2.1 + y.1 * x.2.1) 1 0 0 0 (ofrL (x.1 * y.2.1 + y.1 * x.2.1) (x.2.1 * y.2.1) 1 0 0 0 t))
    have l2 := ofrL_len (x.1 * y.1) (x.1 * y.2.1 + y.1 * x.2.1) 1 0 0 0 (ofrL (x.1 * y.2.1 + y.1 * x.2.1) (x.2.1 * y.2.1) 1 0 0 0 t)
    have l3 := ofrL_len (x.1 * y.2.1 + y.1 * x.2.1) (x.2.1 * y.2.1) 1 0 0 0 t
    obtain ⟨up1, lo1, ab1, bl1, e1, s1, o1, c1, k1⟩ := putOk hS hO hC (by omega) (by omega) (u := x.1 * y.2.1 + y.1 * x.2.1) (d := x.2.1 * y.2.1) (by omega) (by omega) p3 (by omega)
    have L1 := hL.keep (by omega) k1
    have vx := (L1 (a - 1) (by omega)).2 i x hx
    have vy := (L1 (n - a - 1) (by omega)).2 j y hy
    obtain ⟨up2, lo2, ab2, bl2, e2, s2, o2, c2, k2⟩ := putOk s1 o1 c1 (by omega) (by omega) (u := x.1 * y.1) (d := x.1 * y.2.1 + y.1 * x.2.1) p4 (by omega) (by omega) (by omega)
    have L2 := L1.keep (by omega) k2
    obtain ⟨up3, lo3, ab3, bl3, e3, r3⟩ := ih (j + 1) _ up2 lo2 ab2 bl2 f L2 s2 o2 c2 (by omega) (fun r => by
      have := hk (r + 1)
      rw [show j + (r + 1) = j + 1 + r by omega] at this
      exact this) hlen (by omega)
    refine ⟨up3, lo3, ab3, bl3, ?_, r3⟩
    unfold LX10_needShares_86
    rw [nI_mn (by omega), nI_1, if_pos (jok_nI (by omega) (by omega)), nI_clamp (show n - a + 1 < 2 ^ 31 by omega), eb, if_neg (nI_ge (by omega) (by omega)), if_pos (jok_nI (by omega) (by omega)), if_pos (jok_nI (by omega) (by omega))]
    simp only [jlet]
    rw [nI_clamp (show bgn (a - 1) + i < 2 ^ 31 by omega), nI_clamp (show bgn (n - a - 1) + j < 2 ^ 31 by omega), nI_clamp (show n < 2 ^ 31 by omega), en, ux.1, ux.2, uy.1, uy.2, nI_64 (by omega), nI_64 (by omega), nI_64 (by omega), nI_64 (by omega), zzN, zzN, zzN, zaN, e1]
    simp only [Option.bind_some]
    rw [vx.1, vy.1, nI_64 (by omega), nI_64 (by omega), zzN, e2]
    simp only [Option.bind_some]
    rw [nI_1]
    exact e3
theorem n64 {a : Nat} (hn9 : n ≤ 9) (ha : 1 ≤ a) (han : a + 1 ≤ n) (hB : Bgs n begins) : ∀ (l : List En) (i : Nat) (t : List En) (upper lower : Nat → Int32) (ab bl : Int64) (fuel : Nat), Lad (n - 1) upper lower → SegL upper lower (bgn (n - 1)) t → LOk t → COk t → i + l.length = (shL (a - 1)).length → (∀ r, (shL (a - 1))[i + r]? = l[r]?) → (ofs (outR (shL (n - a - 1)) l) t).length ≤ 869 → l.length < fuel → ∃ upper' lower' ab' bl', LX10_needShares_64 (nI n) begins (nI a) fuel (nI (bgn (a - 1) + i)) upper lower (nI (bgn (n - 1) + t.length)) ab bl = some (upper', lower', nI (bgn (n - 1) + (ofs (outR (shL (n - a - 1)) l) t).length), ab', bl') ∧ Lad (n - 1) upper' lower' ∧ SegL upper' lower' (bgn (n - 1)) (ofs (outR (shL (n - a - 1)) l) t) ∧ LOk (ofs (outR (shL (n - a - 1)) l) t) ∧ COk (ofs (outR (shL (n - a - 1)) l) t) := by
  have b3 := bgn_len (show a - 1 < 9 by omega)
  have b4 := bgn_mono (m := n - 1) (j := a - 1 + 1) (by omega) (by omega)
  have b5 := bgn_8 (show n - 1 < 9 by omega)
  have eb : begins (a + 1) = nI (bgn (a - 1 + 1)) := by
    have := hB (a + 1) (by omega) (by omega)
    rw [this, show a + 1 - 1 = a - 1 + 1 by omega]
  have ea : begins (n - a) = nI (bgn (n - a - 1)) := hB (n - a) (by omega) (by omega)
  have s9 := shl_900 ⟨n - a - 1, by omega⟩
  intro l
  induction l with
  | nil =>
    intro i t upper lower ab bl fuel hL hS hO hC hj hk hlen hf
    obtain ⟨f, rfl⟩ : ∃ f, fuel = f + 1 := ⟨fuel - 1, by omega⟩
    refine ⟨upper, lower, ab, bl, ?_, hL, hS, hO, hC⟩
    have hj : i + 0 = (shL (a - 1)).length := hj
    unfold LX10_needShares_64
    rw [nI_1, if_pos (jok_nI (by omega) (by omega)), nI_clamp (by omega), eb, if_pos (nI_le (by omega) (by omega))]
    rfl
  | cons x l ih =>
    intro i t upper lower ab bl fuel hL hS hO hC hj hk hlen hf
    obtain ⟨f, rfl⟩ : ∃ f, fuel = f + 1 := ⟨fuel - 1, by omega⟩
    rw [List.length_cons] at hj hf
    have hx : (shL (a - 1))[i]? = some x := by
      have := hk 0
      rw [Nat.add_zero] at this
      exact this
    have eo : ofs (outR (shL (n - a - 1)) (x :: l)) t = ofs (outR (shL (n - a - 1)) l) (ofs (inR x (shL (n - a - 1))) t) := ofs_app _ _ _
    rw [eo] at hlen ⊢
    have l1 := ofs_len (outR (shL (n - a - 1)) l) (ofs (inR x (shL (n - a - 1))) t)
    have s9 : (shL (n - a - 1)).length ≤ 900 := s9
    obtain ⟨up1, lo1, ab1, bl1, e1, L1, s1, o1, c1⟩ := n86 hn9 ha han hB hx (shL (n - a - 1)) 0 t upper lower ab bl 5000 hL hS hO hC (by omega) (fun r => by rw [Nat.zero_add]) (by omega) (by omega)
    obtain ⟨up3, lo3, ab3, bl3, e3, r3⟩ := ih (i + 1) _ up1 lo1 ab1 bl1 f L1 s1 o1 c1 (by omega) (fun r => by
      have := hk (r + 1)
      rw [show i + (r + 1) = i + 1 + r by omega] at this
      exact this) hlen (by omega)
    refine ⟨up3, lo3, ab3, bl3, ?_, r3⟩
    unfold LX10_needShares_64
    rw [nI_1, if_pos (jok_nI (by omega) (by omega)), nI_clamp (show a + 1 < 2 ^ 31 by omega), eb, if_neg (nI_ge (by omega) (by omega)), nI_mn (by omega), if_pos (jok_nI (by omega) (by omega)), nI_clamp (show n - a < 2 ^ 31 by omega), ea]
    simp only [jlet]
    rw [Nat.add_zero] at e1
    rw [e1]
    simp only [Option.bind_some]
    rw [nI_1]
    exact e3
theorem n50 (hn9 : n ≤ 9) (hn1 : 1 ≤ n) (hB : Bgs n begins) : ∀ (r a : Nat) (t : List En) (upper lower : Nat → Int32) (ab bl : Int64) (fuel : Nat), 1 ≤ a → a + r = n / 2 + 1 → Lad (n - 1) upper lower → SegL upper lower (bgn (n - 1)) t → LOk t → COk t → (ofs (aR n shL r a) t).length ≤ 869 → r < fuel → ∃ upper' lower' ab' bl', LX10_needShares_50 (nI n) begins fuel (nI a) upper lower (nI (bgn (n - 1) + t.length)) ab bl = some (upper', lower', nI (bgn (n - 1) + (ofs (aR n shL r a) t).length), ab', bl') ∧ Lad (n - 1) upper' lower' ∧ SegL upper' lower' (bgn (n - 1)) (ofs (aR n shL r a) t) ∧ LOk (ofs (aR n shL r a) t) ∧ COk (ofs (aR n shL r a) t) := by
  have e2 : ∀ a : Nat, (2 : Int32) * nI a = nI (2 * a) := fun a => nI_times 2 a
  intro r
  induction r with
  | zero =>
    intro a t upper lower ab bl fuel ha har hL hS hO hC hlen hf
    obtain ⟨f, rfl⟩ : ∃ f, fuel = f + 1 := ⟨fuel - 1, by omega⟩
    refine ⟨upper, lower, ab, bl, ?_, hL, hS, hO, hC⟩
    unfold LX10_needShares_50
    rw [e2, if_pos (nI_lt (by omega) (by omega))]
    rfl
  | succ r ih =>
    intro a t upper lower ab bl fuel ha har hL hS hO hC hlen hf
    obtain ⟨f, rfl⟩ : ∃ f, fuel = f + 1 := ⟨fuel - 1, by omega⟩
    have eo : ofs (aR n shL (r + 1) a) t = ofs (aR n shL r (a + 1)) (ofs (outR (shL (n - a - 1)) (shL (a - 1))) t) := ofs_app _ _ _
    rw [eo] at hlen ⊢
    have l1 := ofs_len (aR n shL r (a + 1)) (ofs (outR (shL (n - a - 1)) (shL (a - 1))) t)
    have s9 := shl_900 ⟨a - 1, by omega⟩
    have s9 : (shL (a - 1)).length ≤ 900 := s9
    obtain ⟨up1, lo1, ab1, bl1, e1, L1, s1, o1, c1⟩ := n64 hn9 ha (by omega) hB (shL (a - 1)) 0 t upper lower ab bl 5000 hL hS hO hC (by omega) (fun r => by rw [Nat.zero_add]) (by omega) (by omega)
    obtain ⟨up3, lo3, ab3, bl3, e3, r3⟩ := ih (a + 1) _ up1 lo1 ab1 bl1 f (by omega) (by omega) L1 s1 o1 c1 hlen (by omega)
    refine ⟨up3, lo3, ab3, bl3, ?_, r3⟩
    unfold LX10_needShares_50
    rw [e2, if_neg (nI_nlt (by omega) (by omega)), if_pos (jok_nI (by omega) (by omega)), nI_clamp (show a < 2 ^ 31 by omega), hB a ha (by omega)]
    simp only [jlet]
    rw [Nat.add_zero] at e1
    rw [e1]
    simp only [Option.bind_some]
    rw [nI_1]
    exact e3
end NEED
theorem SegL.vl {upper lower : Nat → Int32} {bg : Nat} {l m : List En} (h : SegL upper lower bg l) (e : vlL l = vlL m) : SegL upper lower bg m := by
  have el : l.length = m.length := by
    have := congrArg List.length e
    unfold vlL at this
    rw [List.length_map, List.length_map] at this
    exact this
  refine ⟨by rw [← el]; exact h.1, fun r f hf => ?_⟩
  have q : (vlL l)[r]? = (vlL m)[r]? := by rw [e]
  unfold vlL at q
  rw [List.getElem?_map, List.getElem?_map, hf] at q
  cases hg : l[r]? with
  | none => rw [hg] at q; cases q
  | some g =>
    rw [hg] at q
    have q : (g.1, g.2.1) = (f.1, f.2.1) := Option.some.inj q
    obtain ⟨q1, q2⟩ := Prod.mk.inj q
    rw [← q1, ← q2]
    exact h.2 r g hg
theorem Lad.up {m : Nat} {upper lower : Nat → Int32} (h : Lad m upper lower) (hs : SegL upper lower (bgn m) (shL m)) : Lad (m + 1) upper lower := fun j hj => by
  by_cases c : j = m
  · rw [c]; exact hs
  · exact h j (by omega)
theorem SegL_nil {upper lower : Nat → Int32} {bg : Nat} (h : bg ≤ 1590) : SegL upper lower bg [] := ⟨h, fun r e he => by simp at he⟩
theorem LOk_nil : LOk [] := ⟨Nat.zero_le _, fun e he => by simp at he, fun r s e f _ he => by simp at he⟩
theorem Bgs.set {m : Nat} {begins : Nat → Int32} (h : Bgs m begins) : Bgs (m + 1) (upd begins (m + 1) (nI (bgn m))) := fun j h1 hj => by
  unfold upd
  by_cases c : j = m + 1
  · rw [if_pos c, c, Nat.add_sub_cancel]
  · rw [if_neg c]
    exact h j h1 (by omega)
theorem shl_869 : ∀ j : Fin 9, (shL j.1).length ≤ 869 := by
  intro j
  rw [shl_len j]
  revert j
  decide
theorem n20s {n f : Nat} (h1 : 1 ≤ n) (h9 : n ≤ 9) {upper lower begins : Nat → Int32} {ab bl : Int64} (hL : Lad (n - 1) upper lower) (hB : Bgs (n - 1) begins) : ∃ upper' lower' begins' ab' bl', LX10_needShares_20 (f + 1) (nI n) upper lower begins (nI (bgn (n - 1))) ab bl = LX10_needShares_20 f (nI (n + 1)) upper' lower' begins' (nI (bgn n)) ab' bl' ∧ Lad n upper' lower' ∧ Bgs (n + 1) begins' := by
  have b8 := bgn_8 (show n - 1 < 9 by omega)
  have hB1 : Bgs n (upd begins n (nI (bgn (n - 1)))) := by
    obtain ⟨m, rfl⟩ : ∃ m, n = m + 1 := ⟨n - 1, by omega⟩
    exact Bgs.set (m := m) hB
  have first : ∃ up lo ab0 bl0 t, (if nI n = (1 : Int32) then (fX10_puts (0 : Int32) (1 : Int64) (1 : Int64) upper lower (nI (bgn (n - 1)))).bind (fun o_21 => some (o_21.1, o_21.2.1, o_21.2.2.1, o_21.2.2.2.1, o_21.2.2.2.2)) else some (upper, lower, nI (bgn (n - 1)), ab, bl)) = some (up, lo, nI (bgn (n - 1) + t.length), ab0, bl0) ∧ Lad (n - 1) up lo ∧ SegL up lo (bgn (n - 1)) t ∧ LOk t ∧ COk t ∧ vlL (ofs (aR n shL (n / 2) 1) t) = vlL (shL (n - 1)) := by
    by_cases c : n = 1
    · subst c
      obtain ⟨up, lo, ab1, bl1, e1, s1, o1, c1, -⟩ := putOk (upper := upper) (lower := lower) (bg := 0) (l := []) (SegL_nil (by omega)) LOk_nil nil_cop (Nat.zero_le _) (by show 0 + 0 + 1 ≤ 1590; omega) (u := 1) (d := 1) (by omega) (by omega) (by omega) (by omega)
      have e1 : fX10_puts (0 : Int32) (1 : Int64) (1 : Int64) upper lower (nI (bgn (1 - 1))) = some (up, lo, nI (0 + (ofrL 1 1 1 0 0 0 []).length), ab1, bl1) := e1
      refine ⟨up, lo, ab1, bl1, ofrL 1 1 1 0 0 0 [], ?_, fun j hj => absurd hj (Nat.not_lt_zero j), s1, o1, c1, by decide⟩
      rw [if_pos (show nI 1 = 1 from rfl), e1]
      rfl
    · refine ⟨upper, lower, ab, bl, [], ?_, hL, SegL_nil (by omega), LOk_nil, nil_cop, shl_ref (by omega) h9⟩
      rw [if_neg (show ¬ nI n = 1 from fun z => c ((nI_eq (b := 1) (by omega) (by omega)).mp z))]
      rfl
  obtain ⟨up, lo, ab0, bl0, t, e0, L0, s0, o0, c0, ev⟩ := first
  have len : (ofs (aR n shL (n / 2) 1) t).length = (shL (n - 1)).length := by
    have := congrArg List.length ev
    unfold vlL at this
    rw [List.length_map, List.length_map] at this
    exact this
  have l9 := shl_869 ⟨n - 1, by omega⟩
  have l9 : (shL (n - 1)).length ≤ 869 := l9
  have bl' := bgn_len (show n - 1 < 9 by omega)
  rw [show n - 1 + 1 = n by omega] at bl'
  obtain ⟨up1, lo1, ab1, bl1, e1, L1, s1, -, -⟩ := n50 h9 h1 hB1 (n / 2) 1 t up lo ab0 bl0 5000 (Nat.le_refl 1) (by omega) L0 s0 o0 c0 (by omega) (by omega)
  rw [len, bl'] at e1
  have e1 : LX10_needShares_50 (nI n) (upd begins n (nI (bgn (n - 1)))) 5000 (1 : Int32) up lo (nI (bgn (n - 1) + t.length)) ab0 bl0 = some (up1, lo1, nI (bgn n), ab1, bl1) := e1
  have L2 : Lad n up1 lo1 := by
    have := L1.up (s1.vl ev)
    rw [show n - 1 + 1 = n by omega] at this
    exact this
  refine ⟨up1, lo1, upd (upd begins n (nI (bgn (n - 1)))) (n + 1) (nI (bgn n)), ab1, bl1, ?_, L2, hB1.set⟩
  conv => lhs; unfold LX10_needShares_20
  rw [if_neg (show ¬ (9 : Int32) < nI n from nI_nlt (a := 9) h9 (by omega)), if_pos (jok_nI (by omega) (by omega))]
  simp only [jlet]
  rw [nI_clamp (show n < 2 ^ 31 by omega), e0]
  simp only [Option.bind_some]
  rw [e1]
  simp only [Option.bind_some]
  rw [nI_1, if_pos (jok_nI (by omega) (by omega)), nI_clamp (show n + 1 < 2 ^ 31 by omega)]
theorem n20 : ∀ (c n : Nat) (upper lower begins : Nat → Int32) (ab bl : Int64) (fuel : Nat), n + c = 9 → 1 ≤ n → Lad (n - 1) upper lower → Bgs (n - 1) begins → c + 1 < fuel → ∃ upper' lower' begins' ab' bl', LX10_needShares_20 fuel (nI n) upper lower begins (nI (bgn (n - 1))) ab bl = some (upper', lower', begins', nI 1428, ab', bl') ∧ Lad 9 upper' lower' ∧ Bgs 10 begins' := by
  intro c
  induction c with
  | zero =>
    intro n upper lower begins ab bl fuel hn h1 hL hB hf
    obtain ⟨f, rfl⟩ : ∃ f, fuel = f + 1 + 1 := ⟨fuel - 2, by omega⟩
    obtain ⟨up, lo, bg, ab1, bl1, e, L1, B1⟩ := n20s (f := f + 1) h1 (by omega) (ab := ab) (bl := bl) hL hB
    obtain rfl : n = 9 := by omega
    refine ⟨up, lo, bg, ab1, bl1, ?_, L1, B1⟩
    rw [e]
    unfold LX10_needShares_20
    rw [if_pos (show (9 : Int32) < nI (9 + 1) by decide)]
    rfl
  | succ c ih =>
    intro n upper lower begins ab bl fuel hn h1 hL hB hf
    obtain ⟨f, rfl⟩ : ∃ f, fuel = f + 1 := ⟨fuel - 1, by omega⟩
    obtain ⟨up, lo, bg, ab1, bl1, e, L1, B1⟩ := n20s (f := f) h1 (by omega) (ab := ab) (bl := bl) hL hB
    rw [e]
    exact ih (n + 1) up lo bg ab1 bl1 f (by omega) (by omega) L1 (fun j hj hj2 => B1 j hj (by have : j ≤ n := hj2; omega)) (by omega)
/-- the reference's lists: not yet laid, or laid -/
def RSh (hs : Int32) (upper lower begins : Nat → Int32) : Prop := hs = 0 ∨ (hs = 1 ∧ Lad 9 upper lower ∧ Bgs 10 begins)
theorem needOk {upper lower begins : Nat → Int32} {size hs : Int32} {ab bl : Int64} (h : RSh hs upper lower begins) : ∃ up lo bg sz ab' bl', fX10_needShares upper lower begins size hs ab bl = some (up, lo, bg, sz, 1, ab', bl') ∧ Lad 9 up lo ∧ Bgs 10 bg := by
  unfold fX10_needShares
  rcases h with rfl | ⟨rfl, h1, h2⟩
  · obtain ⟨up, lo, bg, ab1, bl1, e, L1, B1⟩ := n20 8 1 upper lower begins ab bl 5000 (by omega) (by omega) (fun j hj => absurd hj (Nat.not_lt_zero j)) (fun j h1 h2 => by have : j ≤ 0 := h2; omega) (by omega)
    have e : LX10_needShares_20 5000 (1 : Int32) upper lower begins (0 : Int32) ab bl = some (up, lo, bg, nI 1428, ab1, bl1) := e
    rw [if_pos rfl, e]
    exact ⟨up, lo, bg, _, _, _, rfl, L1, B1⟩
  · rw [if_neg (by decide)]
    exact ⟨_, _, _, _, _, _, rfl, h1, h2⟩
