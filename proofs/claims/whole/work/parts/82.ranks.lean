/-! shares: the class's answers and the reference's -/
theorem n10 : ¬ (1 : Int32) = 0 := by decide
theorem inI (a lo hi : Int32) : fX10_in a lo hi = some (if lo ≤ a ∧ a ≤ hi then 1 else 0) := by
  unfold fX10_in
  by_cases h1 : a < lo
  · rw [if_pos h1, if_neg]
    intro h
    rw [Int32.lt_iff_toInt_lt] at h1
    have := h.1
    rw [Int32.le_iff_toInt_le] at this
    omega
  · rw [if_neg h1]
    by_cases h2 : hi < a
    · rw [if_pos h2, if_neg]
      intro h
      rw [Int32.lt_iff_toInt_lt] at h2
      have := h.2
      rw [Int32.le_iff_toInt_le] at this
      omega
    · rw [if_neg h2, if_pos]
      rw [Int32.lt_iff_toInt_lt] at h1 h2
      rw [Int32.le_iff_toInt_le, Int32.le_iff_toInt_le]
      omega
theorem parts_c (a : Int32) : (¬ (1 ≤ a ∧ a ≤ 9) ∧ fX10_isParts a = some 0) ∨ ∃ n, 1 ≤ n ∧ n ≤ 9 ∧ a = nI n ∧ (1 ≤ a ∧ a ≤ 9) ∧ fX10_isParts a = some 1 := by
  unfold fX10_isParts
  rw [inI]
  by_cases h : 1 ≤ a ∧ a ≤ 9
  · rw [if_pos h]
    obtain ⟨n, h1, h2, h3⟩ := one9 h
    exact Or.inr ⟨n, h1, h2, h3, h, rfl⟩
  · rw [if_neg h]
    exact Or.inl ⟨h, rfl⟩
section RANKS
variable {upper lower begins : Nat → Int32} {size hs : Int32} {ab bl : Int64} {sv0 : Nat → Nat → SV} {k : Nat}
theorem countOk {n : Nat} (h1 : 1 ≤ n) (h9 : n ≤ 9) (h : RSh hs upper lower begins) : ∃ up lo bg sz ab' bl', fX10_countOf (nI n) upper lower begins size hs ab bl = some (nI (shL (n - 1)).length, up, lo, bg, sz, 1, ab', bl') ∧ Lad 9 up lo ∧ Bgs 10 bg := by
  obtain ⟨up, lo, bg, sz, ab', bl', e, hL, hB⟩ := needOk (size := size) (ab := ab) (bl := bl) h
  have b := bgn_len (show n - 1 < 9 by omega)
  rw [show n - 1 + 1 = n by omega] at b
  have b9 := bgn_9 (show n < 10 by omega)
  refine ⟨up, lo, bg, sz, ab', bl', ?_, hL, hB⟩
  unfold fX10_countOf
  rw [e]
  simp only [Option.bind_some]
  rw [nI_1, if_pos (jok_nI (by omega) (by omega)), if_pos (jok_nI (by omega) (by omega)), nI_clamp (show n + 1 < 2 ^ 31 by omega), nI_clamp (show n < 2 ^ 31 by omega), hB n h1 (by omega), hB (n + 1) (by omega) (by omega), Nat.add_sub_cancel, nI_mn (by omega), show bgn n - bgn (n - 1) = (shL (n - 1)).length by omega]
theorem sq_at {k1 n : Nat} (h1 : 1 ≤ n) (hn : n ≤ k1) (hk : k1 ≤ 9) : Rpl (shL (n - 1)) ((Sq sv0 k1).1 (n - 1)) ((Sq sv0 k1).2.1 (n - 1)) ∧ LOk (shL (n - 1)) := by
  have := Sq_ok sv0 k1 hk (n - 1) (by omega)
  have e : curL k1 (n - 1) = shL (n - 1) := if_pos (by omega)
  rw [e] at this
  exact this
theorem kN_in {n : Nat} (h1 : 1 ≤ n) (h9 : n ≤ 9) (h : 1 ≤ nI n ∧ nI n ≤ 9) : kN k (nI n) = max k n := by
  unfold kN
  rw [if_pos h, nI_clamp (by omega)]
theorem sN_in {n : Nat} (h1 : 1 ≤ n) (h9 : n ≤ 9) (hk : k ≤ 9) (h : 1 ≤ nI n ∧ nI n ≤ 9) : sN (Sq sv0) k (nI n) = (shL (n - 1)).length := by
  unfold sN
  rw [kN_in h1 h9 h, nI_clamp (by omega)]
  exact (sq_at (k1 := max k n) h1 (by omega) (by omega)).1.1
theorem many_same (hk : k ≤ 9) (h : RSh hs upper lower begins) (a : Int32) : ∃ up lo bg sz hs' ab' bl', fX10_many a upper lower begins size hs ab bl = some (fMany (Sq sv0) k a, 0, up, lo, bg, sz, hs', ab', bl') ∧ RSh hs' up lo bg := by
  unfold fX10_many fMany
  rcases parts_c a with ⟨c, e⟩ | ⟨n, h1, h9, rfl, c, e⟩
  · rw [e, if_neg c]
    exact ⟨_, _, _, _, _, _, _, rfl, h⟩
  · rw [e, if_pos c, sN_in h1 h9 hk c]
    simp only [Option.bind_some]
    obtain ⟨up, lo, bg, sz, ab', bl', e2, hL, hB⟩ := countOk (size := size) (ab := ab) (bl := bl) h1 h9 h
    rw [if_neg n10, e2]
    exact ⟨_, _, _, _, _, _, _, rfl, Or.inr ⟨rfl, hL, hB⟩⟩
/-- is there such a share, for both -/
theorem share_c (hk : k ≤ 9) (h : RSh hs upper lower begins) (a i : Int32) : (sAt (Sq sv0) k a i = none ∧ ∃ up lo bg sz hs' ab' bl', fX10_isShare a i upper lower begins size hs ab bl = some (0, up, lo, bg, sz, hs', ab', bl') ∧ RSh hs' up lo bg) ∨ ∃ n r e, 1 ≤ n ∧ n ≤ 9 ∧ a = nI n ∧ i = nI r ∧ (1 ≤ a ∧ a ≤ 9) ∧ (shL (n - 1))[r]? = some e ∧ sAt (Sq sv0) k a i = some (enS e) ∧ ∃ up lo bg sz ab' bl', fX10_isShare a i upper lower begins size hs ab bl = some (1, up, lo, bg, sz, 1, ab', bl') ∧ Lad 9 up lo ∧ Bgs 10 bg := by
  unfold fX10_isShare sAt
  rcases parts_c a with ⟨c, e⟩ | ⟨n, h1, h9, rfl, c, e⟩
  · rw [e, if_neg (fun z => c z.1)]
    exact Or.inl ⟨rfl, _, _, _, _, _, _, _, rfl, h⟩
  · rw [e]
    simp only [Option.bind_some]
    obtain ⟨up, lo, bg, sz, ab', bl', e2, hL, hB⟩ := countOk (size := size) (ab := ab) (bl := bl) h1 h9 h
    rw [if_neg n10, e2]
    simp only [Option.bind_some]
    rw [inI, sN_in h1 h9 hk c]
    simp only [Option.bind_some]
    have l9 := shl_900 ⟨n - 1, by omega⟩
    have l9 : (shL (n - 1)).length ≤ 900 := l9
    have l1 : 1 ≤ (shL (n - 1)).length := by
      have := bgn_len (show n - 1 < 9 by omega)
      have b : ∀ j : Fin 9, bgn j.1 < bgn (j.1 + 1) := by decide
      have := b ⟨n - 1, by omega⟩
      have this : bgn (n - 1) < bgn (n - 1 + 1) := this
      omega
    have el : nI (shL (n - 1)).length - (1 : Int32) = nI ((shL (n - 1)).length - 1) := nI_mn (a := 1) l1
    rw [el]
    by_cases ci : jok i (shL (n - 1)).length
    · obtain ⟨r, hr, rfl⟩ : ∃ r : Nat, r < 2 ^ 31 ∧ i = nI r := nI_of (fun z => by
        have q := ci.1
        rw [Int32.lt_iff_toInt_lt] at z
        rw [Int32.le_iff_toInt_le] at q
        omega)
      have ci2 := ci.2
      rw [nI_clamp hr] at ci2
      rw [if_pos (show (0 : Int32) ≤ nI r ∧ nI r ≤ nI ((shL (n - 1)).length - 1) from ⟨ci.1, nI_le (by omega) (by omega)⟩), if_neg n10, if_pos ⟨c, ci⟩]
      refine Or.inr ⟨n, r, (shL (n - 1))[r], h1, h9, rfl, rfl, c, List.getElem?_eq_getElem ci2, ?_, _, _, _, _, _, _, rfl, hL, hB⟩
      rw [kN_in h1 h9 c, nI_clamp (show n < 2 ^ 31 by omega), nI_clamp hr, (sq_at (sv0 := sv0) (k1 := max k n) h1 (by omega) (by omega)).1.2 r _ (List.getElem?_eq_getElem ci2)]
    · rw [if_neg (show ¬ ((0 : Int32) ≤ i ∧ i ≤ nI ((shL (n - 1)).length - 1)) from fun z => ci ⟨z.1, by
        obtain ⟨r, hr, rfl⟩ : ∃ r : Nat, r < 2 ^ 31 ∧ i = nI r := nI_of (fun w => by
          have q := z.1
          rw [Int32.lt_iff_toInt_lt] at w
          rw [Int32.le_iff_toInt_le] at q
          omega)
        rw [nI_clamp hr]
        have := (nI_leI hr (by omega)).mp z.2
        omega⟩), if_pos rfl, if_neg (fun z => ci z.2)]
      exact Or.inl ⟨rfl, _, _, _, _, _, _, _, rfl, Or.inr ⟨rfl, hL, hB⟩⟩
theorem lad_at {n r : Nat} {e : En} (h1 : 1 ≤ n) (h9 : n ≤ 9) (hL : Lad 9 upper lower) (he : (shL (n - 1))[r]? = some e) : bgn (n - 1) + r < 1600 ∧ upper (bgn (n - 1) + r) = nI e.1 ∧ lower (bgn (n - 1) + r) = nI e.2.1 ∧ 0 < e.1 ∧ e.1 ≤ 100 ∧ 0 < e.2.1 ∧ e.2.1 ≤ 100 := by
  have hr := (List.getElem?_eq_some_iff.mp he).1
  have b := (hL (n - 1) (by omega)).1
  have s := (hL (n - 1) (by omega)).2 r e he
  exact ⟨by omega, s.1, s.2, shl_sml ⟨n - 1, by omega⟩ e (List.mem_of_getElem? he)⟩
theorem share_same (hk : k ≤ 9) (h : RSh hs upper lower begins) (a i q : Int32) : ∃ up lo bg sz hs' ab' bl', fX10_share a i q upper lower begins size hs ab bl = some (fShare (Sq sv0) k a i q, 0, up, lo, bg, sz, hs', ab', bl') ∧ RSh hs' up lo bg := by
  unfold fX10_share fShare
  rcases share_c (sv0 := sv0) (size := size) (ab := ab) (bl := bl) hk h a i with ⟨e1, up, lo, bg, sz, hs', ab', bl', e2, h2⟩ | ⟨n, r, e, h1, h9, rfl, rfl, c, he, e1, up, lo, bg, sz, ab', bl', e2, hL, hB⟩
  · rw [e1, e2]
    exact ⟨_, _, _, _, _, _, _, rfl, h2⟩
  · obtain ⟨b1, b2, b3, -⟩ := lad_at h1 h9 hL he
    rw [e1, e2]
    simp only [Option.bind_some]
    rw [if_neg n10, inI]
    simp only [Option.bind_some]
    by_cases cq : (0 : Int32) ≤ q ∧ q ≤ 1
    · rw [if_pos cq, if_pos cq, if_neg n10, if_pos (jok_nI (by omega) (by omega)), if_pos (jok_nI (by omega) (by omega)), nI_clamp (show n < 2 ^ 31 by omega), hB n h1 (by omega), nI_add, if_pos (jok_nI b1 (by omega)), if_pos (jok_nI b1 (by omega)), nI_clamp (show bgn (n - 1) + r < 2 ^ 31 by omega), b2, b3]
      by_cases c0 : q = 0
      · rw [if_pos c0, if_pos c0]
        exact ⟨_, _, _, _, _, _, _, rfl, Or.inr ⟨rfl, hL, hB⟩⟩
      · rw [if_neg c0, if_neg c0]
        exact ⟨_, _, _, _, _, _, _, rfl, Or.inr ⟨rfl, hL, hB⟩⟩
    · rw [if_neg cq, if_neg cq, if_pos rfl]
      exact ⟨_, _, _, _, _, _, _, rfl, Or.inr ⟨rfl, hL, hB⟩⟩
theorem rk12 {n u d : Nat} {sz : Int32} (h1 : 1 ≤ n) (h9 : n ≤ 9) (hL : Lad 9 upper lower) (hB : Bgs 10 begins) (hu : u ≤ 1000000) (hd : d ≤ 1000000) : ∀ (l : List En) (j fuel : Nat), j + l.length = (shL (n - 1)).length → (∀ r, (shL (n - 1))[j + r]? = l[r]?) → l.length < fuel → (∃ r e, (shL (n - 1))[r]? = some e ∧ u * e.2.1 = d * e.1 ∧ LX10_rankOf_12 (nI n) (Zl (u : Int)) (Zl (d : Int)) (upper, lower, begins, sz, 1, ab, bl) fuel (nI (bgn (n - 1) + j)) = some (.inr (nI r, upper, lower, begins, sz, 1, ab, bl))) ∨ ((∀ e, e ∈ l → ¬ u * e.2.1 = d * e.1) ∧ LX10_rankOf_12 (nI n) (Zl (u : Int)) (Zl (d : Int)) (upper, lower, begins, sz, 1, ab, bl) fuel (nI (bgn (n - 1) + j)) = some (.inl ())) := by
  have b := bgn_len (show n - 1 < 9 by omega)
  rw [show n - 1 + 1 = n by omega] at b
  have b9 := bgn_9 (show n < 10 by omega)
  intro l
  induction l with
  | nil =>
    intro j fuel hj hk hf
    obtain ⟨f, rfl⟩ : ∃ f, fuel = f + 1 := ⟨fuel - 1, by omega⟩
    have hj : j + 0 = (shL (n - 1)).length := hj
    refine Or.inr ⟨fun e he => by simp at he, ?_⟩
    unfold LX10_rankOf_12
    dsimp only
    rw [nI_1, if_pos (jok_nI (by omega) (by omega)), if_pos (show begins (nI (n + 1)).toNatClampNeg ≤ nI (bgn (n - 1) + j) by
      rw [nI_clamp (show n + 1 < 2 ^ 31 by omega), hB (n + 1) (by omega) (by omega), Nat.add_sub_cancel]
      exact nI_le (by omega) (by omega))]
  | cons y l ih =>
    intro j fuel hj hk hf
    obtain ⟨f, rfl⟩ : ∃ f, fuel = f + 1 := ⟨fuel - 1, by omega⟩
    rw [List.length_cons] at hj hf
    have hy : (shL (n - 1))[j]? = some y := by
      have := hk 0
      rw [Nat.add_zero] at this
      exact this
    obtain ⟨c1, c2, c3, p1, p2, p3, p4⟩ := lad_at h1 h9 hL hy
    have m1 : u * y.2.1 ≤ 1000000 * 100 := Nat.mul_le_mul hu p4
    have m2 : d * y.1 ≤ 1000000 * 100 := Nat.mul_le_mul hd p2
    have cond : (Zl (u : Int) * (lower (nI (bgn (n - 1) + j)).toNatClampNeg).toInt64 = Zl (d : Int) * (upper (nI (bgn (n - 1) + j)).toNatClampNeg).toInt64) ↔ u * y.2.1 = d * y.1 := by
      rw [nI_clamp (show bgn (n - 1) + j < 2 ^ 31 by omega), c2, c3, nI_64 (by omega), nI_64 (by omega), zzN, zzN, Zl_inj (rgN (by omega)) (rgN (by omega))]
      omega
    unfold LX10_rankOf_12
    dsimp only
    rw [nI_1, if_pos (jok_nI (by omega) (by omega)), if_neg (show ¬ begins (nI (n + 1)).toNatClampNeg ≤ nI (bgn (n - 1) + j) by
      rw [nI_clamp (show n + 1 < 2 ^ 31 by omega), hB (n + 1) (by omega) (by omega), Nat.add_sub_cancel]
      exact nI_ge (by omega) (by omega)), if_pos (jok_nI c1 (by omega))]
    by_cases ce : u * y.2.1 = d * y.1
    · rw [if_pos (cond.mpr ce), nI_clamp (show n < 2 ^ 31 by omega), hB n h1 (by omega), nI_mn (by omega), Nat.add_sub_cancel_left]
      exact Or.inl ⟨j, y, hy, ce, rfl⟩
    · rw [if_neg (fun z => ce (cond.mp z))]
      simp only [jlet]
      rw [nI_1]
      rcases ih (j + 1) f (by omega) (fun r => by
        have := hk (r + 1)
        rw [show j + (r + 1) = j + 1 + r by omega] at this
        exact this) (by omega) with z | ⟨z1, z2⟩
      · exact Or.inl z
      · refine Or.inr ⟨fun e he => ?_, z2⟩
        rcases List.mem_cons.mp he with w | w
        · rw [w]; exact ce
        · exact z1 e w
/-- rankOf over lists that are laid -/
theorem rankL {n u d : Nat} {sz : Int32} (h1 : 1 ≤ n) (h9 : n ≤ 9) (hL : Lad 9 upper lower) (hB : Bgs 10 begins) (hu : u ≤ 1000000) (hd : d ≤ 1000000) : (∃ r e, (shL (n - 1))[r]? = some e ∧ u * e.2.1 = d * e.1 ∧ fX10_rankOf (nI n) (Zl (u : Int)) (Zl (d : Int)) upper lower begins sz 1 ab bl = some (nI r, upper, lower, begins, sz, 1, ab, bl)) ∨ ((∀ e, e ∈ shL (n - 1) → ¬ u * e.2.1 = d * e.1) ∧ fX10_rankOf (nI n) (Zl (u : Int)) (Zl (d : Int)) upper lower begins sz 1 ab bl = some (-9, upper, lower, begins, sz, 1, ab, bl)) := by
  have l9 := shl_900 ⟨n - 1, by omega⟩
  have l9 : (shL (n - 1)).length ≤ 900 := l9
  have e0 : fX10_needShares upper lower begins sz 1 ab bl = some (upper, lower, begins, sz, 1, ab, bl) := by
    unfold fX10_needShares
    rw [if_neg n10]
  have rk := rk12 (sz := sz) (ab := ab) (bl := bl) h1 h9 hL hB hu hd (shL (n - 1)) 0 5000 (by omega) (fun r => by rw [Nat.zero_add]) (by omega)
  rw [Nat.add_zero] at rk
  unfold fX10_rankOf
  rw [e0]
  simp only [Option.bind_some, jlet]
  rw [if_pos (jok_nI (by omega) (by omega)), nI_clamp (show n < 2 ^ 31 by omega), hB n h1 (by omega)]
  rcases rk with ⟨r, e, q1, q2, q3⟩ | ⟨q1, q2⟩
  · rw [q3]
    exact Or.inl ⟨r, e, q1, q2, rfl⟩
  · rw [q2]
    exact Or.inr ⟨q1, rfl⟩
theorem rank_need {a1 : Int32} {a2 a3 : Int64} {up lo bg : Nat → Int32} {sz : Int32} {ab' bl' : Int64} (e : fX10_needShares upper lower begins size hs ab bl = some (up, lo, bg, sz, 1, ab', bl')) : fX10_rankOf a1 a2 a3 upper lower begins size hs ab bl = fX10_rankOf a1 a2 a3 up lo bg sz 1 ab' bl' := by
  have e0 : fX10_needShares up lo bg sz 1 ab' bl' = some (up, lo, bg, sz, 1, ab', bl') := by
    unfold fX10_needShares
    rw [if_neg n10]
  unfold fX10_rankOf
  rw [e, e0]
theorem uniq_at {n r s u d : Nat} {e f : En} (h9 : n ≤ 9) (h1 : 1 ≤ n) (he : (shL (n - 1))[r]? = some e) (hf : (shL (n - 1))[s]? = some f) (h2 : u * e.2.1 = d * e.1) (h3 : u * f.2.1 = d * f.1) (hd : 0 < d) : r = s := by
  have lk := (sq_at (sv0 := fun _ _ => (0, 0, 0, 0, 0, 0)) (k1 := 9) h1 (by omega) (by omega)).2
  have key : ∀ {e f : En}, u * e.2.1 = d * e.1 → u * f.2.1 = d * f.1 → ¬ e.1 * f.2.1 < f.1 * e.2.1 := fun {e f} h2 h3 hlt => by
    have a1 : d * (e.1 * f.2.1) = d * (f.1 * e.2.1) := by
      have t1 : d * (e.1 * f.2.1) = (d * e.1) * f.2.1 := by grind
      have t2 : d * (f.1 * e.2.1) = (d * f.1) * e.2.1 := by grind
      rw [t1, t2, ← h2, ← h3]
      grind
    have := Nat.eq_of_mul_eq_mul_left hd a1
    omega
  rcases Nat.lt_trichotomy r s with z | z | z
  · exact absurd (lk.2.2 r s e f z he hf) (key h2 h3)
  · exact z
  · exact absurd (lk.2.2 s r f e z hf he) (key h3 h2)
/-- the rank of u by d, for both -/
theorem fnd_c {n u d k1 : Nat} (h1 : 1 ≤ n) (hn : n ≤ k1) (hk : k1 ≤ 9) (hu1 : 1 ≤ u) (hu : u ≤ 1000000) (hd1 : 1 ≤ d) (hd : d ≤ 1000000) : ∃ x, fFnd (Sq sv0) k1 n (nI u) (nI d) = some x ∧ (x = -9 ∨ ∃ r, r < 900 ∧ x = nI r) ∧ ∀ (hs : Int32) (upper lower begins : Nat → Int32) (size : Int32) (ab bl : Int64), RSh hs upper lower begins → ∃ up lo bg sz ab' bl', fX10_rankOf (nI n) (Zl (u : Int)) (Zl (d : Int)) upper lower begins size hs ab bl = some (x, up, lo, bg, sz, 1, ab', bl') ∧ Lad 9 up lo ∧ Bgs 10 bg := by
  obtain ⟨rp, lk⟩ := sq_at (sv0 := sv0) (k1 := k1) h1 hn hk
  have srt := rp.srt lk
  have l9 := shl_900 ⟨n - 1, by omega⟩
  have l9 : (shL (n - 1)).length ≤ 900 := l9
  have fo := findOk srt (show u ≤ 1000000000 by omega) (show d ≤ 1000000000 by omega) hd1
  have get : ∀ r, r < (shL (n - 1)).length → ∃ e, (shL (n - 1))[r]? = some e ∧ (shL (n - 1)).getD r (0, 0, 0, 0, 0, 0) = e := fun r hr => by
    refine ⟨(shL (n - 1))[r], List.getElem?_eq_getElem hr, ?_⟩
    rw [List.getD_eq_getElem?_getD, List.getElem?_eq_getElem hr]
    rfl
  unfold fFnd
  rcases fo with ⟨r, r1, r2, r3⟩ | ⟨r1, r2⟩
  · rw [r3]
    rw [rp.1] at r1
    obtain ⟨e, e1, e2⟩ := get r r1
    have r2 : ((shL (n - 1)).getD r (0, 0, 0, 0, 0, 0)).1 * d = u * ((shL (n - 1)).getD r (0, 0, 0, 0, 0, 0)).2.1 := r2
    rw [e2] at r2
    refine ⟨nI r, rfl, Or.inr ⟨r, by omega, rfl⟩, fun hs upper lower begins size ab bl h => ?_⟩
    obtain ⟨up, lo, bg, sz, ab', bl', e3, hL, hB⟩ := needOk (size := size) (ab := ab) (bl := bl) h
    rw [rank_need e3]
    rcases rankL (sz := sz) (ab := ab') (bl := bl') h1 (by omega) hL hB hu hd with ⟨s, f, f1, f2, f3⟩ | ⟨f1, f2⟩
    · have := uniq_at (by omega) h1 e1 f1 (by rw [← r2, Nat.mul_comm]) f2 (by omega)
      rw [f3, this]
      exact ⟨_, _, _, _, _, _, rfl, hL, hB⟩
    · exact absurd (by rw [← r2, Nat.mul_comm]) (f1 e (List.mem_of_getElem? e1))
  · rw [r2]
    refine ⟨-9, rfl, Or.inl rfl, fun hs upper lower begins size ab bl h => ?_⟩
    obtain ⟨up, lo, bg, sz, ab', bl', e3, hL, hB⟩ := needOk (size := size) (ab := ab) (bl := bl) h
    rw [rank_need e3]
    rcases rankL (sz := sz) (ab := ab') (bl := bl') h1 (by omega) hL hB hu hd with ⟨s, f, f1, f2, f3⟩ | ⟨f1, f2⟩
    · have hs := (List.getElem?_eq_some_iff.mp f1).1
      have := r1 s (by rw [rp.1]; exact hs)
      have this : ((shL (n - 1)).getD s (0, 0, 0, 0, 0, 0)).1 * d ≠ u * ((shL (n - 1)).getD s (0, 0, 0, 0, 0, 0)).2.1 := this
      obtain ⟨g, g1, g2⟩ := get s hs
      rw [g2] at this
      rw [f1] at g1
      obtain rfl := Option.some.inj g1
      exact absurd (by rw [f2, Nat.mul_comm]) this
    · rw [f2]
      exact ⟨_, _, _, _, _, _, rfl, hL, hB⟩
theorem told_c (u d : Int32) : (¬ jTold u d ∧ fX10_isFraction u d = some 0) ∨ ∃ x y : Nat, 1 ≤ x ∧ x ≤ 1000000 ∧ 1 ≤ y ∧ y ≤ 1000000 ∧ u = nI x ∧ d = nI y ∧ jTold u d ∧ fX10_isFraction u d = some 1 := by
  have mil : ∀ {a : Int32}, 1 ≤ a ∧ a ≤ 1000000 → ∃ x : Nat, 1 ≤ x ∧ x ≤ 1000000 ∧ a = nI x := fun {a} h => by
    obtain ⟨n, h1, h2⟩ := nI_of2 (x := a) (M := 1000000) (n := 1000000) (by decide +kernel) (fun q => by
      have := h.1
      rw [Int32.lt_iff_toInt_lt] at q
      rw [Int32.le_iff_toInt_le] at this
      have e1 : (1 : Int32).toInt = 1 := by decide +kernel
      have e0 : (0 : Int32).toInt = 0 := by decide +kernel
      omega) h.2
    refine ⟨n, ?_, h1, h2⟩
    have h3 := h.1
    rw [h2] at h3
    have h4 : nI 1 ≤ nI n := h3
    exact (nI_leI (by omega) (by omega)).mp h4
  unfold fX10_isFraction
  rw [inI, inI]
  simp only [Option.bind_some]
  by_cases h1 : 1 ≤ u ∧ u ≤ 1000000
  · rw [if_pos h1, if_neg n10]
    by_cases h2 : 1 ≤ d ∧ d ≤ 1000000
    · rw [if_pos h2, if_neg n10]
      obtain ⟨x, x1, x2, x3⟩ := mil h1
      obtain ⟨y, y1, y2, y3⟩ := mil h2
      exact Or.inr ⟨x, y, x1, x2, y1, y2, x3, y3, ⟨h1, h2⟩, rfl⟩
    · rw [if_neg h2, if_pos rfl]
      exact Or.inl ⟨fun z => h2 z.2, rfl⟩
  · rw [if_neg h1, if_pos rfl]
    exact Or.inl ⟨fun z => h1 z.1, rfl⟩
theorem rank_same (hk : k ≤ 9) (h : RSh hs upper lower begins) (a u d : Int32) : ∃ x up lo bg sz hs' ab' bl', fRank (Sq sv0) k a u d = some x ∧ fX10_rank a u d upper lower begins size hs ab bl = some (x, 0, up, lo, bg, sz, hs', ab', bl') ∧ RSh hs' up lo bg := by
  unfold fX10_rank fRank
  rcases parts_c a with ⟨c, e⟩ | ⟨n, h1, h9, rfl, c, e⟩
  · rw [e, if_neg (fun z => c z.1)]
    exact ⟨_, _, _, _, _, _, _, _, rfl, rfl, h⟩
  · rw [e]
    simp only [Option.bind_some]
    rw [if_neg n10]
    rcases told_c u d with ⟨c2, e2⟩ | ⟨x, y, x1, x2, y1, y2, rfl, rfl, c2, e2⟩
    · rw [e2, if_neg (fun z => c2 z.2)]
      exact ⟨_, _, _, _, _, _, _, _, rfl, rfl, h⟩
    · rw [e2, if_pos ⟨c, c2⟩]
      simp only [Option.bind_some]
      rw [if_neg n10, nI_clamp (show n < 2 ^ 31 by omega), nI_64 (by omega), nI_64 (by omega)]
      obtain ⟨v, v1, -, v2⟩ := fnd_c (sv0 := sv0) (k1 := max k n) h1 (by omega) (by omega) x1 x2 y1 y2
      obtain ⟨up, lo, bg, sz, ab', bl', e3, hL, hB⟩ := v2 hs upper lower begins size ab bl h
      rw [v1, e3]
      exact ⟨_, _, _, _, _, _, _, _, rfl, rfl, Or.inr ⟨rfl, hL, hB⟩⟩
theorem few_same {u d : Nat} (hu1 : 1 ≤ u) (hu : u ≤ 1000000) (hd1 : 1 ≤ d) (hd : d ≤ 1000000) : ∀ (r n k : Nat) (hs : Int32) (upper lower begins : Nat → Int32) (size : Int32) (ab bl : Int64) (fuel : Nat), n + r = 10 → 1 ≤ n → k ≤ 9 → RSh hs upper lower begins → r < fuel → ∃ x k' up lo bg sz hs' ab' bl', fFew (Sq sv0) (nI u) (nI d) r n k = some (x, k') ∧ k' ≤ 9 ∧ RSh hs' up lo bg ∧ ((x = -9 ∧ LX10_fewest_17 (nI u) (nI d) fuel (nI n) upper lower begins size hs ab bl = some (.inl (up, lo, bg, sz, hs', ab', bl'))) ∨ LX10_fewest_17 (nI u) (nI d) fuel (nI n) upper lower begins size hs ab bl = some (.inr (x, 0, up, lo, bg, sz, hs', ab', bl'))) := by
  intro r
  induction r with
  | zero =>
    intro n k hs upper lower begins size ab bl fuel hn h1 hk h hf
    obtain ⟨f, rfl⟩ : ∃ f, fuel = f + 1 := ⟨fuel - 1, by omega⟩
    obtain rfl : n = 10 := by omega
    refine ⟨-9, k, upper, lower, begins, size, hs, ab, bl, rfl, hk, h, Or.inl ⟨rfl, ?_⟩⟩
    unfold LX10_fewest_17
    rw [if_pos (show (10 : Int32) ≤ nI 10 by decide)]
  | succ r ih =>
    intro n k hs upper lower begins size ab bl fuel hn h1 hk h hf
    obtain ⟨f, rfl⟩ : ∃ f, fuel = f + 1 := ⟨fuel - 1, by omega⟩
    obtain ⟨v, v1, v3, v2⟩ := fnd_c (sv0 := sv0) (n := n) (k1 := max k n) h1 (by omega) (by omega) hu1 hu hd1 hd
    obtain ⟨up, lo, bg, sz, ab', bl', e3, hL, hB⟩ := v2 hs upper lower begins size ab bl h
    unfold LX10_fewest_17 fFew
    rw [if_neg (show ¬ (10 : Int32) ≤ nI n from nI_ge (b := 10) (by omega) (by omega)), nI_64 (by omega), nI_64 (by omega), e3, v1]
    simp only [Option.bind_some]
    rcases v3 with rfl | ⟨s, s1, rfl⟩
    · rw [if_pos (show (-9 : Int32) < 0 by decide), if_pos (show (-9 : Int32) = -9 from rfl)]
      simp only [jlet]
      rw [nI_1]
      exact ih (n + 1) (max k n) 1 up lo bg sz ab' bl' f (by omega) (by omega) (by omega) (Or.inr ⟨rfl, hL, hB⟩) (by omega)
    · rw [if_neg (nI_pos (by omega)), if_neg (fun z => by
        have q := congrArg Int32.toInt z
        rw [nI_toInt (by omega), show (-9 : Int32).toInt = -9 by decide] at q
        omega)]
      exact ⟨_, _, up, lo, bg, sz, 1, ab', bl', rfl, by omega, Or.inr ⟨rfl, hL, hB⟩, Or.inr rfl⟩
theorem fewest_same (hk : k ≤ 9) (h : RSh hs upper lower begins) (u d : Int32) : ∃ x k' up lo bg sz hs' ab' bl', fFewest (Sq sv0) k u d = some (x, k') ∧ k' ≤ 9 ∧ fX10_fewest u d upper lower begins size hs ab bl = some (x, 0, up, lo, bg, sz, hs', ab', bl') ∧ RSh hs' up lo bg := by
  unfold fX10_fewest fFewest
  rcases told_c u d with ⟨c2, e2⟩ | ⟨x, y, x1, x2, y1, y2, rfl, rfl, c2, e2⟩
  · rw [e2, if_neg c2]
    exact ⟨_, k, _, _, _, _, _, _, _, rfl, hk, rfl, h⟩
  · rw [e2, if_pos c2]
    simp only [Option.bind_some]
    rw [if_neg n10]
    obtain ⟨v, k', up, lo, bg, sz, hs', ab', bl', f1, f2, f3, f4⟩ := few_same (sv0 := sv0) x1 x2 y1 y2 9 1 k hs upper lower begins size ab bl 5000 (by omega) (by omega) hk h (by omega)
    rcases f4 with ⟨rfl, f4⟩ | f4
    · have f4 : LX10_fewest_17 (nI x) (nI y) 5000 (1 : Int32) upper lower begins size hs ab bl = _ := f4
      rw [f1, f4]
      exact ⟨_, k', _, _, _, _, _, _, _, rfl, f2, rfl, f3⟩
    · have f4 : LX10_fewest_17 (nI x) (nI y) 5000 (1 : Int32) upper lower begins size hs ab bl = _ := f4
      rw [f1, f4]
      exact ⟨_, k', _, _, _, _, _, _, _, rfl, f2, rfl, f3⟩
theorem turned_same (hk : k ≤ 9) (h : RSh hs upper lower begins) (a i : Int32) : ∃ up lo bg sz hs' ab' bl', fX10_turned a i upper lower begins size hs ab bl = some (fTurned (Sq sv0) k a i, 0, up, lo, bg, sz, hs', ab', bl') ∧ RSh hs' up lo bg := by
  unfold fX10_turned fTurned
  rcases share_c (sv0 := sv0) (size := size) (ab := ab) (bl := bl) hk h a i with ⟨e1, up, lo, bg, sz, hs', ab', bl', e2, h2⟩ | ⟨n, r, e, h1, h9, rfl, rfl, c, he, e1, up, lo, bg, sz, ab', bl', e2, hL, hB⟩
  · rw [e1, e2]
    exact ⟨_, _, _, _, _, _, _, rfl, h2⟩
  · obtain ⟨b1, b2, b3, p1, p2, p3, p4⟩ := lad_at h1 h9 hL he
    have hr := (List.getElem?_eq_some_iff.mp he).1
    have l9 := shl_900 ⟨n - 1, by omega⟩
    have l9 : (shL (n - 1)).length ≤ 900 := l9
    obtain ⟨f, f1, f2, f3⟩ := shl_flip (show n - 1 < 9 by omega) he
    rw [e1, e2]
    simp only [Option.bind_some]
    rw [if_neg n10, if_pos (jok_nI (by omega) (by omega)), nI_clamp (show n < 2 ^ 31 by omega), hB n h1 (by omega), nI_add, if_pos (jok_nI b1 (by omega)), nI_clamp (show bgn (n - 1) + r < 2 ^ 31 by omega), b2, b3, nI_64 (by omega), nI_64 (by omega), sN_in h1 h9 hk c]
    have et : nI (shL (n - 1)).length - 1 - nI r = nI ((shL (n - 1)).length - 1 - r) := by
      rw [show nI (shL (n - 1)).length - (1 : Int32) = nI ((shL (n - 1)).length - 1) from nI_mn (a := 1) (by omega), nI_mn (by omega)]
    rw [et]
    rcases rankL (sz := sz) (ab := ab') (bl := bl') h1 h9 hL hB (u := e.2.1) (d := e.1) (by omega) (by omega) with ⟨s, g, g1, g2, g3⟩ | ⟨g1, g2⟩
    · have := uniq_at h9 h1 g1 f1 g2 (by rw [f2, f3, Nat.mul_comm]) p1
      rw [g3, this]
      exact ⟨_, _, _, _, _, _, _, rfl, Or.inr ⟨rfl, hL, hB⟩⟩
    · exact absurd (by rw [f2, f3, Nat.mul_comm]) (g1 f (List.mem_of_getElem? f1))
end RANKS
