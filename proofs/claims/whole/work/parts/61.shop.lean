/-! the shop -/
def fst10 (c : Nat) : Nat := if c < 100 then c else c % 100 / 10
def hasC (c ns : Nat) : Bool := if c < 100 then decide (c < ns) else decide (fst10 c ≤ c % 10) && decide (c % 10 < ns)
set_option maxRecDepth 100000 in
theorem ch_div : ∀ c : Fin 300, ((nI c.1 - nI c.1 / (100 : Int32) * (100 : Int32)) / (10 : Int32) = nI (c.1 % 100 / 10)) ∧ (nI c.1 - nI c.1 / (10 : Int32) * (10 : Int32) = nI (c.1 % 10)) ∧ ((nI c.1 / (100 : Int32) = 1) ↔ (100 ≤ c.1 ∧ c.1 < 200)) := by decide +kernel
theorem ch_lt {c k : Nat} (hc : c < 300) (hk : k ≤ 300) : (nI k ≤ nI c ↔ k ≤ c) ∧ (nI c < nI k ↔ c < k) := by
  refine ⟨⟨fun z => ?_, fun z => nI_le z (by omega)⟩, ⟨fun z => ?_, fun z => nI_lt z (by omega)⟩⟩
  · by_cases q : k ≤ c
    · exact q
    · exact absurd z (nI_ge (by omega) (by omega))
  · by_cases q : c < k
    · exact q
    · exact absurd z (nI_nlt (by omega) (by omega))
theorem one_c {c : Nat} (hc : c < 300) : fX7_isOneSort (nI c) = some (if c < 100 then 1 else 0) := by
  unfold fX7_isOneSort
  by_cases q : c < 100
  · rw [if_neg (show ¬ (100 : Int32) ≤ nI c from nI_ge (b := 100) q (by omega)), if_pos q]
  · rw [if_pos (show (100 : Int32) ≤ nI c from nI_le (a := 100) (by omega) (by omega)), if_neg q]
theorem first_c {c : Nat} (hc : c < 300) : fX7_firstOf (nI c) = some (nI (fst10 c)) := by
  unfold fX7_firstOf fst10
  rw [one_c hc]
  simp only [Option.bind_some]
  by_cases q : c < 100
  · rw [if_pos q, if_neg (show ¬ (1 : Int32) = 0 by decide), if_pos q]
  · rw [if_neg q, if_pos rfl, if_neg q]
    exact congrArg some (ch_div ⟨c, hc⟩).1
theorem second_c {c : Nat} (hc : c < 300) : fX7_secondOf (nI c) = some (nI (c % 10)) := by
  unfold fX7_secondOf
  exact congrArg some (ch_div ⟨c, hc⟩).2.1
theorem fst10_lt {c : Nat} (hc : c < 300) : fst10 c < 100 := by
  unfold fst10
  split <;> omega
theorem has_c {c ns : Nat} (hc : c < 300) (hn : ns ≤ 6) : fX7_has (nI c) (nI ns) = some (if hasC c ns = true then 1 else 0) ∧ fX10_isChoice (nI c) (nI ns) = some (if hasC c ns = true then 1 else 0) := by
  have hd := ch_div ⟨c, hc⟩
  have d1 : (nI c - nI c / (100 : Int32) * (100 : Int32)) / (10 : Int32) = nI (c % 100 / 10) := hd.1
  have d2 : nI c - nI c / (10 : Int32) * (10 : Int32) = nI (c % 10) := hd.2.1
  constructor
  · unfold fX7_has
    rw [if_neg (nI_pos (by omega)), if_pos (show nI c < 300 from nI_lt (b := 300) hc (by omega)), one_c hc]
    simp only [Option.bind_some]
    rw [first_c hc, second_c hc]
    simp only [Option.bind_some]
    unfold hasC
    by_cases q : c < 100
    · rw [if_pos q, if_neg (show ¬ (1 : Int32) = 0 by decide), if_pos q]
      by_cases z : c < ns
      · rw [if_neg (nI_ge z (by omega)), decide_eq_true z]; rfl
      · rw [if_pos (nI_le (by omega) (by omega)), decide_eq_false z]; rfl
    · rw [if_neg q, if_pos rfl, if_neg q]
      by_cases z1 : fst10 c ≤ c % 10
      · rw [if_neg (nI_nlt z1 (by omega)), decide_eq_true z1, Bool.true_and]
        by_cases z : c % 10 < ns
        · rw [if_neg (nI_ge z (by omega)), decide_eq_true z]; rfl
        · rw [if_pos (nI_le (by omega) (by omega)), decide_eq_false z]; rfl
      · rw [if_pos (nI_lt (by omega) (by have := fst10_lt hc; omega)), decide_eq_false z1, Bool.false_and]; rfl
  · unfold fX10_isChoice
    simp only [jlet]
    rw [d1, d2]
    unfold hasC
    by_cases q : c < 100
    · rw [if_neg (show ¬ (100 : Int32) ≤ nI c from nI_ge (b := 100) q (by omega)), if_pos q]
      unfold fX10_in
      rw [if_neg (show ¬ nI c < 0 from nI_pos (by omega))]
      by_cases z : c < ns
      · obtain ⟨m, rfl⟩ : ∃ m, ns = m + 1 := ⟨ns - 1, by omega⟩
        have e : nI (m + 1) - (1 : Int32) = nI m := by
          rw [nI_succ]
          exact Int32.add_sub_cancel _ _
        rw [e, if_neg (nI_nlt (by omega) (by omega)), decide_eq_true z]; rfl
      · rw [decide_eq_false z, if_pos]
        · rfl
        · cases ns with
          | zero =>
            rw [show nI 0 - (1 : Int32) = -1 by decide, Int32.lt_iff_toInt_lt, nI_toInt (by omega)]
            have : (-1 : Int32).toInt = -1 := by decide
            omega
          | succ m =>
            have e : nI (m + 1) - (1 : Int32) = nI m := by
              rw [nI_succ]
              exact Int32.add_sub_cancel _ _
            rw [e]
            exact nI_lt (by omega) (by omega)
    · rw [if_pos (show (100 : Int32) ≤ nI c from nI_le (a := 100) (by omega) (by omega)), if_neg q, if_neg (show ¬ (300 : Int32) ≤ nI c from nI_ge (b := 300) hc (by omega))]
      have ef : fst10 c = c % 100 / 10 := if_neg q
      rw [ef]
      by_cases z1 : c % 100 / 10 ≤ c % 10
      · rw [if_neg (nI_nlt z1 (by omega)), decide_eq_true z1, Bool.true_and]
        by_cases z : c % 10 < ns
        · rw [if_neg (nI_ge z (by omega)), decide_eq_true z]; rfl
        · rw [if_pos (nI_le (by omega) (by omega)), decide_eq_false z]; rfl
      · rw [if_pos (nI_lt (by omega) (by omega)), decide_eq_false z1, Bool.false_and]; rfl
theorem has_ix {c ns : Nat} (h : hasC c ns = true) (hn : ns ≤ 6) : fst10 c < ns ∧ (100 ≤ c → c % 10 < ns) := by
  unfold hasC at h
  by_cases q : c < 100
  · rw [if_pos q] at h
    have := of_decide_eq_true h
    unfold fst10
    rw [if_pos q]
    exact ⟨this, fun z => by omega⟩
  · rw [if_neg q, Bool.and_eq_true] at h
    have h1 := of_decide_eq_true h.1
    have h2 := of_decide_eq_true h.2
    exact ⟨by omega, fun _ => h2⟩
theorem nI_64 {m : Nat} (h : m < 2 ^ 31) : (nI m).toInt64 = Zl (m : Int) := by
  apply Int64.toInt_inj.mp
  rw [Int32.toInt_toInt64, nI_toInt h, Zl_toInt (rgN (by omega))]
theorem nI_times (a b : Nat) : nI a * nI b = nI (a * b) := (Int32.ofNat_mul a b).symm
/-- the shop of both -/
def SR (ns : Nat) (O Pr : Nat → Nat) (so sp ohms price : Nat → Int32) : Prop := ns ≤ 6 ∧ ∀ i, i < ns → (1 ≤ O i ∧ O i ≤ 100 ∧ 1 ≤ Pr i ∧ Pr i ≤ 50) ∧ so i = nI (O i) ∧ sp i = nI (Pr i) ∧ ohms i = nI (O i) ∧ price i = nI (Pr i)
def mU (O : Nat → Nat) (c : Nat) : Nat := if c < 100 then O c else if c < 200 then O (fst10 c) + O (c % 10) else O (fst10 c) * O (c % 10)
def mD (O : Nat → Nat) (c : Nat) : Nat := if c < 200 then 1 else O (fst10 c) + O (c % 10)
def prC (Pr : Nat → Nat) (c : Nat) : Nat := if c < 100 then Pr c else Pr (fst10 c) + Pr (c % 10)
section SHOP
variable {ns : Nat} {O Pr : Nat → Nat} {so sp ohms price : Nat → Int32}
theorem mul_le {x y a b : Nat} (h1 : x ≤ a) (h2 : y ≤ b) : x * y ≤ a * b := Nat.mul_le_mul h1 h2
theorem mUD (h : SR ns O Pr so sp ohms price) {c : Nat} (hc : c < 300) (hh : hasC c ns = true) : 1 ≤ mU O c ∧ mU O c ≤ 10000 ∧ 1 ≤ mD O c ∧ mD O c ≤ 200 ∧ prC Pr c ≤ 100 := by
  have hi := has_ix hh h.1
  have b1 := (h.2 _ hi.1).1
  unfold mU mD prC
  by_cases q : c < 100
  · have e : fst10 c = c := if_pos q
    rw [e] at b1
    rw [if_pos q, if_pos (by omega), if_pos q]
    omega
  · have b2 := (h.2 _ (hi.2 (by omega))).1
    rw [if_neg q, if_neg q]
    by_cases q2 : c < 200
    · rw [if_pos q2, if_pos q2]
      omega
    · rw [if_neg q2, if_neg q2]
      have m1 := mul_le b1.2.1 b2.2.1
      have m2 : 1 * 1 ≤ O (fst10 c) * O (c % 10) := Nat.mul_le_mul b1.1 b2.1
      omega
theorem measOk (h : SR ns O Pr so sp ohms price) {c : Nat} (hc : c < 300) (hh : hasC c ns = true) : fX7_measure (nI c) so = some (Zl (mU O c : Nat), Zl (mD O c : Nat)) ∧ fX7_priceOf (nI c) sp = some (nI (prC Pr c)) := by
  have hi := has_ix hh h.1
  have hn := h.1
  have h1 := h.2 _ hi.1
  have b1 := h1.1
  have hd := (ch_div ⟨c, hc⟩).2.2
  have hd : (nI c / (100 : Int32) = 1) ↔ (100 ≤ c ∧ c < 200) := hd
  unfold fX7_measure fX7_priceOf fX0_set
  rw [first_c hc]
  simp only [Option.bind_some, jlet]
  rw [if_pos (jok_nI (by omega) (by omega)), if_pos (jok_nI (by omega) (by omega)), nI_clamp (show fst10 c < 2 ^ 31 by omega), h1.2.1, h1.2.2.1, one_c hc]
  simp only [Option.bind_some]
  unfold mU mD prC
  by_cases q : c < 100
  · have e : fst10 c = c := if_pos q
    rw [if_pos q, if_neg (show ¬ (1 : Int32) = 0 by decide), if_neg (show ¬ (1 : Int32) = 0 by decide), if_pos q, if_pos (show c < 200 by omega), if_pos q, e]
    rw [e] at b1
    rw [nI_64 (by omega)]
    exact ⟨rfl, rfl⟩
  · have h2 := h.2 _ (hi.2 (by omega))
    have b2 := h2.1
    have hs := hi.2 (by omega)
    rw [if_neg q, if_pos rfl, if_pos rfl, second_c hc, if_neg q, if_neg q]
    simp only [Option.bind_some]
    rw [if_pos (jok_nI (by omega) (by omega)), if_pos (jok_nI (by omega) (by omega)), nI_clamp (show c % 10 < 2 ^ 31 by omega), h2.2.1, h2.2.2.1, nI_plus, nI_plus, nI_times]
    have m1 := mul_le b1.2.1 b2.2.1
    rw [nI_64 (show O (fst10 c) + O (c % 10) < 2 ^ 31 by omega), nI_64 (show O (fst10 c) * O (c % 10) < 2 ^ 31 by omega)]
    by_cases q2 : c < 200
    · rw [if_pos (hd.mpr ⟨by omega, q2⟩), if_pos q2, if_pos q2]
      exact ⟨rfl, rfl⟩
    · rw [if_neg (fun z => q2 (hd.mp z).2), if_neg q2, if_neg q2]
      exact ⟨rfl, rfl⟩
theorem looksOk (h : SR ns O Pr so sp ohms price) {c : Nat} (hc : c < 300) (hh : hasC c ns = true) : fX10_looks (nI c) ohms price = some (nI (prC Pr c), Zl (lst (mU O c : Nat) (mD O c)).1, Zl (lst (mU O c : Nat) (mD O c)).2) := by
  have hi := has_ix hh h.1
  have hn := h.1
  have h1 := h.2 _ hi.1
  have b1 := h1.1
  have hm := mUD h hc hh
  have lk := leastOk (u := ((mU O c : Nat) : Int)) (d := mD O c) (by omega) (by omega) (by omega)
  have hd := ch_div ⟨c, hc⟩
  have d1 : (nI c - nI c / (100 : Int32) * (100 : Int32)) / (10 : Int32) = nI (c % 100 / 10) := hd.1
  have d2 : nI c - nI c / (10 : Int32) * (10 : Int32) = nI (c % 10) := hd.2.1
  unfold fX10_looks
  simp only [jlet]
  rw [d1, d2]
  by_cases q : c < 100
  · have e : fst10 c = c := if_pos q
    rw [e] at h1 hi
    rw [e] at b1
    have eU : mU O c = O c := if_pos q
    have eD : mD O c = 1 := if_pos (by omega)
    have eP : prC Pr c = Pr c := if_pos q
    rw [eU, eD] at lk
    rw [eU, eD, eP]
    simp only [if_neg (show ¬ (100 : Int32) ≤ nI c from nI_ge (b := 100) q (by omega))]
    rw [if_pos (jok_nI (by omega) (by omega)), nI_clamp (show c < 2 ^ 31 by omega), h1.2.2.2.1, h1.2.2.2.2, nI_64 (by omega), show (1 : Int64) = Zl ((1 : Nat) : Int) from rfl, lk]
    rfl
  · have h2 := h.2 _ (hi.2 (by omega))
    have b2 := h2.1
    have hs := hi.2 (by omega)
    have ef : fst10 c = c % 100 / 10 := if_neg q
    have m1 := mul_le b1.2.1 b2.2.1
    have eP : prC Pr c = Pr (fst10 c) + Pr (c % 10) := if_neg q
    simp only [if_pos (show (100 : Int32) ≤ nI c from nI_le (a := 100) (by omega) (by omega))]
    rw [← ef, if_pos (jok_nI (by omega) (by omega)), if_pos (jok_nI (by omega) (by omega)), nI_clamp (show fst10 c < 2 ^ 31 by omega), nI_clamp (show c % 10 < 2 ^ 31 by omega), h1.2.2.2.1, h1.2.2.2.2, h2.2.2.2.1, h2.2.2.2.2, nI_plus, nI_plus, nI_64 (show O (fst10 c) < 2 ^ 31 by omega), nI_64 (show O (c % 10) < 2 ^ 31 by omega), nI_64 (show O (fst10 c) + O (c % 10) < 2 ^ 31 by omega), eP]
    by_cases q2 : c < 200
    · have eU : mU O c = O (fst10 c) + O (c % 10) := by unfold mU; rw [if_neg q, if_pos q2]
      have eD : mD O c = 1 := if_pos q2
      rw [eU, eD] at lk
      rw [if_neg (show ¬ (200 : Int32) ≤ nI c from nI_ge (b := 200) q2 (by omega)), eU, eD, show (1 : Int64) = Zl ((1 : Nat) : Int) from rfl, lk]
      rfl
    · have eU : mU O c = O (fst10 c) * O (c % 10) := by unfold mU; rw [if_neg q, if_neg q2]
      have eD : mD O c = O (fst10 c) + O (c % 10) := if_neg q2
      rw [eU, eD] at lk
      rw [if_pos (show (200 : Int32) ≤ nI c from nI_le (a := 200) (by omega) (by omega)), eU, eD, show Zl ((O (fst10 c) : Nat) : Int) * Zl ((O (c % 10) : Nat) : Int) = Zl ((O (fst10 c) * O (c % 10) : Nat) : Int) by rw [Int.natCast_mul]; exact (Int64.ofInt_mul _ _).symm, lk]
      rfl
theorem sort_same (h : SR ns O Pr so sp ohms price) (a1 a2 : Int32) : ∃ (r : Int32) (ns' : Nat) (O' Pr' : Nat → Nat) (so' sp' ohms' price' : Nat → Int32), fX9_sort a1 a2 (nI ns) so sp = some (r, nI ns', so', sp') ∧ fX10_sort a1 a2 (nI ns) ohms price = some (r, 0, nI ns', ohms', price') ∧ SR ns' O' Pr' so' sp' ohms' price' := by
  have hn := h.1
  unfold fX9_sort fX10_sort fX7_size
  have hp := within_c a1 1 100 (by decide) (by decide)
  have hp : (fX9_isWithin a1 1 100 = some 0 ∧ fX10_in a1 1 100 = some 0) ∨ ∃ k, 1 ≤ k ∧ k ≤ 100 ∧ a1 = nI k ∧ fX9_isWithin a1 1 100 = some 1 ∧ fX10_in a1 1 100 = some 1 := hp
  rcases hp with ⟨q1, q2⟩ | ⟨x, hx1, hx2, rfl, q1, q2⟩
  · rw [q1, q2]
    exact ⟨_, ns, O, Pr, _, _, _, _, rfl, rfl, h⟩
  · rw [q1, q2]
    simp only [Option.bind_some]
    rw [if_neg (show ¬ (1 : Int32) = 0 by decide), if_neg (show ¬ (1 : Int32) = 0 by decide)]
    have hp := within_c a2 1 50 (by decide) (by decide)
    have hp : (fX9_isWithin a2 1 50 = some 0 ∧ fX10_in a2 1 50 = some 0) ∨ ∃ k, 1 ≤ k ∧ k ≤ 50 ∧ a2 = nI k ∧ fX9_isWithin a2 1 50 = some 1 ∧ fX10_in a2 1 50 = some 1 := hp
    rcases hp with ⟨q1, q2⟩ | ⟨y, hy1, hy2, rfl, q1, q2⟩
    · rw [q1, q2]
      exact ⟨_, ns, O, Pr, _, _, _, _, rfl, rfl, h⟩
    · rw [q1, q2]
      simp only [Option.bind_some]
      rw [if_neg (show ¬ (1 : Int32) = 0 by decide), if_neg (show ¬ (1 : Int32) = 0 by decide)]
      by_cases c : ns = 6
      · subst c
        rw [if_neg (show ¬ nI 6 < 6 by decide), if_pos (show nI 6 = 6 by decide)]
        exact ⟨_, 6, O, Pr, _, _, _, _, rfl, rfl, h⟩
      · unfold fX7_add
        rw [if_pos (show nI ns < 6 from nI_lt (b := 6) (by omega) (by omega)), if_neg (show ¬ nI ns = 6 from fun z => c ((nI_inj (b := 6) (by omega) (by omega)).mp z)), if_pos (jok_nI (show ns < 6 by omega) (by omega)), if_pos (jok_nI (show ns < 6 by omega) (by omega))]
        simp only [jlet, Option.bind_some]
        rw [← nI_succ, nI_clamp (show ns < 2 ^ 31 by omega)]
        refine ⟨_, ns + 1, fun i => if i = ns then x else O i, fun i => if i = ns then y else Pr i, _, _, _, _, rfl, rfl, by omega, fun i hi => ?_⟩
        unfold upd
        by_cases e : i = ns
        · simp only [if_pos e]
          exact ⟨⟨hx1, hx2, hy1, hy2⟩, by simp⟩
        · simp only [if_neg e]
          exact h.2 i (by omega)
theorem choice_same (h : SR ns O Pr so sp ohms price) (a1 a2 : Int32) (au al ab bl : Int64) : ∃ (r : Int32) (au' al' ab' bl' : Int64), fX9_choice a1 a2 au al (nI ns) so sp = some (r, au', al') ∧ fX10_choice a1 a2 (nI ns) ohms price ab bl = some (r, 0, ab', bl') := by
  have hn := h.1
  unfold fX9_choice fX10_choice
  by_cases c0 : a1 < 0
  · unfold fX7_has
    rw [if_pos c0, if_pos c0]
    exact ⟨_, _, _, _, _, rfl, rfl⟩
  · rw [if_neg c0]
    obtain ⟨c, rfl, hcv⟩ := jnI_of c0
    have hlt := (nI c).toInt_lt
    by_cases hc : c < 300
    · obtain ⟨k1, k2⟩ := has_c hc hn
      rw [k1, k2]
      simp only [Option.bind_some]
      by_cases hh : hasC c ns = true
      · rw [if_pos hh, if_neg (show ¬ (1 : Int32) = 0 by decide), if_neg (show ¬ (1 : Int32) = 0 by decide)]
        have hp := within_c a2 0 2 (by decide) (by decide)
        have hp : (fX9_isWithin a2 0 2 = some 0 ∧ fX10_in a2 0 2 = some 0) ∨ ∃ k, 0 ≤ k ∧ k ≤ 2 ∧ a2 = nI k ∧ fX9_isWithin a2 0 2 = some 1 ∧ fX10_in a2 0 2 = some 1 := hp
        rcases hp with ⟨q1, q2⟩ | ⟨k, -, hk, rfl, q1, q2⟩
        · rw [q1, q2]
          exact ⟨_, _, _, _, _, rfl, rfl⟩
        · obtain ⟨m1, m2⟩ := measOk h hc hh
          have hm := mUD h hc hh
          rw [q1, q2]
          simp only [Option.bind_some, jlet]
          rw [if_neg (show ¬ (1 : Int32) = 0 by decide), if_neg (show ¬ (1 : Int32) = 0 by decide), looksOk h hc hh, m1, m2]
          simp only [Option.bind_some]
          rw [reduceOk (u := ((mU O c : Nat) : Int)) (d := mD O c) (by omega) (by omega) (by omega)]
          simp only [Option.bind_some]
          unfold fX0_part
          rcases (show k = 0 ∨ k = 1 ∨ k = 2 by omega) with rfl | rfl | rfl
          · exact ⟨_, _, _, _, _, rfl, rfl⟩
          · exact ⟨_, _, _, _, _, rfl, rfl⟩
          · exact ⟨_, _, _, _, _, rfl, rfl⟩
      · rw [if_neg hh, if_pos rfl, if_pos rfl]
        exact ⟨_, _, _, _, _, rfl, rfl⟩
    · have e1 : fX7_has (nI c) (nI ns) = some 0 := by
        unfold fX7_has
        rw [if_neg c0, if_neg (show ¬ nI c < 300 from nI_nlt (b := 300) (by omega) (by omega))]
      have e2 : fX10_isChoice (nI c) (nI ns) = some 0 := by
        unfold fX10_isChoice
        simp only [jlet]
        rw [if_pos (show (100 : Int32) ≤ nI c from nI_le (a := 100) (by omega) (by omega)), if_pos (show (300 : Int32) ≤ nI c from nI_le (a := 300) (by omega) (by omega))]
      rw [e1, e2]
      exact ⟨_, _, _, _, _, rfl, rfl⟩
end SHOP
