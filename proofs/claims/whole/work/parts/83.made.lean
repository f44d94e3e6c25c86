/-! how a share is made: the first offer, and the reference's search -/
theorem ra1 {u d x1 x2 y1 y2 : Nat} (h : x1 * d < u * x2) : (x1 * y2 + y1 * x2) * d = u * (x2 * y2) ↔ (u * x2 - x1 * d) * y2 = (d * x2) * y1 := by
  obtain ⟨L, hL⟩ : ∃ L, u * x2 = L + x1 * d := ⟨u * x2 - x1 * d, by omega⟩
  have t1 : (x1 * y2 + y1 * x2) * d = x1 * d * y2 + (d * x2) * y1 := by grind
  have t2 : u * (x2 * y2) = L * y2 + x1 * d * y2 := by
    rw [← Nat.mul_assoc, hL, Nat.add_mul]
  rw [t1, t2, hL, Nat.add_sub_cancel]
  omega
theorem ra1n {u d x1 x2 y1 y2 : Nat} (h : ¬ x1 * d < u * x2) (hy : 0 < y1) (hx : 0 < x2) (hd : 0 < d) : ¬ (x1 * y2 + y1 * x2) * d = u * (x2 * y2) := by
  have t1 : (x1 * y2 + y1 * x2) * d = x1 * d * y2 + (d * x2) * y1 := by grind
  have t2 : u * (x2 * y2) ≤ x1 * d * y2 := by
    rw [← Nat.mul_assoc]
    exact Nat.mul_le_mul_right _ (by omega)
  have t3 : 0 < (d * x2) * y1 := Nat.mul_pos (Nat.mul_pos hd hx) hy
  omega
theorem ra2 {e1 e2 x1 x2 y1 y2 : Nat} (h : x2 * e1 < e2 * x1) : (x1 * y1) * e2 = e1 * (x1 * y2 + y1 * x2) ↔ (e1 * x1) * y2 = (e2 * x1 - x2 * e1) * y1 := by
  obtain ⟨L, hL⟩ : ∃ L, e2 * x1 = L + x2 * e1 := ⟨e2 * x1 - x2 * e1, by omega⟩
  have t1 : e1 * (x1 * y2 + y1 * x2) = (e1 * x1) * y2 + x2 * e1 * y1 := by grind
  have t2 : (x1 * y1) * e2 = L * y1 + x2 * e1 * y1 := by
    have : (x1 * y1) * e2 = (e2 * x1) * y1 := by grind
    rw [this, hL, Nat.add_mul]
  rw [t1, t2, hL, Nat.add_sub_cancel]
  omega
theorem ra2n {e1 e2 x1 x2 y1 y2 : Nat} (h : ¬ x2 * e1 < e2 * x1) (he : 0 < e1) (hx : 0 < x1) (hy : 0 < y2) : ¬ (x1 * y1) * e2 = e1 * (x1 * y2 + y1 * x2) := by
  have t1 : e1 * (x1 * y2 + y1 * x2) = (e1 * x1) * y2 + x2 * e1 * y1 := by grind
  have t2 : (x1 * y1) * e2 ≤ x2 * e1 * y1 := by
    have : (x1 * y1) * e2 = (e2 * x1) * y1 := by grind
    rw [this]
    exact Nat.mul_le_mul_right _ (by omega)
  have t3 : 0 < (e1 * x1) * y2 := Nat.mul_pos (Nat.mul_pos he hx) hy
  omega
/-- is this offer of the value e -/
def isE (e o : En) : Bool := decide (o.1 * e.2.1 = e.1 * o.2.1)
theorem inO_find {h p i : Nat} {x e : En} : ∀ (l : List En) (k : Nat), (∃ j y, l[j]? = some y ∧ (jn h x y).1 * e.2.1 = e.1 * (jn h x y).2 ∧ (inO h p i x l k).find? (isE e) = some ((jn h x y).1, (jn h x y).2, h, p, i, k + j)) ∨ ((∀ y, y ∈ l → ¬ (jn h x y).1 * e.2.1 = e.1 * (jn h x y).2) ∧ (inO h p i x l k).find? (isE e) = none)
  | [], k => Or.inr ⟨fun y hy => by simp at hy, rfl⟩
  | y :: l, k => by
    rw [inO, List.find?_cons]
    by_cases c : (jn h x y).1 * e.2.1 = e.1 * (jn h x y).2
    · have c' : isE e ((jn h x y).1, (jn h x y).2, h, p, i, k) = true := decide_eq_true c
      rw [c']
      exact Or.inl ⟨0, y, rfl, c, rfl⟩
    · have c' : isE e ((jn h x y).1, (jn h x y).2, h, p, i, k) = false := decide_eq_false c
      rw [c']
      rcases inO_find l (k + 1) with ⟨j, z, q1, q2, q3⟩ | ⟨q1, q2⟩
      · exact Or.inl ⟨j + 1, z, q1, q2, by rw [show k + (j + 1) = k + 1 + j by omega]; exact q3⟩
      · refine Or.inr ⟨fun z hz => ?_, q2⟩
        rcases List.mem_cons.mp hz with w | w
        · rw [w]; exact c
        · exact q1 z w
theorem inO_how {h p i : Nat} {x o : En} : ∀ (l : List En) (k : Nat), o ∈ inO h p i x l k → o.2.2.1 = h
  | [], _, ho => by simp [inO] at ho
  | y :: l, k, ho => by
    rcases List.mem_cons.mp ho with z | z
    · rw [z]
    · exact inO_how l (k + 1) z
theorem outO_how {h p : Nat} {l2 : List En} {o : En} : ∀ (l : List En) (i : Nat), o ∈ outO h p l2 l i → o.2.2.1 = h
  | [], _, ho => by simp [outO] at ho
  | x :: l, i, ho => by
    rcases List.mem_append.mp ho with z | z
    · exact inO_how l2 0 z
    · exact outO_how l (i + 1) z
theorem aO_how {n h : Nat} {Ls : Nat → List En} {o : En} : ∀ (r a : Nat), o ∈ aO n h Ls r a → o.2.2.1 = h
  | 0, _, ho => by simp [aO] at ho
  | r + 1, a, ho => by
    rcases List.mem_append.mp ho with z | z
    · exact outO_how _ 0 z
    · exact aO_how r (a + 1) z
/-- what made answers of the offer o -/
def pk (q : Int32) (o : En) : Int32 := if q = 0 then nI o.2.2.1 else if q = 1 then nI o.2.2.2.1 else if q = 2 then nI o.2.2.2.2.1 else nI o.2.2.2.2.2
abbrev MSt : Type := (Nat → Int32) × (Nat → Int32) × (Nat → Int32) × Int32 × Int32 × Int64 × Int64
def mdr (q : Int32) (st : MSt) (o : Option En) : MSt ⊕ (Int32 × Int32 × MSt) := match o with
  | none => .inl st
  | some o => .inr (pk q o, 0, st)
section MADE
variable {upper lower begins : Nat → Int32} {sz q : Int32} {ab bl : Int64} {n : Nat} {e : En}
/-- the search for the rest, one first -/
theorem rest1 {a : Nat} {x : En} (ha : 1 ≤ a) (han : a + 1 ≤ n) (hn9 : n ≤ 9) (hL : Lad 9 upper lower) (hB : Bgs 10 begins) (hx : 0 < x.1 ∧ x.1 ≤ 100 ∧ 0 < x.2.1 ∧ x.2.1 ≤ 100) (he : 0 < e.1 ∧ e.1 ≤ 100 ∧ 0 < e.2.1 ∧ e.2.1 ≤ 100) (p i : Nat) : ∃ w : Int32, (if (0 : Int64) < Zl (e.1 : Int) * Zl (x.2.1 : Int) - Zl (x.1 : Int) * Zl (e.2.1 : Int) then (fX10_rankOf (nI n - nI a) (Zl (e.1 : Int) * Zl (x.2.1 : Int) - Zl (x.1 : Int) * Zl (e.2.1 : Int)) (Zl (e.2.1 : Int) * Zl (x.2.1 : Int)) upper lower begins sz 1 ab bl).bind (fun o => some (o.1, o.2.1, o.2.2.1, o.2.2.2.1, o.2.2.2.2.1, o.2.2.2.2.2.1, o.2.2.2.2.2.2.1, o.2.2.2.2.2.2.2)) else some ((-9 : Int32), upper, lower, begins, sz, 1, ab, bl)) = some (w, upper, lower, begins, sz, 1, ab, bl) ∧ ((w = -9 ∧ (inO 1 p i x (shL (n - a - 1)) 0).find? (isE e) = none) ∨ ∃ k u v, k < 900 ∧ w = nI k ∧ (inO 1 p i x (shL (n - a - 1)) 0).find? (isE e) = some (u, v, 1, p, i, k)) := by
  have m1 : e.1 * x.2.1 ≤ 100 * 100 := Nat.mul_le_mul he.2.1 hx.2.2.2
  have m2 : x.1 * e.2.1 ≤ 100 * 100 := Nat.mul_le_mul hx.2.1 he.2.2.2
  have m3 : e.2.1 * x.2.1 ≤ 100 * 100 := Nat.mul_le_mul he.2.2.2 hx.2.2.2
  have p3 : 0 < e.2.1 * x.2.1 := Nat.mul_pos he.2.2.1 hx.2.2.1
  have l9 := shl_900 ⟨n - a - 1, by omega⟩
  have l9 : (shL (n - a - 1)).length ≤ 900 := l9
  have j1 : ∀ y : En, (jn 1 x y).1 = x.1 * y.2.1 + y.1 * x.2.1 ∧ (jn 1 x y).2 = x.2.1 * y.2.1 := fun y => ⟨rfl, rfl⟩
  have fi := inO_find (h := 1) (p := p) (i := i) (x := x) (e := e) (shL (n - a - 1)) 0
  have z0 : (0 : Int64) = Zl 0 := rfl
  rw [zzN, zzN, zzN]
  have sb : Zl ((e.1 * x.2.1 : Nat) : Int) - Zl ((x.1 * e.2.1 : Nat) : Int) = Zl (((e.1 * x.2.1 : Nat) : Int) - ((x.1 * e.2.1 : Nat) : Int)) := (Int64.ofInt_sub _ _).symm
  rw [sb, z0]
  by_cases c : x.1 * e.2.1 < e.1 * x.2.1
  · rw [if_pos ((Zl_lt ⟨by decide, by decide⟩ ⟨by omega, by omega⟩).mpr (by omega)), nI_mn (by omega), show ((e.1 * x.2.1 : Nat) : Int) - ((x.1 * e.2.1 : Nat) : Int) = ((e.1 * x.2.1 - x.1 * e.2.1 : Nat) : Int) by omega]
    rcases rankL (n := n - a) (u := e.1 * x.2.1 - x.1 * e.2.1) (d := e.2.1 * x.2.1) (sz := sz) (ab := ab) (bl := bl) (by omega) (by omega) hL hB (by omega) (by omega) with ⟨r, f, f1, f2, f3⟩ | ⟨f1, f2⟩
    · rw [f3]
      refine ⟨nI r, rfl, Or.inr ?_⟩
      have hr := (List.getElem?_eq_some_iff.mp f1).1
      rcases fi with ⟨j, y, y1, y2, y3⟩ | ⟨y1, y2⟩
      · have y2' := (ra1 (y1 := y.1) (y2 := y.2.1) c).mp y2
        have := uniq_at (n := n - a) (by omega) (by omega) f1 y1 f2 y2' p3
        exact ⟨r, _, _, by omega, rfl, by rw [y3, Nat.zero_add, this]⟩
      · exact absurd ((ra1 (y1 := f.1) (y2 := f.2.1) c).mpr f2) (y1 f (List.mem_of_getElem? f1))
    · rw [f2]
      refine ⟨-9, rfl, Or.inl ⟨rfl, ?_⟩⟩
      rcases fi with ⟨j, y, y1, y2, y3⟩ | ⟨y1, y2⟩
      · exact absurd ((ra1 (y1 := y.1) (y2 := y.2.1) c).mp y2) (f1 y (List.mem_of_getElem? y1))
      · exact y2
  · rw [if_neg (fun z => c (by have := (Zl_lt ⟨by decide, by decide⟩ ⟨by omega, by omega⟩).mp z; omega))]
    refine ⟨-9, rfl, Or.inl ⟨rfl, ?_⟩⟩
    rcases fi with ⟨j, y, y1, y2, y3⟩ | ⟨y1, y2⟩
    · have sy := shl_sml ⟨n - a - 1, by omega⟩ y (List.mem_of_getElem? y1)
      exact absurd y2 (ra1n c sy.1 hx.2.2.1 he.2.2.1)
    · exact y2
theorem rest2 {a : Nat} {x : En} (ha : 1 ≤ a) (han : a + 1 ≤ n) (hn9 : n ≤ 9) (hL : Lad 9 upper lower) (hB : Bgs 10 begins) (hx : 0 < x.1 ∧ x.1 ≤ 100 ∧ 0 < x.2.1 ∧ x.2.1 ≤ 100) (he : 0 < e.1 ∧ e.1 ≤ 100 ∧ 0 < e.2.1 ∧ e.2.1 ≤ 100) (p i : Nat) : ∃ w : Int32, (if (0 : Int64) < Zl (e.2.1 : Int) * Zl (x.1 : Int) - Zl (x.2.1 : Int) * Zl (e.1 : Int) then (fX10_rankOf (nI n - nI a) (Zl (e.1 : Int) * Zl (x.1 : Int)) (Zl (e.2.1 : Int) * Zl (x.1 : Int) - Zl (x.2.1 : Int) * Zl (e.1 : Int)) upper lower begins sz 1 ab bl).bind (fun o => some (o.1, o.2.1, o.2.2.1, o.2.2.2.1, o.2.2.2.2.1, o.2.2.2.2.2.1, o.2.2.2.2.2.2.1, o.2.2.2.2.2.2.2)) else some ((-9 : Int32), upper, lower, begins, sz, 1, ab, bl)) = some (w, upper, lower, begins, sz, 1, ab, bl) ∧ ((w = -9 ∧ (inO 2 p i x (shL (n - a - 1)) 0).find? (isE e) = none) ∨ ∃ k u v, k < 900 ∧ w = nI k ∧ (inO 2 p i x (shL (n - a - 1)) 0).find? (isE e) = some (u, v, 2, p, i, k)) := by
  have m1 : e.2.1 * x.1 ≤ 100 * 100 := Nat.mul_le_mul he.2.2.2 hx.2.1
  have m2 : x.2.1 * e.1 ≤ 100 * 100 := Nat.mul_le_mul hx.2.2.2 he.2.1
  have m3 : e.1 * x.1 ≤ 100 * 100 := Nat.mul_le_mul he.2.1 hx.2.1
  have l9 := shl_900 ⟨n - a - 1, by omega⟩
  have l9 : (shL (n - a - 1)).length ≤ 900 := l9
  have fi := inO_find (h := 2) (p := p) (i := i) (x := x) (e := e) (shL (n - a - 1)) 0
  have z0 : (0 : Int64) = Zl 0 := rfl
  rw [zzN, zzN, zzN]
  have sb : Zl ((e.2.1 * x.1 : Nat) : Int) - Zl ((x.2.1 * e.1 : Nat) : Int) = Zl (((e.2.1 * x.1 : Nat) : Int) - ((x.2.1 * e.1 : Nat) : Int)) := (Int64.ofInt_sub _ _).symm
  rw [sb, z0]
  by_cases c : x.2.1 * e.1 < e.2.1 * x.1
  · rw [if_pos ((Zl_lt ⟨by decide, by decide⟩ ⟨by omega, by omega⟩).mpr (by omega)), nI_mn (by omega), show ((e.2.1 * x.1 : Nat) : Int) - ((x.2.1 * e.1 : Nat) : Int) = ((e.2.1 * x.1 - x.2.1 * e.1 : Nat) : Int) by omega]
    rcases rankL (n := n - a) (u := e.1 * x.1) (d := e.2.1 * x.1 - x.2.1 * e.1) (sz := sz) (ab := ab) (bl := bl) (by omega) (by omega) hL hB (by omega) (by omega) with ⟨r, f, f1, f2, f3⟩ | ⟨f1, f2⟩
    · rw [f3]
      refine ⟨nI r, rfl, Or.inr ?_⟩
      have hr := (List.getElem?_eq_some_iff.mp f1).1
      rcases fi with ⟨j, y, y1, y2, y3⟩ | ⟨y1, y2⟩
      · have y2' := (ra2 (y1 := y.1) (y2 := y.2.1) c).mp y2
        have := uniq_at (n := n - a) (by omega) (by omega) f1 y1 f2 y2' (by omega)
        exact ⟨r, _, _, by omega, rfl, by rw [y3, Nat.zero_add, this]⟩
      · exact absurd ((ra2 (y1 := f.1) (y2 := f.2.1) c).mpr f2) (y1 f (List.mem_of_getElem? f1))
    · rw [f2]
      refine ⟨-9, rfl, Or.inl ⟨rfl, ?_⟩⟩
      rcases fi with ⟨j, y, y1, y2, y3⟩ | ⟨y1, y2⟩
      · exact absurd ((ra2 (y1 := y.1) (y2 := y.2.1) c).mp y2) (f1 y (List.mem_of_getElem? y1))
      · exact y2
  · rw [if_neg (fun z => c (by have := (Zl_lt ⟨by decide, by decide⟩ ⟨by omega, by omega⟩).mp z; omega))]
    refine ⟨-9, rfl, Or.inl ⟨rfl, ?_⟩⟩
    rcases fi with ⟨j, y, y1, y2, y3⟩ | ⟨y1, y2⟩
    · have sy := shl_sml ⟨n - a - 1, by omega⟩ y (List.mem_of_getElem? y1)
      exact absurd y2 (ra2n c he.1 hx.1 sy.2.2.1)
    · exact y2
theorem nI_n9 {k : Nat} (h : k < 900) : ¬ nI k < 0 := nI_pos (by omega)
theorem m132a {a : Nat} (ha : 1 ≤ a) (han : a + 1 ≤ n) (hn9 : n ≤ 9) (hL : Lad 9 upper lower) (hB : Bgs 10 begins) (he : 0 < e.1 ∧ e.1 ≤ 100 ∧ 0 < e.2.1 ∧ e.2.1 ≤ 100) : ∀ (l : List En) (i fuel : Nat), i + l.length = (shL (a - 1)).length → (∀ r, (shL (a - 1))[i + r]? = l[r]?) → l.length < fuel → LX10_made_132 (nI n) q 0 (Zl (e.1 : Int)) (Zl (e.2.1 : Int)) (nI a) fuel (nI (bgn (a - 1) + i)) upper lower begins sz 1 ab bl = some (mdr q (upper, lower, begins, sz, 1, ab, bl) ((outO 1 a (shL (n - a - 1)) l i).find? (isE e))) := by
  have b := bgn_len (show a - 1 < 9 by omega)
  rw [show a - 1 + 1 = a by omega] at b
  have b9 := bgn_9 (show a < 10 by omega)
  intro l
  induction l with
  | nil =>
    intro i fuel hj hk hf
    obtain ⟨f, rfl⟩ : ∃ f, fuel = f + 1 := ⟨fuel - 1, by omega⟩
    have hj : i + 0 = (shL (a - 1)).length := hj
    unfold LX10_made_132
    rw [nI_1, if_pos (jok_nI (by omega) (by omega)), nI_clamp (show a + 1 < 2 ^ 31 by omega), hB (a + 1) (by omega) (by omega), Nat.add_sub_cancel, if_pos (nI_le (by omega) (by omega))]
    rfl
  | cons x l ih =>
    intro i fuel hj hk hf
    obtain ⟨f, rfl⟩ : ∃ f, fuel = f + 1 := ⟨fuel - 1, by omega⟩
    rw [List.length_cons] at hj hf
    have hx : (shL (a - 1))[i]? = some x := by
      have := hk 0
      rw [Nat.add_zero] at this
      exact this
    obtain ⟨c1, c2, c3, px⟩ := lad_at ha (by omega) hL hx
    obtain ⟨w, w1, w2⟩ := rest1 (sz := sz) (ab := ab) (bl := bl) ha han hn9 hL hB px he a i
    have ih' := ih (i + 1) f (by omega) (fun r => by
      have := hk (r + 1)
      rw [show i + (r + 1) = i + 1 + r by omega] at this
      exact this) (by omega)
    rw [outO, List.find?_append]
    unfold LX10_made_132
    rw [nI_1, if_pos (jok_nI (by omega) (by omega)), nI_clamp (show a + 1 < 2 ^ 31 by omega), hB (a + 1) (by omega) (by omega), Nat.add_sub_cancel, if_neg (nI_ge (by omega) (by omega)), if_pos rfl, if_pos (jok_nI c1 (by omega)), if_pos rfl, if_pos (jok_nI c1 (by omega)), nI_clamp (show bgn (a - 1) + i < 2 ^ 31 by omega), c2, c3, nI_64 (by omega), nI_64 (by omega)]
    simp only [Option.bind_some, jlet, if_true]
    rw [w1]
    simp only [Option.bind_some]
    rcases w2 with ⟨rfl, w2⟩ | ⟨k, u, v, hk9, rfl, w2⟩
    · rw [if_pos (by decide), w2, nI_1]
      exact ih'
    · rw [if_neg (nI_n9 hk9), w2, nI_clamp (show a < 2 ^ 31 by omega), hB a ha (by omega), nI_mn (by omega), Nat.add_sub_cancel_left]
      show _ = some (Sum.inr (pk q (u, v, 1, a, i, k), 0, upper, lower, begins, sz, 1, ab, bl))
      unfold pk
      by_cases q0 : q = 0
      · rw [if_pos q0, if_pos q0]; rfl
      · rw [if_neg q0, if_neg q0]
        by_cases q1 : q = 1
        · rw [if_pos q1, if_pos q1]
        · rw [if_neg q1, if_neg q1]
          by_cases q2 : q = 2
          · rw [if_pos q2, if_pos q2]
          · rw [if_neg q2, if_neg q2]
theorem m132b {a : Nat} (ha : 1 ≤ a) (han : a + 1 ≤ n) (hn9 : n ≤ 9) (hL : Lad 9 upper lower) (hB : Bgs 10 begins) (he : 0 < e.1 ∧ e.1 ≤ 100 ∧ 0 < e.2.1 ∧ e.2.1 ≤ 100) : ∀ (l : List En) (i fuel : Nat), i + l.length = (shL (a - 1)).length → (∀ r, (shL (a - 1))[i + r]? = l[r]?) → l.length < fuel → LX10_made_132 (nI n) q 1 (Zl (e.2.1 : Int)) (Zl (e.1 : Int)) (nI a) fuel (nI (bgn (a - 1) + i)) upper lower begins sz 1 ab bl = some (mdr q (upper, lower, begins, sz, 1, ab, bl) ((outO 2 a (shL (n - a - 1)) l i).find? (isE e))) := by
  have b := bgn_len (show a - 1 < 9 by omega)
  rw [show a - 1 + 1 = a by omega] at b
  have b9 := bgn_9 (show a < 10 by omega)
  intro l
  induction l with
  | nil =>
    intro i fuel hj hk hf
    obtain ⟨f, rfl⟩ : ∃ f, fuel = f + 1 := ⟨fuel - 1, by omega⟩
    have hj : i + 0 = (shL (a - 1)).length := hj
    unfold LX10_made_132
    rw [nI_1, if_pos (jok_nI (by omega) (by omega)), nI_clamp (show a + 1 < 2 ^ 31 by omega), hB (a + 1) (by omega) (by omega), Nat.add_sub_cancel, if_pos (nI_le (by omega) (by omega))]
    rfl
  | cons x l ih =>
    intro i fuel hj hk hf
    obtain ⟨f, rfl⟩ : ∃ f, fuel = f + 1 := ⟨fuel - 1, by omega⟩
    rw [List.length_cons] at hj hf
    have hx : (shL (a - 1))[i]? = some x := by
      have := hk 0
      rw [Nat.add_zero] at this
      exact this
    obtain ⟨c1, c2, c3, px⟩ := lad_at ha (by omega) hL hx
    obtain ⟨w, w1, w2⟩ := rest2 (sz := sz) (ab := ab) (bl := bl) ha han hn9 hL hB px he a i
    have ih' := ih (i + 1) f (by omega) (fun r => by
      have := hk (r + 1)
      rw [show i + (r + 1) = i + 1 + r by omega] at this
      exact this) (by omega)
    rw [outO, List.find?_append]
    unfold LX10_made_132
    rw [nI_1, if_pos (jok_nI (by omega) (by omega)), nI_clamp (show a + 1 < 2 ^ 31 by omega), hB (a + 1) (by omega) (by omega), Nat.add_sub_cancel, if_neg (nI_ge (by omega) (by omega)), if_neg (show ¬ (1 : Int32) = 0 by decide), if_pos (jok_nI c1 (by omega)), if_neg (show ¬ (1 : Int32) = 0 by decide), if_pos (jok_nI c1 (by omega)), nI_clamp (show bgn (a - 1) + i < 2 ^ 31 by omega), c2, c3, nI_64 (by omega), nI_64 (by omega)]
    simp only [Option.bind_some, jlet]
    rw [if_neg (show ¬ (1 : Int32) = 0 by decide), w1]
    simp only [Option.bind_some]
    rcases w2 with ⟨rfl, w2⟩ | ⟨k, u, v, hk9, rfl, w2⟩
    · rw [if_pos (by decide), w2, nI_1]
      exact ih'
    · rw [if_neg (nI_n9 hk9), w2, nI_clamp (show a < 2 ^ 31 by omega), hB a ha (by omega), nI_mn (by omega), Nat.add_sub_cancel_left]
      show _ = some (Sum.inr (pk q (u, v, 2, a, i, k), 0, upper, lower, begins, sz, 1, ab, bl))
      unfold pk
      by_cases q0 : q = 0
      · rw [if_pos q0, if_pos q0]; rfl
      · rw [if_neg q0, if_neg q0]
        by_cases q1 : q = 1
        · rw [if_pos q1, if_pos q1]
        · rw [if_neg q1, if_neg q1]
          by_cases q2 : q = 2
          · rw [if_pos q2, if_pos q2]
          · rw [if_neg q2, if_neg q2]
theorem m115 {h : Nat} {v5 : Int32} {o25 o31 : Int64} (hn9 : n ≤ 9) (hn1 : 2 ≤ n) (hB : Bgs 10 begins) (H : ∀ a, 1 ≤ a → a + 1 ≤ n → LX10_made_132 (nI n) q v5 o25 o31 (nI a) 5000 (nI (bgn (a - 1))) upper lower begins sz 1 ab bl = some (mdr q (upper, lower, begins, sz, 1, ab, bl) ((outO h a (shL (n - a - 1)) (shL (a - 1)) 0).find? (isE e)))) : ∀ (r a fuel : Nat), 1 ≤ a → a + r = n / 2 + 1 → r < fuel → LX10_made_115 (nI n) q v5 o25 o31 fuel (nI a) upper lower begins sz 1 ab bl = some (mdr q (upper, lower, begins, sz, 1, ab, bl) ((aO n h shL r a).find? (isE e))) := by
  have e2 : ∀ a : Nat, (2 : Int32) * nI a = nI (2 * a) := fun a => nI_times 2 a
  intro r
  induction r with
  | zero =>
    intro a fuel ha har hf
    obtain ⟨f, rfl⟩ : ∃ f, fuel = f + 1 := ⟨fuel - 1, by omega⟩
    unfold LX10_made_115
    rw [e2, if_pos (nI_lt (by omega) (by omega))]
    rfl
  | succ r ih =>
    intro a fuel ha har hf
    obtain ⟨f, rfl⟩ : ∃ f, fuel = f + 1 := ⟨fuel - 1, by omega⟩
    rw [aO, List.find?_append]
    unfold LX10_made_115
    rw [e2, if_neg (nI_nlt (by omega) (by omega)), if_pos (jok_nI (by omega) (by omega)), nI_clamp (show a < 2 ^ 31 by omega), hB a ha (by omega)]
    simp only [jlet]
    rw [H a ha (by omega)]
    simp only [Option.bind_some]
    cases hfd : (outO h a (shL (n - a - 1)) (shL (a - 1)) 0).find? (isE e) with
    | none =>
      have := ih (a + 1) f (by omega) (by omega) (by omega)
      rw [← nI_1] at this
      exact this
    | some o => rfl
theorem made_n {r : Nat} (hn9 : n ≤ 9) (hn1 : 2 ≤ n) (hL : Lad 9 upper lower) (hB : Bgs 10 begins) (hr : (shL (n - 1))[r]? = some e) : ∃ o, e.2.2 = o.2.2 ∧ (o.2.2.1 = 1 ∨ o.2.2.1 = 2) ∧ LX10_made_54 (nI n) q (nI (bgn (n - 1) + r)) 5000 0 upper lower begins sz 1 ab bl = some (.inr (pk q o, 0, upper, lower, begins, sz, 1, ab, bl)) := by
  obtain ⟨c1, c2, c3, pe⟩ := lad_at (by omega) hn9 hL hr
  have lens : ∀ a, 1 ≤ a → a + 1 ≤ n → (shL (a - 1)).length ≤ 900 := fun a h1 h2 => shl_900 ⟨a - 1, by omega⟩
  have s1 := m115 (h := 1) (e := e) (sz := sz) (ab := ab) (bl := bl) (q := q) hn9 hn1 hB (fun a h1 h2 => by
    have := m132a (sz := sz) (ab := ab) (bl := bl) (q := q) h1 h2 hn9 hL hB pe (shL (a - 1)) 0 5000 (by omega) (fun r => by rw [Nat.zero_add]) (by have := lens a h1 h2; omega)
    rw [Nat.add_zero] at this
    exact this) (n / 2) 1 5000 (Nat.le_refl 1) (by omega) (by omega)
  have s2 := m115 (h := 2) (e := e) (sz := sz) (ab := ab) (bl := bl) (q := q) hn9 hn1 hB (fun a h1 h2 => by
    have := m132b (sz := sz) (ab := ab) (bl := bl) (q := q) h1 h2 hn9 hL hB pe (shL (a - 1)) 0 5000 (by omega) (fun r => by rw [Nat.zero_add]) (by have := lens a h1 h2; omega)
    rw [Nat.add_zero] at this
    exact this) (n / 2) 1 5000 (Nat.le_refl 1) (by omega) (by omega)
  have s1 : LX10_made_115 (nI n) q 0 (Zl (e.1 : Int)) (Zl (e.2.1 : Int)) 5000 (1 : Int32) upper lower begins sz 1 ab bl = _ := s1
  have s2 : LX10_made_115 (nI n) q 1 (Zl (e.2.1 : Int)) (Zl (e.1 : Int)) 5000 (1 : Int32) upper lower begins sz 1 ab bl = _ := s2
  have mem : e ∈ ofs (aO n 1 shL (n / 2) 1 ++ aO n 2 shL (n / 2) 1) [] := by
    rw [← shl_ofs hn1 hn9]
    exact List.mem_of_getElem? hr
  rcases ofs_first _ _ (PosL_app (aO_pos shl_pos _ _) (aO_pos shl_pos _ _)) PosL_nil List.Pairwise.nil nil_cop mem with z | ⟨-, o, o1, o2⟩
  · simp at z
  · have o1 : (aO n 1 shL (n / 2) 1 ++ aO n 2 shL (n / 2) 1).find? (isE e) = some o := o1
    rw [List.find?_append] at o1
    refine ⟨o, o2, ?_, ?_⟩
    · cases h1 : (aO n 1 shL (n / 2) 1).find? (isE e) with
      | some p =>
        rw [h1] at o1
        have : p = o := Option.some.inj o1
        rw [← this]
        exact Or.inl (aO_how _ _ (List.mem_of_find?_eq_some h1))
      | none =>
        rw [h1] at o1
        have o1 : (aO n 2 shL (n / 2) 1).find? (isE e) = some o := o1
        exact Or.inr (aO_how _ _ (List.mem_of_find?_eq_some o1))
    · unfold LX10_made_54
      rw [if_neg (by decide), if_pos rfl, if_pos (jok_nI c1 (by omega)), if_pos rfl, if_pos (jok_nI c1 (by omega)), nI_clamp (show bgn (n - 1) + r < 2 ^ 31 by omega), c2, c3, nI_64 (by omega), nI_64 (by omega)]
      simp only [Option.bind_some]
      rw [s1]
      simp only [Option.bind_some]
      cases h1 : (aO n 1 shL (n / 2) 1).find? (isE e) with
      | some p =>
        rw [h1] at o1
        have : p = o := Option.some.inj o1
        rw [← this]
        rfl
      | none =>
        rw [h1] at o1
        have o1 : (aO n 2 shL (n / 2) 1).find? (isE e) = some o := o1
        simp only [mdr, jex, jlet]
        unfold LX10_made_54
        rw [show (0 : Int32) + 1 = 1 from rfl, if_neg (by decide), if_neg (by decide), if_pos (jok_nI c1 (by omega)), if_neg (by decide), if_pos (jok_nI c1 (by omega)), nI_clamp (show bgn (n - 1) + r < 2 ^ 31 by omega), c2, c3, nI_64 (by omega), nI_64 (by omega)]
        simp only [Option.bind_some]
        rw [s2, o1]
        rfl
end MADE
section MADE2
variable {upper lower begins : Nat → Int32} {size hs : Int32} {ab bl : Int64} {sv0 : Nat → Nat → SV} {k : Nat}
theorem made_same (hk : k ≤ 9) (h : RSh hs upper lower begins) (a i q : Int32) : ∃ up lo bg sz hs' ab' bl', fX10_made a i q upper lower begins size hs ab bl = some (fMade (Sq sv0) k a i q, 0, up, lo, bg, sz, hs', ab', bl') ∧ RSh hs' up lo bg := by
  unfold fX10_made fMade
  rcases share_c (sv0 := sv0) (size := size) (ab := ab) (bl := bl) hk h a i with ⟨e1, up, lo, bg, sz, hs', ab', bl', e2, h2⟩ | ⟨n, r, e, h1, h9, rfl, rfl, c, he, e1, up, lo, bg, sz, ab', bl', e2, hL, hB⟩
  · rw [e1, e2]
    exact ⟨_, _, _, _, _, _, _, rfl, h2⟩
  · obtain ⟨b1, b2, b3, -⟩ := lad_at h1 h9 hL he
    rw [e1, e2]
    simp only [Option.bind_some]
    rw [if_neg (by decide), inI]
    simp only [Option.bind_some]
    by_cases cq : (0 : Int32) ≤ q ∧ q ≤ 3
    · obtain ⟨x, x1, rfl⟩ := nI_of2 (x := q) (M := 3) (n := 3) (by decide) (fun z => by
        have q1 := cq.1
        rw [Int32.lt_iff_toInt_lt] at z
        rw [Int32.le_iff_toInt_le] at q1
        omega) cq.2
      rw [if_pos cq, if_neg (by decide)]
      by_cases cn : n = 1
      · subst cn
        have e0 : e = (1, 1, 0, 0, 0, 0) := by
          have he : [((1, 1, 0, 0, 0, 0) : En)][r]? = some e := he
          cases r with
          | zero => exact (Option.some.inj he).symm
          | succ r => simp at he
        subst e0
        rw [if_pos (show nI 1 = 1 from rfl)]
        have hx : x = 0 ∨ x = 1 ∨ x = 2 ∨ x = 3 := by omega
        rcases hx with rfl | rfl | rfl | rfl
        · exact ⟨_, _, _, _, _, _, _, rfl, Or.inr ⟨rfl, hL, hB⟩⟩
        · exact ⟨_, _, _, _, _, _, _, rfl, Or.inr ⟨rfl, hL, hB⟩⟩
        · exact ⟨_, _, _, _, _, _, _, rfl, Or.inr ⟨rfl, hL, hB⟩⟩
        · exact ⟨_, _, _, _, _, _, _, rfl, Or.inr ⟨rfl, hL, hB⟩⟩
      · obtain ⟨o, o1, o2, o3⟩ := made_n (sz := sz) (ab := ab') (bl := bl') (q := nI x) h9 (by omega) hL hB he
        rw [if_neg (show ¬ nI n = 1 from fun z => cn ((nI_eq (b := 1) (by omega) (by omega)).mp z)), if_pos (jok_nI (by omega) (by omega)), nI_clamp (show n < 2 ^ 31 by omega), hB n h1 (by omega), nI_add]
        simp only [jlet]
        rw [o3]
        have h0 : ¬ e.2.2.1 = 0 := by
          rw [show e.2.2.1 = o.2.2.1 from congrArg (fun z => z.1) o1]
          omega
        refine ⟨up, lo, bg, sz, 1, ab', bl', ?_, Or.inr ⟨rfl, hL, hB⟩⟩
        show some (pk (nI x) o, (0 : Int32), up, lo, bg, sz, (1 : Int32), ab', bl') = _
        refine congrArg (fun z => some (z, (0 : Int32), up, lo, bg, sz, (1 : Int32), ab', bl')) ?_
        unfold pk enS
        dsimp only
        rw [if_neg h0, if_neg h0, if_neg h0, o1]
        have hx : x = 0 ∨ x = 1 ∨ x = 2 ∨ x = 3 := by omega
        rcases hx with rfl | rfl | rfl | rfl
        · rfl
        · rfl
        · rfl
        · rfl
    · rw [if_neg cq, if_pos rfl]
      have n0 : ¬ q = 0 := fun z => cq (by rw [z]; decide)
      have n1 : ¬ q = 1 := fun z => cq (by rw [z]; decide)
      have n2 : ¬ q = 2 := fun z => cq (by rw [z]; decide)
      have n3 : ¬ q = 3 := fun z => cq (by rw [z]; decide)
      rw [if_neg n0, if_neg n1, if_neg n2, if_neg n3]
      exact ⟨_, _, _, _, _, _, _, rfl, Or.inr ⟨rfl, hL, hB⟩⟩
end MADE2
