/-! lists with the same values are the same -/
def vlL (l : List En) : List (Nat × Nat) := l.map (fun e => (e.1, e.2.1))
theorem inc_uniq : ∀ (l m : List En), PosL l → PosL m → IncL l → IncL m → COk l → COk m → (∀ x y, 0 < y → (AnyL x y l ↔ AnyL x y m)) → vlL l = vlL m
  | [], [], _, _, _, _, _, _, _ => rfl
  | [], f :: m, _, p2, _, _, _, _, h => absurd ((h f.1 f.2.1 (PosL_cons.mp p2).1.2).mpr ⟨f, List.mem_cons_self, rfl⟩) AnyL_nil
  | e :: l, [], p1, _, _, _, _, _, h => absurd ((h e.1 e.2.1 (PosL_cons.mp p1).1.2).mp ⟨e, List.mem_cons_self, rfl⟩) AnyL_nil
  | e :: l, f :: m, p1, p2, i1, i2, c1, c2, h => by
    have q1 := PosL_cons.mp p1
    have q2 := PosL_cons.mp p2
    have j1 := List.pairwise_cons.mp i1
    have j2 := List.pairwise_cons.mp i2
    have key : ∀ {e f : En} {m : List En}, (0 < e.1 ∧ 0 < e.2.1) → PosL m → (∀ g, g ∈ m → f.1 * g.2.1 < g.1 * f.2.1) → AnyL e.1 e.2.1 (f :: m) → ¬ e.1 * f.2.1 < f.1 * e.2.1 := fun {e f m} pe pm hj ha hlt => by
      rcases AnyL_cons.mp ha with z | ⟨g, g1, g2⟩
      · omega
      · have a1 := hj g g1
        have a2 := crLL pe.2 (pm g g1).2 hlt a1
        omega
    have n1 := key q1.1 q2.2 j2.1 ((h e.1 e.2.1 q1.1.2).mp ⟨e, List.mem_cons_self, rfl⟩)
    have n2 := key q2.1 q1.2 j1.1 ((h f.1 f.2.1 q2.1.2).mpr ⟨f, List.mem_cons_self, rfl⟩)
    have ee : e.1 * f.2.1 = f.1 * e.2.1 := by omega
    have ev := cop_eq (c1 e List.mem_cons_self) (c2 f List.mem_cons_self) ee
    have tl : ∀ {e f : En} {l m : List En}, (∀ g, g ∈ l → e.1 * g.2.1 < g.1 * e.2.1) → e.1 = f.1 → e.2.1 = f.2.1 → (∀ x y, 0 < y → AnyL x y (e :: l) → AnyL x y (f :: m)) → ∀ x y, 0 < y → AnyL x y l → AnyL x y m := fun {e f l m} hj w1 w2 hh x y hy a => by
      rcases AnyL_cons.mp (hh x y hy (AnyL_cons.mpr (Or.inr a))) with z | z
      · obtain ⟨g, g1, g2⟩ := a
        rw [← w1, ← w2] at z
        have a1 := hj g g1
        have a2 := crLE hy a1 g2
        omega
      · exact z
    have tl0 : ∀ x y, 0 < y → (AnyL x y l ↔ AnyL x y m) := fun x y hy => ⟨tl j1.1 ev.1 ev.2 (fun x y hy => (h x y hy).mp) x y hy, tl j2.1 ev.1.symm ev.2.symm (fun x y hy => (h x y hy).mpr) x y hy⟩
    have ih := inc_uniq l m q1.2 q2.2 j1.2 j2.2 (fun g hg => c1 g (List.mem_cons_of_mem _ hg)) (fun g hg => c2 g (List.mem_cons_of_mem _ hg)) tl0
    show (e.1, e.2.1) :: vlL l = (f.1, f.2.1) :: vlL m
    rw [ih, ev.1, ev.2]
/-- two shares by row or by side -/
def jn (h : Nat) (x y : En) : Nat × Nat := if h = 1 then (x.1 * y.2.1 + y.1 * x.2.1, x.2.1 * y.2.1) else (x.1 * y.1, x.1 * y.2.1 + y.1 * x.2.1)
/-- the class's offers -/
def inO (h p i : Nat) (x : En) : List En → Nat → List En
  | [], _ => []
  | y :: l, k => ((jn h x y).1, (jn h x y).2, h, p, i, k) :: inO h p i x l (k + 1)
def outO (h p : Nat) (l2 : List En) : List En → Nat → List En
  | [], _ => []
  | x :: l, i => inO h p i x l2 0 ++ outO h p l2 l (i + 1)
def aO (n h : Nat) (Ls : Nat → List En) : Nat → Nat → List En
  | 0, _ => []
  | r + 1, a => outO h a (Ls (n - a - 1)) (Ls (a - 1)) 0 ++ aO n h Ls r (a + 1)
theorem inL_ofs (h p i : Nat) (x : En) : ∀ (l : List En) (k : Nat) (t : List En), inL h p i x l k t = ofs (inO h p i x l k) t
  | [], _, _ => rfl
  | y :: l, k, t => by
    rw [inL, inO, ofs, inL_ofs h p i x l (k + 1)]
    unfold jn
    by_cases c : h = 1
    · rw [if_pos c, if_pos c]
    · rw [if_neg c, if_neg c]
theorem outL_ofs (h p : Nat) (l2 : List En) : ∀ (l : List En) (i : Nat) (t : List En), outL h p l2 l i t = ofs (outO h p l2 l i) t
  | [], _, _ => rfl
  | x :: l, i, t => by
    rw [outL, outO, ofs_app, inL_ofs, outL_ofs h p l2 l (i + 1)]
theorem aL_ofs (n h : Nat) (Ls : Nat → List En) : ∀ (r a : Nat) (t : List En), aL n h Ls r a t = ofs (aO n h Ls r a) t
  | 0, _, _ => rfl
  | r + 1, a, t => by
    rw [aL, aO, ofs_app, outL_ofs, aL_ofs n h Ls r (a + 1)]
/-- the reference's -/
def inR (x : En) : List En → List En
  | [] => []
  | y :: l => ((jn 1 x y).1, (jn 1 x y).2, 1, 0, 0, 0) :: ((jn 2 x y).1, (jn 2 x y).2, 1, 0, 0, 0) :: inR x l
def outR (l2 : List En) : List En → List En
  | [] => []
  | x :: l => inR x l2 ++ outR l2 l
def aR (n : Nat) (Ls : Nat → List En) : Nat → Nat → List En
  | 0, _ => []
  | r + 1, a => outR (Ls (n - a - 1)) (Ls (a - 1)) ++ aR n Ls r (a + 1)
theorem any_inR {u d p i : Nat} {x : En} : ∀ (l : List En) (k : Nat), AnyL u d (inR x l) ↔ AnyL u d (inO 1 p i x l k) ∨ AnyL u d (inO 2 p i x l k)
  | [], k => ⟨fun z => absurd z AnyL_nil, fun z => by
    rcases z with z | z
    · exact absurd z AnyL_nil
    · exact absurd z AnyL_nil⟩
  | y :: l, k => by
    rw [inR, inO, inO, AnyL_cons, AnyL_cons, AnyL_cons, AnyL_cons, any_inR l (k + 1)]
    dsimp only
    generalize AnyL u d (inO 1 p i x l (k + 1)) = A
    generalize AnyL u d (inO 2 p i x l (k + 1)) = B
    generalize ((jn 1 x y).1 * d = u * (jn 1 x y).2) = X
    generalize ((jn 2 x y).1 * d = u * (jn 2 x y).2) = Y
    by_cases a : A <;> by_cases b : B <;> by_cases x : X <;> by_cases y : Y <;> simp [a, b, x, y]
theorem any_outR {u d p : Nat} {l2 : List En} : ∀ (l : List En) (i : Nat), AnyL u d (outR l2 l) ↔ AnyL u d (outO 1 p l2 l i) ∨ AnyL u d (outO 2 p l2 l i)
  | [], i => ⟨fun z => absurd z AnyL_nil, fun z => by
    rcases z with z | z
    · exact absurd z AnyL_nil
    · exact absurd z AnyL_nil⟩
  | x :: l, i => by
    rw [outR, outO, outO, AnyL_app, AnyL_app, AnyL_app, any_outR l (i + 1), any_inR (p := p) (i := i) l2 0]
    generalize AnyL u d (outO 1 p l2 l (i + 1)) = A
    generalize AnyL u d (outO 2 p l2 l (i + 1)) = B
    generalize AnyL u d (inO 1 p i x l2 0) = X
    generalize AnyL u d (inO 2 p i x l2 0) = Y
    by_cases a : A <;> by_cases b : B <;> by_cases x : X <;> by_cases y : Y <;> simp [a, b, x, y]
theorem any_aR {u d n : Nat} {Ls : Nat → List En} : ∀ (r a : Nat), AnyL u d (aR n Ls r a) ↔ AnyL u d (aO n 1 Ls r a) ∨ AnyL u d (aO n 2 Ls r a)
  | 0, a => ⟨fun z => absurd z AnyL_nil, fun z => by
    rcases z with z | z
    · exact absurd z AnyL_nil
    · exact absurd z AnyL_nil⟩
  | r + 1, a => by
    rw [aR, aO, aO, AnyL_app, AnyL_app, AnyL_app, any_aR r (a + 1), any_outR (p := a) (Ls (a - 1)) 0]
    generalize AnyL u d (aO n 1 Ls r (a + 1)) = A
    generalize AnyL u d (aO n 2 Ls r (a + 1)) = B
    generalize AnyL u d (outO 1 a (Ls (n - a - 1)) (Ls (a - 1)) 0) = X
    generalize AnyL u d (outO 2 a (Ls (n - a - 1)) (Ls (a - 1)) 0) = Y
    by_cases a : A <;> by_cases b : B <;> by_cases x : X <;> by_cases y : Y <;> simp [a, b, x, y]
theorem jn_pos {h : Nat} {x y : En} (hx : 0 < x.1 ∧ 0 < x.2.1) (hy : 0 < y.1 ∧ 0 < y.2.1) : 0 < (jn h x y).1 ∧ 0 < (jn h x y).2 := by
  have p1 : 0 < x.1 * y.2.1 := Nat.mul_pos hx.1 hy.2
  have p3 : 0 < x.2.1 * y.2.1 := Nat.mul_pos hx.2 hy.2
  have p4 : 0 < x.1 * y.1 := Nat.mul_pos hx.1 hy.1
  unfold jn
  split
  · exact ⟨by show 0 < x.1 * y.2.1 + y.1 * x.2.1; omega, p3⟩
  · exact ⟨p4, by show 0 < x.1 * y.2.1 + y.1 * x.2.1; omega⟩
theorem inO_pos {h p i : Nat} {x : En} (hx : 0 < x.1 ∧ 0 < x.2.1) : ∀ (l : List En) (k : Nat), PosL l → PosL (inO h p i x l k)
  | [], _, _ => PosL_nil
  | y :: l, k, hl => PosL_cons.mpr ⟨jn_pos hx (PosL_cons.mp hl).1, inO_pos hx l (k + 1) (PosL_cons.mp hl).2⟩
theorem outO_pos {h p : Nat} {l2 : List En} (h2 : PosL l2) : ∀ (l : List En) (i : Nat), PosL l → PosL (outO h p l2 l i)
  | [], _, _ => PosL_nil
  | _ :: l, i, hl => PosL_app (inO_pos (PosL_cons.mp hl).1 l2 0 h2) (outO_pos h2 l (i + 1) (PosL_cons.mp hl).2)
theorem aO_pos {n h : Nat} {Ls : Nat → List En} (hp : ∀ j, PosL (Ls j)) : ∀ (r a : Nat), PosL (aO n h Ls r a)
  | 0, _ => PosL_nil
  | r + 1, a => PosL_app (outO_pos (hp _) _ 0 (hp _)) (aO_pos hp r (a + 1))
theorem inR_pos {x : En} (hx : 0 < x.1 ∧ 0 < x.2.1) : ∀ (l : List En), PosL l → PosL (inR x l)
  | [], _ => PosL_nil
  | y :: l, hl => PosL_cons.mpr ⟨jn_pos hx (PosL_cons.mp hl).1, PosL_cons.mpr ⟨jn_pos hx (PosL_cons.mp hl).1, inR_pos hx l (PosL_cons.mp hl).2⟩⟩
theorem outR_pos {l2 : List En} (h2 : PosL l2) : ∀ (l : List En), PosL l → PosL (outR l2 l)
  | [], _ => PosL_nil
  | _ :: l, hl => PosL_app (inR_pos (PosL_cons.mp hl).1 l2 h2) (outR_pos h2 l (PosL_cons.mp hl).2)
theorem aR_pos {n : Nat} {Ls : Nat → List En} (hp : ∀ j, PosL (Ls j)) : ∀ (r a : Nat), PosL (aR n Ls r a)
  | 0, _ => PosL_nil
  | r + 1, a => PosL_app (outR_pos (hp _) _ (hp _)) (aR_pos hp r (a + 1))
theorem nil_cop : COk [] := fun e he => by simp at he
theorem shL_out {j : Nat} (h : 9 ≤ j) : shL j = [] := by
  obtain ⟨i, rfl⟩ : ∃ i, j = i + 9 := ⟨j - 9, by omega⟩
  rfl
theorem shl_pos (j : Nat) : PosL (shL j) := by
  by_cases h : j < 9
  · exact fun e he => ⟨(shl_sml ⟨j, h⟩ e he).1, (shl_sml ⟨j, h⟩ e he).2.2.1⟩
  · intro e he
    have : shL j = [] := shL_out (by omega)
    rw [this] at he
    simp at he
/-- the class's list as offers -/
theorem shl_ofs {n : Nat} (h2 : 2 ≤ n) (h9 : n ≤ 9) : shL (n - 1) = ofs (aO n 1 shL (n / 2) 1 ++ aO n 2 shL (n / 2) 1) [] := by
  rw [← nxt_all h2 h9, nxtL, aL_ofs, aL_ofs, ofs_app]
/-- the reference's has the same values -/
theorem shl_ref {n : Nat} (h2 : 2 ≤ n) (h9 : n ≤ 9) : vlL (ofs (aR n shL (n / 2) 1) []) = vlL (shL (n - 1)) := by
  obtain ⟨a1, a2, a3, a4⟩ := ofs_ok (aR n shL (n / 2) 1) [] (aR_pos shl_pos _ _) PosL_nil List.Pairwise.nil nil_cop
  obtain ⟨b1, b2, b3, b4⟩ := ofs_ok (aO n 1 shL (n / 2) 1 ++ aO n 2 shL (n / 2) 1) [] (PosL_app (aO_pos shl_pos _ _) (aO_pos shl_pos _ _)) PosL_nil List.Pairwise.nil nil_cop
  rw [shl_ofs h2 h9]
  exact inc_uniq _ _ a1 b1 a2 b2 a3 b3 (fun x y _ => by rw [a4, b4, any_aR, AnyL_app])
