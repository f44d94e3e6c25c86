/-! the class's rounds -/
noncomputable def d0n (R : Nat → Nat → Prop) (x : Nat) : Nat := @ite Nat (D0 R x) (Classical.propDecidable _) 0 1
theorem d0n_0 {R : Nat → Nat → Prop} {x : Nat} (h : D0 R x) : d0n R x = 0 := by
  unfold d0n
  exact if_pos h
theorem d0n_1 {R : Nat → Nat → Prop} {x : Nat} (h : ¬ D0 R x) : d0n R x = 1 := by
  unfold d0n
  exact if_neg h
theorem d0n_le (R : Nat → Nat → Prop) (x : Nat) : d0n R x ≤ 1 := by
  by_cases h : D0 R x
  · rw [d0n_0 h]; decide
  · rw [d0n_1 h]; decide
noncomputable def muR (R : Nat → Nat → Prop) : Nat := d0n R 0 + d0n R 1 + d0n R 2 + d0n R 3 + d0n R 4 + d0n R 5
theorem elm_D0 {R : Nat → Nat → Prop} (hR : Pln R) {x y : Nat} (h : D0 R y) : D0 (elm R x) y := fun u z => by
  rcases z.2.2.2 with q | q
  · exact h u q
  · exact h x (hR.1 _ _ q.1)
theorem d0n_elm {R : Nat → Nat → Prop} (hR : Pln R) (x y : Nat) : d0n (elm R x) y ≤ d0n R y := by
  by_cases h : D0 R y
  · rw [d0n_0 (elm_D0 hR h), d0n_0 h]; decide
  · rw [d0n_1 h]; exact d0n_le _ _
theorem mu_elm {R : Nat → Nat → Prop} (hR : Pln R) {x : Nat} (hx : x < 6) (h : ¬ D0 R x) : muR (elm R x) < muR R := by
  have a0 := d0n_elm hR x 0
  have a1 := d0n_elm hR x 1
  have a2 := d0n_elm hR x 2
  have a3 := d0n_elm hR x 3
  have a4 := d0n_elm hR x 4
  have a5 := d0n_elm hR x 5
  have b1 := d0n_0 (elm_self R x)
  have b2 := d0n_1 h
  unfold muR
  rcases (show x = 0 ∨ x = 1 ∨ x = 2 ∨ x = 3 ∨ x = 4 ∨ x = 5 by omega) with e | e | e | e | e | e <;> rw [e] at b1 b2 a0 a1 a2 a3 a4 a5 ⊢ <;> omega
theorem mu_le (R : Nat → Nat → Prop) : muR R ≤ 6 := by
  have a0 := d0n_le R 0
  have a1 := d0n_le R 1
  have a2 := d0n_le R 2
  have a3 := d0n_le R 3
  have a4 := d0n_le R 4
  have a5 := d0n_le R 5
  unfold muR
  omega
theorem mu_zero {R : Nat → Nat → Prop} (h : muR R = 0) (x : Nat) (hx : x < 6) : D0 R x := by
  by_cases q : D0 R x
  · exact q
  · have b := d0n_1 q
    unfold muR at h
    rcases (show x = 0 ∨ x = 1 ∨ x = 2 ∨ x = 3 ∨ x = 4 ∨ x = 5 by omega) with e | e | e | e | e | e <;> rw [e] at b <;> omega
theorem ends_b : ∀ (a b k : Fin 6), ((nI (ends a.1 b.1) >>> (nI k.1 &&& 31)) &&& (1 : Int32) = 0) ↔ (k ≠ a ∧ k ≠ b) := by decide +kernel
section CLASSFALLS
variable {a b : Nat}
theorem roundOk (ha : a < 6) (hb : b < 6) : ∀ (r k : Nat) (nb : Nat → Int32) (R : Nat → Nat → Prop), k + r = 6 → Pln R → Nb nb R → ∀ fuel, r < fuel → ∃ nb' R' l, LX3_fallsTogether_30 (nI (ends a b)) fuel (nI k) nb = some nb' ∧ Nb nb' R' ∧ Pln R' ∧ Tak a b l R R' ∧ (muR R' < muR R ∨ (R' = R ∧ ∀ x, k ≤ x → x < 6 → x ≠ a → x ≠ b → D2 R x → D0 R x)) := by
  intro r
  induction r with
  | zero =>
    intro k nb R hk hR h fuel hf
    obtain ⟨f, rfl⟩ : ∃ f, fuel = f + 1 := ⟨fuel - 1, by omega⟩
    obtain rfl : k = 6 := by omega
    refine ⟨nb, R, [], ?_, h, hR, rfl, Or.inr ⟨rfl, fun x h1 h2 => by omega⟩⟩
    unfold LX3_fallsTogether_30
    rw [if_pos (by decide)]
  | succ r ih =>
    intro k nb R hk hR h fuel hf
    obtain ⟨f, rfl⟩ : ∃ f, fuel = f + 1 := ⟨fuel - 1, by omega⟩
    have hk6 : k < 6 := by omega
    have eb := ends_b ⟨a, ha⟩ ⟨b, hb⟩ ⟨k, hk6⟩
    have eb : ((nI (ends a b) >>> (nI k &&& 31)) &&& (1 : Int32) = 0) ↔ (k ≠ a ∧ k ≠ b) := by
      rw [show ((nI (ends a b) >>> (nI k &&& 31)) &&& (1 : Int32) = 0) ↔ _ from eb, Ne, Fin.mk.injEq, Ne, Fin.mk.injEq]
    unfold LX3_fallsTogether_30
    rw [if_neg (show ¬ (6 : Int32) ≤ nI k from nI_ge (b := 6) (by omega) (by omega))]
    by_cases c : k ≠ a ∧ k ≠ b
    · rw [if_pos (eb.mpr c), if_pos (jok_nI hk6 (by omega)), nI_clamp (show k < 2 ^ 31 by omega)]
      obtain ⟨n, n6, e1, e2⟩ := cnt_D2 h hk6
      rw [e1]
      simp only [Option.bind_some]
      by_cases d : D2 R k
      · have hn := e2.mpr d
        obtain ⟨nb1, t1, t2⟩ := takeOk hR h hk6 d
        rw [if_neg (show ¬ (2 : Int32) < nI n from nI_nlt (a := 2) hn (by omega)), t1]
        simp only [Option.bind_some, jlet]
        rw [← nI_succ]
        obtain ⟨nb', R', l, q1, q2, q3, q4, q5⟩ := ih (k + 1) nb1 (elm R k) (by omega) (elm_pln hR k) t2 f (by omega)
        refine ⟨nb', R', k :: l, q1, q2, q3, ⟨⟨hk6, c.1, c.2, d⟩, q4⟩, ?_⟩
        by_cases z : D0 R k
        · have e0 := elm_0 hR z
          rw [e0] at q5
          rcases q5 with q | ⟨q, q'⟩
          · exact Or.inl q
          · refine Or.inr ⟨q, fun x h1 h2 h3 h4 h5 => ?_⟩
            by_cases e : x = k
            · rw [e]; exact z
            · exact q' x (by omega) h2 h3 h4 h5
        · have m := mu_elm hR hk6 z
          rcases q5 with q | ⟨q, -⟩
          · exact Or.inl (by omega)
          · rw [q]; exact Or.inl m
      · rw [if_pos (show (2 : Int32) < nI n from nI_lt (a := 2) (by
          by_cases z : n ≤ 2
          · exact absurd (e2.mp z) d
          · omega) (by omega))]
        simp only [Option.bind_some, jlet]
        rw [← nI_succ]
        obtain ⟨nb', R', l, q1, q2, q3, q4, q5⟩ := ih (k + 1) nb R (by omega) hR h f (by omega)
        refine ⟨nb', R', l, q1, q2, q3, q4, ?_⟩
        rcases q5 with q | ⟨q, q'⟩
        · exact Or.inl q
        · refine Or.inr ⟨q, fun x h1 h2 h3 h4 h5 => ?_⟩
          by_cases e : x = k
          · rw [e] at h5; exact absurd h5 d
          · exact q' x (by omega) h2 h3 h4 h5
    · rw [if_neg (fun z => c (eb.mp z))]
      simp only [Option.bind_some, jlet]
      rw [← nI_succ]
      obtain ⟨nb', R', l, q1, q2, q3, q4, q5⟩ := ih (k + 1) nb R (by omega) hR h f (by omega)
      refine ⟨nb', R', l, q1, q2, q3, q4, ?_⟩
      rcases q5 with q | ⟨q, q'⟩
      · exact Or.inl q
      · refine Or.inr ⟨q, fun x h1 h2 h3 h4 h5 => ?_⟩
        by_cases e : x = k
        · rw [e] at h3 h4; exact absurd ⟨h3, h4⟩ c
        · exact q' x (by omega) h2 h3 h4 h5
theorem roundsOk (ha : a < 6) (hb : b < 6) : ∀ (r t : Nat) (nb : Nat → Int32) (R : Nat → Nat → Prop), t + r = 6 → Pln R → Nb nb R → (Nrm a b R ∨ muR R + t ≤ 6) → ∀ fuel, r < fuel → ∃ nb' R' l, LX3_fallsTogether_20 (nI (ends a b)) fuel (nI t) nb = some nb' ∧ Nb nb' R' ∧ Pln R' ∧ Tak a b l R R' ∧ Nrm a b R' := by
  intro r
  induction r with
  | zero =>
    intro t nb R ht hR h hm fuel hf
    obtain ⟨f, rfl⟩ : ∃ f, fuel = f + 1 := ⟨fuel - 1, by omega⟩
    obtain rfl : t = 6 := by omega
    refine ⟨nb, R, [], ?_, h, hR, rfl, ?_⟩
    · unfold LX3_fallsTogether_20
      rw [if_pos (by decide)]
    · rcases hm with q | q
      · exact q
      · exact fun x hx _ _ _ => mu_zero (by omega) x hx
  | succ r ih =>
    intro t nb R ht hR h hm fuel hf
    obtain ⟨f, rfl⟩ : ∃ f, fuel = f + 1 := ⟨fuel - 1, by omega⟩
    obtain ⟨nb1, R1, l1, q1, q2, q3, q4, q5⟩ := roundOk ha hb 6 0 nb R rfl hR h 5000 (by omega)
    have q1 : LX3_fallsTogether_30 (nI (ends a b)) 5000 (0 : Int32) nb = some nb1 := q1
    unfold LX3_fallsTogether_20
    rw [if_neg (show ¬ (6 : Int32) ≤ nI t from nI_ge (b := 6) (by omega) (by omega)), q1]
    simp only [Option.bind_some, jlet]
    rw [← nI_succ]
    have hm1 : Nrm a b R1 ∨ muR R1 + (t + 1) ≤ 6 := by
      rcases q5 with q | ⟨q, q'⟩
      · rcases hm with p | p
        · have := Tak.nrm l1 hR p q4
          rw [this] at q
          omega
        · exact Or.inr (by omega)
      · rw [q]
        exact Or.inl (fun x hx h1 h2 h3 => q' x (Nat.zero_le x) hx h1 h2 h3)
    obtain ⟨nb', R', l, p1, p2, p3, p4, p5⟩ := ih (t + 1) nb1 R1 (by omega) q3 q2 hm1 f (by omega)
    exact ⟨nb', R', l1 ++ l, p1, p2, p3, Tak.app l1 l q4 p4, p5⟩
variable {N : Nat} {A B : Nat → Nat} {w1 w2 : Nat → Int32}
/-- the wires of K as a plain graph -/
def RN (N K : Nat) (A B : Nat → Nat) : Nat → Nat → Prop := fun u v => ∃ w, w < N ∧ K.testBit (A w) = true ∧ ((u = A w ∧ v = B w) ∨ (u = B w ∧ v = A w))
theorem RN_pln (hN : Net N A B) (K : Nat) : Pln (RN N K A B) := by
  refine ⟨fun u v z => ?_, fun u z => ?_⟩
  · obtain ⟨w, h1, h2, h3⟩ := z
    exact ⟨w, h1, h2, h3.symm.imp (fun q => ⟨q.2, q.1⟩) (fun q => ⟨q.2, q.1⟩)⟩
  · obtain ⟨w, h1, -, h3 | h3⟩ := z
    · exact (hN.2 w h1).2.2 (h3.1.symm.trans h3.2)
    · exact (hN.2 w h1).2.2 (h3.2.symm.trans h3.1)
theorem ln2 : ∀ (r k : Nat) (nb : Nat → Int32), k + r = 6 → (∀ j, j < k → nb j = 0) → ∀ fuel, r < fuel → ∃ nb', LX3_layNeighbours_2 fuel (nI k) nb = some nb' ∧ ∀ j, j < 6 → nb' j = 0 := by
  intro r
  induction r with
  | zero =>
    intro k nb hk h fuel hf
    obtain ⟨f, rfl⟩ : ∃ f, fuel = f + 1 := ⟨fuel - 1, by omega⟩
    obtain rfl : k = 6 := by omega
    refine ⟨nb, ?_, h⟩
    unfold LX3_layNeighbours_2
    rw [if_pos (by decide)]
  | succ r ih =>
    intro k nb hk h fuel hf
    obtain ⟨f, rfl⟩ : ∃ f, fuel = f + 1 := ⟨fuel - 1, by omega⟩
    unfold LX3_layNeighbours_2
    rw [if_neg (show ¬ (6 : Int32) ≤ nI k from nI_ge (b := 6) (by omega) (by omega)), if_pos (jok_nI (by omega) (by omega))]
    simp only [jlet]
    rw [nI_clamp (show k < 2 ^ 31 by omega), ← nI_succ]
    refine ih (k + 1) _ (by omega) (fun j hj => ?_) f (by omega)
    unfold upd
    by_cases e : j = k
    · rw [if_pos e]
    · rw [if_neg e]
      exact h j (by omega)
theorem ln23 (hN : Net N A B) (h1 : ∀ w, w < N → w1 w = nI (A w) ∧ w2 w = nI (B w)) {K : Nat} (hK : K < 64) (hC : Clo N A B (fun k => K.testBit k = true)) : ∀ (r w : Nat) (nb : Nat → Int32), w + r = N → Nb nb (RN w K A B) → ∀ fuel, r < fuel → ∃ nb', LX3_layNeighbours_23 (nI N) w1 w2 (nI K) fuel (nI w) nb = some nb' ∧ Nb nb' (RN N K A B) := by
  have hN12 := hN.1
  intro r
  induction r with
  | zero =>
    intro w nb hw h fuel hf
    obtain ⟨f, rfl⟩ : ∃ f, fuel = f + 1 := ⟨fuel - 1, by omega⟩
    obtain rfl : w = N := by omega
    refine ⟨nb, ?_, h⟩
    unfold LX3_layNeighbours_23
    rw [if_pos (nI_le (by omega) (by omega))]
  | succ r ih =>
    intro w nb hw h fuel hf
    obtain ⟨f, rfl⟩ : ∃ f, fuel = f + 1 := ⟨fuel - 1, by omega⟩
    have hab := hN.2 w (by omega)
    have hc : K.testBit (A w) = true ↔ K.testBit (B w) = true := hC w (by omega)
    obtain ⟨e1, e2, -, -⟩ := ends_n ⟨K, hK⟩ ⟨A w, hab.1⟩ ⟨B w, hab.2.1⟩
    have e1 : ((1 : Int32) <<< (nI (A w) &&& 31)) ||| ((1 : Int32) <<< (nI (B w) &&& 31)) = nI (ends (A w) (B w)) := e1
    have e2 : (nI (ends (A w) (B w)) &&& nI K = 0) ↔ ¬ (K.testBit (A w) = true ∨ K.testBit (B w) = true) := e2
    unfold LX3_layNeighbours_23
    rw [if_neg (nI_ge (by omega) (by omega)), nI_clamp (show N < 2 ^ 31 by omega), if_pos (jok_nI (by omega) (by omega)), nI_clamp (show w < 2 ^ 31 by omega), (h1 w (by omega)).1, (h1 w (by omega)).2]
    unfold fX4_touches
    rw [e1]
    by_cases c : K.testBit (A w) = true
    · rw [if_neg (fun z => e2.mp z (Or.inl c))]
      simp only [Option.bind_some, jlet]
      obtain ⟨nb1, l1, l2⟩ := linkOk h hab.1 hab.2.1
      rw [if_neg (show ¬ (1 : Int32) = 0 by decide), l1]
      simp only [Option.bind_some]
      rw [← nI_succ]
      refine ih (w + 1) nb1 (by omega) ?_ f (by omega)
      have ee : addR (RN w K A B) (A w) (B w) = RN (w + 1) K A B := by
        funext u v
        refine propext ⟨?_, ?_⟩
        · rintro (⟨x, x1, x2, x3⟩ | z)
          · exact ⟨x, by omega, x2, x3⟩
          · exact ⟨w, by omega, c, z⟩
        · rintro ⟨x, x1, x2, x3⟩
          by_cases e : x = w
          · subst e; exact Or.inr x3
          · exact Or.inl ⟨x, by omega, x2, x3⟩
      rw [← ee]
      exact l2
    · rw [if_pos (e2.mpr (fun z => z.elim c (fun z => c (hc.mpr z))))]
      simp only [Option.bind_some, jlet]
      rw [if_pos trivial]
      simp only [Option.bind_some]
      rw [← nI_succ]
      refine ih (w + 1) nb (by omega) ?_ f (by omega)
      have ee : RN w K A B = RN (w + 1) K A B := by
        funext u v
        refine propext ⟨?_, ?_⟩
        · rintro ⟨x, x1, x2, x3⟩
          exact ⟨x, by omega, x2, x3⟩
        · rintro ⟨x, x1, x2, x3⟩
          by_cases e : x = w
          · subst e; exact absurd x2 c
          · exact ⟨x, by omega, x2, x3⟩
      rw [← ee]
      exact h
/-- the class's falls -/
theorem fallsClass (hN : Net N A B) (h1 : ∀ w, w < N → w1 w = nI (A w) ∧ w2 w = nI (B w)) (ha : a < 6) (hb : b < 6) (nb : Nat → Int32) : ∃ nb' S l o, fX3_fallsTogether (nI a) (nI b) (nI N) w1 w2 nb = some (o, nb') ∧ Tak a b l (RN N (rch N A B a) A B) S ∧ Nrm a b S ∧ ((o = 1 ∧ (∀ u, S a u ↔ u = b) ∧ ∀ u, S b u ↔ u = a) ∨ (o = 0 ∧ ¬ ((∀ u, S a u ↔ u = b) ∧ ∀ u, S b u ↔ u = a))) := by
  have hN12 := hN.1
  obtain ⟨nb0, z1, z2⟩ := ln2 6 0 nb rfl (fun j hj => absurd hj (Nat.not_lt_zero j)) 5000 (by omega)
  have z1 : LX3_layNeighbours_2 5000 (0 : Int32) nb = some nb0 := z1
  have hNb0 : Nb nb0 (RN 0 (rch N A B a) A B) := by
    refine ⟨fun u v ⟨w, h, _⟩ => absurd h (Nat.not_lt_zero w), fun k hk => ⟨0, by decide, z2 k hk, fun v hv => ?_⟩⟩
    constructor
    · intro z
      have := testBit0 ⟨v, hv⟩
      have this : Nat.testBit 0 v = false := this
      rw [this] at z
      exact absurd z (by decide)
    · rintro ⟨w, h, _⟩
      exact absurd h (Nat.not_lt_zero w)
  obtain ⟨nb1, y1, y2⟩ := ln23 hN h1 (rch_lt hN ha) (rch_clo hN ha) N 0 nb0 (by omega) hNb0 5000 (by omega)
  have y1 : LX3_layNeighbours_23 (nI N) w1 w2 (nI (rch N A B a)) 5000 (0 : Int32) nb0 = some nb1 := y1
  obtain ⟨nb', S, l, q1, q2, q3, q4, q5⟩ := roundsOk ha hb 6 0 nb1 _ rfl (RN_pln hN _) y2 (Or.inr (by have := mu_le (RN N (rch N A B a) A B); omega)) 5000 (by omega)
  have q1 : LX3_fallsTogether_20 (nI (ends a b)) 5000 (0 : Int32) nb1 = some nb' := q1
  have e1 : ((1 : Int32) <<< (nI a &&& 31)) ||| ((1 : Int32) <<< (nI b &&& 31)) = nI (ends a b) := (ends_n ⟨0, by decide⟩ ⟨a, ha⟩ ⟨b, hb⟩).1
  have key : ∀ x y, x < 6 → y < 6 → (nb' x = (1 : Int32) <<< (nI y &&& 31) ↔ ∀ u, S x u ↔ u = y) := fun x y hx hy => by
    obtain ⟨m, hm, e, ht⟩ := q2.2 x hx
    have := eq_one ⟨m, hm⟩ ⟨y, hy⟩
    rw [e, show (nI m = (1 : Int32) <<< (nI y &&& 31)) ↔ _ from this]
    constructor
    · intro z u
      constructor
      · intro su
        have bu := (q2.1 _ _ su).2
        exact congrArg Fin.val ((z ⟨u, bu⟩).mp ((ht u bu).mpr su))
      · intro e
        rw [e]
        exact (ht y hy).mp ((z ⟨y, hy⟩).mpr rfl)
    · intro z v
      rw [show (Nat.testBit (Fin.val (⟨m, hm⟩ : Fin 64)) v.1 = true) ↔ S x v.1 from ht v.1 v.2, z v.1]
      exact ⟨fun q => Fin.ext q, fun q => congrArg Fin.val q⟩
  unfold fX3_fallsTogether fX3_layNeighbours
  rw [reachOk hN h1 ha]
  simp only [Option.bind_some]
  rw [z1]
  simp only [Option.bind_some]
  rw [y1]
  simp only [Option.bind_some, jlet]
  rw [e1, q1]
  simp only [Option.bind_some]
  rw [if_pos (jok_nI ha (by omega)), if_pos (jok_nI hb (by omega)), nI_clamp (show a < 2 ^ 31 by omega), nI_clamp (show b < 2 ^ 31 by omega)]
  by_cases c1 : nb' a = (1 : Int32) <<< (nI b &&& 31)
  · rw [if_pos c1]
    by_cases c2 : nb' b = (1 : Int32) <<< (nI a &&& 31)
    · rw [if_pos c2]
      exact ⟨nb', S, l, 1, rfl, q4, q5, Or.inl ⟨rfl, (key a b ha hb).mp c1, (key b a hb ha).mp c2⟩⟩
    · rw [if_neg c2]
      exact ⟨nb', S, l, 0, rfl, q4, q5, Or.inr ⟨rfl, fun z => c2 ((key b a hb ha).mpr z.2)⟩⟩
  · rw [if_neg c1]
    exact ⟨nb', S, l, 0, rfl, q4, q5, Or.inr ⟨rfl, fun z => c1 ((key a b ha hb).mpr z.1)⟩⟩
end CLASSFALLS
