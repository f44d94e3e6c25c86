/-! knots taken away: what is left is one, in whatever order -/
def elm (R : Nat → Nat → Prop) (x : Nat) : Nat → Nat → Prop := fun u v => u ≠ x ∧ v ≠ x ∧ u ≠ v ∧ (R u v ∨ (R x u ∧ R x v))
/-- a plain graph -/
def Pln (R : Nat → Nat → Prop) : Prop := (∀ u v, R u v → R v u) ∧ ∀ u, ¬ R u u
theorem elm_pln {R : Nat → Nat → Prop} (h : Pln R) (x : Nat) : Pln (elm R x) := by
  refine ⟨fun u v z => ?_, fun u z => z.2.2.1 rfl⟩
  obtain ⟨z1, z2, z3, z4⟩ := z
  refine ⟨z2, z1, Ne.symm z3, ?_⟩
  rcases z4 with z4 | z4
  · exact Or.inl (h.1 _ _ z4)
  · exact Or.inr ⟨z4.2, z4.1⟩
theorem elm_comm {R : Nat → Nat → Prop} (h : Pln R) (x y : Nat) : elm (elm R x) y = elm (elm R y) x := by
  by_cases e : x = y
  · rw [e]
  · have go : ∀ x y, x ≠ y → ∀ u v, elm (elm R x) y u v → elm (elm R y) x u v := fun x y e u v z => by
      obtain ⟨z1, z2, z3, z4⟩ := z
      have sy : ∀ a b, R a b → R b a := h.1
      have key : u ≠ x ∧ v ≠ x ∧ (R u v ∨ (R x u ∧ R x v) ∨ ((R y u ∨ (R x y ∧ R x u)) ∧ (R y v ∨ (R x y ∧ R x v)))) := by
        rcases z4 with ⟨a1, a2, -, a4⟩ | ⟨⟨-, b2, -, b4⟩, ⟨-, c2, -, c4⟩⟩
        · exact ⟨a1, a2, a4.elim Or.inl (fun q => Or.inr (Or.inl q))⟩
        · exact ⟨b2, c2, Or.inr (Or.inr ⟨b4, c4⟩)⟩
      obtain ⟨k1, k2, k3⟩ := key
      refine ⟨k1, k2, z3, ?_⟩
      rcases k3 with k | ⟨ka, kb⟩ | ⟨ka, kb⟩
      · exact Or.inl ⟨z1, z2, z3, Or.inl k⟩
      · exact Or.inr ⟨⟨e, z1, Ne.symm k1, Or.inl ka⟩, ⟨e, z2, Ne.symm k2, Or.inl kb⟩⟩
      · rcases ka with ka | ⟨ka1, ka2⟩
        · rcases kb with kb | ⟨kb1, kb2⟩
          · exact Or.inl ⟨z1, z2, z3, Or.inr ⟨ka, kb⟩⟩
          · exact Or.inr ⟨⟨e, z1, Ne.symm k1, Or.inr ⟨sy _ _ kb1, ka⟩⟩, ⟨e, z2, Ne.symm k2, Or.inl kb2⟩⟩
        · rcases kb with kb | ⟨kb1, kb2⟩
          · exact Or.inr ⟨⟨e, z1, Ne.symm k1, Or.inl ka2⟩, ⟨e, z2, Ne.symm k2, Or.inr ⟨sy _ _ ka1, kb⟩⟩⟩
          · exact Or.inr ⟨⟨e, z1, Ne.symm k1, Or.inl ka2⟩, ⟨e, z2, Ne.symm k2, Or.inl kb2⟩⟩
    funext u v
    exact propext ⟨go x y e u v, go y x (Ne.symm e) u v⟩
/-- no more than two beside it -/
def D2 (R : Nat → Nat → Prop) (x : Nat) : Prop := ∀ u v w, R x u → R x v → R x w → u = v ∨ v = w ∨ u = w
def D0 (R : Nat → Nat → Prop) (x : Nat) : Prop := ∀ u, ¬ R x u
theorem elm_D2 {R : Nat → Nat → Prop} (h : Pln R) {x y : Nat} (hx : D2 R x) (hy : D2 R y) : D2 (elm R x) y := by
  intro u v w ⟨_, u2, u3, u4⟩ ⟨_, v2, v3, v4⟩ ⟨_, w2, w3, w4⟩
  have two : ∀ p q, p ≠ x → q ≠ x → R x y → R y p → R y q → p = q := fun p q p2 q2 e a b => by
    rcases hy p q x a b (h.1 _ _ e) with z | z | z
    · exact z
    · exact absurd z q2
    · exact absurd z p2
  have two' : ∀ p q, y ≠ p → y ≠ q → R x y → R x p → R x q → p = q := fun p q p3 q3 e a b => by
    rcases hx p q y a b e with z | z | z
    · exact z
    · exact absurd z.symm q3
    · exact absurd z.symm p3
  rcases u4 with u4 | u4 <;> rcases v4 with v4 | v4 <;> rcases w4 with w4 | w4
  · exact hy u v w u4 v4 w4
  · exact Or.inl (two u v u2 v2 w4.1 u4 v4)
  · exact Or.inr (Or.inr (two u w u2 w2 v4.1 u4 w4))
  · exact Or.inr (Or.inl (two' v w v3 w3 v4.1 v4.2 w4.2))
  · exact Or.inr (Or.inl (two v w v2 w2 u4.1 v4 w4))
  · exact Or.inr (Or.inr (two' u w u3 w3 u4.1 u4.2 w4.2))
  · exact Or.inl (two' u v u3 v3 u4.1 u4.2 v4.2)
  · exact Or.inl (two' u v u3 v3 u4.1 u4.2 v4.2)
theorem elm_0 {R : Nat → Nat → Prop} (h : Pln R) {x : Nat} (hx : D0 R x) : elm R x = R := by
  funext u v
  refine propext ⟨?_, fun z => ⟨?_, ?_, ?_, Or.inl z⟩⟩
  · rintro ⟨-, -, -, z | z⟩
    · exact z
    · exact absurd z.1 (hx u)
  · intro e
    rw [e] at z
    exact hx v z
  · intro e
    rw [e] at z
    exact hx u (h.1 _ _ z)
  · intro e
    rw [e] at z
    exact h.2 v z
theorem elm_self (R : Nat → Nat → Prop) (x : Nat) : D0 (elm R x) x := fun _ z => z.1 rfl
/-- knots taken away one after the other, each with no more than two beside it and neither end -/
def Tak (a b : Nat) : List Nat → (Nat → Nat → Prop) → (Nat → Nat → Prop) → Prop
  | [], R, S => R = S
  | x :: l, R, S => (x < 6 ∧ x ≠ a ∧ x ≠ b ∧ D2 R x) ∧ Tak a b l (elm R x) S
/-- nothing more can be taken away -/
def Nrm (a b : Nat) (R : Nat → Nat → Prop) : Prop := ∀ x, x < 6 → x ≠ a → x ≠ b → D2 R x → D0 R x
theorem Tak.more {a b : Nat} : ∀ (l : List Nat) {R S : Nat → Nat → Prop}, Pln R → Tak a b l R S → Nrm a b S → ∀ x, x < 6 → x ≠ a → x ≠ b → D2 R x → Tak a b l (elm R x) S
  | [], R, S, hR, h, hN, x, h1, h2, h3, h4 => by
    have h : R = S := h
    subst h
    exact elm_0 hR (hN x h1 h2 h3 h4)
  | y :: l, R, S, hR, ⟨hy, h⟩, hN, x, h1, h2, h3, h4 => by
    refine ⟨⟨hy.1, hy.2.1, hy.2.2.1, elm_D2 hR h4 hy.2.2.2⟩, ?_⟩
    rw [elm_comm hR]
    exact Tak.more l (elm_pln hR y) h hN x h1 h2 h3 (elm_D2 hR hy.2.2.2 h4)
theorem Tak.nrm {a b : Nat} : ∀ (l : List Nat) {R S : Nat → Nat → Prop}, Pln R → Nrm a b R → Tak a b l R S → R = S
  | [], _, _, _, _, h => h
  | x :: l, R, S, hR, hN, ⟨hx, h⟩ => by
    rw [elm_0 hR (hN x hx.1 hx.2.1 hx.2.2.1 hx.2.2.2)] at h
    exact Tak.nrm l hR hN h
/-- what is left is one -/
theorem Tak.one {a b : Nat} : ∀ (l2 l1 : List Nat) {R S1 S2 : Nat → Nat → Prop}, Pln R → Tak a b l1 R S1 → Nrm a b S1 → Tak a b l2 R S2 → Nrm a b S2 → S1 = S2
  | [], l1, R, S1, S2, hR, h1, n1, h2, n2 => by
    have h2 : R = S2 := h2
    subst h2
    exact (Tak.nrm l1 hR n2 h1).symm
  | x :: l2, l1, R, S1, S2, hR, h1, n1, ⟨hx, h2⟩, n2 => Tak.one l2 l1 (elm_pln hR x) (Tak.more l1 hR h1 n1 x hx.1 hx.2.1 hx.2.2.1 hx.2.2.2) n1 h2 n2
theorem Tak.pln {a b : Nat} : ∀ (l : List Nat) {R S : Nat → Nat → Prop}, Pln R → Tak a b l R S → Pln S
  | [], R, S, hR, h => by
    have h : R = S := h
    rw [← h]
    exact hR
  | x :: l, R, S, hR, ⟨_, h⟩ => Tak.pln l (elm_pln hR x) h
theorem Tak.app {a b : Nat} : ∀ (l1 l2 : List Nat) {R S T : Nat → Nat → Prop}, Tak a b l1 R S → Tak a b l2 S T → Tak a b (l1 ++ l2) R T
  | [], l2, R, S, T, h1, h2 => by
    have h1 : R = S := h1
    rw [h1]
    exact h2
  | x :: l1, l2, R, S, T, ⟨hx, h1⟩, h2 => ⟨hx, Tak.app l1 l2 h1 h2⟩
/-- all that is joined hangs together with a -/
def Hng (a : Nat) (R : Nat → Nat → Prop) : Prop := ∀ C : Nat → Prop, (∀ u v, R u v → (C u ↔ C v)) → C a → ∀ u v, R u v → C u
theorem elm_hng {a x : Nat} {R : Nat → Nat → Prop} (hR : Pln R) (h : Hng a R) (hx : a ≠ x) : Hng a (elm R x) := by
  intro C hC ha u v huv
  have key := h (fun u => (u ≠ x ∧ C u) ∨ (u = x ∧ ∃ y, R x y ∧ C y)) (fun p q hpq => by
    have npq : p ≠ q := fun z => hR.2 q (by rw [z] at hpq; exact hpq)
    by_cases e1 : p = x
    · subst e1
      have e2 : q ≠ p := Ne.symm npq
      constructor
      · rintro (z | ⟨-, y, hy1, hy2⟩)
        · exact absurd rfl z.1
        · refine Or.inl ⟨e2, ?_⟩
          by_cases e3 : y = q
          · rw [← e3]; exact hy2
          · have ny : y ≠ p := fun z => hR.2 p (by rw [z] at hy1; exact hy1)
            exact (hC y q ⟨ny, e2, e3, Or.inr ⟨hy1, hpq⟩⟩).mp hy2
      · rintro (z | z)
        · exact Or.inr ⟨rfl, q, hpq, z.2⟩
        · exact absurd z.1 e2
    · by_cases e2 : q = x
      · subst e2
        have hqp := hR.1 _ _ hpq
        constructor
        · rintro (z | z)
          · exact Or.inr ⟨rfl, p, hqp, z.2⟩
          · exact absurd z.1 e1
        · rintro (z | ⟨-, y, hy1, hy2⟩)
          · exact absurd rfl z.1
          · refine Or.inl ⟨e1, ?_⟩
            by_cases e3 : y = p
            · rw [← e3]; exact hy2
            · have ny : y ≠ q := fun z => hR.2 q (by rw [z] at hy1; exact hy1)
              exact (hC y p ⟨ny, e1, e3, Or.inr ⟨hy1, hqp⟩⟩).mp hy2
      · have := hC p q ⟨e1, e2, npq, Or.inl hpq⟩
        constructor
        · rintro (z | z)
          · exact Or.inl ⟨e2, this.mp z.2⟩
          · exact absurd z.1 e1
        · rintro (z | z)
          · exact Or.inl ⟨e1, this.mpr z.2⟩
          · exact absurd z.1 e2) (Or.inl ⟨hx, ha⟩)
  obtain ⟨u1, u2, u3, u4⟩ := huv
  have hu : (u ≠ x ∧ C u) ∨ (u = x ∧ ∃ y, R x y ∧ C y) := by
    rcases u4 with q | q
    · exact key u v q
    · exact key u x (hR.1 _ _ q.1)
  rcases hu with z | z
  · exact z.2
  · exact absurd z.1 u1
theorem Tak.hng {a b : Nat} : ∀ (l : List Nat) {R S : Nat → Nat → Prop}, Pln R → Hng a R → Tak a b l R S → Hng a S
  | [], R, S, _, hH, h => by
    have h : R = S := h
    rw [← h]
    exact hH
  | x :: l, R, S, hR, hH, ⟨hx, h⟩ => Tak.hng l (elm_pln hR x) (elm_hng hR hH (Ne.symm hx.2.1)) h
/-- what hangs together and has at a and b one neighbour each, the other, is that wire alone -/
theorem only_ab {a b : Nat} {R : Nat → Nat → Prop} (hR : Pln R) (hH : Hng a R) (ha : ∀ u, R a u ↔ u = b) (hb : ∀ u, R b u ↔ u = a) : ∀ u v, R u v ↔ ((u = a ∧ v = b) ∨ (u = b ∧ v = a)) := by
  have key := hH (fun u => u = a ∨ u = b) (fun u v huv => by
    constructor
    · rintro (z | z)
      · rw [z] at huv; exact Or.inr ((ha v).mp huv)
      · rw [z] at huv; exact Or.inl ((hb v).mp huv)
    · rintro (z | z)
      · rw [z] at huv; exact Or.inr ((ha u).mp (hR.1 _ _ huv))
      · rw [z] at huv; exact Or.inl ((hb u).mp (hR.1 _ _ huv))) (Or.inl rfl)
  intro u v
  constructor
  · intro huv
    rcases key u v huv with z | z
    · rw [z] at huv; exact Or.inl ⟨z, (ha v).mp huv⟩
    · rw [z] at huv; exact Or.inr ⟨z, (hb v).mp huv⟩
  · rintro (⟨z1, z2⟩ | ⟨z1, z2⟩)
    · rw [z1]; exact (ha v).mpr z2
    · rw [z1]; exact (hb v).mpr z2
