/-! offers in a row: which values come, and which offer is first -/
/-- the value u by d is among these -/
def AnyL (u d : Nat) (l : List En) : Prop := ∃ e, e ∈ l ∧ e.1 * d = u * e.2.1
def PosL (l : List En) : Prop := ∀ e, e ∈ l → 0 < e.1 ∧ 0 < e.2.1
def IncL (l : List En) : Prop := l.Pairwise (fun e f => e.1 * f.2.1 < f.1 * e.2.1)
theorem AnyL_nil {u d : Nat} : ¬ AnyL u d [] := fun ⟨_, h, _⟩ => by simp at h
theorem AnyL_cons {u d : Nat} {e : En} {l : List En} : AnyL u d (e :: l) ↔ e.1 * d = u * e.2.1 ∨ AnyL u d l := by
  constructor
  · intro ⟨f, h1, h2⟩
    rcases List.mem_cons.mp h1 with h | h
    · rw [h] at h2
      exact Or.inl h2
    · exact Or.inr ⟨f, h, h2⟩
  · intro h
    rcases h with h | ⟨f, h1, h2⟩
    · exact ⟨e, List.mem_cons_self, h⟩
    · exact ⟨f, List.mem_cons_of_mem _ h1, h2⟩
theorem AnyL_app {u d : Nat} {l m : List En} : AnyL u d (l ++ m) ↔ AnyL u d l ∨ AnyL u d m := by
  constructor
  · intro ⟨f, h1, h2⟩
    rcases List.mem_append.mp h1 with h | h
    · exact Or.inl ⟨f, h, h2⟩
    · exact Or.inr ⟨f, h, h2⟩
  · intro h
    rcases h with ⟨f, h1, h2⟩ | ⟨f, h1, h2⟩
    · exact ⟨f, List.mem_append_left _ h1, h2⟩
    · exact ⟨f, List.mem_append_right _ h1, h2⟩
theorem PosL_cons {e : En} {l : List En} : PosL (e :: l) ↔ (0 < e.1 ∧ 0 < e.2.1) ∧ PosL l := by
  constructor
  · intro h
    exact ⟨h e List.mem_cons_self, fun f hf => h f (List.mem_cons_of_mem _ hf)⟩
  · intro h f hf
    rcases List.mem_cons.mp hf with z | z
    · rw [z]; exact h.1
    · exact h.2 f z
theorem PosL_app {l m : List En} (h1 : PosL l) (h2 : PosL m) : PosL (l ++ m) := fun e he => by
  rcases List.mem_append.mp he with z | z
  · exact h1 e z
  · exact h2 e z
theorem PosL_nil : PosL [] := fun e he => by simp at he
theorem crE {a b u d x y : Nat} (hd : 0 < d) (h1 : a * d = u * b) (h2 : u * y = x * d) : a * y = x * b := by
  have e : (a * y) * d = (x * b) * d := by
    have t1 : (a * y) * d = (a * d) * y := by grind
    have t2 : (u * b) * y = (u * y) * b := by grind
    have t3 : (x * d) * b = (x * b) * d := by grind
    rw [t1, h1, t2, h2, t3]
  exact Nat.eq_of_mul_eq_mul_right hd e
theorem crLE {a b u d x y : Nat} (hy : 0 < y) (h1 : a * d < u * b) (h2 : u * y = x * d) : a * y < x * b := by
  have e : (a * d) * y < (u * b) * y := Nat.mul_lt_mul_of_pos_right h1 hy
  have t1 : (a * d) * y = (a * y) * d := by grind
  have t2 : (u * b) * y = (u * y) * b := by grind
  have t3 : (x * d) * b = (x * b) * d := by grind
  rw [t1, t2, h2, t3] at e
  exact Nat.lt_of_mul_lt_mul_right e
theorem crLL {a b u d x y : Nat} (hb : 0 < b) (hy : 0 < y) (h1 : a * d < u * b) (h2 : u * y < x * d) : a * y < x * b := by
  have e : (a * d) * y < (u * b) * y := Nat.mul_lt_mul_of_pos_right h1 hy
  have e2 : (u * y) * b < (x * d) * b := Nat.mul_lt_mul_of_pos_right h2 hb
  have t1 : (a * d) * y = (a * y) * d := by grind
  have t2 : (u * b) * y = (u * y) * b := by grind
  have t3 : (x * d) * b = (x * b) * d := by grind
  rw [t1, t2] at e
  rw [t3] at e2
  exact Nat.lt_of_mul_lt_mul_right (Nat.lt_trans e e2)
theorem red_eq {u d : Nat} (hd : 0 < d) (x y : Nat) : (u / Nat.gcd u d) * y = x * (d / Nat.gcd u d) ↔ u * y = x * d := by
  have hg : 0 < Nat.gcd u d := Nat.gcd_pos_of_pos_right _ hd
  have eu : Nat.gcd u d * (u / Nat.gcd u d) = u := Nat.mul_div_cancel' (Nat.gcd_dvd_left u d)
  have ed : Nat.gcd u d * (d / Nat.gcd u d) = d := Nat.mul_div_cancel' (Nat.gcd_dvd_right u d)
  generalize u / Nat.gcd u d = u' at *
  generalize d / Nat.gcd u d = d' at *
  generalize Nat.gcd u d = g at *
  have t1 : u * y = g * (u' * y) := by rw [← eu]; grind
  have t2 : x * d = g * (x * d') := by rw [← ed]; grind
  rw [t1, t2]
  exact ⟨fun z => by rw [z], fun z => Nat.eq_of_mul_eq_mul_left hg z⟩
theorem red_pos {u d : Nat} (hu : 0 < u) (hd : 0 < d) : 0 < u / Nat.gcd u d ∧ 0 < d / Nat.gcd u d := ⟨Nat.div_pos (Nat.gcd_le_left d hu) (Nat.gcd_pos_of_pos_right _ hd), Nat.div_pos (Nat.gcd_le_right u hd) (Nat.gcd_pos_of_pos_right _ hd)⟩
section OFR
variable {u d h p i k : Nat}
theorem ofrL_sub {e : En} : ∀ l : List En, e ∈ l → e ∈ ofrL u d h p i k l
  | [], he => by simp at he
  | x :: l, he => by
    unfold ofrL
    split
    · rcases List.mem_cons.mp he with z | z
      · rw [z]; exact List.mem_cons_self
      · exact List.mem_cons_of_mem _ (ofrL_sub l z)
    · split
      · exact he
      · exact List.mem_cons_of_mem _ he
theorem ofrL_mem {e : En} : ∀ l : List En, e ∈ ofrL u d h p i k l → e ∈ l ∨ e = (u / Nat.gcd u d, d / Nat.gcd u d, h, p, i, k)
  | [], he => Or.inr (List.mem_singleton.mp he)
  | x :: l, he => by
    unfold ofrL at he
    split at he
    · rcases List.mem_cons.mp he with z | z
      · rw [z]; exact Or.inl List.mem_cons_self
      · rcases ofrL_mem l z with q | q
        · exact Or.inl (List.mem_cons_of_mem _ q)
        · exact Or.inr q
    · split at he
      · exact Or.inl he
      · rcases List.mem_cons.mp he with z | z
        · exact Or.inr z
        · exact Or.inl z
theorem ofrL_pos (hu : 0 < u) (hd : 0 < d) {l : List En} (hl : PosL l) : PosL (ofrL u d h p i k l) := fun e he => by
  rcases ofrL_mem l he with z | z
  · exact hl e z
  · rw [z]; exact red_pos hu hd
theorem ofrL_cop (hd : 0 < d) {l : List En} (hl : COk l) : COk (ofrL u d h p i k l) := fun e he => by
  rcases ofrL_mem l he with z | z
  · exact hl e z
  · rw [z]
    exact Nat.coprime_div_gcd_div_gcd (Nat.gcd_pos_of_pos_right _ hd)
theorem ofrL_any (hd : 0 < d) {x y : Nat} : ∀ l : List En, (AnyL x y (ofrL u d h p i k l) ↔ AnyL x y l ∨ u * y = x * d)
  | [] => by
    rw [show ofrL u d h p i k [] = [(u / Nat.gcd u d, d / Nat.gcd u d, h, p, i, k)] from rfl, AnyL_cons]
    have := red_eq hd (u := u) x y
    constructor
    · intro z
      rcases z with z | z
      · exact Or.inr (this.mp z)
      · exact absurd z AnyL_nil
    · intro z
      rcases z with z | z
      · exact absurd z AnyL_nil
      · exact Or.inl (this.mpr z)
  | e :: l => by
    unfold ofrL
    split
    · rw [AnyL_cons, ofrL_any hd l, AnyL_cons, or_assoc]
    · split
      · rename_i h2
        refine ⟨Or.inl, fun z => ?_⟩
        rcases z with z | z
        · exact z
        · exact AnyL_cons.mpr (Or.inl (crE hd h2 z))
      · rw [AnyL_cons (e := (u / Nat.gcd u d, d / Nat.gcd u d, h, p, i, k))]
        have := red_eq hd (u := u) x y
        constructor
        · intro z
          rcases z with z | z
          · exact Or.inr (this.mp z)
          · exact Or.inl z
        · intro z
          rcases z with z | z
          · exact Or.inr z
          · exact Or.inl (this.mpr z)
theorem new_gt (hd : 0 < d) {e : En} (h1 : e.1 * d < u * e.2.1) : e.1 * (d / Nat.gcd u d) < (u / Nat.gcd u d) * e.2.1 := by
  have hg : 0 < Nat.gcd u d := Nat.gcd_pos_of_pos_right _ hd
  have eu : Nat.gcd u d * (u / Nat.gcd u d) = u := Nat.mul_div_cancel' (Nat.gcd_dvd_left u d)
  have ed : Nat.gcd u d * (d / Nat.gcd u d) = d := Nat.mul_div_cancel' (Nat.gcd_dvd_right u d)
  generalize u / Nat.gcd u d = u' at *
  generalize d / Nat.gcd u d = d' at *
  generalize Nat.gcd u d = g at *
  have t1 : u * e.2.1 = g * (u' * e.2.1) := by rw [← eu]; grind
  have t2 : e.1 * d = g * (e.1 * d') := by rw [← ed]; grind
  rw [t1, t2] at h1
  exact Nat.lt_of_mul_lt_mul_left h1
theorem new_lt (hd : 0 < d) {e : En} (h1 : u * e.2.1 < e.1 * d) : (u / Nat.gcd u d) * e.2.1 < e.1 * (d / Nat.gcd u d) := by
  have hg : 0 < Nat.gcd u d := Nat.gcd_pos_of_pos_right _ hd
  have eu : Nat.gcd u d * (u / Nat.gcd u d) = u := Nat.mul_div_cancel' (Nat.gcd_dvd_left u d)
  have ed : Nat.gcd u d * (d / Nat.gcd u d) = d := Nat.mul_div_cancel' (Nat.gcd_dvd_right u d)
  generalize u / Nat.gcd u d = u' at *
  generalize d / Nat.gcd u d = d' at *
  generalize Nat.gcd u d = g at *
  have t1 : u * e.2.1 = g * (u' * e.2.1) := by rw [← eu]; grind
  have t2 : e.1 * d = g * (e.1 * d') := by rw [← ed]; grind
  rw [t1, t2] at h1
  exact Nat.lt_of_mul_lt_mul_left h1
theorem ofrL_inc (hu : 0 < u) (hd : 0 < d) : ∀ l : List En, PosL l → IncL l → IncL (ofrL u d h p i k l)
  | [], _, _ => List.pairwise_singleton _ _
  | e :: l, hp, hi => by
    have hp' := PosL_cons.mp hp
    have hi' := List.pairwise_cons.mp hi
    unfold ofrL
    split
    · rename_i h1
      refine List.pairwise_cons.mpr ⟨fun f hf => ?_, ofrL_inc hu hd l hp'.2 hi'.2⟩
      rcases ofrL_mem l hf with z | z
      · exact hi'.1 f z
      · rw [z]; exact new_gt hd h1
    · split
      · exact hi
      · rename_i h1 h2
        have h3 : u * e.2.1 < e.1 * d := by omega
        refine List.pairwise_cons.mpr ⟨fun f hf => ?_, hi⟩
        rcases List.mem_cons.mp hf with z | z
        · rw [z]; exact new_lt hd h3
        · exact crLL (red_pos hu hd).2 (hp'.2 f z).2 (new_lt hd h3) (hi'.1 f z)
theorem ofrL_new (hd : 0 < d) {f : En} : ∀ l : List En, PosL l → IncL l → f ∈ ofrL u d h p i k l → f ∈ l ∨ (f = (u / Nat.gcd u d, d / Nat.gcd u d, h, p, i, k) ∧ ¬ AnyL u d l)
  | [], _, _, he => Or.inr ⟨List.mem_singleton.mp he, AnyL_nil⟩
  | e :: l, hp, hi, he => by
    have hp' := PosL_cons.mp hp
    have hi' := List.pairwise_cons.mp hi
    unfold ofrL at he
    split at he
    · rename_i h1
      rcases List.mem_cons.mp he with z | z
      · rw [z]; exact Or.inl List.mem_cons_self
      · rcases ofrL_new hd l hp'.2 hi'.2 z with q | ⟨q1, q2⟩
        · exact Or.inl (List.mem_cons_of_mem _ q)
        · refine Or.inr ⟨q1, fun a => ?_⟩
          rcases AnyL_cons.mp a with a | a
          · omega
          · exact q2 a
    · split at he
      · exact Or.inl he
      · rename_i h1 h2
        rcases List.mem_cons.mp he with z | z
        · refine Or.inr ⟨z, fun a => ?_⟩
          rcases AnyL_cons.mp a with a | ⟨g, g1, g2⟩
          · exact h2 a
          · have := crLE hd (hi'.1 g g1) g2
            exact h1 this
        · exact Or.inl z
end OFR
/-- offers, one after the other -/
def ofs : List En → List En → List En
  | [], t => t
  | o :: os, t => ofs os (ofrL o.1 o.2.1 o.2.2.1 o.2.2.2.1 o.2.2.2.2.1 o.2.2.2.2.2 t)
theorem ofs_app : ∀ (a b t : List En), ofs (a ++ b) t = ofs b (ofs a t)
  | [], _, _ => rfl
  | o :: a, b, t => ofs_app a b _
theorem ofs_ok : ∀ (os t : List En), PosL os → PosL t → IncL t → COk t → PosL (ofs os t) ∧ IncL (ofs os t) ∧ COk (ofs os t) ∧ ∀ x y, AnyL x y (ofs os t) ↔ AnyL x y t ∨ AnyL x y os
  | [], t, _, h2, h3, h4 => ⟨h2, h3, h4, fun x y => ⟨Or.inl, fun z => by
    rcases z with z | z
    · exact z
    · exact absurd z AnyL_nil⟩⟩
  | o :: os, t, h1, h2, h3, h4 => by
    have ho := PosL_cons.mp h1
    obtain ⟨a1, a2, a3, a4⟩ := ofs_ok os (ofrL o.1 o.2.1 o.2.2.1 o.2.2.2.1 o.2.2.2.2.1 o.2.2.2.2.2 t) ho.2 (ofrL_pos ho.1.1 ho.1.2 h2) (ofrL_inc ho.1.1 ho.1.2 t h2 h3) (ofrL_cop ho.1.2 h4)
    refine ⟨a1, a2, a3, fun x y => ?_⟩
    show AnyL x y (ofs os _) ↔ _
    rw [a4 x y, ofrL_any ho.1.2 t, AnyL_cons, or_assoc]
theorem ofs_first {e : En} : ∀ (os t : List En), PosL os → PosL t → IncL t → COk t → e ∈ ofs os t → e ∈ t ∨ (¬ AnyL e.1 e.2.1 t ∧ ∃ o, os.find? (fun o => decide (o.1 * e.2.1 = e.1 * o.2.1)) = some o ∧ e.2.2 = o.2.2)
  | [], t, _, _, _, _, he => Or.inl he
  | o :: os, t, h1, h2, h3, h4, he => by
    have ho := PosL_cons.mp h1
    have any := fun x y => ofrL_any (u := o.1) (h := o.2.2.1) (p := o.2.2.2.1) (i := o.2.2.2.2.1) (k := o.2.2.2.2.2) ho.1.2 (x := x) (y := y) t
    rcases ofs_first os _ ho.2 (ofrL_pos ho.1.1 ho.1.2 h2) (ofrL_inc ho.1.1 ho.1.2 t h2 h3) (ofrL_cop ho.1.2 h4) he with z | ⟨z1, q, z2, z3⟩
    · rcases ofrL_new ho.1.2 t h2 h3 z with y | ⟨y1, y2⟩
      · exact Or.inl y
      · have ee : o.1 * e.2.1 = e.1 * o.2.1 := by
          rw [y1]
          exact ((red_eq ho.1.2 (u := o.1) o.1 o.2.1).mpr rfl).symm
        refine Or.inr ⟨fun a => y2 ?_, o, ?_, by rw [y1]⟩
        · obtain ⟨g, g1, g2⟩ := a
          exact ⟨g, g1, by
            have p0 : 0 < e.2.1 := by rw [y1]; exact (red_pos ho.1.1 ho.1.2).2
            exact crE p0 g2 ee.symm⟩
        · rw [List.find?_cons, decide_eq_true ee]
    · have n1 : ¬ o.1 * e.2.1 = e.1 * o.2.1 := fun a => z1 ((any _ _).mpr (Or.inr a))
      refine Or.inr ⟨fun a => z1 ((any _ _).mpr (Or.inl a)), q, ?_, z3⟩
      rw [List.find?_cons, decide_eq_false n1]
      exact z2
