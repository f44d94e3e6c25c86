/-! sets of knots as bits -/
theorem bit_t : ∀ (b : Fin 64) (k : Fin 6), (((nI b.1) >>> ((nI k.1) &&& 31)) &&& (1 : Int32) = 1) = (b.1.testBit k.1 = true) := by decide +kernel
theorem bit_test {b k : Nat} (hb : b < 64) (hk : k < 6) : (((nI b) >>> ((nI k) &&& 31)) &&& (1 : Int32) = 1) ↔ b.testBit k = true := by
  have := bit_t ⟨b, hb⟩ ⟨k, hk⟩
  exact Eq.to_iff this
/-- how many knots of b are below k -/
def pcn (b : Nat) : Nat → Nat
  | 0 => 0
  | k + 1 => pcn b k + (if b.testBit k = true then 1 else 0)
theorem pcn_le (b : Nat) : ∀ k, pcn b k ≤ k
  | 0 => Nat.le_refl 0
  | k + 1 => by
    unfold pcn
    have := pcn_le b k
    split <;> omega
theorem pcn_mono (b : Nat) {j k : Nat} (h : j ≤ k) : pcn b j ≤ pcn b k := by
  induction h with
  | refl => exact Nat.le_refl _
  | step _ ih =>
    refine Nat.le_trans ih ?_
    show _ ≤ pcn b _ + _
    omega
theorem pcn_lt {b j k : Nat} (h : j < k) (hj : b.testBit j = true) : pcn b j < pcn b k := by
  have h1 : pcn b (j + 1) = pcn b j + 1 := by
    show pcn b j + (if b.testBit j = true then 1 else 0) = _
    rw [if_pos hj]
  have h2 := pcn_mono b (show j + 1 ≤ k by omega)
  omega
/-- the line of a knot, 5 where it has none -/
def lab (b k : Nat) : Nat := if b.testBit k = true then pcn b k else 5
theorem numL {b : Nat} (hb : b < 64) : ∀ (r k : Nat) (lo : Nat → Int32), k + r = 6 → (∀ j, j < k → lo j = if b.testBit j = true then nI (pcn b j) else -1) → ∀ fuel, r < fuel → ∃ lo', LX3_numberLines_7 (nI b) fuel (nI k) lo (nI (pcn b k)) = some (lo', nI (pcn b 6)) ∧ ∀ j, j < 6 → lo' j = if b.testBit j = true then nI (pcn b j) else -1 := by
  intro r
  induction r with
  | zero =>
    intro k lo hk h fuel hf
    obtain ⟨f, rfl⟩ : ∃ f, fuel = f + 1 := ⟨fuel - 1, by omega⟩
    obtain rfl : k = 6 := by omega
    refine ⟨lo, ?_, h⟩
    unfold LX3_numberLines_7
    rw [if_pos (show (6 : Int32) ≤ nI 6 by decide)]
  | succ r ih =>
    intro k lo hk h fuel hf
    obtain ⟨f, rfl⟩ : ∃ f, fuel = f + 1 := ⟨fuel - 1, by omega⟩
    unfold LX3_numberLines_7
    rw [if_neg (show ¬ (6 : Int32) ≤ nI k from nI_ge (b := 6) (by omega) (by omega))]
    by_cases c : b.testBit k = true
    · rw [if_pos ((bit_test hb (by omega)).mpr c), if_pos (jok_nI (by omega) (by omega))]
      simp only [jlet, Option.bind_some]
      rw [← nI_succ, ← nI_succ, nI_clamp (show k < 2 ^ 31 by omega)]
      have e : pcn b k + 1 = pcn b (k + 1) := by
        show _ = pcn b k + _
        rw [if_pos c]
      rw [e]
      refine ih (k + 1) _ (by omega) (fun j hj => ?_) f (by omega)
      unfold upd
      by_cases e2 : j = k
      · rw [if_pos e2, e2, if_pos c]
      · rw [if_neg e2]
        exact h j (by omega)
    · rw [if_neg (fun z => c ((bit_test hb (by omega)).mp z)), if_pos (jok_nI (by omega) (by omega))]
      simp only [jlet, Option.bind_some]
      rw [← nI_succ, nI_clamp (show k < 2 ^ 31 by omega)]
      have e : pcn b k = pcn b (k + 1) := by
        show _ = pcn b k + _
        rw [if_neg c]
        rfl
      rw [e]
      refine ih (k + 1) _ (by omega) (fun j hj => ?_) f (by omega)
      unfold upd
      by_cases e2 : j = k
      · rw [if_pos e2, e2, if_neg c]
      · rw [if_neg e2]
        exact h j (by omega)
theorem numLines {b : Nat} (hb : b < 64) (lo : Nat → Int32) : ∃ lo', fX3_numberLines (nI b) lo = some (lo', nI (pcn b 6)) ∧ ∀ j, j < 6 → lo' j = if b.testBit j = true then nI (pcn b j) else -1 := by
  obtain ⟨lo', e1, e2⟩ := numL hb 6 0 lo rfl (fun j hj => absurd hj (Nat.not_lt_zero j)) 5000 (by omega)
  have e1' : LX3_numberLines_7 (nI b) 5000 (0 : Int32) lo (0 : Int32) = some (lo', nI (pcn b 6)) := e1
  refine ⟨lo', ?_, e2⟩
  unfold fX3_numberLines
  rw [e1']
  rfl
/-! the lines laid -/
theorem lay0_row {n line : Nat} {lo : Nat → Int32} (hn : n ≤ 5) (hl : line < 5) : ∀ (r c : Nat) (M : Nat → Nat → Int64), c + r = n + 1 → ∀ fuel, r < fuel → ∃ M', LX3_layLines_26 (lo, nI n) (nI line) fuel (nI c) M = some M' ∧ (∀ j, c ≤ j → j ≤ n → M' line j = 0) ∧ (∀ j, j < c → M' line j = M line j) ∧ ∀ r, r ≠ line → M' r = M r := by
  intro r
  induction r with
  | zero =>
    intro c M hc fuel hf
    obtain ⟨f, rfl⟩ : ∃ f, fuel = f + 1 := ⟨fuel - 1, by omega⟩
    refine ⟨M, ?_, fun j h1 h2 => by omega, fun _ _ => rfl, fun _ _ => rfl⟩
    unfold LX3_layLines_26
    rw [if_pos (nI_lt (by omega) (by omega))]
  | succ r ih =>
    intro c M hc fuel hf
    obtain ⟨f, rfl⟩ : ∃ f, fuel = f + 1 := ⟨fuel - 1, by omega⟩
    unfold LX3_layLines_26
    rw [if_neg (nI_nlt (by omega) (by omega)), if_pos (jok_nI hl (by omega)), if_pos (jok_nI (by omega) (by omega))]
    simp only [jlet]
    rw [← nI_succ, nI_clamp (show c < 2 ^ 31 by omega), nI_clamp (show line < 2 ^ 31 by omega)]
    obtain ⟨M', e1, e2, e3, e4⟩ := ih (c + 1) (jgup M line c 0) (by omega) f (by omega)
    refine ⟨M', e1, fun j h2 h3 => ?_, fun j h2 => ?_, fun r hr => ?_⟩
    · by_cases e : j = c
      · subst e
        rw [e3 j (by omega), jgup_at]
      · exact e2 j (by omega) h3
    · rw [e3 j (by omega), jgup_col _ _ (by omega)]
    · rw [e4 r hr]
      funext c'
      exact jgup_row _ _ hr c'
theorem lay0 {n : Nat} {lo : Nat → Int32} (hn : n ≤ 5) : ∀ (r i : Nat) (M : Nat → Nat → Int64), i + r = n → (∀ i' j, i' < i → j ≤ n → M i' j = 0) → ∀ fuel, r < fuel → ∃ M', LX3_layLines_14 (lo, nI n) fuel (nI i) M = some M' ∧ ∀ i' j, i' < n → j ≤ n → M' i' j = 0 := by
  intro r
  induction r with
  | zero =>
    intro i M hi h fuel hf
    obtain ⟨f, rfl⟩ : ∃ f, fuel = f + 1 := ⟨fuel - 1, by omega⟩
    refine ⟨M, ?_, fun i' j a b => h i' j (by omega) b⟩
    unfold LX3_layLines_14
    rw [if_pos (nI_le (by omega) (by omega))]
  | succ r ih =>
    intro i M hi h fuel hf
    obtain ⟨f, rfl⟩ : ∃ f, fuel = f + 1 := ⟨fuel - 1, by omega⟩
    unfold LX3_layLines_14
    rw [if_neg (nI_ge (by omega) (by omega))]
    obtain ⟨M', e1, e2, e3, e4⟩ := lay0_row (lo := lo) hn (show i < 5 by omega) (n + 1) 0 M (by omega) 5000 (by omega)
    have e1' : LX3_layLines_26 (lo, nI n) (nI i) 5000 (0 : Int32) M = some M' := e1
    rw [e1']
    simp only [jlet, Option.bind_some]
    rw [← nI_succ]
    refine ih (i + 1) M' (by omega) (fun i' j a b => ?_) f (by omega)
    by_cases e : i' = i
    · subst e
      exact e2 j (Nat.zero_le j) b
    · rw [e4 i' e]
      exact h i' j (by omega) b
theorem Mx_snoc (P : Nat → Nat) (w : Wr) (r k : Nat) : ∀ ws : List Wr, Mx P (ws ++ [w]) r k = Mx P ws r k + w.2.2 * vv P w.1 w.2.1 r * vv P w.1 w.2.1 k
  | [] => Mx_c P w [] r k
  | v :: ws => by
    rw [List.cons_append, Mx_c, Mx_c, Mx_snoc P w r k ws]
    omega
/-- the number that the class writes for a line -/
def lnI (x : Nat) : Int32 := if x = 5 then -1 else nI x
theorem lnI_5 : lnI 5 = -1 := rfl
theorem lnI_lt {x : Nat} (h : x < 5) : lnI x = nI x := if_neg (by omega)
theorem layE5 (y : Int32) (c : Int64) (M : Nat → Nat → Int64) : fX3_layEnd (lnI 5) y c M = some M := by
  unfold fX3_layEnd
  rw [if_neg (show ¬ (0 : Int32) ≤ lnI 5 by decide)]
theorem layE {x y : Nat} (hx : x < 5) (hy : y ≤ 5) (hxy : x ≠ y) (c : Int64) (M : Nat → Nat → Int64) : ∃ M', fX3_layEnd (lnI x) (lnI y) c M = some M' ∧ ∀ r k, r < 5 → k < 5 → M' r k = M r k + (if x = r ∧ x = k then c else 0) - (if x = r ∧ y = k then c else 0) := by
  unfold fX3_layEnd
  rw [lnI_lt hx, if_pos (nI_pos' (by omega)), if_pos (jok_nI hx (by omega)), if_pos (jok_nI (by omega) (by omega))]
  simp only [jlet]
  rw [nI_clamp (show x < 2 ^ 31 by omega)]
  have h1 : ∀ r k, jgup M x x (M x x + c) r k = M r k + (if x = r ∧ x = k then c else 0) := fun r k => by
    by_cases e1 : r = x
    · by_cases e2 : k = x
      · rw [e1, e2, jgup_at, if_pos ⟨rfl, rfl⟩]
      · rw [jgup_col _ _ e2, if_neg (fun z => e2 z.2.symm), Int64.add_zero]
    · rw [jgup_row _ _ e1, if_neg (fun z => e1 z.1.symm), Int64.add_zero]
  by_cases h5 : y = 5
  · subst h5
    rw [if_pos (show lnI 5 < 0 by decide)]
    refine ⟨_, rfl, fun r k hr hk => ?_⟩
    rw [h1, if_neg (show ¬ (x = r ∧ 5 = k) by omega), Int64.sub_zero]
  · rw [lnI_lt (by omega), if_neg (nI_pos (by omega)), if_pos (jok_nI (by omega) (by omega)), nI_clamp (show y < 2 ^ 31 by omega)]
    refine ⟨_, rfl, fun r k hr hk => ?_⟩
    by_cases e1 : r = x
    · by_cases e2 : k = y
      · rw [e1, e2, jgup_at, h1, if_pos (show x = x ∧ y = y from ⟨rfl, rfl⟩)]
      · rw [jgup_col _ _ e2, h1, if_neg (show ¬ (x = r ∧ y = k) from fun z => e2 z.2.symm), Int64.sub_zero]
    · rw [jgup_row _ _ e1, h1, if_neg (show ¬ (x = r ∧ y = k) from fun z => e1 z.1.symm), Int64.sub_zero]
theorem layEcol {x y : Nat} (hx : x ≤ 5) (hy : y ≤ 5) {c : Int64} {M M' : Nat → Nat → Int64} (h : fX3_layEnd (lnI x) (lnI y) c M = some M') {n : Nat} (hn : n ≤ 5) (hxn : x < n ∨ x = 5) (hyn : y < n ∨ y = 5) (r : Nat) : M' r n = M r n := by
  by_cases h5 : x = 5
  · subst h5
    rw [layE5] at h
    rw [jsm h]
  · unfold fX3_layEnd at h
    rw [lnI_lt (by omega), if_pos (nI_pos' (by omega)), if_pos (jok_nI (by omega) (by omega)), if_pos (jok_nI (by omega) (by omega))] at h
    simp only [jlet] at h
    rw [nI_clamp (show x < 2 ^ 31 by omega)] at h
    by_cases h6 : y = 5
    · subst h6
      rw [if_pos (show lnI 5 < 0 by decide)] at h
      rw [jsm h, jgup_col _ _ (by omega)]
    · rw [lnI_lt (by omega), if_neg (nI_pos (by omega)), if_pos (jok_nI (by omega) (by omega)), nI_clamp (show y < 2 ^ 31 by omega)] at h
      rw [jsm h, jgup_col _ _ (by omega), jgup_col _ _ (by omega)]
/-- both ends of a wire -/
theorem layW {x y n : Nat} (hn : n ≤ 5) (hx : x < n ∨ x = 5) (hy : y < n ∨ y = 5) (hxy : x ≠ y ∨ x = 5) (c : Int) (M : Nat → Nat → Int64) : ∃ M1 M', fX3_layEnd (lnI x) (lnI y) (Zl c) M = some M1 ∧ fX3_layEnd (lnI y) (lnI x) (Zl c) M1 = some M' ∧ (∀ r k, r < 5 → k < 5 → M' r k = M r k + Zl (c * ((if x = r then 1 else 0) - (if y = r then 1 else 0)) * ((if x = k then 1 else 0) - (if y = k then 1 else 0)))) ∧ ∀ r, M' r n = M r n := by
  have e0 : ∀ a : Int64, a + Zl 0 = a := fun a => Int64.add_zero a
  by_cases hx5 : x = 5
  · subst hx5
    by_cases hy5 : y = 5
    · subst hy5
      refine ⟨M, M, layE5 _ _ _, layE5 _ _ _, fun r k hr hk => ?_, fun _ => rfl⟩
      rw [if_neg (show ¬ 5 = r by omega), if_neg (show ¬ 5 = k by omega), Int.sub_zero, Int.mul_zero]
      exact (e0 _).symm
    · obtain ⟨M', e1, e2⟩ := layE (x := y) (y := 5) (by omega) (Nat.le_refl 5) hy5 (Zl c) M
      refine ⟨M, M', layE5 _ _ _, e1, fun r k hr hk => ?_, layEcol (by omega) (by omega) e1 hn hy (Or.inr rfl)⟩
      rw [e2 r k hr hk, if_neg (show ¬ (y = r ∧ 5 = k) by omega), Int64.sub_zero, if_neg (show ¬ 5 = r by omega), if_neg (show ¬ 5 = k by omega)]
      rw [show (if y = r ∧ y = k then Zl c else (0 : Int64)) = Zl (if y = r ∧ y = k then c else 0) by split <;> rfl]
      congr 2
      by_cases c1 : y = r
      · by_cases c2 : y = k
        · rw [if_pos ⟨c1, c2⟩, if_pos c1, if_pos c2]
          omega
        · rw [if_neg (fun z => c2 z.2), if_neg c2]
          simp
      · rw [if_neg (fun z => c1 z.1), if_neg c1]
        simp
  · by_cases hy5 : y = 5
    · subst hy5
      obtain ⟨M', e1, e2⟩ := layE (x := x) (y := 5) (by omega) (Nat.le_refl 5) hx5 (Zl c) M
      refine ⟨M', M', e1, layE5 _ _ _, fun r k hr hk => ?_, layEcol (by omega) (by omega) e1 hn hx (Or.inr rfl)⟩
      rw [e2 r k hr hk, if_neg (show ¬ (x = r ∧ 5 = k) by omega), Int64.sub_zero, if_neg (show ¬ 5 = r by omega), if_neg (show ¬ 5 = k by omega)]
      rw [show (if x = r ∧ x = k then Zl c else (0 : Int64)) = Zl (if x = r ∧ x = k then c else 0) by split <;> rfl]
      congr 2
      by_cases c1 : x = r
      · by_cases c2 : x = k
        · rw [if_pos ⟨c1, c2⟩, if_pos c1, if_pos c2]
          omega
        · rw [if_neg (fun z => c2 z.2), if_neg c2]
          simp
      · rw [if_neg (fun z => c1 z.1), if_neg c1]
        simp
    · obtain ⟨M1, e1, e2⟩ := layE (x := x) (y := y) (by omega) (by omega) (by omega) (Zl c) M
      obtain ⟨M', e3, e4⟩ := layE (x := y) (y := x) (by omega) (by omega) (by omega) (Zl c) M1
      refine ⟨M1, M', e1, e3, fun r k hr hk => ?_, fun r => ?_⟩
      · rw [e4 r k hr hk, e2 r k hr hk]
        have hc : ∀ (p q s t : Prop) [Decidable p] [Decidable q] [Decidable s] [Decidable t] (a : Int64), a + (if p then Zl c else 0) - (if q then Zl c else 0) + (if s then Zl c else 0) - (if t then Zl c else 0) = a + Zl ((if p then c else 0) - (if q then c else 0) + (if s then c else 0) - (if t then c else 0)) := fun p q s t _ _ _ _ a => by
          have z : (0 : Int64) = Zl 0 := rfl
          have i : ∀ (p : Prop) [Decidable p], (if p then Zl c else (0 : Int64)) = Zl (if p then c else 0) := fun p _ => by split <;> rfl
          rw [i p, i q, i s, i t]
          unfold Zl
          rw [Int64.ofInt_sub, Int64.ofInt_add, Int64.ofInt_sub]
          simp only [Int64.sub_eq_add_neg, Int64.add_assoc]
        rw [hc]
        congr 2
        by_cases c1 : x = r <;> by_cases c2 : x = k <;> by_cases c3 : y = r <;> by_cases c4 : y = k <;> simp [c1, c2, c3, c4] <;> grind
      · rw [layEcol (by omega) (by omega) e3 hn hy hx, layEcol (by omega) (by omega) e1 hn hx hy]
