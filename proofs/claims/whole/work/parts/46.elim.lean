/-! numbers of the machine -/
abbrev Zl (x : Int) : Int64 := Int64.ofInt x
def rg (x : Int) : Prop := -9223372036854775808 ≤ x ∧ x ≤ 9223372036854775807
theorem Zl_toInt {x : Int} (h : rg x) : (Zl x).toInt = x := Int64.toInt_ofInt_of_le (by have := h.1; omega) (by have := h.2; omega)
theorem Zl_inj {x y : Int} (hx : rg x) (hy : rg y) : Zl x = Zl y ↔ x = y := by
  rw [← Int64.toInt_inj, Zl_toInt hx, Zl_toInt hy]
theorem Zl_le {x y : Int} (hx : rg x) (hy : rg y) : Zl x ≤ Zl y ↔ x ≤ y := by
  rw [Int64.le_iff_toInt_le, Zl_toInt hx, Zl_toInt hy]
theorem Zl_lt {x y : Int} (hx : rg x) (hy : rg y) : Zl x < Zl y ↔ x < y := by
  rw [Int64.lt_iff_toInt_lt, Zl_toInt hx, Zl_toInt hy]
theorem Zl_div {x y : Int} (hx : rg x) (hy : rg y) : Zl x / Zl y = Zl (x.tdiv y) := by
  have e1 : Int64.minValue.toInt = -9223372036854775808 := by decide
  have e2 : Int64.maxValue.toInt = 9223372036854775807 := by decide
  exact (Int64.ofInt_tdiv (by rw [e1]; exact hx.1) (by rw [e2]; exact hx.2) (by rw [e1]; exact hy.1) (by rw [e2]; exact hy.2)).symm
theorem Zl_exact {x y : Int} (hx : rg (x * y)) (hy : rg x) (h0 : x ≠ 0) : Zl (x * y) / Zl x = Zl y := by
  rw [Zl_div hx hy, Int.mul_tdiv_cancel_left _ h0]
theorem Zl_ne0 {x : Int} (h : rg x) (h0 : x ≠ 0) : ¬ Zl x = 0 := fun z => h0 ((Zl_inj h (y := 0) ⟨by decide, by decide⟩).mp z)
theorem Zl_mulsub (a b c d : Int) : Zl a * Zl b - Zl c * Zl d = Zl (a * b - c * d) := by
  show _ = Int64.ofInt (a * b - c * d)
  rw [Int64.ofInt_sub, Int64.ofInt_mul, Int64.ofInt_mul]
theorem jok_nI {k N : Nat} (h : k < N) (hN : N < 2 ^ 31) : jok (nI k) N := ⟨nI_pos' (by omega), by rw [nI_clamp (by omega)]; exact h⟩
theorem ifp {α : Type} {c : Prop} [Decidable c] {a b : α} (h : c) : (if c then a else b) = a := if_pos h
theorem jgup_at (M : Nat → Nat → Int64) (i j : Nat) (x : Int64) : jgup M i j x i j = x := by
  unfold jgup vp_updL
  rw [if_pos rfl, if_pos rfl]
theorem jgup_row (M : Nat → Nat → Int64) {i j r : Nat} (x : Int64) (h : r ≠ i) (c : Nat) : jgup M i j x r c = M r c := by
  unfold jgup
  rw [if_neg h]
theorem jgup_col (M : Nat → Nat → Int64) {i j c : Nat} (x : Int64) (h : c ≠ j) (r : Nat) : jgup M i j x r c = M r c := by
  unfold jgup vp_updL
  by_cases e : r = i
  · rw [if_pos e, if_neg h, e]
  · rw [if_neg e]
/-! the elimination -/
/-- one line less k's -/
theorem sub_loop {n i k : Nat} {p q last : Int} {z : Nat → Int} (hn : n ≤ 5) (hi : i < 5) (hk : k < 5) (hik : i ≠ k) (hl0 : last ≠ 0) (hl : rg last) :
    ∀ (r c : Nat) (M : Nat → Nat → Int64), c + r = n + 1 → (∀ j, c ≤ j → j ≤ n → rg (last * z j) ∧ Zl p * M i j - Zl q * M k j = Zl (last * z j)) → ∀ fuel, r < fuel →
    ∃ M', LX3_subtract_32 (nI n) (nI i) (nI k) (Zl last) (Zl p) (Zl q) fuel (nI c) M = some M' ∧ (∀ j, c ≤ j → j ≤ n → M' i j = Zl (z j)) ∧ (∀ j, j < c → M' i j = M i j) ∧ ∀ r, r ≠ i → M' r = M r := by
  intro r
  induction r with
  | zero =>
    intro c M hc hz fuel hf
    obtain ⟨f, rfl⟩ : ∃ f, fuel = f + 1 := ⟨fuel - 1, by omega⟩
    refine ⟨M, ?_, fun j h1 h2 => by omega, fun _ _ => rfl, fun _ _ => rfl⟩
    unfold LX3_subtract_32
    rw [if_pos (nI_lt (by omega) (by omega))]
  | succ r ih =>
    intro c M hc hz fuel hf
    obtain ⟨f, rfl⟩ : ∃ f, fuel = f + 1 := ⟨fuel - 1, by omega⟩
    unfold LX3_subtract_32
    rw [if_neg (nI_nlt (by omega) (by omega)), if_pos (jok_nI (by omega) (by omega)), if_pos (Zl_ne0 hl hl0)]
    simp only [jlet]
    rw [nI_clamp (show c < 2 ^ 31 by omega), nI_clamp (show i < 2 ^ 31 by omega), nI_clamp (show k < 2 ^ 31 by omega), ← nI_succ]
    have h1 := hz c (Nat.le_refl c) (by omega)
    rw [h1.2, Zl_exact h1.1 hl hl0]
    obtain ⟨M', e1, e2, e3, e4⟩ := ih (c + 1) (jgup M i c (Zl (z c))) (by omega) (fun j h2 h3 => by
      rw [jgup_col _ _ (by omega), jgup_row _ _ (Ne.symm hik)]
      exact hz j (by omega) h3) f (by omega)
    refine ⟨M', e1, fun j h2 h3 => ?_, fun j h2 => ?_, fun r hr => ?_⟩
    · by_cases e : j = c
      · subst e
        rw [e3 j (by omega), jgup_at]
      · exact e2 j (by omega) h3
    · rw [e3 j (by omega), jgup_col _ _ (by omega)]
    · rw [e4 r hr]
      funext c'
      exact jgup_row _ _ hr c'
theorem sub_all {n i k : Nat} {p q last : Int} {z : Nat → Int} {M : Nat → Nat → Int64} (hn : n ≤ 5) (hi : i < 5) (hk : k < n) (hik : i ≠ k) (hl0 : last ≠ 0) (hl : rg last) (hp : M k k = Zl p) (hq : M i k = Zl q) (hz : ∀ j, k < j → j ≤ n → rg (last * z j) ∧ Zl p * M i j - Zl q * M k j = Zl (last * z j)) :
    ∃ M', fX3_subtract (nI i) (nI k) (Zl last) M (nI n) = some M' ∧ (∀ j, k < j → j ≤ n → M' i j = Zl (z j)) ∧ (∀ j, j ≤ k → M' i j = M i j) ∧ ∀ r, r ≠ i → M' r = M r := by
  obtain ⟨M', e1, e2, e3, e4⟩ := sub_loop (p := p) (q := q) (z := z) hn hi (by omega) hik hl0 hl (n - k) (k + 1) M (by omega) (fun j h1 h2 => hz j (by omega) h2) 5000 (by omega)
  refine ⟨M', ?_, fun j h1 h2 => e2 j (by omega) h2, fun j h1 => e3 j (by omega), e4⟩
  unfold fX3_subtract
  rw [if_neg (Zl_ne0 hl hl0), if_pos (jok_nI (by omega) (by omega)), if_pos (jok_nI (by omega) (by omega))]
  simp only [jlet]
  rw [if_pos (jok_nI hi (by omega)), nI_clamp (show i < 2 ^ 31 by omega), nI_clamp (show k < 2 ^ 31 by omega), hp, hq, ← nI_succ, e1]
  rfl
section ELIM
variable {ws : List Wr} {n : Nat} {u : Nat → Int}
/-- the number at line i, column j before stage k -/
def Ek (ws : List Wr) (n : Nat) (u : Nat → Int) (k i j : Nat) : Int := if j < n then mk (An ws n) k i (fun r => An ws n r j) else mk (An ws n) k i u
def Lk (ws : List Wr) (n k : Nat) : Int := det5 (Bk (An ws n) k)
def Uok (ws : List Wr) (n : Nat) (u : Nat → Int) : Prop := ∀ k i, k ≤ n → i < n → small (mk (An ws n) k i u) (eb 12 (min k 4))
theorem Ek_step (hn : n ≤ 5) {k i : Nat} (hk : k < n) (hi : i < n) (hik : i ≠ k) (j : Nat) : Lk ws n k * Ek ws n u (k + 1) i j = Lk ws n (k + 1) * Ek ws n u k i j - Ek ws n u k i k * Ek ws n u k k j := by
  unfold Ek Lk
  rw [if_pos hk]
  by_cases c : j < n
  · rw [if_pos c, if_pos c, if_pos c]
    exact mk_step _ (by omega) (by omega) hik _
  · rw [if_neg c, if_neg c, if_neg c]
    exact mk_step _ (by omega) (by omega) hik _
theorem Ek_piv {k : Nat} (hk : k < n) : Ek ws n u k k k = Lk ws n (k + 1) := by
  unfold Ek Lk
  rw [if_pos hk]
  exact mk_piv _ k
theorem Ek_same {k : Nat} (j : Nat) : Ek ws n u (k + 1) k j = Ek ws n u k k j := by
  unfold Ek
  by_cases c : j < n
  · rw [if_pos c, if_pos c, mk_same]
  · rw [if_neg c, if_neg c, mk_same]
theorem Lk_rg (hw : Wok ws) (hc : Wc ws) (hl : ws.length ≤ 12) (hn : n ≤ 5) {k : Nat} (hk : k ≤ n) : 0 ≤ Lk ws n k ∧ Lk ws n k ≤ eb 12 k ∧ rg (Lk ws n k) := by
  have b := Bk_bd hw hc hl hn hk
  have b2 : eb 12 k ≤ eb 12 5 := eb_12 (by omega) (by omega)
  have b3 : eb 12 5 = 201804742656 := by decide +kernel
  exact ⟨b.1, b.2, by unfold Lk; omega, by unfold Lk; omega⟩
theorem mul_small {a b x y : Int} (h0 : 0 ≤ a) (h1 : a ≤ x) (h2 : small b y) (hy : 0 ≤ y) (hb : x * y ≤ 9223372036854775807) : rg (a * b) := by
  have e1 : a * b ≤ a * y := Int.mul_le_mul_of_nonneg_left h2.2 h0
  have e2 : a * y ≤ x * y := Int.mul_le_mul_of_nonneg_right h1 hy
  have e3 : a * (-y) ≤ a * b := Int.mul_le_mul_of_nonneg_left h2.1 h0
  rw [Int.mul_neg] at e3
  constructor <;> omega
theorem Ek_rg (hw : Wok ws) (hc : Wc ws) (hl : ws.length ≤ 12) (hn : n ≤ 5) (hu : Uok ws n u) {k i j : Nat} (hk : k < n) (hi : i < n) (hkj : k < j) (hj : j ≤ n) : rg (Lk ws n k * Ek ws n u (k + 1) i j) := by
  have b := Lk_rg hw hc hl hn (show k ≤ n by omega)
  unfold Ek
  by_cases c : j < n
  · rw [if_pos c]
    refine mul_small b.1 b.2.1 (mk_col_bd hw hc hl hn (by omega) hi c (by omega)) (eb_pos _ _) ?_
    rcases (show k = 0 ∨ k = 1 ∨ k = 2 ∨ k = 3 by omega) with rfl | rfl | rfl | rfl <;> decide +kernel
  · rw [if_neg c]
    refine mul_small b.1 b.2.1 (hu (k + 1) i (by omega) hi) (eb_pos _ _) ?_
    rcases (show k = 0 ∨ k = 1 ∨ k = 2 ∨ k = 3 ∨ k = 4 by omega) with rfl | rfl | rfl | rfl | rfl <;> decide +kernel
/-- what the lines hold before stage k -/
def Hold (ws : List Wr) (n : Nat) (u : Nat → Int) (k : Nat) (M : Nat → Nat → Int64) : Prop := ∀ i j, i < n → k ≤ j → j ≤ n → M i j = Zl (Ek ws n u k i j)
theorem el_line (hw : Wok ws) (hc : Wc ws) (hl : ws.length ≤ 12) (hn : n ≤ 5) (hu : Uok ws n u) {k : Nat} (hk : k < n) (hl0 : Lk ws n k ≠ 0) :
    ∀ (r i : Nat) (M : Nat → Nat → Int64), i + r = n → (∀ i' j, i ≤ i' → i' < n → k ≤ j → j ≤ n → M i' j = Zl (Ek ws n u k i' j)) → (∀ j, k ≤ j → j ≤ n → M k j = Zl (Ek ws n u k k j)) → (∀ i' j, i' < i → i' ≠ k → k < j → j ≤ n → M i' j = Zl (Ek ws n u (k + 1) i' j)) → ∀ fuel, r < fuel →
    ∃ M', LX3_eliminate_34 (nI n) (Zl (Lk ws n k)) (nI k) fuel (nI i) M = some M' ∧ Hold ws n u (k + 1) M' := by
  intro r
  induction r with
  | zero =>
    intro i M hi h1 h2 h3 fuel hf
    obtain ⟨f, rfl⟩ : ∃ f, fuel = f + 1 := ⟨fuel - 1, by omega⟩
    refine ⟨M, ?_, fun i' j a1 a2 a3 => ?_⟩
    · unfold LX3_eliminate_34
      rw [if_pos (nI_le (by omega) (by omega))]
    · by_cases e : i' = k
      · subst e
        rw [h2 j (by omega) a3, Ek_same]
      · exact h3 i' j (by omega) e (by omega) a3
  | succ r ih =>
    intro i M hi h1 h2 h3 fuel hf
    obtain ⟨f, rfl⟩ : ∃ f, fuel = f + 1 := ⟨fuel - 1, by omega⟩
    unfold LX3_eliminate_34
    rw [if_neg (nI_ge (by omega) (by omega))]
    by_cases e : i = k
    · subst e
      rw [if_pos rfl]
      simp only [jlet, Option.bind_some]
      rw [← nI_succ]
      exact ih (i + 1) M (by omega) (fun i' j a1 a2 a3 a4 => h1 i' j (by omega) a2 a3 a4) h2 (fun i' j a1 a2 a3 a4 => h3 i' j (by omega) a2 a3 a4) f (by omega)
    · have hne : ¬ nI i = nI k := fun z => e (by
        have := congrArg Int32.toNatClampNeg z
        rwa [nI_clamp (by omega), nI_clamp (by omega)] at this)
      rw [if_neg hne]
      obtain ⟨M', e1, e2, e3, e4⟩ := sub_all (n := n) (i := i) (k := k) (p := Lk ws n (k + 1)) (q := Ek ws n u k i k) (last := Lk ws n k) (z := fun j => Ek ws n u (k + 1) i j) (M := M) hn (by omega) hk e hl0 (Lk_rg hw hc hl hn (by omega)).2.2 (by rw [h2 k (Nat.le_refl k) (by omega), Ek_piv hk]) (h1 i k (Nat.le_refl i) (by omega) (Nat.le_refl k) (by omega)) (fun j a1 a2 => ⟨Ek_rg hw hc hl hn hu hk (by omega) a1 a2, by
        rw [h1 i j (Nat.le_refl i) (by omega) (by omega) a2, h2 j (by omega) a2, Zl_mulsub, Ek_step hn hk (by omega) e]⟩)
      rw [e1]
      simp only [jlet, Option.bind_some]
      rw [← nI_succ]
      refine ih (i + 1) M' (by omega) (fun i' j a1 a2 a3 a4 => ?_) (fun j a1 a2 => ?_) (fun i' j a1 a2 a3 a4 => ?_) f (by omega)
      · rw [e4 i' (by omega)]
        exact h1 i' j (by omega) a2 a3 a4
      · rw [e4 k (Ne.symm e)]
        exact h2 j a1 a2
      · by_cases e9 : i' = i
        · subst e9
          exact e2 j a3 a4
        · rw [e4 i' e9]
          exact h3 i' j (by omega) a2 a3 a4
/-- all stages, where no pivot is 0 -/
theorem el_all (hw : Wok ws) (hc : Wc ws) (hl : ws.length ≤ 12) (hn : n ≤ 5) (hu : Uok ws n u) (hp : ∀ k, k ≤ n → Lk ws n k ≠ 0) :
    ∀ (r k : Nat) (M : Nat → Nat → Int64), k + r = n → Hold ws n u k M → ∀ fuel, r < fuel → ∃ M', LX3_eliminate_4 (nI n) fuel (Zl (Lk ws n k)) (nI k) M = some (.inl (Zl (Lk ws n n), M')) ∧ Hold ws n u n M' := by
  intro r
  induction r with
  | zero =>
    intro k M hk hM fuel hf
    obtain ⟨f, rfl⟩ : ∃ f, fuel = f + 1 := ⟨fuel - 1, by omega⟩
    obtain rfl : k = n := by omega
    refine ⟨M, ?_, hM⟩
    unfold LX3_eliminate_4
    rw [if_pos (nI_le (by omega) (by omega))]
  | succ r ih =>
    intro k M hk hM fuel hf
    obtain ⟨f, rfl⟩ : ∃ f, fuel = f + 1 := ⟨fuel - 1, by omega⟩
    have b := Lk_rg hw hc hl hn (show k + 1 ≤ n by omega)
    have hkk : M k k = Zl (Lk ws n (k + 1)) := by rw [hM k k (by omega) (Nat.le_refl k) (by omega), Ek_piv (by omega)]
    obtain ⟨M', e1, e2⟩ := el_line hw hc hl hn hu (show k < n by omega) (hp k (by omega)) n 0 M (by omega) (fun i' j _ a2 a3 a4 => hM i' j a2 a3 a4) (fun j a1 a2 => hM k j (by omega) a1 a2) (fun i' j a1 => absurd a1 (Nat.not_lt_zero i')) 5000 (by omega)
    obtain ⟨M'', e3, e4⟩ := ih (k + 1) M' (by omega) e2 f (by omega)
    refine ⟨M'', ?_, e4⟩
    unfold LX3_eliminate_4
    rw [if_neg (nI_ge (by omega) (by omega)), if_pos (jok_nI (by omega) (by omega)), if_pos (jok_nI (by omega) (by omega))]
    simp only [jlet]
    rw [nI_clamp (show k < 2 ^ 31 by omega), hkk, if_neg (Zl_ne0 b.2.2 (hp _ (by omega)))]
    have e1' : LX3_eliminate_34 (nI n) (Zl (Lk ws n k)) (nI k) 5000 (0 : Int32) M = some M' := e1
    rw [e1']
    simp only [Option.bind_some]
    rw [← nI_succ]
    exact e3
/-- a pivot that is 0 -/
theorem el_zero (hw : Wok ws) (hc : Wc ws) (hl : ws.length ≤ 12) (hn : n ≤ 5) (hu : Uok ws n u) :
    ∀ (r k : Nat) (M : Nat → Nat → Int64), k + r = n → Lk ws n k ≠ 0 → (∃ k', k ≤ k' ∧ k' ≤ n ∧ Lk ws n k' = 0) → Hold ws n u k M → ∀ fuel, r < fuel → ∃ M', LX3_eliminate_4 (nI n) fuel (Zl (Lk ws n k)) (nI k) M = some (.inr (0, M')) := by
  intro r
  induction r with
  | zero =>
    intro k M hk h0 hz hM fuel hf
    obtain ⟨k', a1, a2, a3⟩ := hz
    obtain rfl : k = k' := by omega
    exact absurd a3 h0
  | succ r ih =>
    intro k M hk h0 hz hM fuel hf
    obtain ⟨f, rfl⟩ : ∃ f, fuel = f + 1 := ⟨fuel - 1, by omega⟩
    have b := Lk_rg hw hc hl hn (show k + 1 ≤ n by omega)
    have hkk : M k k = Zl (Lk ws n (k + 1)) := by rw [hM k k (by omega) (Nat.le_refl k) (by omega), Ek_piv (by omega)]
    unfold LX3_eliminate_4
    rw [if_neg (nI_ge (by omega) (by omega)), if_pos (jok_nI (by omega) (by omega)), if_pos (jok_nI (by omega) (by omega))]
    simp only [jlet]
    rw [nI_clamp (show k < 2 ^ 31 by omega), hkk]
    by_cases z : Lk ws n (k + 1) = 0
    · rw [z, if_pos (show Zl 0 = (0 : Int64) from rfl)]
      exact ⟨M, rfl⟩
    · rw [if_neg (Zl_ne0 b.2.2 z)]
      obtain ⟨M', e1, e2⟩ := el_line hw hc hl hn hu (show k < n by omega) h0 n 0 M (by omega) (fun i' j _ a2 a3 a4 => hM i' j a2 a3 a4) (fun j a1 a2 => hM k j (by omega) a1 a2) (fun i' j a1 => absurd a1 (Nat.not_lt_zero i')) 5000 (by omega)
      obtain ⟨M'', e3⟩ := ih (k + 1) M' (by omega) z (by
        obtain ⟨k', a1, a2, a3⟩ := hz
        refine ⟨k', ?_, a2, a3⟩
        rcases Nat.lt_or_eq_of_le a1 with q | q
        · exact q
        · subst q
          exact absurd a3 h0) e2 f (by omega)
      have e1' : LX3_eliminate_34 (nI n) (Zl (Lk ws n k)) (nI k) 5000 (0 : Int32) M = some M' := e1
      rw [e1']
      simp only [Option.bind_some]
      rw [← nI_succ]
      exact ⟨M'', e3⟩
theorem Lk_one : Lk ws n 0 = 1 := det5_one _
theorem elim_ok (hw : Wok ws) (hc : Wc ws) (hl : ws.length ≤ 12) (hn : n ≤ 5) (hu : Uok ws n u) (hp : ∀ k, k ≤ n → Lk ws n k ≠ 0) {M : Nat → Nat → Int64} (hM : Hold ws n u 0 M) : ∃ M', fX3_eliminate M (nI n) = some (Zl (Lk ws n n), M') ∧ Hold ws n u n M' := by
  obtain ⟨M', e1, e2⟩ := el_all hw hc hl hn hu hp n 0 M (by omega) hM 5000 (by omega)
  rw [Lk_one] at e1
  have e1' : LX3_eliminate_4 (nI n) 5000 (1 : Int64) (0 : Int32) M = some (.inl (Zl (Lk ws n n), M')) := e1
  refine ⟨M', ?_, e2⟩
  unfold fX3_eliminate
  rw [e1']
  rfl
theorem elim_zero (hw : Wok ws) (hc : Wc ws) (hl : ws.length ≤ 12) (hn : n ≤ 5) (hu : Uok ws n u) (hp : ∃ k, k ≤ n ∧ Lk ws n k = 0) {M : Nat → Nat → Int64} (hM : Hold ws n u 0 M) : ∃ M', fX3_eliminate M (nI n) = some (0, M') := by
  obtain ⟨k, a1, a2⟩ := hp
  obtain ⟨M', e1⟩ := el_zero hw hc hl hn hu n 0 M (by omega) (by rw [Lk_one]; decide) ⟨k, Nat.zero_le k, a1, a2⟩ hM 5000 (by omega)
  rw [Lk_one] at e1
  have e1' : LX3_eliminate_4 (nI n) 5000 (1 : Int64) (0 : Int32) M = some (.inr (0, M')) := e1
  refine ⟨M', ?_⟩
  unfold fX3_eliminate
  rw [e1']
  rfl
end ELIM
