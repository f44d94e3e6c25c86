/-! least terms -/
theorem rgN {a : Nat} (h : a < 2 ^ 63) : rg (a : Int) := ⟨by omega, by omega⟩
theorem zmod {a b : Nat} (ha : a < 2 ^ 63) (hb : b < 2 ^ 63) (h0 : b ≠ 0) : Zl a - Zl a / Zl b * Zl b = Zl ((a % b : Nat) : Int) := by
  rw [Zl_div (rgN ha) (rgN hb), show (a : Int).tdiv (b : Int) = ((a / b : Nat) : Int) from (Int.ofNat_tdiv a b).symm, show Zl ((a / b : Nat) : Int) * Zl (b : Int) = Zl (((a / b : Nat) : Int) * b) from (Int64.ofInt_mul _ _).symm, show Zl (a : Int) - Zl (((a / b : Nat) : Int) * b) = Zl (a - ((a / b : Nat) : Int) * b) from (Int64.ofInt_sub _ _).symm]
  congr 1
  have h := Nat.div_add_mod a b
  have h2 : ((b * (a / b) + a % b : Nat) : Int) = (a : Int) := by rw [h]
  rw [Int.natCast_add, Int.natCast_mul, Int.mul_comm] at h2
  omega
theorem halve {b r : Nat} (h0 : 0 < r) (h1 : r < b) : 2 * (b % r) < b := by
  have h2 := Nat.mod_lt b h0
  have h3 := Nat.div_add_mod b r
  have h4 : 1 ≤ b / r := (Nat.one_le_div_iff h0).mpr (by omega)
  have h5 : r * 1 ≤ r * (b / r) := Nat.mul_le_mul_left r h4
  omega
theorem euR : ∀ (k a b : Nat), a < 2 ^ 63 → b < 2 ^ k → k ≤ 48 → ∀ fuel, 2 * k < fuel → LX10_common_17 fuel (Zl a) (Zl b) = some (Zl (Nat.gcd a b : Nat)) := by
  intro k
  induction k with
  | zero =>
    intro a b ha hb hk fuel hf
    obtain ⟨f, rfl⟩ : ∃ f, fuel = f + 1 := ⟨fuel - 1, by omega⟩
    obtain rfl : b = 0 := by omega
    unfold LX10_common_17
    rw [if_pos (show Zl ((0 : Nat) : Int) = 0 from rfl), Nat.gcd_zero_right]
  | succ k ih =>
    intro a b ha hb hk fuel hf
    obtain ⟨f, rfl⟩ : ∃ f, fuel = f + 1 := ⟨fuel - 1, by omega⟩
    have hp : 2 ^ (k + 1) ≤ 2 ^ 48 := Nat.pow_le_pow_right (by decide) hk
    have hps : 2 ^ (k + 1) = 2 * 2 ^ k := by rw [Nat.pow_succ, Nat.mul_comm]
    have hb63 : b < 2 ^ 63 := by omega
    unfold LX10_common_17
    by_cases h0 : b = 0
    · subst h0
      rw [if_pos (show Zl ((0 : Nat) : Int) = 0 from rfl), Nat.gcd_zero_right]
    · have hz : ¬ Zl (b : Int) = 0 := Zl_ne0 (rgN hb63) (by omega)
      rw [if_neg hz, if_pos hz]
      simp only [jlet]
      rw [zmod ha hb63 h0]
      have hr := Nat.mod_lt a (show 0 < b by omega)
      have hg : Nat.gcd a b = Nat.gcd b (a % b) := by rw [Nat.gcd_comm a b, Nat.gcd_rec b a, Nat.gcd_comm]
      rw [hg]
      obtain ⟨f, rfl⟩ : ∃ f', f = f' + 1 := ⟨f - 1, by omega⟩
      by_cases h1 : a % b = 0
      · rw [h1]
        unfold LX10_common_17
        rw [if_pos (show Zl ((0 : Nat) : Int) = 0 from rfl), Nat.gcd_zero_right]
      · have hz1 : ¬ Zl ((a % b : Nat) : Int) = 0 := Zl_ne0 (rgN (by omega)) (by omega)
        unfold LX10_common_17
        rw [if_neg hz1, if_pos hz1]
        simp only [jlet]
        rw [zmod hb63 (by omega) h1]
        have hg2 : Nat.gcd b (a % b) = Nat.gcd (a % b) (b % (a % b)) := by rw [Nat.gcd_comm b (a % b), Nat.gcd_rec (a % b) b, Nat.gcd_comm]
        rw [hg2]
        have hh := halve (show 0 < a % b by omega) hr
        exact ih (a % b) (b % (a % b)) (by omega) (by omega) (by omega) f (by omega)
theorem euC : ∀ (k a b st : Nat), a < 2 ^ 63 → b < 2 ^ k → k ≤ 48 → st + 2 * k ≤ 100 → ∀ fuel, 2 * k < fuel → LX0_commonDivisor_9 fuel (Zl a) (Zl b) (nI st) = some (Zl (Nat.gcd a b : Nat)) := by
  intro k
  induction k with
  | zero =>
    intro a b st ha hb hk hst fuel hf
    obtain ⟨f, rfl⟩ : ∃ f, fuel = f + 1 := ⟨fuel - 1, by omega⟩
    obtain rfl : b = 0 := by omega
    unfold LX0_commonDivisor_9
    rw [if_pos (show Zl ((0 : Nat) : Int) = 0 from rfl), Nat.gcd_zero_right]
    split <;> rfl
  | succ k ih =>
    intro a b st ha hb hk hst fuel hf
    obtain ⟨f, rfl⟩ : ∃ f, fuel = f + 1 := ⟨fuel - 1, by omega⟩
    have hp : 2 ^ (k + 1) ≤ 2 ^ 48 := Nat.pow_le_pow_right (by decide) hk
    have hps : 2 ^ (k + 1) = 2 * 2 ^ k := by rw [Nat.pow_succ, Nat.mul_comm]
    have hb63 : b < 2 ^ 63 := by omega
    unfold LX0_commonDivisor_9
    rw [if_neg (show ¬ (100 : Int32) ≤ nI st from nI_ge (b := 100) (by omega) (by omega))]
    by_cases h0 : b = 0
    · subst h0
      rw [if_pos (show Zl ((0 : Nat) : Int) = 0 from rfl), Nat.gcd_zero_right]
    · have hz : ¬ Zl (b : Int) = 0 := Zl_ne0 (rgN hb63) (by omega)
      rw [if_neg hz, if_pos hz]
      simp only [jlet]
      rw [zmod ha hb63 h0, ← nI_succ]
      have hr := Nat.mod_lt a (show 0 < b by omega)
      have hg : Nat.gcd a b = Nat.gcd b (a % b) := by rw [Nat.gcd_comm a b, Nat.gcd_rec b a, Nat.gcd_comm]
      rw [hg]
      obtain ⟨f, rfl⟩ : ∃ f', f = f' + 1 := ⟨f - 1, by omega⟩
      by_cases h1 : a % b = 0
      · rw [h1]
        unfold LX0_commonDivisor_9
        rw [if_pos (show Zl ((0 : Nat) : Int) = 0 from rfl), Nat.gcd_zero_right]
        split <;> rfl
      · have hz1 : ¬ Zl ((a % b : Nat) : Int) = 0 := Zl_ne0 (rgN (by omega)) (by omega)
        unfold LX0_commonDivisor_9
        rw [if_neg (show ¬ (100 : Int32) ≤ nI (st + 1) from nI_ge (b := 100) (by omega) (by omega)), if_neg hz1, if_pos hz1]
        simp only [jlet]
        rw [zmod hb63 (by omega) h1, ← nI_succ]
        have hg2 : Nat.gcd b (a % b) = Nat.gcd (a % b) (b % (a % b)) := by rw [Nat.gcd_comm b (a % b), Nat.gcd_rec (a % b) b, Nat.gcd_comm]
        rw [hg2]
        have hh := halve (show 0 < a % b by omega) hr
        exact ih (a % b) (b % (a % b)) (st + 1 + 1) (by omega) (by omega) (by omega) (by omega) f (by omega)
/-- u by d in least terms -/
def lst (u : Int) (d : Nat) : Int × Int := (u.tdiv (Nat.gcd u.natAbs d : Nat), (d : Int).tdiv (Nat.gcd u.natAbs d : Nat))
theorem leastOk {u : Int} {d : Nat} (hu : u.natAbs < 2 ^ 63) (hd : 0 < d) (hd2 : d < 2 ^ 48) : fX10_least (Zl u) (Zl d) = some (Zl (lst u d).1, Zl (lst u d).2) := by
  have hg : 0 < Nat.gcd u.natAbs d := Nat.gcd_pos_of_pos_right _ hd
  have hg2 : Nat.gcd u.natAbs d ≤ d := Nat.gcd_le_right _ hd
  have ru : rg u := ⟨by omega, by omega⟩
  have rd : rg (d : Int) := rgN (by omega)
  have rG : rg ((Nat.gcd u.natAbs d : Nat) : Int) := rgN (by omega)
  have e : (if (0 : Int64) ≤ Zl u then Zl u else -Zl u) = Zl (u.natAbs : Int) := by
    by_cases c : 0 ≤ u
    · rw [if_pos (show (0 : Int64) ≤ Zl u from (Zl_le (x := 0) ⟨by decide, by decide⟩ ru).mpr c), show ((u.natAbs : Nat) : Int) = u by omega]
    · rw [if_neg (show ¬ (0 : Int64) ≤ Zl u from fun z => c ((Zl_le (x := 0) ⟨by decide, by decide⟩ ru).mp z)), show ((u.natAbs : Nat) : Int) = -u by omega]
      exact (Int64.ofInt_neg u).symm
  unfold fX10_least fX10_common
  simp only [jlet]
  rw [e, euR 48 u.natAbs d hu hd2 (Nat.le_refl 48) 5000 (by omega)]
  simp only [Option.bind_some]
  rw [if_pos (Zl_ne0 rG (by omega)), Zl_div ru rG, Zl_div rd rG]
  rfl
theorem reduceOk {u : Int} {d : Nat} (hu : u.natAbs < 2 ^ 63) (hd : 0 < d) (hd2 : d < 2 ^ 48) : fX0_reduce (Zl u) (Zl d) = some (Zl (lst u d).1, Zl (lst u d).2) := by
  have hg : 0 < Nat.gcd u.natAbs d := Nat.gcd_pos_of_pos_right _ hd
  have hg2 : Nat.gcd u.natAbs d ≤ d := Nat.gcd_le_right _ hd
  have ru : rg u := ⟨by omega, by omega⟩
  have rd : rg (d : Int) := rgN (by omega)
  have rG : rg ((Nat.gcd u.natAbs d : Nat) : Int) := rgN (by omega)
  have e : (if (0 : Int64) < Zl u then Zl u else -Zl u) = Zl (u.natAbs : Int) := by
    by_cases c : 0 < u
    · rw [if_pos (show (0 : Int64) < Zl u from (Zl_lt (x := 0) ⟨by decide, by decide⟩ ru).mpr c), show ((u.natAbs : Nat) : Int) = u by omega]
    · rw [if_neg (show ¬ (0 : Int64) < Zl u from fun z => c ((Zl_lt (x := 0) ⟨by decide, by decide⟩ ru).mp z)), show ((u.natAbs : Nat) : Int) = -u by omega]
      exact (Int64.ofInt_neg u).symm
  have h := euC 48 u.natAbs d 0 hu hd2 (Nat.le_refl 48) (by omega) 5000 (by omega)
  have h : LX0_commonDivisor_9 5000 (Zl (u.natAbs : Int)) (Zl (d : Int)) (0 : Int32) = some (Zl (Nat.gcd u.natAbs d : Nat)) := h
  unfold fX0_reduce fX0_commonDivisor
  rw [e, h]
  simp only [Option.bind_some]
  unfold lst
  by_cases c : Nat.gcd u.natAbs d = 1
  · rw [c, if_pos (show Zl ((1 : Nat) : Int) ≤ (1 : Int64) by decide)]
    show some (Zl u, Zl (d : Int)) = some (Zl (u.tdiv 1), Zl ((d : Int).tdiv 1))
    rw [Int.tdiv_one, Int.tdiv_one]
  · rw [if_neg (fun z => by
      have := (Zl_le rG (y := 1) ⟨by decide, by decide⟩).mp z
      omega), if_pos (Zl_ne0 rG (by omega)), Zl_div ru rG, Zl_div rd rG]
/-! the knots of a call -/
theorem jnI_of {a : Int32} (h : ¬ a < 0) : ∃ k, a = nI k ∧ (k : Int) = a.toInt := by
  have h0 : 0 ≤ a.toInt := by
    rw [Int32.lt_iff_toInt_lt] at h
    have : (0 : Int32).toInt = 0 := rfl
    omega
  have hl := a.toInt_lt
  refine ⟨a.toInt.toNat, ?_, by omega⟩
  apply Int32.toInt_inj.mp
  rw [nI_toInt (by omega)]
  omega
theorem within_c (a : Int32) (lo hi : Nat) (hhi : hi < 2 ^ 31) (hlo : lo < 2 ^ 31) : (fX9_isWithin a (nI lo) (nI hi) = some 0 ∧ fX10_in a (nI lo) (nI hi) = some 0) ∨ ∃ k, lo ≤ k ∧ k ≤ hi ∧ a = nI k ∧ fX9_isWithin a (nI lo) (nI hi) = some 1 ∧ fX10_in a (nI lo) (nI hi) = some 1 := by
  unfold fX9_isWithin fX10_in
  by_cases c1 : a < nI lo
  · exact Or.inl ⟨if_pos c1, if_pos c1⟩
  · by_cases c2 : nI hi < a
    · rw [if_neg c1, if_pos c2]
      exact Or.inl ⟨rfl, rfl⟩
    · refine Or.inr ?_
      have c0 : ¬ a < 0 := fun z => c1 (by
        rw [Int32.lt_iff_toInt_lt] at z ⊢
        rw [nI_toInt hlo]
        have : (0 : Int32).toInt = 0 := rfl
        omega)
      obtain ⟨k, rfl, hk⟩ := jnI_of c0
      rw [if_neg c1, if_neg c2]
      rw [Int32.lt_iff_toInt_lt, nI_toInt hlo] at c1
      rw [Int32.lt_iff_toInt_lt, nI_toInt hhi] at c2
      exact ⟨k, by omega, by omega, rfl, rfl, rfl⟩
theorem knot_c (a : Int32) : (fX9_isKnot a = some 0 ∧ fX10_isKnot a = some 0) ∨ ∃ k, k < 6 ∧ a = nI k ∧ fX9_isKnot a = some 1 ∧ fX10_isKnot a = some 1 := by
  have h := within_c a 0 5 (by decide) (by decide)
  rcases h with ⟨h1, h2⟩ | ⟨k, _, hk, e, h1, h2⟩
  · have h1 : fX9_isWithin a 0 5 = some 0 := h1
    have h2 : fX10_in a 0 5 = some 0 := h2
    refine Or.inl ⟨?_, ?_⟩
    · unfold fX9_isKnot; rw [h1]; rfl
    · unfold fX10_isKnot; rw [h2]; rfl
  · have h1 : fX9_isWithin a 0 5 = some 1 := h1
    have h2 : fX10_in a 0 5 = some 1 := h2
    refine Or.inr ⟨k, by omega, e, ?_, ?_⟩
    · unfold fX9_isKnot; rw [h1]; rfl
    · unfold fX10_isKnot; rw [h2]; rfl
