/-! the reference's lists of shares: one put -/
section PUTS
variable {upper lower : Nat → Int32}
theorem nI_pre (n : Nat) : nI (n + 1) - (1 : Int32) = nI n ∧ nI (n + 1) + (-1 : Int32) = nI n := by
  have e : nI (n + 1) - (1 : Int32) = nI n := by
    rw [nI_succ]
    exact Int32.add_sub_cancel _ _
  refine ⟨e, ?_⟩
  rw [← e, Int32.sub_eq_add_neg]
/-- m shares from bg on -/
def Seg (upper lower : Nat → Int32) (bg m : Nat) (U V : Nat → Nat) : Prop := bg + m ≤ 1599 ∧ ∀ r, r < m → upper (bg + r) = nI (U r) ∧ lower (bg + r) = nI (V r) ∧ 0 < U r ∧ U r ≤ 1000000 ∧ 0 < V r ∧ V r ≤ 1000000
theorem pu13 {bg m u d : Nat} {U V : Nat → Nat} (h : Seg upper lower bg m U V) (hu : u ≤ 1000000) (hd : d ≤ 1000000) : ∀ q, q ≤ m → ∀ fuel, q < fuel → ∃ q', q' ≤ q ∧ LX10_puts_13 upper lower (nI bg) (Zl (u : Int), Zl (d : Int)) fuel (nI (bg + q)) = some (nI (bg + q')) ∧ (∀ r, q' ≤ r → r < q → u * V r < d * U r) ∧ (0 < q' → d * U (q' - 1) ≤ u * V (q' - 1)) := by
  have zz : ∀ a b : Nat, Zl (a : Int) * Zl (b : Int) = Zl ((a * b : Nat) : Int) := fun a b => by
    rw [Int.natCast_mul]
    exact (Int64.ofInt_mul _ _).symm
  have hb := h.1
  intro q
  induction q with
  | zero =>
    intro hq fuel hf
    obtain ⟨f, rfl⟩ : ∃ f, fuel = f + 1 := ⟨fuel - 1, by omega⟩
    refine ⟨0, Nat.le_refl 0, ?_, fun r h1 h2 => by omega, fun z => by omega⟩
    unfold LX10_puts_13
    rw [if_pos (nI_le (by omega) (by omega))]
  | succ q ih =>
    intro hq fuel hf
    obtain ⟨f, rfl⟩ : ∃ f, fuel = f + 1 := ⟨fuel - 1, by omega⟩
    obtain ⟨m1, m2, m3, m4, m5, m6⟩ := h.2 q (by omega)
    have e := nI_pre (bg + q)
    have n1 : d * U q ≤ 1000000 * 1000000 := Nat.mul_le_mul hd m4
    have n2 : u * V q ≤ 1000000 * 1000000 := Nat.mul_le_mul hu m6
    unfold LX10_puts_13
    rw [if_neg (nI_ge (by omega) (by omega)), show bg + (q + 1) = bg + q + 1 by omega, e.1, e.2, if_pos (jok_nI (by omega) (by omega)), nI_clamp (show bg + q < 2 ^ 31 by omega), m1, m2, nI_64 (by omega), nI_64 (by omega)]
    dsimp only
    rw [zz, zz]
    simp only [jlet]
    by_cases c : d * U q ≤ u * V q
    · rw [if_pos ((Zl_le (rgN (by omega)) (rgN (by omega))).mpr (by omega))]
      exact ⟨q + 1, Nat.le_refl _, rfl, fun r h1 h2 => by omega, fun _ => by rw [Nat.add_sub_cancel]; exact c⟩
    · rw [if_neg (fun z => c (by have := (Zl_le (rgN (by omega)) (rgN (by omega))).mp z; omega))]
      obtain ⟨q', q1, q2, q3, q4⟩ := ih (by omega) f (by omega)
      refine ⟨q', by omega, q2, fun r h1 h2 => ?_, q4⟩
      by_cases e2 : r = q
      · rw [e2]; omega
      · exact q3 r h1 (by omega)
theorem pu108 {at' : Nat} (ha : at' ≤ 1599) : ∀ (c j : Nat) (up lo : Nat → Int32), at' + c = j → j ≤ 1599 → ∀ fuel, c < fuel → ∃ up' lo', LX10_puts_108 (nI at') fuel (nI j) up lo = some (up', lo') ∧ ∀ x, (at' < x ∧ x ≤ j → up' x = up (x - 1) ∧ lo' x = lo (x - 1)) ∧ (¬ (at' < x ∧ x ≤ j) → up' x = up x ∧ lo' x = lo x) := by
  intro c
  induction c with
  | zero =>
    intro j up lo hj h1 fuel hf
    obtain ⟨f, rfl⟩ : ∃ f, fuel = f + 1 := ⟨fuel - 1, by omega⟩
    refine ⟨up, lo, ?_, fun x => ⟨fun z => by omega, fun _ => ⟨rfl, rfl⟩⟩⟩
    unfold LX10_puts_108
    rw [if_pos (nI_le (by omega) (by omega))]
  | succ c ih =>
    intro j up lo hj h1 fuel hf
    obtain ⟨f, rfl⟩ : ∃ f, fuel = f + 1 := ⟨fuel - 1, by omega⟩
    obtain ⟨i, rfl⟩ : ∃ i, j = i + 1 := ⟨j - 1, by omega⟩
    have e := nI_pre i
    unfold LX10_puts_108
    rw [if_neg (nI_ge (by omega) (by omega)), e.1, e.2, if_pos (jok_nI (by omega) (by omega)), if_pos (jok_nI (by omega) (by omega))]
    simp only [jlet]
    rw [nI_clamp (show i + 1 < 2 ^ 31 by omega), nI_clamp (show i < 2 ^ 31 by omega)]
    obtain ⟨up', lo', q1, q2⟩ := ih i (upd up (i + 1) (up i)) (upd lo (i + 1) (lo i)) (by omega) (by omega) f (by omega)
    refine ⟨up', lo', q1, fun x => ⟨fun z => ?_, fun z => ?_⟩⟩
    · by_cases e2 : x = i + 1
      · have := (q2 x).2 (by omega)
        rw [this.1, this.2]
        unfold upd
        rw [if_pos e2, if_pos e2, e2, Nat.add_sub_cancel]
        exact ⟨rfl, rfl⟩
      · have := (q2 x).1 (by omega)
        rw [this.1, this.2]
        unfold upd
        rw [if_neg (by omega), if_neg (by omega)]
        exact ⟨rfl, rfl⟩
    · have := (q2 x).2 (by omega)
      rw [this.1, this.2]
      unfold upd
      rw [if_neg (by omega), if_neg (by omega)]
      exact ⟨rfl, rfl⟩
end PUTS
