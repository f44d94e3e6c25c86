/-! lists of shares: finding a place -/
section PLACE
variable {n : Nat} {U V : Nat → Nat} {su sl : Nat → Int32}
/-- n shares from the least on, U by V -/
def Srt (n : Nat) (U V : Nat → Nat) (su sl : Nat → Int32) : Prop := n ≤ 1400 ∧ (∀ r, r < n → su r = nI (U r) ∧ sl r = nI (V r) ∧ 0 < U r ∧ U r ≤ 1000000 ∧ 0 < V r ∧ V r ≤ 1000000) ∧ ∀ r s, r < s → s < n → U r * V s < U s * V r
theorem less_mono (h : Srt n U V su sl) {u d r s : Nat} (hd : 0 < d) (hrs : r < s) (hs : s < n) (hl : U s * d < u * V s) : U r * d < u * V r := by
  have h1 := h.2.2 r s hrs hs
  obtain ⟨-, -, a1, a2, a3, a4⟩ := h.2.1 r (by omega)
  obtain ⟨-, -, b1, b2, b3, b4⟩ := h.2.1 s hs
  have e1 : (U r * V s) * d < (U s * V r) * d := Nat.mul_lt_mul_of_pos_right h1 hd
  have e2 : (U s * d) * V r < (u * V s) * V r := Nat.mul_lt_mul_of_pos_right hl a3
  have e3 : (U r * d) * V s < (u * V r) * V s := by
    have t1 : (U r * V s) * d = (U r * d) * V s := by grind
    have t2 : (U s * V r) * d = (U s * d) * V r := by grind
    have t3 : (u * V s) * V r = (u * V r) * V s := by grind
    omega
  exact Nat.lt_of_mul_lt_mul_right e3
theorem cmpOk {u d x y : Nat} (hu : u ≤ 1000000000) (hd : d ≤ 1000000000) (hx : x ≤ 1000000) (hy : y ≤ 1000000) : ∃ o : Int64, fX6_difference (nI u) (nI d) (nI x) (nI y) = some o ∧ ((¬ (0 : Int64) ≤ o) ↔ x * d < u * y) ∧ (o = (0 : Int64) ↔ x * d = u * y) := by
  have m1 : x * d ≤ 1000000 * 1000000000 := Nat.mul_le_mul hx hd
  have m2 : u * y ≤ 1000000000 * 1000000 := Nat.mul_le_mul hu hy
  have zz : ∀ a b : Nat, Zl (a : Int) * Zl (b : Int) = Zl ((a * b : Nat) : Int) := fun a b => by
    rw [Int.natCast_mul]
    exact (Int64.ofInt_mul _ _).symm
  generalize hp : x * d = P at m1
  generalize hq : u * y = Q at m2
  have rP : rg ((P : Int) - (Q : Int)) := by constructor <;> omega
  have r0 : rg (0 : Int) := by constructor <;> omega
  refine ⟨Zl ((P : Int) - (Q : Int)), ?_, ?_, ?_⟩
  · unfold fX6_difference
    rw [nI_64 (by omega), nI_64 (by omega), nI_64 (by omega), nI_64 (by omega), zz, zz, hp, hq]
    exact congrArg some (Int64.ofInt_sub _ _).symm
  · rw [show (0 : Int64) = Zl 0 from rfl, Zl_le r0 rP]
    omega
  · rw [show (0 : Int64) = Zl 0 from rfl, Zl_inj rP r0]
    omega
theorem halfI {lo hi : Nat} (h : lo + hi < 2 ^ 30) : (nI lo + nI hi) / (2 : Int32) = nI ((lo + hi) / 2) := by
  rw [nI_plus]
  apply Int32.toInt_inj.mp
  rw [Int32.toInt_div, nI_toInt (by omega), nI_toInt (by omega), show (2 : Int32).toInt = 2 by decide, show ((lo + hi : Nat) : Int).tdiv 2 = (((lo + hi) / 2 : Nat) : Int) from (Int.ofNat_tdiv (lo + hi) 2).symm]
  refine Int.bmod_eq_of_le ?_ ?_ <;> omega
theorem placeLoop (h : Srt n U V su sl) {u d : Nat} (hu : u ≤ 1000000000) (hd : d ≤ 1000000000) (hd0 : 0 < d) : ∀ (k lo hi st : Nat), lo ≤ hi → hi ≤ n → hi - lo < 2 ^ k → k ≤ 12 → st + k ≤ 31 → (∀ r, r < lo → U r * d < u * V r) → (∀ r, hi ≤ r → r < n → ¬ U r * d < u * V r) → ∀ fuel, k < fuel → ∃ p, p ≤ n ∧ LX6_placeOf_14 (nI n) su sl (nI u) (nI d) fuel (nI lo) (nI hi) (nI st) = some (nI p) ∧ (∀ r, r < p → U r * d < u * V r) ∧ ∀ r, p ≤ r → r < n → ¬ U r * d < u * V r := by
  have hn := h.1
  intro k
  induction k with
  | zero =>
    intro lo hi st h1 h2 h3 h4 h5 h6 h7 fuel hf
    obtain ⟨f, rfl⟩ : ∃ f, fuel = f + 1 := ⟨fuel - 1, by omega⟩
    obtain rfl : lo = hi := by omega
    refine ⟨lo, h2, ?_, h6, h7⟩
    unfold LX6_placeOf_14
    rw [if_neg (show ¬ (32 : Int32) ≤ nI st from nI_ge (b := 32) (by omega) (by omega)), if_pos (nI_le (Nat.le_refl lo) (by omega))]
  | succ k ih =>
    intro lo hi st h1 h2 h3 h4 h5 h6 h7 fuel hf
    obtain ⟨f, rfl⟩ : ∃ f, fuel = f + 1 := ⟨fuel - 1, by omega⟩
    unfold LX6_placeOf_14
    rw [if_neg (show ¬ (32 : Int32) ≤ nI st from nI_ge (b := 32) (by omega) (by omega))]
    by_cases c : hi ≤ lo
    · obtain rfl : lo = hi := by omega
      rw [if_pos (nI_le c (by omega))]
      exact ⟨lo, h2, rfl, h6, h7⟩
    · rw [if_neg (nI_ge (by omega) (by omega))]
      simp only [jlet]
      rw [halfI (by omega), nI_clamp (show n < 2 ^ 31 by omega), if_pos (jok_nI (by omega) (by omega)), nI_clamp (show (lo + hi) / 2 < 2 ^ 31 by omega)]
      obtain ⟨m1, m2, m3, m4, m5, m6⟩ := h.2.1 ((lo + hi) / 2) (by omega)
      obtain ⟨o, o1, o2, o3⟩ := cmpOk hu hd m4 m6
      rw [m1, m2, o1]
      simp only [Option.bind_some]
      rw [← nI_succ, ← nI_succ]
      rw [Nat.pow_succ] at h3
      by_cases c2 : U ((lo + hi) / 2) * d < u * V ((lo + hi) / 2)
      · rw [if_neg (o2.mpr c2)]
        refine ih ((lo + hi) / 2 + 1) hi (st + 1) (by omega) h2 (by omega) (by omega) (by omega) (fun r hr => ?_) h7 f (by omega)
        by_cases e : r = (lo + hi) / 2
        · rw [e]; exact c2
        · exact less_mono h hd0 (show r < (lo + hi) / 2 by omega) (by omega) c2
      · rw [if_pos (show (0 : Int64) ≤ o by
          by_cases z : (0 : Int64) ≤ o
          · exact z
          · exact absurd (o2.mp z) c2)]
        refine ih lo ((lo + hi) / 2) (st + 1) (by omega) (by omega) (by omega) (by omega) (by omega) h6 (fun r hr hrn => ?_) f (by omega)
        by_cases e : r = (lo + hi) / 2
        · rw [e]; exact c2
        · exact fun z => c2 (less_mono h hd0 (show (lo + hi) / 2 < r by omega) hrn z)
theorem placeOk (h : Srt n U V su sl) {u d : Nat} (hu : u ≤ 1000000000) (hd : d ≤ 1000000000) (hd0 : 0 < d) : ∃ p, p ≤ n ∧ fX6_placeOf (nI u) (nI d) (nI n) su sl = some (nI p) ∧ (∀ r, r < p → U r * d < u * V r) ∧ ∀ r, p ≤ r → r < n → ¬ U r * d < u * V r := by
  have hn := h.1
  obtain ⟨p, p1, p2, p3, p4⟩ := placeLoop h hu hd hd0 12 0 n 0 (Nat.zero_le n) (Nat.le_refl n) (by show n - 0 < 4096; omega) (Nat.le_refl 12) (by decide) (fun r hr => absurd hr (Nat.not_lt_zero r)) (fun r h1 h2 => by omega) 5000 (by decide)
  have p2 : LX6_placeOf_14 (nI n) su sl (nI u) (nI d) 5000 (0 : Int32) (nI n) (0 : Int32) = some (nI p) := p2
  refine ⟨p, p1, ?_, p3, p4⟩
  unfold fX6_placeOf
  rw [p2]
  rfl
theorem atOk (h : Srt n U V su sl) {u d p : Nat} (hu : u ≤ 1000000000) (hd : d ≤ 1000000000) (hp : p ≤ n) : ∃ o, fX6_isAt (nI p) (nI u) (nI d) (nI n) su sl = some o ∧ ((o = 1 ∧ p < n ∧ U p * d = u * V p) ∨ (o = 0 ∧ ¬ (p < n ∧ U p * d = u * V p))) := by
  have hn := h.1
  unfold fX6_isAt
  by_cases c : n ≤ p
  · rw [if_pos (nI_le c (by omega))]
    exact ⟨0, rfl, Or.inr ⟨rfl, fun z => by omega⟩⟩
  · rw [if_neg (nI_ge (by omega) (by omega)), nI_clamp (show n < 2 ^ 31 by omega), if_pos (jok_nI (by omega) (by omega)), nI_clamp (show p < 2 ^ 31 by omega)]
    obtain ⟨m1, m2, m3, m4, m5, m6⟩ := h.2.1 p (by omega)
    obtain ⟨o, o1, o2, o3⟩ := cmpOk hu hd m4 m6
    rw [m1, m2, o1]
    simp only [Option.bind_some]
    by_cases z : U p * d = u * V p
    · rw [if_pos (o3.mpr z)]
      exact ⟨1, rfl, Or.inl ⟨rfl, by omega, z⟩⟩
    · rw [if_neg (fun q => z (o3.mp q))]
      exact ⟨0, rfl, Or.inr ⟨rfl, fun q => z q.2⟩⟩
/-- the rank of u by d -/
theorem findOk (h : Srt n U V su sl) {u d : Nat} (hu : u ≤ 1000000000) (hd : d ≤ 1000000000) (hd0 : 0 < d) : (∃ r, r < n ∧ U r * d = u * V r ∧ fX6_find (nI u) (nI d) (nI n) su sl = some (nI r)) ∨ ((∀ r, r < n → U r * d ≠ u * V r) ∧ fX6_find (nI u) (nI d) (nI n) su sl = some (-9)) := by
  obtain ⟨p, p1, p2, p3, p4⟩ := placeOk h hu hd hd0
  obtain ⟨o, o1, o2⟩ := atOk h hu hd p1
  unfold fX6_find
  rw [p2]
  simp only [Option.bind_some]
  rw [o1]
  simp only [Option.bind_some]
  rcases o2 with ⟨rfl, q1, q2⟩ | ⟨rfl, q⟩
  · rw [if_neg (show ¬ (1 : Int32) = 0 by decide)]
    exact Or.inl ⟨p, q1, q2, rfl⟩
  · rw [if_pos rfl]
    refine Or.inr ⟨fun r hr e => ?_, rfl⟩
    by_cases c1 : r < p
    · have := p3 r c1
      omega
    · by_cases c2 : r = p
      · rw [c2] at e hr
        exact q ⟨hr, e⟩
      · have e1 : ¬ U p * d < u * V p := p4 p (Nat.le_refl p) (by omega)
        have hs := h.2.2 p r (by omega) hr
        obtain ⟨-, -, a1, a2, a3, a4⟩ := h.2.1 p (by omega)
        obtain ⟨-, -, b1, b2, b3, b4⟩ := h.2.1 r hr
        refine e1 ?_
        have e2 : (U p * V r) * d < (U r * V p) * d := Nat.mul_lt_mul_of_pos_right hs hd0
        have e3 : (U p * d) * V r < (u * V p) * V r := by
          have t1 : (U p * V r) * d = (U p * d) * V r := by grind
          have t2 : (U r * V p) * d = (U r * d) * V p := by grind
          have t3 : (u * V r) * V p = (u * V p) * V r := by grind
          rw [e] at t2
          omega
        exact Nat.lt_of_mul_lt_mul_right e3
end PLACE
