/-! through: both answer the same -/
theorem wire_c (a1 : Int32) {N : Nat} (hN : N ≤ 12) : (¬ jok a1 N ∧ fX10_isWire a1 (nI N) = some 0) ∨ ∃ v, v < N ∧ a1 = nI v ∧ fX10_isWire a1 (nI N) = some 1 := by
  unfold fX10_isWire
  cases N with
  | zero =>
    refine Or.inl ⟨fun h => Nat.not_lt_zero _ h.2, ?_⟩
    rw [show nI 0 - (1 : Int32) = -1 by decide]
    unfold fX10_in
    by_cases c : a1 < 0
    · rw [if_pos c]; rfl
    · rw [if_neg c, if_pos]
      · rfl
      · rw [Int32.lt_iff_toInt_lt] at c ⊢
        have e1 : (0 : Int32).toInt = 0 := rfl
        have e2 : (-1 : Int32).toInt = -1 := by decide
        omega
  | succ n =>
    have e : nI (n + 1) - (1 : Int32) = nI n := by
      rw [nI_succ]
      exact Int32.add_sub_cancel _ _
    rw [e]
    have h := within_c a1 0 n (by omega) (by decide)
    rcases h with ⟨-, h2⟩ | ⟨k, -, hk, ek, -, h2⟩
    · have h2 : fX10_in a1 0 (nI n) = some 0 := h2
      rw [h2]
      refine Or.inl ⟨fun h => ?_, rfl⟩
      have h0 : ¬ a1 < 0 := fun z => by
        have := h.1
        rw [Int32.le_iff_toInt_le] at this
        rw [Int32.lt_iff_toInt_lt] at z
        omega
      obtain ⟨k, rfl, hk⟩ := jnI_of h0
      have hl := (nI k).toInt_lt
      have hlt : k < n + 1 := by
        have := h.2
        rwa [nI_clamp (by omega)] at this
      unfold fX10_in at h2
      rw [if_neg h0, if_neg (nI_nlt (by omega) (by omega))] at h2
      exact absurd h2 (by decide)
    · have h2 : fX10_in a1 0 (nI n) = some 1 := h2
      rw [h2]
      exact Or.inr ⟨k, by omega, ek, rfl⟩
theorem two_c (a2 a3 : Int32) : (fX9_areTwoKnots a2 a3 = some 0 ∧ (fX10_isKnot a2 = some 0 ∨ (fX10_isKnot a2 = some 1 ∧ fX10_isKnot a3 = some 0) ∨ (fX10_isKnot a2 = some 1 ∧ fX10_isKnot a3 = some 1 ∧ a2 = a3))) ∨ ∃ a b, a < 6 ∧ b < 6 ∧ a ≠ b ∧ a2 = nI a ∧ a3 = nI b ∧ fX9_areTwoKnots a2 a3 = some 1 ∧ fX10_isKnot a2 = some 1 ∧ fX10_isKnot a3 = some 1 := by
  unfold fX9_areTwoKnots
  rcases knot_c a2 with ⟨q1, q2⟩ | ⟨a, ha, ea, q1, q2⟩
  · rw [q1]
    exact Or.inl ⟨rfl, Or.inl q2⟩
  · rw [q1]
    simp only [Option.bind_some]
    rw [if_neg (show ¬ (1 : Int32) = 0 by decide)]
    rcases knot_c a3 with ⟨q3, q4⟩ | ⟨b, hb, eb, q3, q4⟩
    · rw [q3]
      exact Or.inl ⟨rfl, Or.inr (Or.inl ⟨q2, q4⟩)⟩
    · rw [q3]
      simp only [Option.bind_some]
      rw [if_neg (show ¬ (1 : Int32) = 0 by decide)]
      by_cases e : a2 = a3
      · rw [if_pos e]
        exact Or.inl ⟨rfl, Or.inr (Or.inr ⟨q2, q4, e⟩)⟩
      · rw [if_neg e]
        exact Or.inr ⟨a, b, ha, hb, fun z => e (by rw [ea, eb, z]), ea, eb, rfl, q2, q4⟩
section THROUGH2
variable {N : Nat} {A B : Nat → Nat} {T U : Nat → Nat} {first second times byy w1 w2 : Nat → Int32} {flows : Nat → Int64}
theorem thBig (hN : Net N A B) (hT : Wts N T U times byy) {a b : Nat} (ha : a < 6) (hb : b < 6) (hab : a ≠ b) (hR : (rch N A B a).testBit b = true) {x : Nat} (hx : x < 6) (M' : Nat → Nat → Int64) (lo' : Nat → Int32) (s2 : ∀ k, k < 6 → lo' k = lnI (lab (msk (rch N A B a) b) k)) (s3 : ∀ i, i < pcn (msk (rch N A B a) b) 6 → M' i (pcn (msk (rch N A B a) b) 6) = Zl (det5 (repc (An (wl (msk (rch N A B a) b) A B (cf T U) N) (pcn (msk (rch N A B a) b) 6)) i (una (lab (msk (rch N A B a) b) a))))) :
    fX3_numberOf (nI x) M' lo' (nI (pcn (msk (rch N A B a) b) 6)) = some (Zl (sumT (hS (wl (msk (rch N A B a) b) A B (cf T U) N) (pcn (msk (rch N A B a) b) 6) (lab (msk (rch N A B a) b) a) (lab (msk (rch N A B a) b) x)) (2 ^ N))) ∧ small (sumT (hS (wl (msk (rch N A B a) b) A B (cf T U) N) (pcn (msk (rch N A B a) b) 6) (lab (msk (rch N A B a) b) a) (lab (msk (rch N A B a) b) x)) (2 ^ N)) 201804742656 := by
  have hN12 := hN.1
  have hK := Kok_rch hN ha hb hR
  have h5 := msk5 hK
  have hla := lab_lt hK ha (rch_self hN ha) hab
  have hw := wl_ok (b := msk (rch N A B a) b) (c := cf T U) h5.1 hN
  have hc' := wl_c (b := msk (rch N A B a) b) (A := A) (B := B) (cf_bd hT)
  have hcw : Wc (wl (msk (rch N A B a) b) A B (cf T U) N) := fun q hq => ⟨Int.le_of_lt (hc' q hq).1, (hc' q hq).2⟩
  have hl : (wl (msk (rch N A B a) b) A B (cf T U) N).length ≤ 12 := by rw [wl_len]; exact hN12
  unfold fX3_numberOf
  simp only [jlet]
  rw [if_pos (jok_nI hx (by omega)), nI_clamp (show x < 2 ^ 31 by omega), s2 x hx]
  rcases lab_cases (b := msk (rch N A B a) b) hx with q | q
  · have e := cof_sum hw h5.1 (by omega) q hla
    rw [wl_len] at e
    rw [lnI_lt (by omega), if_pos (nI_pos' (by omega)), if_pos (jok_nI (by omega) (by omega)), if_pos (jok_nI (by omega) (by omega)), nI_clamp (show lab (msk (rch N A B a) b) x < 2 ^ 31 by omega), nI_clamp (show pcn (msk (rch N A B a) b) 6 < 2 ^ 31 by omega), s3 _ q, e]
    refine ⟨rfl, ?_⟩
    rw [← e]
    have bd := cof_bd (ws := wl (msk (rch N A B a) b) A B (cf T U) N) (PS_rt (sn_ok h5.1)) hw hcw (show lab (msk (rch N A B a) b) x < 5 by omega) (PS_in (sn_in q)) (show lab (msk (rch N A B a) b) a < 5 by omega) (PS_in (sn_in hla))
    rw [liv_sn h5.1] at bd
    have m2 := eb_mono hl (pcn (msk (rch N A B a) b) 6 - 1)
    have m4 : eb 12 (pcn (msk (rch N A B a) b) 6 - 1) ≤ eb 12 5 := eb_12 (by omega) (Nat.le_refl 5)
    have m5 : eb 12 5 = 201804742656 := by decide +kernel
    have bd : -eb (wl (msk (rch N A B a) b) A B (cf T U) N).length (pcn (msk (rch N A B a) b) 6 - 1) ≤ det5 (repc (An (wl (msk (rch N A B a) b) A B (cf T U) N) (pcn (msk (rch N A B a) b) 6)) (lab (msk (rch N A B a) b) x) (una (lab (msk (rch N A B a) b) a))) ∧ det5 (repc (An (wl (msk (rch N A B a) b) A B (cf T U) N) (pcn (msk (rch N A B a) b) 6)) (lab (msk (rch N A B a) b) x) (una (lab (msk (rch N A B a) b) a))) ≤ eb (wl (msk (rch N A B a) b) A B (cf T U) N).length (pcn (msk (rch N A B a) b) 6 - 1) := bd
    constructor <;> omega
  · rw [q, if_neg (show ¬ (0 : Int32) ≤ lnI 5 by decide)]
    have e : sumT (hS (wl (msk (rch N A B a) b) A B (cf T U) N) (pcn (msk (rch N A B a) b) 6) (lab (msk (rch N A B a) b) a) 5) (2 ^ N) = 0 := by
      rw [← sumT_zero (2 ^ N)]
      exact sumT_congr (fun s _ => hS_gd _ s)
    rw [e]
    exact ⟨rfl, by decide, by decide⟩
theorem through_same (hS : Same N A B T U w1 w2 flows first second times byy) (a1 a2 a3 a4 lc : Int32) (M : Nat → Nat → Int64) (lo G W : Nat → Int32) (au al ab bl : Int64) : ∃ (r : Int64) (M' : Nat → Nat → Int64) (lo' : Nat → Int32) (lc' : Int32) (au' al' : Int64) (G' W' : Nat → Int32) (ab' bl' : Int64), fX9_through a1 a2 a3 a4 (nI N) w1 w2 flows M lo lc au al = some (r, M', lo', lc', au', al') ∧ fX10_through a1 a2 a3 a4 (nI N) first second times byy G W ab bl = some (r, 0, G', W', ab', bl') := by
  obtain ⟨hN, h1, hf, h2, hT⟩ := hS
  have hN12 := hN.1
  unfold fX9_through fX10_through
  rw [nI_clamp (show N < 2 ^ 31 by omega)]
  rcases wire_c a1 hN12 with ⟨q1, q2⟩ | ⟨v, hv, rfl, q2⟩
  · rw [if_neg q1, q2]
    exact ⟨_, _, _, _, _, _, _, _, _, _, rfl, rfl⟩
  · rw [if_pos (jok_nI hv (by omega)), q2]
    simp only [Option.bind_some]
    rw [if_neg (show ¬ (1 : Int32) = 0 by decide)]
    rcases two_c a2 a3 with ⟨q3, q4⟩ | ⟨a, b, ha, hb, hab, rfl, rfl, q3, q4, q5⟩
    · rw [q3]
      rcases q4 with q4 | ⟨q4, q5⟩ | ⟨q4, q5, q6⟩
      · rw [q4]
        exact ⟨_, _, _, _, _, _, _, _, _, _, rfl, rfl⟩
      · rw [q4, q5]
        exact ⟨_, _, _, _, _, _, _, _, _, _, rfl, rfl⟩
      · rw [q4, q5]
        simp only [Option.bind_some]
        rw [if_neg (show ¬ (1 : Int32) = 0 by decide), if_pos q6]
        exact ⟨_, _, _, _, _, _, _, _, _, _, rfl, rfl⟩
    · rw [q3, q4, q5]
      simp only [Option.bind_some]
      have hne : ¬ nI a = nI b := fun z => hab ((nI_inj (by omega) (by omega)).mp z)
      rw [if_neg (show ¬ (1 : Int32) = 0 by decide), if_neg (show ¬ (1 : Int32) = 0 by decide), if_neg (show ¬ (1 : Int32) = 0 by decide), if_neg hne]
      have hp := within_c a4 0 1 (by decide) (by decide)
      have hp : (fX9_isWithin a4 0 1 = some 0 ∧ fX10_in a4 0 1 = some 0) ∨ ∃ k, 0 ≤ k ∧ k ≤ 1 ∧ a4 = nI k ∧ fX9_isWithin a4 0 1 = some 1 ∧ fX10_in a4 0 1 = some 1 := hp
      rcases hp with ⟨q5, q6⟩ | ⟨k, -, hk, e4, q5, q6⟩
      · rw [q5, q6]
        exact ⟨_, _, _, _, _, _, _, _, _, _, rfl, rfl⟩
      · rw [q5, q6]
        simp only [Option.bind_some]
        rw [if_neg (show ¬ (1 : Int32) = 0 by decide), if_neg (show ¬ (1 : Int32) = 0 by decide), hangOk hN h1 ha hb]
        simp only [Option.bind_some]
        have ha4 := part_c e4 hk
        obtain ⟨G1, W1, g1, g2⟩ := hangRef hN h2 ha hb G W
        rw [g1]
        simp only [Option.bind_some]
        by_cases hR : (rch N A B a).testBit b = true
        · rw [if_pos hR, if_neg (show ¬ (1 : Int32) = 0 by decide), if_neg (show ¬ (1 : Int32) = 0 by decide), sizeRef hN g2 ha]
          simp only [Option.bind_some]
          have hK := Kok_rch hN ha hb hR
          have h5 := msk5 hK
          obtain ⟨t, p, t0, t1, p1, et, ep⟩ := btBig hN hT ha hb hab hR
          have hp12 := pow12 ⟨N, by omega⟩
          have hp12 : 2 ^ N ≤ 4096 := hp12
          obtain ⟨G2, l1⟩ := thLoop hN h2 hT g2 ha hb hv hR G1 (1 : Int32) rfl (2 ^ N) 0 G1 (by omega) 5000 (by omega)
          rw [gone_sum hN hK ha (rch_self hN ha) hab hv rfl, ← Gf_sumN, et] at l1
          obtain ⟨M', lo', s1, s2, s3⟩ := solveOk (rch_lt hN ha) ha hb hab (rch_self hN ha) hN (cf_bd hT) h1 hf (reachOk hN h1 ha) (trees_pos hN (cf_bd hT) ha hb hR) M lo
          rw [et] at s1
          have hv2 := hN.2 v hv
          obtain ⟨n1, b1⟩ := thBig hN hT ha hb hab hR hv2.1 M' lo' s2 s3
          obtain ⟨n2, b2⟩ := thBig hN hT ha hb hab hR hv2.2.1 M' lo' s2 s3
          generalize sumT (hS (wl (msk (rch N A B a) b) A B (cf T U) N) (pcn (msk (rch N A B a) b) 6) (lab (msk (rch N A B a) b) a) (lab (msk (rch N A B a) b) (A v))) (2 ^ N) = X at l1 n1 b1
          generalize sumT (hS (wl (msk (rch N A B a) b) A B (cf T U) N) (pcn (msk (rch N A B a) b) 6) (lab (msk (rch N A B a) b) a) (lab (msk (rch N A B a) b) (B v))) (2 ^ N) = Y at l1 n2 b2
          have l1 : LX10_through_71 (nI N) first second times byy (nI v) (nI a) (nI b) ((1 : Int32), G1, W1) (nI (pcn (rch N A B a) 6)) 5000 (0 : Int64) (0 : Int64) (0 : Int32) G1 = some (Zl t, Zl (cf T U v * (X - Y)), G2) := l1
          rw [l1]
          simp only [Option.bind_some]
          have cb := cf_bd hT v hv
          have sm : (cf T U v * (X - Y)).natAbs < 2 ^ 63 := by
            have d1 : X - Y ≤ 403609485312 := by have := b1.2; have := b2.1; omega
            have d2 : -403609485312 ≤ X - Y := by have := b1.1; have := b2.2; omega
            have r := mul_small (a := cf T U v) (b := X - Y) (x := 48) (y := 403609485312) (Int.le_of_lt cb.1) cb.2 ⟨d2, d1⟩ (by decide) (by decide)
            have e1 : cf T U v * (X - Y) ≤ 48 * 403609485312 := Int.le_trans (Int.mul_le_mul_of_nonneg_left d1 (Int.le_of_lt cb.1)) (Int.mul_le_mul_of_nonneg_right cb.2 (by decide))
            have e2 : cf T U v * (-403609485312) ≤ cf T U v * (X - Y) := Int.mul_le_mul_of_nonneg_left d2 (Int.le_of_lt cb.1)
            omega
          rw [leastOk sm t0 t1]
          simp only [Option.bind_some]
          unfold fX3_solveThrough
          rw [s1]
          simp only [Option.bind_some, jlet]
          rw [nI_clamp (show N < 2 ^ 31 by omega), if_pos (jok_nI hv (by omega))]
          simp only [if_pos (show jok (nI v) 12 from jok_nI (by omega) (by omega))]
          rw [nI_clamp (show v < 2 ^ 31 by omega), (h1 v hv).1, (h1 v hv).2, n1]
          simp only [Option.bind_some]
          rw [n2]
          simp only [Option.bind_some]
          rw [hf v hv]
          unfold fX0_set
          simp only [Option.bind_some]
          have ez : (Zl X - Zl Y) * Zl (cf T U v) = Zl (cf T U v * (X - Y)) := by
            rw [show Zl X - Zl Y = Zl (X - Y) from (Int64.ofInt_sub X Y).symm, show Zl (X - Y) * Zl (cf T U v) = Zl ((X - Y) * cf T U v) from (Int64.ofInt_mul _ _).symm, Int.mul_comm]
          rw [ez, reduceOk sm t0 t1]
          simp only [Option.bind_some]
          unfold fX0_part
          rcases ha4 with rfl | rfl
          · exact ⟨_, _, _, _, _, _, _, _, _, _, rfl, rfl⟩
          · exact ⟨_, _, _, _, _, _, _, _, _, _, rfl, rfl⟩
        · rw [if_neg hR, if_pos rfl, if_pos rfl]
          exact ⟨_, _, _, _, _, _, _, _, _, _, rfl, rfl⟩
end THROUGH2
