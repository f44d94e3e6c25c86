/-! knots with wires; trees; count -/
theorem ntz : ∀ K : Fin 64, K.1 ≠ 0 → ∃ g : Fin 6, fJ6_numberOfTrailingZeros_0f7a4 (nI K.1) = some (nI g.1) ∧ K.1.testBit g.1 = true := by decide +kernel
theorem bcn : ∀ K : Fin 64, fJ6_bitCount_0f7a4 (nI K.1) = some (nI (pcn K.1 6)) := by decide +kernel
theorem testBit0 : ∀ k : Fin 6, Nat.testBit 0 k.1 = false := by decide
section TREES
variable {N : Nat} {A B : Nat → Nat} {first second w1 w2 : Nat → Int32} {flows : Nat → Int64}
/-- the knots that have wires -/
def kww (A B : Nat → Nat) : Nat → Nat
  | 0 => 0
  | w + 1 => kww A B w ||| ends (A w) (B w)
theorem kww_lt (hN : Net N A B) : ∀ w, w ≤ N → kww A B w < 64
  | 0, _ => show 0 < 64 by decide
  | w + 1, h => (ends_n ⟨_, kww_lt hN w (by omega)⟩ ⟨_, (hN.2 w (by omega)).1⟩ ⟨_, (hN.2 w (by omega)).2.1⟩).2.2.2
theorem kww_t (hN : Net N A B) {k : Nat} (hk : k < 6) : ∀ w, w ≤ N → ((kww A B w).testBit k = true ↔ ∃ v, v < w ∧ (k = A v ∨ k = B v))
  | 0, _ => by
    constructor
    · intro z
      have := testBit0 ⟨k, hk⟩
      have z : Nat.testBit 0 k = true := z
      rw [this] at z
      exact absurd z (by decide)
    · rintro ⟨v, hv, -⟩
      omega
  | w + 1, h => by
    have hab := hN.2 w (by omega)
    show (kww A B w ||| ends (A w) (B w)).testBit k = true ↔ _
    rw [ends_or hab.1 hab.2.1 hk, kww_t hN hk w (by omega)]
    constructor
    · rintro (⟨v, h1, h2⟩ | h2)
      · exact ⟨v, by omega, h2⟩
      · exact ⟨w, by omega, h2⟩
    · rintro ⟨v, h1, h2⟩
      by_cases e : v = w
      · subst e
        exact Or.inr h2
      · exact Or.inl ⟨v, by omega, h2⟩
theorem kw4 (hN : Net N A B) (h1 : ∀ w, w < N → w1 w = nI (A w) ∧ w2 w = nI (B w)) : ∀ (r w : Nat), w + r = N → ∀ fuel, r < fuel → LX3_knotsWithWires_4 (nI N) w1 w2 fuel (nI (kww A B w)) (nI w) = some (nI (kww A B N)) := by
  have hN12 := hN.1
  intro r
  induction r with
  | zero =>
    intro w hw fuel hf
    obtain ⟨f, rfl⟩ : ∃ f, fuel = f + 1 := ⟨fuel - 1, by omega⟩
    obtain rfl : w = N := by omega
    unfold LX3_knotsWithWires_4
    rw [if_pos (nI_le (by omega) (by omega))]
  | succ r ih =>
    intro w hw fuel hf
    obtain ⟨f, rfl⟩ : ∃ f, fuel = f + 1 := ⟨fuel - 1, by omega⟩
    have hab := hN.2 w (by omega)
    obtain ⟨e1, -, e3, -⟩ := ends_n ⟨kww A B w, kww_lt hN w (by omega)⟩ ⟨A w, hab.1⟩ ⟨B w, hab.2.1⟩
    have e1 : ((1 : Int32) <<< (nI (A w) &&& 31)) ||| ((1 : Int32) <<< (nI (B w) &&& 31)) = nI (ends (A w) (B w)) := e1
    have e3 : nI (kww A B w) ||| nI (ends (A w) (B w)) = nI (kww A B w ||| ends (A w) (B w)) := e3
    unfold LX3_knotsWithWires_4
    rw [if_neg (nI_ge (by omega) (by omega)), nI_clamp (show N < 2 ^ 31 by omega), if_pos (jok_nI (by omega) (by omega)), nI_clamp (show w < 2 ^ 31 by omega), (h1 w (by omega)).1, (h1 w (by omega)).2]
    simp only [jlet]
    rw [e1, e3, ← nI_succ]
    exact ih (w + 1) (by omega) f (by omega)
theorem kwwOk (hN : Net N A B) (h1 : ∀ w, w < N → w1 w = nI (A w) ∧ w2 w = nI (B w)) : fX3_knotsWithWires (nI N) w1 w2 = some (nI (kww A B N)) := by
  have hN12 := hN.1
  have h := kw4 hN h1 N 0 (by omega) 5000 (by omega)
  have h : LX3_knotsWithWires_4 (nI N) w1 w2 5000 (0 : Int32) (0 : Int32) = some (nI (kww A B N)) := h
  unfold fX3_knotsWithWires
  rw [h]
  rfl
theorem hw4 (hN : Net N A B) (h1 : ∀ w, w < N → first w = nI (A w) ∧ second w = nI (B w)) {k : Nat} (hk : k < 6) : ∀ (r w : Nat), w + r = N → ∀ fuel, r < fuel → LX10_hasWire_4 (nI N) first second (nI k) fuel (if (kww A B w).testBit k = true then 1 else 0) (nI w) = some (if (kww A B N).testBit k = true then 1 else 0) := by
  have hN12 := hN.1
  intro r
  induction r with
  | zero =>
    intro w hw fuel hf
    obtain ⟨f, rfl⟩ : ∃ f, fuel = f + 1 := ⟨fuel - 1, by omega⟩
    obtain rfl : w = N := by omega
    unfold LX10_hasWire_4
    rw [if_pos (nI_le (by omega) (by omega))]
  | succ r ih =>
    intro w hw fuel hf
    obtain ⟨f, rfl⟩ : ∃ f, fuel = f + 1 := ⟨fuel - 1, by omega⟩
    have hab := hN.2 w (by omega)
    unfold LX10_hasWire_4
    rw [if_neg (nI_ge (by omega) (by omega)), if_pos (jok_nI (by omega) (by omega)), nI_clamp (show w < 2 ^ 31 by omega), (h1 w (by omega)).1, (h1 w (by omega)).2]
    simp only [jlet]
    rw [← nI_succ]
    have e : ((if (kww A B w).testBit k = true then (1 : Int32) else 0) ||| (if nI (A w) = nI k then 1 else if nI (B w) = nI k then 1 else 0)) = if (kww A B (w + 1)).testBit k = true then 1 else 0 := by
      have ho : ((kww A B (w + 1)).testBit k = true) ↔ ((kww A B w).testBit k = true ∨ k = A w ∨ k = B w) := ends_or hab.1 hab.2.1 hk
      by_cases c1 : A w = k
      · rw [if_pos (show nI (A w) = nI k by rw [c1]), if_pos (ho.mpr (Or.inr (Or.inl c1.symm)))]
        split <;> decide
      · rw [if_neg (show ¬ nI (A w) = nI k from fun z => c1 ((nI_inj (by omega) (by omega)).mp z))]
        by_cases c2 : B w = k
        · rw [if_pos (show nI (B w) = nI k by rw [c2]), if_pos (ho.mpr (Or.inr (Or.inr c2.symm)))]
          split <;> decide
        · rw [if_neg (show ¬ nI (B w) = nI k from fun z => c2 ((nI_inj (by omega) (by omega)).mp z))]
          by_cases c3 : (kww A B w).testBit k = true
          · rw [if_pos c3, if_pos (ho.mpr (Or.inl c3))]
            decide
          · rw [if_neg c3, if_neg (fun z => by
              rcases ho.mp z with q | q | q
              · exact c3 q
              · exact c1 q.symm
              · exact c2 q.symm)]
            decide
    rw [e]
    exact ih (w + 1) (by omega) f (by omega)
theorem hasRef (hN : Net N A B) (h1 : ∀ w, w < N → first w = nI (A w) ∧ second w = nI (B w)) {k : Nat} (hk : k < 6) : fX10_hasWire (nI k) (nI N) first second = some (if (kww A B N).testBit k = true then 1 else 0) := by
  have hN12 := hN.1
  have h := hw4 hN h1 hk N 0 (by omega) 5000 (by omega)
  have e0 : (kww A B 0).testBit k = false := testBit0 ⟨k, hk⟩
  rw [e0] at h
  have h : LX10_hasWire_4 (nI N) first second (nI k) 5000 (0 : Int32) (0 : Int32) = some (if (kww A B N).testBit k = true then 1 else 0) := h
  unfold fX10_hasWire
  rw [h]
  simp only [Option.bind_some]
  rw [if_pos]
  split <;> decide
theorem kn4 (hN : Net N A B) (h1 : ∀ w, w < N → first w = nI (A w) ∧ second w = nI (B w)) : ∀ (r k : Nat), k + r = 6 → ∀ fuel, r < fuel → LX10_knots_4 (nI N) first second fuel (nI (pcn (kww A B N) k)) (nI k) = some (nI (pcn (kww A B N) 6)) := by
  intro r
  induction r with
  | zero =>
    intro k hk fuel hf
    obtain ⟨f, rfl⟩ : ∃ f, fuel = f + 1 := ⟨fuel - 1, by omega⟩
    obtain rfl : k = 6 := by omega
    unfold LX10_knots_4
    rw [if_pos (by decide)]
  | succ r ih =>
    intro k hk fuel hf
    obtain ⟨f, rfl⟩ : ∃ f, fuel = f + 1 := ⟨fuel - 1, by omega⟩
    have h := ih (k + 1) (by omega) f (by omega)
    have e : pcn (kww A B N) (k + 1) = pcn (kww A B N) k + (if (kww A B N).testBit k = true then 1 else 0) := rfl
    rw [e] at h
    unfold LX10_knots_4
    rw [if_neg (show ¬ (6 : Int32) ≤ nI k from nI_ge (b := 6) (by omega) (by omega)), hasRef hN h1 (by omega)]
    simp only [Option.bind_some, jlet]
    rw [← nI_succ]
    by_cases c : (kww A B N).testBit k = true
    · rw [if_pos c] at h
      rw [if_pos c, if_neg (show ¬ (1 : Int32) = 0 by decide), ← nI_succ]
      exact h
    · rw [if_neg c] at h
      rw [if_neg c, if_pos rfl, Int32.add_zero]
      exact h
theorem knotsRef (hN : Net N A B) (h1 : ∀ w, w < N → first w = nI (A w) ∧ second w = nI (B w)) : fX10_knots (nI N) first second = some (nI (pcn (kww A B N) 6)) := by
  have h := kn4 hN h1 6 0 rfl 5000 (by omega)
  have h : LX10_knots_4 (nI N) first second 5000 (0 : Int32) (0 : Int32) = some (nI (pcn (kww A B N) 6)) := h
  unfold fX10_knots
  rw [h]
  rfl
/-- count: both answer the same -/
theorem count_same (hN : Net N A B) (h1 : ∀ w, w < N → w1 w = nI (A w) ∧ w2 w = nI (B w)) (h2 : ∀ w, w < N → first w = nI (A w) ∧ second w = nI (B w)) (a1 ss : Int32) : ∃ r, fX9_count a1 (nI N) w1 w2 ss = some r ∧ fX10_count a1 (nI N) first second ss = some (r, 0) := by
  unfold fX9_count fX10_count fX3_size fX7_size
  by_cases c0 : a1 = 0
  · rw [if_pos c0, if_pos c0]
    exact ⟨_, rfl, rfl⟩
  · rw [if_neg c0, if_neg c0]
    by_cases c1 : a1 = 1
    · rw [if_pos c1, if_pos c1]
      exact ⟨_, rfl, rfl⟩
    · rw [if_neg c1, if_neg c1]
      by_cases c2 : a1 = 2
      · rw [if_pos c2, if_pos c2, kwwOk hN h1, knotsRef hN h2]
        simp only [Option.bind_some]
        rw [bcn ⟨kww A B N, kww_lt hN N (Nat.le_refl N)⟩]
        exact ⟨_, rfl, rfl⟩
      · rw [if_neg c2, if_neg c2]
        exact ⟨_, rfl, rfl⟩
theorem kww_ok (hN : Net N A B) {g : Nat} (hg : g < 6) (h : (kww A B N).testBit g = true) : Kok N (kww A B N) g A B := ⟨kww_lt hN N (Nat.le_refl N), hg, h, fun w hw => ⟨fun _ => (kww_t hN (hN.2 w hw).2.1 N (Nat.le_refl N)).mpr ⟨w, hw, Or.inr rfl⟩, fun _ => (kww_t hN (hN.2 w hw).1 N (Nat.le_refl N)).mpr ⟨w, hw, Or.inl rfl⟩⟩⟩
theorem kin_all (hN : Net N A B) {s : Nat} : ∀ (r w : Nat), w + r = N → kin (kww A B N) A r w s = true
  | 0, _, _ => rfl
  | r + 1, w, h => by
    rw [kin_s, kin_all hN r (w + 1) (by omega), (kww_t hN (hN.2 w (by omega)).1 N (Nat.le_refl N)).mpr ⟨w, by omega, Or.inl rfl⟩, Bool.or_true]
    rfl
theorem kwgt_one {s : Nat} : ∀ (r w : Nat), kwgt (fun _ => 1) r w s = 1
  | 0, _ => rfl
  | r + 1, w => by
    rw [kwgt_s, kwgt_one r (w + 1)]
    split <;> rfl
abbrev Zi (x : Int) : Int32 := Int32.ofInt x
theorem trLoop (hN : Net N A B) (h1 : ∀ w, w < N → first w = nI (A w) ∧ second w = nI (B w)) {g n : Nat} (hg : g < 6) (h : (kww A B N).testBit g = true) (hn : n = pcn (msk (kww A B N) g) 6) :
    ∀ (r s : Nat) (G : Nat → Int32), s + r = 2 ^ N → ∀ fuel, r < fuel → ∃ G', LX10_trees_25 (nI N) first second (nI (pcn (kww A B N) 6)) fuel (Zi (sumT (twS (wl (msk (kww A B N) g) A B (fun _ => 1) N) (PS (sn n)) n) s)) (nI s) G = some (Zi (sumT (twS (wl (msk (kww A B N) g) A B (fun _ => 1) N) (PS (sn n)) n) (2 ^ N)), G') := by
  have hN12 := hN.1
  have hK := kww_ok hN hg h
  have h5 := msk5 hK
  subst hn
  have hp := pow12 ⟨N, by omega⟩
  have hp : 2 ^ N ≤ 4096 := hp
  have e1 : nI (pcn (kww A B N) 6) - (1 : Int32) = nI (pcn (msk (kww A B N) g) 6) := by
    rw [← h5.2, nI_succ]
    exact Int32.add_sub_cancel _ _
  intro r
  induction r with
  | zero =>
    intro s G hs fuel hf
    obtain ⟨f, rfl⟩ : ∃ f, fuel = f + 1 := ⟨fuel - 1, by omega⟩
    obtain rfl : s = 2 ^ N := by omega
    refine ⟨G, ?_⟩
    unfold LX10_trees_25
    rw [if_pos]
    rw [show (1 : Int32) <<< (nI N &&& 31) = nI (2 ^ N) from (ones ⟨N, by omega⟩).2.2.1]
    exact nI_le (Nat.le_refl _) (by omega)
  | succ r ih =>
    intro s G hs fuel hf
    obtain ⟨f, rfl⟩ : ∃ f, fuel = f + 1 := ⟨fuel - 1, by omega⟩
    have hs4 : s < 4096 := by omega
    have tk := tw_k (c := fun _ => 1) hN hK (pcn (msk (kww A B N) g) 6) s
    rw [kin_all hN N 0 (by omega), kwgt_one] at tk
    have bnd : cntS N s ≤ 12 := by
      rw [← kcnt_12 hN12 (show s < 2 ^ N by omega)]
      exact kcnt_le s 12
    obtain ⟨G1, j1, -⟩ := joinsOk hN h1 hs4 G
    have zs : ∀ v u : Int, Zi v + Zi u = Zi (v + u) := fun v u => (Int32.ofInt_add v u).symm
    unfold LX10_trees_25
    rw [if_neg (show ¬ ((1 : Int32) <<< (nI N &&& 31)) ≤ nI s by
      rw [show (1 : Int32) <<< (nI N &&& 31) = nI (2 ^ N) from (ones ⟨N, by omega⟩).2.2.1]
      exact nI_ge (by omega) (by omega)), if_neg (show ¬ nI (pcn (kww A B N) 6) ≤ 0 from nI_ge (a := 0) (by omega) (by omega)), bitsRef hs4, kcnt_12 hN12 (show s < 2 ^ N by omega)]
    simp only [Option.bind_some, jlet]
    rw [e1, j1, ← nI_succ]
    simp only [Option.bind_some]
    by_cases c1 : cntS N s = pcn (msk (kww A B N) g) 6
    · rw [if_pos (by rw [c1])]
      by_cases c3 : kopn A B N 0 id s = true
      · rw [if_pos c3, if_neg (show ¬ (1 : Int32) = 0 by decide)]
        rw [if_pos ⟨c1, rfl, c3⟩] at tk
        simp only [Option.bind_some]
        obtain ⟨G', q⟩ := ih (s + 1) G1 (by omega) f (by omega)
        refine ⟨G', ?_⟩
        rw [sumT_s, tk, ← zs] at q
        exact q
      · rw [if_neg c3, if_pos rfl]
        rw [if_neg (fun z => c3 z.2.2)] at tk
        simp only [Option.bind_some]
        obtain ⟨G', q⟩ := ih (s + 1) G1 (by omega) f (by omega)
        refine ⟨G', ?_⟩
        rw [sumT_s, tk, ← zs] at q
        exact q
    · rw [if_neg (fun z => c1 ((nI_inj (by omega) (by omega)).mp z))]
      rw [if_neg (fun z => c1 z.1)] at tk
      simp only [Option.bind_some]
      obtain ⟨G', q⟩ := ih (s + 1) G (by omega) f (by omega)
      refine ⟨G', ?_⟩
      rw [sumT_s, tk, ← zs] at q
      exact q
/-- trees: both answer the same -/
theorem trees_same (hN : Net N A B) (h1 : ∀ w, w < N → w1 w = nI (A w) ∧ w2 w = nI (B w)) (h2 : ∀ w, w < N → first w = nI (A w) ∧ second w = nI (B w)) (M : Nat → Nat → Int64) (lo G : Nat → Int32) (lc : Int32) : ∃ (r : Int32) (M' : Nat → Nat → Int64) (lo' : Nat → Int32) (lc' : Int32) (G' : Nat → Int32), fX9_trees (nI N) w1 w2 flows M lo lc = some (r, M', lo', lc') ∧ fX10_trees (nI N) first second G = some (r, 0, G') := by
  have hN12 := hN.1
  have hp := pow12 ⟨N, by omega⟩
  have hp : 2 ^ N ≤ 4096 := hp
  have hlt := kww_lt hN N (Nat.le_refl N)
  unfold fX9_trees fX3_countTrees fX10_trees
  rw [kwwOk hN h1, knotsRef hN h2]
  simp only [Option.bind_some, jlet]
  by_cases z : kww A B N = 0
  · have hN0 : N = 0 := by
      by_cases q : N = 0
      · exact q
      · have := (kww_t hN (hN.2 0 (by omega)).1 N (Nat.le_refl N)).mpr ⟨0, by omega, Or.inl rfl⟩
        rw [z] at this
        have t0 := testBit0 ⟨A 0, (hN.2 0 (by omega)).1⟩
        have t0 : Nat.testBit 0 (A 0) = false := t0
        rw [t0] at this
        exact absurd this (by decide)
    subst hN0
    have t0 : LX10_trees_25 (nI 0) first second (nI (pcn 0 6)) 5000 (if nI 0 = 0 then (1 : Int32) else 0) (0 : Int32) G = some (1, G) := by
      unfold LX10_trees_25
      rw [if_neg (show ¬ ((1 : Int32) <<< (nI 0 &&& 31)) ≤ 0 by decide), if_pos (show nI (pcn 0 6) ≤ 0 by decide), if_pos (show nI 0 = 0 by decide)]
    refine ⟨1, M, lo, lc, G, rfl, ?_⟩
    rw [z, t0]
    rfl
  · obtain ⟨g, g1, g2⟩ := ntz ⟨kww A B N, hlt⟩ z
    have g1 : fJ6_numberOfTrailingZeros_0f7a4 (nI (kww A B N)) = some (nI g.1) := g1
    have g2 : (kww A B N).testBit g.1 = true := g2
    have hg := g.2
    have hK := kww_ok hN hg g2
    have h5 := msk5 hK
    have hN0 : ¬ nI N = 0 := nI_ne0 (by
      by_cases q : N = 0
      · subst q
        exact absurd rfl z
      · omega) (by omega)
    rw [if_neg (nI_ne0 (by omega) (by omega)), g1, if_neg hN0]
    simp only [Option.bind_some]
    obtain ⟨M1, lo', e1, e2, e3, -⟩ := layAll (c := fun _ => 1) (a3 := 1) (flows := flows) hlt hg hN h1 (fun w _ => by rw [if_neg (by decide)]; rfl) M lo
    rw [e1]
    simp only [Option.bind_some]
    have hw := wl_ok (b := msk (kww A B N) g.1) (c := fun _ => 1) h5.1 hN
    have hc' := wl_c (b := msk (kww A B N) g.1) (A := A) (B := B) (c := fun _ => 1) (N := N) (fun _ _ => ⟨by decide, by decide⟩)
    have hcw : Wc (wl (msk (kww A B N) g.1) A B (fun _ => 1) N) := fun q hq => ⟨Int.le_of_lt (hc' q hq).1, (hc' q hq).2⟩
    have hl : (wl (msk (kww A B N) g.1) A B (fun _ => 1) N).length ≤ 12 := by rw [wl_len]; exact hN12
    have hM : Hold (wl (msk (kww A B N) g.1) A B (fun _ => 1) N) (pcn (msk (kww A B N) g.1) 6) (fun _ => 0) 0 M1 := hold0 h5.1 e2 (fun i hi => e3 i hi)
    have hel : ∃ M', fX3_eliminate M1 (nI (pcn (msk (kww A B N) g.1) 6)) = some (Zl (Gf (wl (msk (kww A B N) g.1) A B (fun _ => 1) N) (PS (sn (pcn (msk (kww A B N) g.1) 6))) (pcn (msk (kww A B N) g.1) 6)), M') := by
      have b := Gf_bd _ hcw (PS (sn (pcn (msk (kww A B N) g.1) 6))) (pcn (msk (kww A B N) g.1) 6)
      by_cases hpos : 0 < Gf (wl (msk (kww A B N) g.1) A B (fun _ => 1) N) (PS (sn (pcn (msk (kww A B N) g.1) 6))) (pcn (msk (kww A B N) g.1) 6)
      · obtain ⟨M', f1, -⟩ := elim_ok hw hcw hl h5.1 (Uok_zero h5.1) (fun k hk => Lk_ne hw hc' h5.1 hpos hk) hM
        rw [show Lk (wl (msk (kww A B N) g.1) A B (fun _ => 1) N) (pcn (msk (kww A B N) g.1) 6) (pcn (msk (kww A B N) g.1) 6) = _ from Bk_last hw h5.1 (Nat.le_refl _)] at f1
        exact ⟨M', f1⟩
      · have e0 : Gf (wl (msk (kww A B N) g.1) A B (fun _ => 1) N) (PS (sn (pcn (msk (kww A B N) g.1) 6))) (pcn (msk (kww A B N) g.1) 6) = 0 := by omega
        obtain ⟨M', f1⟩ := elim_zero hw hcw hl h5.1 (Uok_zero h5.1) ⟨_, Nat.le_refl _, (Bk_last hw h5.1 (Nat.le_refl _)).trans e0⟩ hM
        rw [e0]
        exact ⟨M', f1⟩
    obtain ⟨M2, f1⟩ := hel
    rw [f1]
    simp only [Option.bind_some]
    obtain ⟨G', t1⟩ := trLoop hN h2 hg g2 rfl (2 ^ N) 0 G (by omega) 5000 (by omega)
    rw [← Gf_sumN] at t1
    have t1 : LX10_trees_25 (nI N) first second (nI (pcn (kww A B N) 6)) 5000 (0 : Int32) (0 : Int32) G = some (Zi (Gf (wl (msk (kww A B N) g.1) A B (fun _ => 1) N) (PS (sn (pcn (msk (kww A B N) g.1) 6))) (pcn (msk (kww A B N) g.1) 6)), G') := t1
    rw [t1]
    simp only [Option.bind_some]
    rw [Int64.toInt32_ofInt]
    exact ⟨_, _, _, _, _, rfl, rfl⟩
end TREES
