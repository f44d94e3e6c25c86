/-! the lines of a set of knots without the ground; solving -/
def msk (K g : Nat) : Nat := K &&& (63 ^^^ (1 <<< g))
theorem msk_n : ∀ (K : Fin 64) (g : Fin 6), (nI K.1 &&& (((1 : Int32) <<< (nI g.1 &&& 31)) ^^^ (-1 : Int32)) = nI (msk K.1 g.1)) ∧ msk K.1 g.1 < 64 ∧ pcn (msk K.1 g.1) 6 ≤ 5 ∧ (K.1.testBit g.1 = true → pcn (msk K.1 g.1) 6 + 1 = pcn K.1 6) := by decide +kernel
theorem msk_t : ∀ (K : Fin 64) (g k : Fin 6), ((msk K.1 g.1).testBit k.1 = true) ↔ (K.1.testBit k.1 = true ∧ k ≠ g) := by decide +kernel
theorem lab_cases {b k : Nat} (hk : k < 6) : lab b k < pcn b 6 ∨ lab b k = 5 := by
  unfold lab
  by_cases c : b.testBit k = true
  · rw [if_pos c]
    exact Or.inl (pcn_lt hk c)
  · rw [if_neg c]
    exact Or.inr rfl
theorem lab_ne {b j k : Nat} (hj : j < 6) (hk : k < 6) (h6 : pcn b 6 ≤ 5) (h : j ≠ k) : lab b j ≠ lab b k ∨ lab b j = 5 := by
  unfold lab
  by_cases c1 : b.testBit j = true
  · rw [if_pos c1]
    have h1 := pcn_lt hj c1
    by_cases c2 : b.testBit k = true
    · rw [if_pos c2]
      rcases Nat.lt_or_gt_of_ne h with q | q
      · exact Or.inl (Nat.ne_of_lt (pcn_lt q c1))
      · exact Or.inl (Nat.ne_of_gt (pcn_lt q c2))
    · rw [if_neg c2]
      exact Or.inl (by omega)
  · rw [if_neg c1]
    exact Or.inr rfl
theorem lo_lab {b : Nat} {lo : Nat → Int32} (h6 : pcn b 6 ≤ 5) (h : ∀ j, j < 6 → lo j = if b.testBit j = true then nI (pcn b j) else -1) {k : Nat} (hk : k < 6) : lo k = lnI (lab b k) := by
  rw [h k hk]
  unfold lab
  by_cases c : b.testBit k = true
  · rw [if_pos c, if_pos c, lnI_lt (by have := pcn_lt hk c; omega)]
  · rw [if_neg c, if_neg c]
    rfl
/-- the wires as lines see them -/
def wl (b : Nat) (A B : Nat → Nat) (c : Nat → Int) (N : Nat) : List Wr := (List.range N).map (fun w => (lab b (A w), lab b (B w), c w))
theorem wl_succ (b : Nat) (A B : Nat → Nat) (c : Nat → Int) (N : Nat) : wl b A B c (N + 1) = wl b A B c N ++ [(lab b (A N), lab b (B N), c N)] := by
  unfold wl
  rw [List.range_succ, List.map_append]
  rfl
theorem wl_len (b : Nat) (A B : Nat → Nat) (c : Nat → Int) (N : Nat) : (wl b A B c N).length = N := by
  unfold wl
  rw [List.length_map, List.length_range]
def Net (N : Nat) (A B : Nat → Nat) : Prop := N ≤ 12 ∧ ∀ w, w < N → A w < 6 ∧ B w < 6 ∧ A w ≠ B w
theorem wl_ok {b N : Nat} {A B : Nat → Nat} {c : Nat → Int} (h6 : pcn b 6 ≤ 5) (hN : Net N A B) : Wok (wl b A B c N) := fun q hq => by
  obtain ⟨w, hw, rfl⟩ := List.mem_map.mp hq
  have h := hN.2 w (List.mem_range.mp hw)
  have h1 := lab_cases (b := b) h.1
  have h2 := lab_cases (b := b) h.2.1
  exact ⟨by show lab b (A w) ≤ 5; omega, by show lab b (B w) ≤ 5; omega⟩
theorem wl_c {b N : Nat} {A B : Nat → Nat} {c : Nat → Int} (hc : ∀ w, w < N → 0 < c w ∧ c w ≤ 48) : ∀ q, q ∈ wl b A B c N → 0 < q.2.2 ∧ q.2.2 ≤ 48 := fun q hq => by
  obtain ⟨w, hw, rfl⟩ := List.mem_map.mp hq
  exact hc w (List.mem_range.mp hw)
theorem PS_sn {n x : Nat} (h : x < n ∨ x = 5) (hn : n ≤ 5) : PS (sn n) x = x := by
  rcases h with h | h
  · exact PS_in (sn_in h)
  · rw [h]
    exact PS_out (sn_out (by omega))
theorem layWs {b N : Nat} {A B : Nat → Nat} {c : Nat → Int} {w1 w2 lo : Nat → Int32} {flows : Nat → Int64} {a3 : Int32} (h6 : pcn b 6 ≤ 5) (hN : Net N A B) (h1 : ∀ w, w < N → w1 w = nI (A w) ∧ w2 w = nI (B w)) (hf : ∀ w, w < N → (if a3 = 0 then flows w else 1) = Zl (c w)) (hlo : ∀ j, j < 6 → lo j = if b.testBit j = true then nI (pcn b j) else -1) :
    ∀ (r w : Nat) (M : Nat → Nat → Int64), w + r = N → (∀ i j, i < pcn b 6 → j < pcn b 6 → M i j = Zl (An (wl b A B c w) (pcn b 6) i j)) → (∀ i, i < pcn b 6 → M i (pcn b 6) = 0) → ∀ fuel, r < fuel → ∃ M', LX3_layLines_61 (nI N) w1 w2 flows a3 (lo, nI (pcn b 6)) fuel (nI w) M = some M' ∧ (∀ i j, i < pcn b 6 → j < pcn b 6 → M' i j = Zl (An (wl b A B c N) (pcn b 6) i j)) ∧ ∀ i, i < pcn b 6 → M' i (pcn b 6) = 0 := by
  have hN12 := hN.1
  intro r
  induction r with
  | zero =>
    intro w M hw hM h0 fuel hfu
    obtain ⟨f, rfl⟩ : ∃ f, fuel = f + 1 := ⟨fuel - 1, by omega⟩
    obtain rfl : w = N := by omega
    refine ⟨M, ?_, hM, h0⟩
    unfold LX3_layLines_61
    rw [if_pos (nI_le (by omega) (by omega))]
  | succ r ih =>
    intro w M hw hM h0 fuel hfu
    obtain ⟨f, rfl⟩ : ∃ f, fuel = f + 1 := ⟨fuel - 1, by omega⟩
    have hab := hN.2 w (by omega)
    have hfw : (if a3 = 0 then (if jok (nI w) 12 then some (flows (nI w).toNatClampNeg) else none) else some (1 : Int64)) = some (Zl (c w)) := by
      rw [← hf w (by omega), if_pos (jok_nI (by omega) (by omega)), nI_clamp (show w < 2 ^ 31 by omega)]
      split <;> rfl
    unfold LX3_layLines_61
    rw [if_neg (nI_ge (by omega) (by omega)), nI_clamp (show N < 2 ^ 31 by omega), if_pos (jok_nI (by omega) (by omega)), hfw, nI_clamp (show w < 2 ^ 31 by omega), (h1 w (by omega)).1, (h1 w (by omega)).2, if_pos (jok_nI hab.1 (by omega))]
    simp only [jlet]
    rw [if_pos (jok_nI hab.2.1 (by omega)), nI_clamp (show A w < 2 ^ 31 by omega), nI_clamp (show B w < 2 ^ 31 by omega), lo_lab h6 hlo hab.1, lo_lab h6 hlo hab.2.1]
    obtain ⟨M1, M', e1, e2, e3, e4⟩ := layW (n := pcn b 6) h6 (lab_cases hab.1) (lab_cases hab.2.1) (lab_ne hab.1 hab.2.1 h6 hab.2.2) (c w) M
    simp only [Option.bind_some]
    rw [e1]
    simp only [Option.bind_some]
    rw [e2]
    simp only [Option.bind_some]
    rw [← nI_succ]
    refine ih (w + 1) M' (by omega) (fun i j hi hj => ?_) (fun i hi => ?_) f (by omega)
    · rw [e3 i j (by omega) (by omega), hM i j hi hj, wl_succ]
      show Zl _ + Zl _ = Zl (Mx _ _ i j)
      rw [Mx_snoc]
      unfold vv
      simp only [PS_sn (lab_cases hab.1) h6, PS_sn (lab_cases hab.2.1) h6]
      exact (Int64.ofInt_add _ _).symm
    · rw [e4 i, h0 i hi]
theorem layAll {K g N : Nat} {A B : Nat → Nat} {c : Nat → Int} {w1 w2 : Nat → Int32} {flows : Nat → Int64} {a3 : Int32} (hK : K < 64) (hg : g < 6) (hN : Net N A B) (h1 : ∀ w, w < N → w1 w = nI (A w) ∧ w2 w = nI (B w)) (hf : ∀ w, w < N → (if a3 = 0 then flows w else 1) = Zl (c w)) (M : Nat → Nat → Int64) (lo : Nat → Int32) :
    ∃ M' lo', fX3_layLines (nI K) (nI g) a3 (nI N) w1 w2 flows M lo = some (M', lo', nI (pcn (msk K g) 6)) ∧ (∀ i j, i < pcn (msk K g) 6 → j < pcn (msk K g) 6 → M' i j = Zl (An (wl (msk K g) A B c N) (pcn (msk K g) 6) i j)) ∧ (∀ i, i < pcn (msk K g) 6 → M' i (pcn (msk K g) 6) = 0) ∧ ∀ k, k < 6 → lo' k = lnI (lab (msk K g) k) := by
  obtain ⟨m1, m2, m3, -⟩ := msk_n ⟨K, hK⟩ ⟨g, hg⟩
  have m1 : nI K &&& (((1 : Int32) <<< (nI g &&& 31)) ^^^ (-1 : Int32)) = nI (msk K g) := m1
  have m2 : msk K g < 64 := m2
  have m3 : pcn (msk K g) 6 ≤ 5 := m3
  have hN12 := hN.1
  obtain ⟨lo', e1, e2⟩ := numLines m2 lo
  obtain ⟨M0, f1, f2⟩ := lay0 (lo := lo') m3 (pcn (msk K g) 6) 0 M (by omega) (fun i' j h => absurd h (Nat.not_lt_zero i')) 5000 (by omega)
  have f1' : LX3_layLines_14 (lo', nI (pcn (msk K g) 6)) 5000 (0 : Int32) M = some M0 := f1
  obtain ⟨M', g1, g2, g3⟩ := layWs (b := msk K g) (c := c) m3 hN h1 hf e2 N 0 M0 (by omega) (fun i j hi hj => by
    rw [f2 i j hi (by omega)]
    show (0 : Int64) = Zl (Mx (PS (sn _)) [] i j)
    unfold Mx
    rw [if_pos (PS_in (sn_in hi))]
    rfl) (fun i hi => f2 i _ hi (Nat.le_refl _)) 5000 (by omega)
  have g1' : LX3_layLines_61 (nI N) w1 w2 flows a3 (lo', nI (pcn (msk K g) 6)) 5000 (0 : Int32) M0 = some M' := g1
  refine ⟨M', lo', ?_, g2, g3, fun k hk => lo_lab m3 e2 hk⟩
  unfold fX3_layLines
  rw [m1, e1]
  simp only [Option.bind_some]
  rw [f1']
  simp only [Option.bind_some]
  rw [g1']
  rfl
theorem hold0 {ws : List Wr} {n : Nat} {u : Nat → Int} (hn : n ≤ 5) {M : Nat → Nat → Int64} (h1 : ∀ i j, i < n → j < n → M i j = Zl (An ws n i j)) (h2 : ∀ i, i < n → M i n = Zl (u i)) : Hold ws n u 0 M := fun i j hi _ hj => by
  unfold Ek
  by_cases c : j < n
  · rw [if_pos c, mk_zero _ (by omega), h1 i j hi c]
  · rw [if_neg c, mk_zero _ (by omega)]
    obtain rfl : j = n := by omega
    exact h2 i hi
theorem Uok_una {ws : List Wr} {n a : Nat} (hw : Wok ws) (hc : Wc ws) (hl : ws.length ≤ 12) (hn : n ≤ 5) (ha : a < n) : Uok ws n (una a) := fun _ _ hk hi => mk_rhs_bd hw hc hl hn hk hi ha
theorem Uok_zero {ws : List Wr} {n : Nat} (hn : n ≤ 5) : Uok ws n (fun _ => 0) := fun k i hk hi => by
  have e : mk (An ws n) k i (fun _ => 0) = 0 := by
    unfold mk
    have := det5_lin (show i < 5 by omega) (Bk (An ws n) k) 0 0 (fun _ => 0) (fun _ => 0)
    simp only [Int.zero_mul, Int.add_zero] at this
    exact this
  rw [e]
  have := eb_pos 12 (min k 4)
  constructor <;> omega
/-- the leading determinants do not vanish where the whole one does not -/
theorem Lk_ne {ws : List Wr} {n : Nat} (hw : Wok ws) (hc : ∀ q, q ∈ ws → 0 < q.2.2 ∧ q.2.2 ≤ 48) (hn : n ≤ 5) (h : 0 < Gf ws (PS (sn n)) n) {k : Nat} (hk : k ≤ n) : Lk ws n k ≠ 0 := by
  have h1 := Gf_pos ws hw hc _ (PS_rt (sn_ok hn))
  rw [liv_sn hn] at h1
  have h2 := h1.mp h
  have h3 := Gf_pos ws hw hc _ (PS_rt (sn_ok (show k ≤ 5 by omega)))
  rw [liv_sn (show k ≤ 5 by omega)] at h3
  have f : Fnr (PS (sn n)) (PS (sn k)) := fun a b e => by
    by_cases c1 : a < n
    · rw [PS_in (sn_in c1)] at e
      by_cases c2 : b < n
      · rw [PS_in (sn_in c2)] at e
        rw [e]
      · rw [PS_out (sn_out c2)] at e
        omega
    · rw [PS_out (sn_out c1)] at e
      by_cases c2 : b < n
      · rw [PS_in (sn_in c2)] at e
        omega
      · rw [PS_out (sn_out (show ¬ a < k by omega)), PS_out (sn_out (show ¬ b < k by omega))]
  have h4 := h3.mpr (liv0_fnr (clo_rt ws (PS_rt (sn_ok hn)) hw) (clo_rt ws (PS_rt (sn_ok (by omega))) hw) (f.close ws) h2)
  unfold Lk
  rw [Bk_last hw hn hk]
  omega
theorem solveOk {K a g N : Nat} {A B : Nat → Nat} {c : Nat → Int} {w1 w2 : Nat → Int32} {flows : Nat → Int64} (hK : K < 64) (ha : a < 6) (hg : g < 6) (hag : a ≠ g) (haK : K.testBit a = true) (hN : Net N A B) (hc : ∀ w, w < N → 0 < c w ∧ c w ≤ 48) (h1 : ∀ w, w < N → w1 w = nI (A w) ∧ w2 w = nI (B w)) (hf : ∀ w, w < N → flows w = Zl (c w)) (hr : fX3_reachedFrom (nI a) (nI N) w1 w2 = some (nI K)) (hpos : 0 < Gf (wl (msk K g) A B c N) (PS (sn (pcn (msk K g) 6))) (pcn (msk K g) 6)) (M : Nat → Nat → Int64) (lo : Nat → Int32) :
    ∃ M' lo', fX3_solve (nI a) (nI g) (nI N) w1 w2 flows M lo = some (Zl (Gf (wl (msk K g) A B c N) (PS (sn (pcn (msk K g) 6))) (pcn (msk K g) 6)), M', lo', nI (pcn (msk K g) 6)) ∧ (∀ k, k < 6 → lo' k = lnI (lab (msk K g) k)) ∧ ∀ i, i < pcn (msk K g) 6 → M' i (pcn (msk K g) 6) = Zl (det5 (repc (An (wl (msk K g) A B c N) (pcn (msk K g) 6)) i (una (lab (msk K g) a)))) := by
  obtain ⟨-, m2, m3, -⟩ := msk_n ⟨K, hK⟩ ⟨g, hg⟩
  have m3 : pcn (msk K g) 6 ≤ 5 := m3
  have ht : (msk K g).testBit a = true := (msk_t ⟨K, hK⟩ ⟨g, hg⟩ ⟨a, ha⟩).mpr ⟨haK, fun z => hag (congrArg Fin.val z)⟩
  have hla : lab (msk K g) a < pcn (msk K g) 6 := by
    unfold lab
    rw [if_pos ht]
    exact pcn_lt ha ht
  have hw := wl_ok (b := msk K g) (c := c) m3 hN
  have hc' := wl_c (b := msk K g) (A := A) (B := B) hc
  have hcw : Wc (wl (msk K g) A B c N) := fun q hq => ⟨Int.le_of_lt (hc' q hq).1, (hc' q hq).2⟩
  have hl : (wl (msk K g) A B c N).length ≤ 12 := by rw [wl_len]; exact hN.1
  obtain ⟨M1, lo', e1, e2, e3, e4⟩ := layAll (a3 := 0) (flows := flows) hK hg hN h1 (fun w hw => by rw [if_pos rfl]; exact hf w hw) M lo
  have hM : Hold (wl (msk K g) A B c N) (pcn (msk K g) 6) (una (lab (msk K g) a)) 0 (jgup M1 (lab (msk K g) a) (pcn (msk K g) 6) 1) := hold0 m3 (fun i j hi hj => by
      rw [jgup_col _ _ (by omega)]
      exact e2 i j hi hj) (fun i hi => by
      unfold una
      by_cases e : i = lab (msk K g) a
      · rw [if_pos e, e, jgup_at]
        rfl
      · rw [if_neg e, jgup_row _ _ e, e3 i hi]
        rfl)
  obtain ⟨M', f1, f2⟩ := elim_ok hw hcw hl m3 (Uok_una hw hcw hl m3 hla) (fun k hk => Lk_ne hw hc' m3 hpos hk) hM
  have hL : Lk (wl (msk K g) A B c N) (pcn (msk K g) 6) (pcn (msk K g) 6) = Gf (wl (msk K g) A B c N) (PS (sn (pcn (msk K g) 6))) (pcn (msk K g) 6) := Bk_last hw m3 (Nat.le_refl _)
  rw [hL] at f1
  refine ⟨M', lo', ?_, e4, fun i hi => ?_⟩
  · unfold fX3_solve
    rw [hr]
    simp only [Option.bind_some]
    rw [e1]
    simp only [Option.bind_some]
    rw [if_pos (jok_nI ha (by omega))]
    simp only [jlet]
    rw [nI_clamp (show a < 2 ^ 31 by omega), e4 a ha, lnI_lt (by omega), if_neg (nI_pos (by omega)), if_pos (jok_nI (by omega) (by omega)), if_pos (jok_nI (by omega) (by omega)), nI_clamp (show lab (msk K g) a < 2 ^ 31 by omega), nI_clamp (show pcn (msk K g) 6 < 2 ^ 31 by omega)]
    simp only [Option.bind_some]
    rw [f1]
    rfl
  · rw [f2 i (pcn (msk K g) 6) hi (Nat.le_refl _) (Nat.le_refl _)]
    unfold Ek
    rw [if_neg (Nat.lt_irrefl _), mk_end hw m3]
