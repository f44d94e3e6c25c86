/-! the reference: what hangs together; how many wires, whose, and what weight a set has -/
section REFSET
variable {N : Nat} {A B : Nat → Nat} {first second : Nat → Int32}
theorem kfin_keep {s : Nat} : ∀ (r w : Nat) (g : Nat → Nat) {x y : Nat}, g x = g y → kfin A B r w g s x = kfin A B r w g s y
  | 0, _, _, _, _, h => h
  | r + 1, w, g, x, y, h => by
    unfold kfin
    split
    · exact kfin_keep r (w + 1) _ ((kst_eq g _ _ x y).mpr (Or.inl h))
    · exact kfin_keep r (w + 1) g h
theorem kfin_join {s : Nat} : ∀ (r w : Nat) (g : Nat → Nat) (v : Nat), w ≤ v → v < w + r → s / 2 ^ v % 2 = 1 → kfin A B r w g s (A v) = kfin A B r w g s (B v)
  | 0, _, _, _, _, h, _ => by omega
  | r + 1, w, g, v, h1, h2, hb => by
    unfold kfin
    by_cases e : v = w
    · subst e
      rw [if_pos hb]
      exact kfin_keep r (v + 1) _ ((kst_eq g _ _ _ _).mpr (Or.inr (Or.inl ⟨rfl, rfl⟩)))
    · split
      · exact kfin_join r (w + 1) _ v (by omega) (by omega) hb
      · exact kfin_join r (w + 1) _ v (by omega) (by omega) hb
theorem kfin_clo (hN : Net N A B) {C : Nat → Prop} (hC : Clo N A B C) {s : Nat} : ∀ (r w : Nat) (g : Nat → Nat), w + r = N → (∀ x y, x < 6 → y < 6 → g x = g y → (C x ↔ C y)) → ∀ x y, x < 6 → y < 6 → kfin A B r w g s x = kfin A B r w g s y → (C x ↔ C y)
  | 0, _, _, _, h => h
  | r + 1, w, g, hw, h => by
    have hab := hN.2 w (by omega)
    have hc := hC w (by omega)
    unfold kfin
    split
    · refine kfin_clo hN hC r (w + 1) _ (by omega) (fun x y hx hy e => ?_)
      rcases (kst_eq g _ _ x y).mp e with e | e | e
      · exact h x y hx hy e
      · rw [h x _ hx hab.1 e.1, h y _ hy hab.2.1 e.2, hc]
      · rw [h x _ hx hab.2.1 e.1, h y _ hy hab.1 e.2, hc]
    · exact kfin_clo hN hC r (w + 1) g (by omega) h
theorem ones : ∀ (N : Fin 13), ((1 : Int32) <<< (nI N.1 &&& 31)) - 1 = nI (2 ^ N.1 - 1) ∧ 2 ^ N.1 - 1 < 4096 ∧ (1 : Int32) <<< (nI N.1 &&& 31) = nI (2 ^ N.1) ∧ ∀ w : Fin 12, w.1 < N.1 → (2 ^ N.1 - 1) / 2 ^ w.1 % 2 = 1 := by decide +kernel
/-- the labels of what hangs together -/
def gN (N : Nat) (A B : Nat → Nat) : Nat → Nat := kfin A B N 0 id (2 ^ N - 1)
/-- both ways of finding what hangs together tell the same -/
theorem gN_rch (hN : Net N A B) {a k : Nat} (ha : a < 6) (hk : k < 6) : gN N A B k = gN N A B a ↔ (rch N A B a).testBit k = true := by
  have hN12 := hN.1
  constructor
  · intro e
    have h := kfin_clo hN (rch_clo hN ha) (s := 2 ^ N - 1) N 0 id (by omega) (fun x y _ _ e => by
      have e : x = y := e
      rw [e]) k a hk ha e
    exact h.mpr (rch_self hN ha)
  · intro e
    refine rch_in hN (C := fun x => gN N A B x = gN N A B a) (fun w hw => ?_) ha rfl hk e
    have e2 : gN N A B (A w) = gN N A B (B w) := kfin_join N 0 id w (Nat.zero_le w) (by omega) ((ones ⟨N, by omega⟩).2.2.2 ⟨w, by omega⟩ hw)
    show gN N A B (A w) = gN N A B a ↔ gN N A B (B w) = gN N A B a
    rw [e2]
theorem ha15 {G : Nat → Int32} {o : Int32} : ∀ (r k : Nat) (W : Nat → Int32), k + r = 6 → (∀ j, j < k → W j = G j) → ∀ fuel, r < fuel → ∃ W', LX10_hang_15 (o, G) fuel (nI k) W = some W' ∧ ∀ j, j < 6 → W' j = G j := by
  intro r
  induction r with
  | zero =>
    intro k W hk h fuel hf
    obtain ⟨f, rfl⟩ : ∃ f, fuel = f + 1 := ⟨fuel - 1, by omega⟩
    obtain rfl : k = 6 := by omega
    refine ⟨W, ?_, h⟩
    unfold LX10_hang_15
    rw [if_pos (by decide)]
  | succ r ih =>
    intro k W hk h fuel hf
    obtain ⟨f, rfl⟩ : ∃ f, fuel = f + 1 := ⟨fuel - 1, by omega⟩
    unfold LX10_hang_15
    rw [if_neg (show ¬ (6 : Int32) ≤ nI k from nI_ge (b := 6) (by omega) (by omega)), if_pos (jok_nI (by omega) (by omega))]
    simp only [jlet]
    rw [nI_clamp (show k < 2 ^ 31 by omega), ← nI_succ]
    refine ih (k + 1) _ (by omega) (fun j hj => ?_) f (by omega)
    unfold upd
    by_cases e : j = k
    · rw [if_pos e, e]
    · rw [if_neg e]
      exact h j (by omega)
/-- the reference's labels of what hangs together -/
def Whl (N : Nat) (A B : Nat → Nat) (W : Nat → Int32) : Prop := ∀ k, k < 6 → W k = nI (gN N A B k) ∧ gN N A B k < 6
theorem hangRef (hN : Net N A B) (h1 : ∀ w, w < N → first w = nI (A w) ∧ second w = nI (B w)) {a b : Nat} (ha : a < 6) (hb : b < 6) (G W : Nat → Int32) : ∃ G' W', fX10_hang (nI a) (nI b) (nI N) first second G W = some (if (rch N A B a).testBit b = true then 1 else 0, G', W') ∧ Whl N A B W' := by
  have hN12 := hN.1
  have o := ones ⟨N, by omega⟩
  obtain ⟨G1, e1, e2⟩ := joinsOk hN h1 o.2.1 G
  have o1 : ((1 : Int32) <<< (nI N &&& 31)) - 1 = nI (2 ^ N - 1) := o.1
  have e1 : fX10_joins (nI (2 ^ N - 1)) (nI N) first second G = some (if kopn A B N 0 id (2 ^ N - 1) = true then 1 else 0, G1) := e1
  obtain ⟨W1, f1, f2⟩ := ha15 (G := G1) (o := if kopn A B N 0 id (2 ^ N - 1) = true then 1 else 0) 6 0 W rfl (fun j hj => absurd hj (Nat.not_lt_zero j)) 5000 (by omega)
  have f1 : LX10_hang_15 (if kopn A B N 0 id (2 ^ N - 1) = true then 1 else 0, G1) 5000 (0 : Int32) W = some W1 := f1
  have hW : Whl N A B W1 := fun k hk => by
    rw [f2 k hk]
    exact e2 k hk
  refine ⟨G1, W1, ?_, hW⟩
  unfold fX10_hang
  rw [o1, e1]
  simp only [Option.bind_some]
  rw [f1]
  simp only [Option.bind_some]
  rw [if_pos (jok_nI ha (by omega)), if_pos (jok_nI hb (by omega)), nI_clamp (show a < 2 ^ 31 by omega), nI_clamp (show b < 2 ^ 31 by omega), (hW a ha).1, (hW b hb).1]
  have ba := (hW a ha).2
  have bb := (hW b hb).2
  by_cases c : (rch N A B a).testBit b = true
  · rw [if_pos (by rw [(gN_rch hN ha hb).mpr c]), if_pos c]
  · rw [if_neg (fun z => c ((gN_rch hN ha hb).mp ((nI_inj (by omega) (by omega)).mp z).symm)), if_neg c]
theorem so4 (hN : Net N A B) {W : Nat → Int32} (hW : Whl N A B W) {a : Nat} (ha : a < 6) : ∀ (r k : Nat), k + r = 6 → ∀ fuel, r < fuel → LX10_sizeOf_4 W (nI a) fuel (nI (pcn (rch N A B a) k)) (nI k) = some (nI (pcn (rch N A B a) 6)) := by
  intro r
  induction r with
  | zero =>
    intro k hk fuel hf
    obtain ⟨f, rfl⟩ : ∃ f, fuel = f + 1 := ⟨fuel - 1, by omega⟩
    obtain rfl : k = 6 := by omega
    unfold LX10_sizeOf_4
    rw [if_pos (by decide)]
  | succ r ih =>
    intro k hk fuel hf
    obtain ⟨f, rfl⟩ : ∃ f, fuel = f + 1 := ⟨fuel - 1, by omega⟩
    have hk6 : k < 6 := by omega
    have b1 := (hW k hk6).2
    have b2 := (hW a ha).2
    unfold LX10_sizeOf_4
    rw [if_neg (show ¬ (6 : Int32) ≤ nI k from nI_ge (b := 6) (by omega) (by omega)), if_pos (jok_nI (by omega) (by omega)), if_pos (jok_nI ha (by omega))]
    simp only [jlet]
    rw [nI_clamp (show k < 2 ^ 31 by omega), nI_clamp (show a < 2 ^ 31 by omega), (hW k hk6).1, (hW a ha).1, ← nI_succ]
    have h := ih (k + 1) (by omega) f (by omega)
    have e : pcn (rch N A B a) (k + 1) = pcn (rch N A B a) k + (if (rch N A B a).testBit k = true then 1 else 0) := rfl
    rw [e] at h
    by_cases c : (rch N A B a).testBit k = true
    · rw [if_pos (by rw [(gN_rch hN ha hk6).mpr c]), ← nI_succ]
      rw [if_pos c] at h
      exact h
    · rw [if_neg (fun z => c ((gN_rch hN ha hk6).mp ((nI_inj (by omega) (by omega)).mp z))), Int32.add_zero]
      rw [if_neg c] at h
      exact h
theorem sizeRef (hN : Net N A B) {W : Nat → Int32} (hW : Whl N A B W) {a : Nat} (ha : a < 6) : fX10_sizeOf (nI a) W = some (nI (pcn (rch N A B a) 6)) := by
  have h := so4 hN hW ha 6 0 rfl 5000 (by omega)
  have h : LX10_sizeOf_4 W (nI a) 5000 (0 : Int32) (0 : Int32) = some (nI (pcn (rch N A B a) 6)) := h
  unfold fX10_sizeOf
  rw [h]
  rfl
/-- how many wires of the set are below w -/
def kcnt (s : Nat) : Nat → Nat
  | 0 => 0
  | w + 1 => kcnt s w + s / 2 ^ w % 2
theorem kcnt_le (s : Nat) : ∀ w, kcnt s w ≤ w
  | 0 => Nat.le_refl 0
  | w + 1 => by
    unfold kcnt
    have := kcnt_le s w
    have := bit01 s w
    omega
theorem nI_plus (a b : Nat) : nI a + nI b = nI (a + b) := (Int32.ofNat_add a b).symm
theorem bi4 {s : Nat} (hs : s < 4096) : ∀ (r w : Nat), w + r = 12 → ∀ fuel, r < fuel → LX10_bits_4 (nI s) fuel (nI (kcnt s w)) (nI w) = some (nI (kcnt s 12)) := by
  intro r
  induction r with
  | zero =>
    intro w hw fuel hf
    obtain ⟨f, rfl⟩ : ∃ f, fuel = f + 1 := ⟨fuel - 1, by omega⟩
    obtain rfl : w = 12 := by omega
    unfold LX10_bits_4
    rw [if_pos (by decide)]
  | succ r ih =>
    intro w hw fuel hf
    obtain ⟨f, rfl⟩ : ∃ f, fuel = f + 1 := ⟨fuel - 1, by omega⟩
    unfold LX10_bits_4
    rw [if_neg (show ¬ (12 : Int32) ≤ nI w from nI_ge (b := 12) (by omega) (by omega))]
    simp only [jlet]
    rw [sh_b hs (show w < 12 by omega), nI_plus, ← nI_succ]
    exact ih (w + 1) (by omega) f (by omega)
theorem bitsRef {s : Nat} (hs : s < 4096) : fX10_bits (nI s) = some (nI (kcnt s 12)) := by
  have h := bi4 hs 12 0 rfl 5000 (by omega)
  have h : LX10_bits_4 (nI s) 5000 (0 : Int32) (0 : Int32) = some (nI (kcnt s 12)) := h
  unfold fX10_bits
  rw [h]
  rfl
theorem kcnt_two (s : Nat) : ∀ n, kcnt s (n + 1) = s % 2 + kcnt (s / 2) n
  | 0 => by
    show 0 + s / 2 ^ 0 % 2 = s % 2 + 0
    rw [Nat.pow_zero, Nat.div_one]
    omega
  | n + 1 => by
    have e : kcnt s (n + 1 + 1) = kcnt s (n + 1) + s / 2 ^ (n + 1) % 2 := rfl
    have e2 : kcnt (s / 2) (n + 1) = kcnt (s / 2) n + s / 2 / 2 ^ n % 2 := rfl
    rw [e, e2, kcnt_two s n, Nat.div_div_eq_div_mul, Nat.pow_succ, Nat.mul_comm 2]
    omega
theorem kcnt_cntS : ∀ (n s : Nat), kcnt s n = cntS n s
  | 0, _ => rfl
  | n + 1, s => by rw [kcnt_two, cntS_s, kcnt_cntS n]
theorem kcnt_high {s n : Nat} (h : s < 2 ^ n) : ∀ d, kcnt s (n + d) = kcnt s n
  | 0 => rfl
  | d + 1 => by
    have e : kcnt s (n + (d + 1)) = kcnt s (n + d) + s / 2 ^ (n + d) % 2 := rfl
    have hp : 2 ^ n ≤ 2 ^ (n + d) := Nat.pow_le_pow_right (by decide) (by omega)
    rw [e, kcnt_high h d, Nat.div_eq_of_lt (by omega)]
    rfl
theorem kcnt_12 {s : Nat} (hN : N ≤ 12) (h : s < 2 ^ N) : kcnt s 12 = cntS N s := by
  rw [← kcnt_cntS, show 12 = N + (12 - N) by omega, kcnt_high h]
/-- whether all wires of the set, of r from w on, are of K -/
def kin (K : Nat) (A : Nat → Nat) : Nat → Nat → Nat → Bool
  | 0, _, _ => true
  | r + 1, w, s => (decide (s / 2 ^ w % 2 = 0) || K.testBit (A w)) && kin K A r (w + 1) s
theorem kin_s (K : Nat) (A : Nat → Nat) (r w s : Nat) : kin K A (r + 1) w s = ((decide (s / 2 ^ w % 2 = 0) || K.testBit (A w)) && kin K A r (w + 1) s) := rfl
theorem is5 (hN : Net N A B) (h1 : ∀ w, w < N → first w = nI (A w) ∧ second w = nI (B w)) {W : Nat → Int32} (hW : Whl N A B W) {a s : Nat} (ha : a < 6) (hs : s < 4096) : ∀ (r w : Nat) (ok : Bool), w + r = N → ∀ fuel, r < fuel → LX10_isOf_5 (nI N) first W (nI s) (nI a) fuel (if ok = true then 1 else 0) (nI w) = some (if (ok && kin (rch N A B a) A r w s) = true then 1 else 0) := by
  have hN12 := hN.1
  intro r
  induction r with
  | zero =>
    intro w ok hw fuel hf
    obtain ⟨f, rfl⟩ : ∃ f, fuel = f + 1 := ⟨fuel - 1, by omega⟩
    unfold LX10_isOf_5 kin
    rw [if_pos (nI_le (by omega) (by omega)), Bool.and_true]
  | succ r ih =>
    intro w ok hw fuel hf
    obtain ⟨f, rfl⟩ : ∃ f, fuel = f + 1 := ⟨fuel - 1, by omega⟩
    have hab := hN.2 w (by omega)
    have b1 := (hW _ hab.1).2
    have b2 := (hW a ha).2
    have e : (if ((nI s >>> (nI w &&& 31)) &&& (1 : Int32)) = 0 then some (1 : Int32) else if jok (nI w) 12 then if jok (first (nI w).toNatClampNeg) 6 then if jok (nI a) 6 then if (W (first (nI w).toNatClampNeg).toNatClampNeg) = (W (nI a).toNatClampNeg) then some (1 : Int32) else some (0 : Int32) else none else none else none) = some (if (decide (s / 2 ^ w % 2 = 0) || (rch N A B a).testBit (A w)) = true then 1 else 0) := by
      rw [sh_b hs (show w < 12 by omega)]
      rcases bit01 s w with c | c
      · rw [c, if_pos (show nI 0 = 0 by decide)]
        rfl
      · rw [c, if_neg (show ¬ nI 1 = 0 by decide), if_pos (jok_nI (by omega) (by omega)), nI_clamp (show w < 2 ^ 31 by omega), (h1 w (by omega)).1, if_pos (jok_nI hab.1 (by omega)), if_pos (jok_nI ha (by omega)), nI_clamp (show A w < 2 ^ 31 by omega), nI_clamp (show a < 2 ^ 31 by omega), (hW _ hab.1).1, (hW a ha).1]
        show _ = some (if (false || (rch N A B a).testBit (A w)) = true then (1 : Int32) else 0)
        rw [Bool.false_or]
        by_cases z : (rch N A B a).testBit (A w) = true
        · rw [if_pos z, if_pos (by rw [(gN_rch hN ha hab.1).mpr z])]
        · rw [if_neg z, if_neg (fun q => z ((gN_rch hN ha hab.1).mp ((nI_inj (by omega) (by omega)).mp q)))]
    unfold LX10_isOf_5
    rw [if_neg (nI_ge (by omega) (by omega)), e]
    simp only [Option.bind_some, jlet]
    rw [← nI_succ]
    have eo : ((if ok = true then (1 : Int32) else 0) &&& (if (decide (s / 2 ^ w % 2 = 0) || (rch N A B a).testBit (A w)) = true then 1 else 0)) = if (ok && (decide (s / 2 ^ w % 2 = 0) || (rch N A B a).testBit (A w))) = true then 1 else 0 := by
      generalize (decide (s / 2 ^ w % 2 = 0) || (rch N A B a).testBit (A w)) = q
      cases ok <;> cases q <;> decide
    rw [eo, ih (w + 1) _ (by omega) f (by omega)]
    rw [kin_s, Bool.and_assoc]
theorem isOfRef (hN : Net N A B) (h1 : ∀ w, w < N → first w = nI (A w) ∧ second w = nI (B w)) {W : Nat → Int32} (hW : Whl N A B W) {a s : Nat} (ha : a < 6) (hs : s < 4096) : fX10_isOf (nI s) (nI a) (nI N) first W = some (if kin (rch N A B a) A N 0 s = true then 1 else 0) := by
  have hN12 := hN.1
  have h := is5 hN h1 hW ha hs N 0 true (by omega) 5000 (by omega)
  have h : LX10_isOf_5 (nI N) first W (nI s) (nI a) 5000 (1 : Int32) (0 : Int32) = some (if kin (rch N A B a) A N 0 s = true then 1 else 0) := h
  unfold fX10_isOf
  rw [h]
  simp only [Option.bind_some]
  rw [if_pos]
  split <;> decide
/-- the weight of the set, of r wires from w on -/
def kwgt (c : Nat → Int) : Nat → Nat → Nat → Int
  | 0, _, _ => 1
  | r + 1, w, s => (if s / 2 ^ w % 2 = 1 then c w else 1) * kwgt c r (w + 1) s
theorem kwgt_s (c : Nat → Int) (r w s : Nat) : kwgt c (r + 1) w s = (if s / 2 ^ w % 2 = 1 then c w else 1) * kwgt c r (w + 1) s := rfl
theorem flow12 : ∀ (u t : Fin 5), t.1 ≠ 0 → ((12 : Int32) * nI u.1 / nI t.1).toInt64 = Zl ((12 * u.1 / t.1 : Nat) : Int) := by decide +kernel
theorem we5 {times byy : Nat → Int32} {T U : Nat → Nat} {s : Nat} (hN12 : N ≤ 12) (hs : s < 4096) (hT : ∀ w, w < N → times w = nI (T w) ∧ byy w = nI (U w) ∧ 1 ≤ T w ∧ T w ≤ 4 ∧ 1 ≤ U w ∧ U w ≤ 4) : ∀ (r w : Nat) (v : Int), w + r = N → ∀ fuel, r < fuel → LX10_weight_5 (nI N) times byy (nI s) fuel (Zl v) (nI w) = some (Zl (v * kwgt (fun w => ((12 * U w / T w : Nat) : Int)) r w s)) := by
  intro r
  induction r with
  | zero =>
    intro w v hw fuel hf
    obtain ⟨f, rfl⟩ : ∃ f, fuel = f + 1 := ⟨fuel - 1, by omega⟩
    unfold LX10_weight_5 kwgt
    rw [if_pos (nI_le (by omega) (by omega)), Int.mul_one]
  | succ r ih =>
    intro w v hw fuel hf
    obtain ⟨f, rfl⟩ : ∃ f, fuel = f + 1 := ⟨fuel - 1, by omega⟩
    obtain ⟨t1, t2, t3, t4, t5, t6⟩ := hT w (by omega)
    have e : (if ((nI s >>> (nI w &&& 31)) &&& (1 : Int32)) = (1 : Int32) then if jok (nI w) 12 then if ¬ (times (nI w).toNatClampNeg) = 0 then some ((((12 : Int32) * (byy (nI w).toNatClampNeg)) / (times (nI w).toNatClampNeg)).toInt64) else none else none else some (1 : Int64)) = some (Zl (if s / 2 ^ w % 2 = 1 then ((12 * U w / T w : Nat) : Int) else 1)) := by
      rw [sh_b hs (show w < 12 by omega)]
      rcases bit01 s w with c | c
      · rw [c, if_neg (show ¬ nI 0 = 1 by decide), if_neg (show ¬ 0 = 1 by decide)]
        rfl
      · rw [c, if_pos (show nI 1 = 1 by decide), if_pos (jok_nI (by omega) (by omega)), nI_clamp (show w < 2 ^ 31 by omega), t1, t2, if_pos (nI_ne0 (by omega) (by omega)), if_pos rfl]
        exact congrArg some (flow12 ⟨U w, by omega⟩ ⟨T w, by omega⟩ (by show T w ≠ 0; omega))
    unfold LX10_weight_5
    rw [if_neg (nI_ge (by omega) (by omega)), e]
    simp only [Option.bind_some, jlet]
    rw [← nI_succ, show Zl v * Zl (if s / 2 ^ w % 2 = 1 then ((12 * U w / T w : Nat) : Int) else 1) = Zl (v * (if s / 2 ^ w % 2 = 1 then ((12 * U w / T w : Nat) : Int) else 1)) from (Int64.ofInt_mul _ _).symm, ih (w + 1) _ (by omega) f (by omega)]
    rw [kwgt_s, Int.mul_assoc]
theorem weightRef {times byy : Nat → Int32} {T U : Nat → Nat} {s : Nat} (hN12 : N ≤ 12) (hs : s < 4096) (hT : ∀ w, w < N → times w = nI (T w) ∧ byy w = nI (U w) ∧ 1 ≤ T w ∧ T w ≤ 4 ∧ 1 ≤ U w ∧ U w ≤ 4) : fX10_weight (nI s) (nI N) times byy = some (Zl (kwgt (fun w => ((12 * U w / T w : Nat) : Int)) N 0 s)) := by
  have h := we5 hN12 hs hT N 0 1 (by omega) 5000 (by omega)
  rw [Int.one_mul] at h
  have h : LX10_weight_5 (nI N) times byy (nI s) 5000 (1 : Int64) (0 : Int32) = some (Zl (kwgt (fun w => ((12 * U w / T w : Nat) : Int)) N 0 s)) := h
  unfold fX10_weight
  rw [h]
  rfl
end REFSET
