theorem sh_w : ∀ w : Fin 12, ((nI w.1) &&& 31).toBitVec.smod 32 = BitVec.ofNat 32 w.1 := by decide +kernel
theorem nI_bv (s : Nat) : (nI s).toBitVec = BitVec.ofNat 32 s := rfl
theorem sh_b {s w : Nat} (hs : s < 4096) (hw : w < 12) : ((nI s) >>> ((nI w) &&& 31)) &&& (1 : Int32) = nI (s / 2 ^ w % 2) := by
  have h1 : ((nI s) >>> ((nI w) &&& 31)).toBitVec = (BitVec.ofNat 32 s).sshiftRight w := by
    rw [Int32.toBitVec_shiftRight, nI_bv]
    have h := sh_w ⟨w, hw⟩
    have h : ((nI w) &&& 31).toBitVec.smod 32 = BitVec.ofNat 32 w := h
    rw [h]
    show (BitVec.ofNat 32 s).sshiftRight (BitVec.ofNat 32 w).toNat = _
    rw [BitVec.toNat_ofNat, Nat.mod_eq_of_lt (by omega)]
  have h2 : (BitVec.ofNat 32 s).sshiftRight w = (BitVec.ofNat 32 s) >>> w := by
    refine BitVec.sshiftRight_eq_of_msb_false ?_
    rw [BitVec.msb_eq_false_iff_two_mul_lt, BitVec.toNat_ofNat, Nat.mod_eq_of_lt (by omega)]
    omega
  apply Int32.toBitVec_inj.mp
  rw [Int32.toBitVec_and, h1, h2, nI_bv]
  apply BitVec.eq_of_toNat_eq
  rw [BitVec.toNat_and, BitVec.toNat_ushiftRight, BitVec.toNat_ofNat, BitVec.toNat_ofNat, Nat.mod_eq_of_lt (show s < 2 ^ 32 by omega), Nat.shiftRight_eq_div_pow]
  show s / 2 ^ w &&& 1 = _
  rw [Nat.and_one_is_mod, Nat.mod_eq_of_lt (show s / 2 ^ w % 2 < 2 ^ 32 by omega)]
/-! the reference's sets of wires -/
/-- labels of knots with those of i and j made one: the lesser stays -/
def kst (g : Nat → Nat) (i j : Nat) : Nat → Nat := fun k => if g k = g i ∨ g k = g j then min (g i) (g j) else g k
theorem kst_eq (g : Nat → Nat) (i j a b : Nat) : kst g i j a = kst g i j b ↔ (g a = g b ∨ (g a = g i ∧ g b = g j) ∨ (g a = g j ∧ g b = g i)) := by
  unfold kst
  by_cases c1 : g a = g i ∨ g a = g j <;> by_cases c2 : g b = g i ∨ g b = g j <;> simp only [c1, c2, if_true, if_false] <;> grind
theorem kst_lt {g : Nat → Nat} {i j : Nat} (h : ∀ k, k < 6 → g k < 6) (hi : i < 6) (hj : j < 6) : ∀ k, k < 6 → kst g i j k < 6 := fun k hk => by
  unfold kst
  have := h i hi
  have := h j hj
  have := h k hk
  split <;> omega
section REFNET
variable {N : Nat} {A B : Nat → Nat} {first second : Nat → Int32}
/-- r wires from w on, of the set s: whether it joins no two of one label; the labels behind it -/
def kopn (A B : Nat → Nat) : Nat → Nat → (Nat → Nat) → Nat → Bool
  | 0, _, _, _ => true
  | r + 1, w, g, s => if s / 2 ^ w % 2 = 1 then (decide (g (A w) ≠ g (B w)) && kopn A B r (w + 1) (kst g (A w) (B w)) s) else kopn A B r (w + 1) g s
def kfin (A B : Nat → Nat) : Nat → Nat → (Nat → Nat) → Nat → Nat → Nat
  | 0, _, g, _ => g
  | r + 1, w, g, s => if s / 2 ^ w % 2 = 1 then kfin A B r (w + 1) (kst g (A w) (B w)) s else kfin A B r (w + 1) g s
theorem nI_inj {a b : Nat} (ha : a < 2 ^ 31) (hb : b < 2 ^ 31) : nI a = nI b ↔ a = b := by
  constructor
  · intro h
    have := congrArg Int32.toNatClampNeg h
    rwa [nI_clamp ha, nI_clamp hb] at this
  · intro h
    rw [h]
theorem bit01 (s w : Nat) : s / 2 ^ w % 2 = 0 ∨ s / 2 ^ w % 2 = 1 := by omega
theorem jo4 : ∀ (r k : Nat) (G : Nat → Int32), k + r = 6 → (∀ j, j < k → G j = nI j) → ∀ fuel, r < fuel → ∃ G', LX10_joins_4 fuel (nI k) G = some G' ∧ ∀ j, j < 6 → G' j = nI j := by
  intro r
  induction r with
  | zero =>
    intro k G hk h fuel hf
    obtain ⟨f, rfl⟩ : ∃ f, fuel = f + 1 := ⟨fuel - 1, by omega⟩
    obtain rfl : k = 6 := by omega
    refine ⟨G, ?_, h⟩
    unfold LX10_joins_4
    rw [if_pos (by decide)]
  | succ r ih =>
    intro k G hk h fuel hf
    obtain ⟨f, rfl⟩ : ∃ f, fuel = f + 1 := ⟨fuel - 1, by omega⟩
    unfold LX10_joins_4
    rw [if_neg (show ¬ (6 : Int32) ≤ nI k from nI_ge (b := 6) (by omega) (by omega)), if_pos (jok_nI (by omega) (by omega))]
    simp only [jlet]
    rw [nI_clamp (show k < 2 ^ 31 by omega), ← nI_succ]
    refine ih (k + 1) _ (by omega) (fun j hj => ?_) f (by omega)
    unfold upd
    by_cases e : j = k
    · rw [if_pos e, e]
    · rw [if_neg e]
      exact h j (by omega)
theorem jo86 {g : Nat → Nat} {i j : Nat} (hg : ∀ k, k < 6 → g k < 6) (hi : i < 6) (hj : j < 6) : ∀ (r k : Nat) (G : Nat → Int32), k + r = 6 → (∀ x, x < k → G x = nI (kst g i j x)) → (∀ x, k ≤ x → x < 6 → G x = nI (g x)) → ∀ fuel, r < fuel → ∃ G', LX10_joins_86 (nI (g i)) (nI (g j)) fuel (nI k) G = some G' ∧ ∀ x, x < 6 → G' x = nI (kst g i j x) := by
  have h1 := hg i hi
  have h2 := hg j hj
  intro r
  induction r with
  | zero =>
    intro k G hk h h' fuel hf
    obtain ⟨f, rfl⟩ : ∃ f, fuel = f + 1 := ⟨fuel - 1, by omega⟩
    obtain rfl : k = 6 := by omega
    refine ⟨G, ?_, h⟩
    unfold LX10_joins_86
    rw [if_pos (by decide)]
  | succ r ih =>
    intro k G hk h h' fuel hf
    obtain ⟨f, rfl⟩ : ∃ f, fuel = f + 1 := ⟨fuel - 1, by omega⟩
    have h3 := hg k (by omega)
    unfold LX10_joins_86
    rw [if_neg (show ¬ (6 : Int32) ≤ nI k from nI_ge (b := 6) (by omega) (by omega)), if_pos (jok_nI (by omega) (by omega))]
    simp only [jlet]
    rw [nI_clamp (show k < 2 ^ 31 by omega), ← nI_succ, h' k (Nat.le_refl k) (by omega)]
    have e : (if nI (g k) = nI (g i) then (if nI (g j) ≤ nI (g i) then nI (g j) else nI (g i)) else if nI (g k) = nI (g j) then (if nI (g j) ≤ nI (g i) then nI (g j) else nI (g i)) else nI (g k)) = nI (kst g i j k) := by
      have em : (if nI (g j) ≤ nI (g i) then nI (g j) else nI (g i)) = nI (min (g i) (g j)) := by
        by_cases c : g j ≤ g i
        · rw [if_pos (nI_le c (by omega)), Nat.min_eq_right c]
        · rw [if_neg (nI_ge (by omega) (by omega)), Nat.min_eq_left (by omega)]
      rw [em]
      unfold kst
      by_cases c1 : g k = g i
      · rw [if_pos (by rw [c1]), if_pos (Or.inl c1)]
      · rw [if_neg (fun z => c1 ((nI_inj (by omega) (by omega)).mp z))]
        by_cases c2 : g k = g j
        · rw [if_pos (by rw [c2]), if_pos (Or.inr c2)]
        · rw [if_neg (fun z => c2 ((nI_inj (by omega) (by omega)).mp z)), if_neg (fun z => z.elim c1 c2)]
    rw [e]
    refine ih (k + 1) _ (by omega) (fun x hx => ?_) (fun x hx hx6 => ?_) f (by omega)
    · unfold upd
      by_cases e : x = k
      · rw [if_pos e, e]
      · rw [if_neg e]
        exact h x (by omega)
    · unfold upd
      rw [if_neg (show x ≠ k by omega)]
      exact h' x (by omega) hx6
theorem jo25 (hN : Net N A B) (h1 : ∀ w, w < N → first w = nI (A w) ∧ second w = nI (B w)) {s : Nat} (hs : s < 4096) : ∀ (r w : Nat) (op : Bool) (g : Nat → Nat) (G : Nat → Int32), w + r = N → (∀ k, k < 6 → g k < 6) → (∀ k, k < 6 → G k = nI (g k)) → ∀ fuel, r < fuel → ∃ G', LX10_joins_25 (nI N) first second (nI s) fuel (if op = true then 1 else 0) (nI w) G = some (if (op && kopn A B r w g s) = true then 1 else 0, G') ∧ (∀ k, k < 6 → G' k = nI (kfin A B r w g s k)) ∧ ∀ k, k < 6 → kfin A B r w g s k < 6 := by
  have hN12 := hN.1
  intro r
  induction r with
  | zero =>
    intro w op g G hw hg hG fuel hf
    obtain ⟨f, rfl⟩ : ∃ f, fuel = f + 1 := ⟨fuel - 1, by omega⟩
    refine ⟨G, ?_, hG, hg⟩
    unfold LX10_joins_25 kopn
    rw [if_pos (nI_le (by omega) (by omega)), Bool.and_true]
  | succ r ih =>
    intro w op g G hw hg hG fuel hf
    obtain ⟨f, rfl⟩ : ∃ f, fuel = f + 1 := ⟨fuel - 1, by omega⟩
    have hab := hN.2 w (by omega)
    have b1 := hg _ hab.1
    have b2 := hg _ hab.2.1
    unfold LX10_joins_25
    rw [if_neg (nI_ge (by omega) (by omega)), if_pos (jok_nI (by omega) (by omega)), nI_clamp (show w < 2 ^ 31 by omega), (h1 w (by omega)).1, (h1 w (by omega)).2, if_pos (jok_nI hab.1 (by omega))]
    simp only [jlet]
    rw [if_pos (jok_nI hab.2.1 (by omega)), nI_clamp (show A w < 2 ^ 31 by omega), nI_clamp (show B w < 2 ^ 31 by omega), hG _ hab.1, hG _ hab.2.1, sh_b hs (show w < 12 by omega)]
    unfold kopn kfin
    rcases bit01 s w with c | c
    · rw [c, if_neg (show ¬ nI 0 = 1 by decide), if_neg (show ¬ 0 = 1 by decide), if_neg (show ¬ 0 = 1 by decide)]
      simp only [Option.bind_some]
      rw [← nI_succ]
      exact ih (w + 1) op g G (by omega) hg hG f (by omega)
    · rw [c, if_pos (show nI 1 = 1 by decide), if_pos rfl, if_pos rfl]
      obtain ⟨G1, e1, e2⟩ := jo86 hg hab.1 hab.2.1 6 0 G rfl (fun x hx => absurd hx (Nat.not_lt_zero x)) (fun x _ hx => hG x hx) 5000 (by omega)
      have e1 : LX10_joins_86 (nI (g (A w))) (nI (g (B w))) 5000 (0 : Int32) G = some G1 := e1
      rw [e1]
      simp only [Option.bind_some]
      rw [← nI_succ]
      have eo : ((if op = true then (1 : Int32) else 0) &&& (if nI (g (A w)) = nI (g (B w)) then 0 else 1)) = if (op && decide (g (A w) ≠ g (B w))) = true then 1 else 0 := by
        by_cases z : g (A w) = g (B w)
        · rw [if_pos (show nI (g (A w)) = nI (g (B w)) by rw [z]), decide_eq_false (show ¬ g (A w) ≠ g (B w) from fun q => q z), Bool.and_false]
          cases op <;> decide
        · rw [if_neg (show ¬ nI (g (A w)) = nI (g (B w)) from fun q => z ((nI_inj (by omega) (by omega)).mp q)), decide_eq_true (show g (A w) ≠ g (B w) from z), Bool.and_true]
          cases op <;> decide
      rw [eo, ← Bool.and_assoc]
      exact ih (w + 1) _ _ G1 (by omega) (kst_lt hg hab.1 hab.2.1) e2 f (by omega)
/-- a set of wires joined -/
theorem joinsOk (hN : Net N A B) (h1 : ∀ w, w < N → first w = nI (A w) ∧ second w = nI (B w)) {s : Nat} (hs : s < 4096) (G : Nat → Int32) : ∃ G', fX10_joins (nI s) (nI N) first second G = some (if kopn A B N 0 id s = true then 1 else 0, G') ∧ ∀ k, k < 6 → G' k = nI (kfin A B N 0 id s k) ∧ kfin A B N 0 id s k < 6 := by
  have hN12 := hN.1
  obtain ⟨G1, e1, e2⟩ := jo4 6 0 G rfl (fun j hj => absurd hj (Nat.not_lt_zero j)) 5000 (by omega)
  have e1 : LX10_joins_4 5000 (0 : Int32) G = some G1 := e1
  obtain ⟨G2, f1, f2, f3⟩ := jo25 hN h1 hs N 0 true id G1 (by omega) (fun k hk => hk) e2 5000 (by omega)
  have f1 : LX10_joins_25 (nI N) first second (nI s) 5000 (1 : Int32) (0 : Int32) G1 = some (if kopn A B N 0 id s = true then 1 else 0, G2) := f1
  refine ⟨G2, ?_, fun k hk => ⟨f2 k hk, f3 k hk⟩⟩
  unfold fX10_joins
  rw [e1]
  simp only [Option.bind_some]
  rw [f1]
  simp only [Option.bind_some]
  rw [if_pos]
  split <;> decide
end REFNET
