/-! what is reached from a knot -/
def ends (i j : Nat) : Nat := (1 <<< i) ||| (1 <<< j)
theorem ends_n : ∀ (b : Fin 64) (i j : Fin 6), ((((1 : Int32) <<< (nI i.1 &&& 31)) ||| ((1 : Int32) <<< (nI j.1 &&& 31))) = nI (ends i.1 j.1)) ∧ ((nI (ends i.1 j.1) &&& nI b.1 = 0) ↔ ¬ (b.1.testBit i.1 = true ∨ b.1.testBit j.1 = true)) ∧ nI b.1 ||| nI (ends i.1 j.1) = nI (b.1 ||| ends i.1 j.1) ∧ b.1 ||| ends i.1 j.1 < 64 := by decide +kernel
theorem ends_t : ∀ (i j k : Fin 6), ((ends i.1 j.1).testBit k.1 = true) ↔ (k = i ∨ k = j) := by decide +kernel
theorem ends_or {b i j k : Nat} (hi : i < 6) (hj : j < 6) (hk : k < 6) : (b ||| ends i j).testBit k = true ↔ (b.testBit k = true ∨ k = i ∨ k = j) := by
  rw [Nat.testBit_or, Bool.or_eq_true]
  have h := ends_t ⟨i, hi⟩ ⟨j, hj⟩ ⟨k, hk⟩
  have h : (ends i j).testBit k = true ↔ ((⟨k, hk⟩ : Fin 6) = ⟨i, hi⟩ ∨ (⟨k, hk⟩ : Fin 6) = ⟨j, hj⟩) := h
  rw [h, Fin.mk.injEq, Fin.mk.injEq]
def wst (b i j : Nat) : Nat := if b.testBit i = true ∨ b.testBit j = true then b ||| ends i j else b
def sub6 (b d : Nat) : Prop := ∀ k, k < 6 → b.testBit k = true → d.testBit k = true
theorem wst_sub {b i j : Nat} (hi : i < 6) (hj : j < 6) : sub6 b (wst b i j) := fun k hk h => by
  unfold wst
  split
  · exact (ends_or hi hj hk).mpr (Or.inl h)
  · exact h
theorem wst_lt {b i j : Nat} (hb : b < 64) (hi : i < 6) (hj : j < 6) : wst b i j < 64 := by
  unfold wst
  split
  · exact (ends_n ⟨b, hb⟩ ⟨i, hi⟩ ⟨j, hj⟩).2.2.2
  · exact hb
section REACH
variable {N : Nat} {A B : Nat → Nat} {w1 w2 : Nat → Int32}
def rndW (A B : Nat → Nat) : Nat → Nat → Nat
  | 0, b => b
  | w + 1, b => wst (rndW A B w b) (A w) (B w)
theorem rndW_lt (hN : Net N A B) {b : Nat} (hb : b < 64) : ∀ w, w ≤ N → rndW A B w b < 64
  | 0, _ => hb
  | w + 1, h => wst_lt (rndW_lt hN hb w (by omega)) (hN.2 w (by omega)).1 (hN.2 w (by omega)).2.1
theorem rndW_sub (hN : Net N A B) (b : Nat) {v : Nat} : ∀ w, w ≤ N → v ≤ w → sub6 (rndW A B v b) (rndW A B w b)
  | 0, _, hv => by
    obtain rfl : v = 0 := by omega
    exact fun _ _ h => h
  | w + 1, h, hv => by
    by_cases e : v = w + 1
    · subst e
      exact fun _ _ h => h
    · exact fun k hk z => wst_sub (hN.2 w (by omega)).1 (hN.2 w (by omega)).2.1 k hk (rndW_sub hN b w (by omega) (by omega) k hk z)
/-- a set of knots that no wire leaves -/
def Clo (N : Nat) (A B : Nat → Nat) (C : Nat → Prop) : Prop := ∀ w, w < N → (C (A w) ↔ C (B w))
theorem rndW_in (hN : Net N A B) {C : Nat → Prop} (hC : Clo N A B C) {b : Nat} (hb : ∀ k, k < 6 → b.testBit k = true → C k) : ∀ w, w ≤ N → ∀ k, k < 6 → (rndW A B w b).testBit k = true → C k
  | 0, _ => hb
  | w + 1, h => fun k hk z => by
    have ih := rndW_in hN hC hb w (by omega)
    have hw := hN.2 w (by omega)
    have z : (wst (rndW A B w b) (A w) (B w)).testBit k = true := z
    unfold wst at z
    split at z
    · rename_i c
      have hA : C (A w) := by
        rcases c with c | c
        · exact ih _ hw.1 c
        · exact (hC w (by omega)).mpr (ih _ hw.2.1 c)
      rcases (ends_or hw.1 hw.2.1 hk).mp z with z | z | z
      · exact ih k hk z
      · rw [z]; exact hA
      · rw [z]; exact (hC w (by omega)).mp hA
    · exact ih k hk z
theorem rndW_fix (hN : Net N A B) {b : Nat} (h : Clo N A B (fun k => b.testBit k = true)) : ∀ w, w ≤ N → sub6 (rndW A B w b) b
  | w, hw => fun k hk z => rndW_in hN h (fun _ _ q => q) w hw k hk z
theorem rndW_clo (hN : Net N A B) {b : Nat} (h : sub6 (rndW A B N b) b) : Clo N A B (fun k => b.testBit k = true) := fun w hw => by
  have h1 := rndW_sub hN b (v := w + 1) N (Nat.le_refl N) (by omega)
  have h0 := rndW_sub hN b (v := 0) w (by omega) (Nat.zero_le w)
  have hk := hN.2 w hw
  have e : rndW A B (w + 1) b = wst (rndW A B w b) (A w) (B w) := rfl
  rw [e] at h1
  have go : ∀ k, k < 6 → (wst (rndW A B w b) (A w) (B w)).testBit k = true → b.testBit k = true := fun k hk z => h k hk (h1 k hk z)
  constructor
  · intro z
    refine go _ hk.2.1 ?_
    unfold wst
    rw [if_pos (Or.inl (h0 _ hk.1 z))]
    exact (ends_or hk.1 hk.2.1 hk.2.1).mpr (Or.inr (Or.inr rfl))
  · intro z
    refine go _ hk.1 ?_
    unfold wst
    rw [if_pos (Or.inr (h0 _ hk.2.1 z))]
    exact (ends_or hk.1 hk.2.1 hk.1).mpr (Or.inr (Or.inl rfl))
theorem sub_cases : ∀ (b d : Fin 64), (∀ k : Fin 6, b.1.testBit k.1 = true → d.1.testBit k.1 = true) → b = d ∨ pcn b.1 6 < pcn d.1 6 := by decide +kernel
theorem full6 : ∀ b : Fin 64, 6 ≤ pcn b.1 6 → ∀ k : Fin 6, b.1.testBit k.1 = true := by decide +kernel
def rnds (N : Nat) (A B : Nat → Nat) : Nat → Nat → Nat
  | 0, b => b
  | r + 1, b => rndW A B N (rnds N A B r b)
theorem rnds_lt (hN : Net N A B) {b : Nat} (hb : b < 64) : ∀ r, rnds N A B r b < 64
  | 0 => hb
  | r + 1 => rndW_lt hN (rnds_lt hN hb r) N (Nat.le_refl N)
theorem rnds_clo (hN : Net N A B) {b : Nat} (hb : b < 64) (h1 : 1 ≤ pcn b 6) : ∀ r, Clo N A B (fun k => (rnds N A B r b).testBit k = true) ∨ r + 1 ≤ pcn (rnds N A B r b) 6
  | 0 => Or.inr h1
  | r + 1 => by
    have hb' := rnds_lt hN hb r
    have hb2 := rnds_lt hN hb (r + 1)
    have hs : sub6 (rnds N A B r b) (rnds N A B (r + 1) b) := rndW_sub hN (rnds N A B r b) (v := 0) N (Nat.le_refl N) (Nat.zero_le N)
    have hc := sub_cases ⟨_, hb'⟩ ⟨_, hb2⟩ (fun k z => hs k.1 k.2 z)
    by_cases e : rnds N A B r b = rnds N A B (r + 1) b
    · refine Or.inl ?_
      rw [← e]
      refine rndW_clo hN ?_
      rw [show rndW A B N (rnds N A B r b) = rnds N A B (r + 1) b from rfl, ← e]
      exact fun _ _ h => h
    · rcases rnds_clo hN hb h1 r with c | c
      · have f := rndW_fix hN c N (Nat.le_refl N)
        rcases sub_cases ⟨_, hb2⟩ ⟨_, hb'⟩ (fun k z => f k.1 k.2 z) with q | q
        · exact absurd (congrArg Fin.val q).symm e
        · rcases hc with p | p
          · exact absurd (congrArg Fin.val p) e
          · have q : pcn (rnds N A B (r + 1) b) 6 < pcn (rnds N A B r b) 6 := q
            have p : pcn (rnds N A B r b) 6 < pcn (rnds N A B (r + 1) b) 6 := p
            omega
      · rcases hc with p | p
        · exact absurd (congrArg Fin.val p) e
        · have p : pcn (rnds N A B r b) 6 < pcn (rnds N A B (r + 1) b) 6 := p
          exact Or.inr (by omega)
/-- the knots that hang together with a -/
def rch (N : Nat) (A B : Nat → Nat) (a : Nat) : Nat := rnds N A B 5 (1 <<< a)
theorem one_a : ∀ a : Fin 6, 1 <<< a.1 < 64 ∧ (1 : Int32) <<< (nI a.1 &&& 31) = nI (1 <<< a.1) ∧ 1 ≤ pcn (1 <<< a.1) 6 ∧ ∀ k : Fin 6, ((1 <<< a.1).testBit k.1 = true) ↔ k = a := by decide +kernel
theorem rch_lt (hN : Net N A B) {a : Nat} (ha : a < 6) : rch N A B a < 64 := rnds_lt hN (one_a ⟨a, ha⟩).1 5
theorem rch_clo (hN : Net N A B) {a : Nat} (ha : a < 6) : Clo N A B (fun k => (rch N A B a).testBit k = true) := by
  rcases rnds_clo hN (one_a ⟨a, ha⟩).1 (one_a ⟨a, ha⟩).2.2.1 5 with h | h
  · exact h
  · have hf := full6 ⟨rch N A B a, rch_lt hN ha⟩ h
    intro w hw
    exact ⟨fun _ => hf ⟨_, (hN.2 w hw).2.1⟩, fun _ => hf ⟨_, (hN.2 w hw).1⟩⟩
theorem rnds_in (hN : Net N A B) {C : Nat → Prop} (hC : Clo N A B C) {b : Nat} (hb : ∀ k, k < 6 → b.testBit k = true → C k) : ∀ r, ∀ k, k < 6 → (rnds N A B r b).testBit k = true → C k
  | 0 => hb
  | r + 1 => rndW_in hN hC (rnds_in hN hC hb r) N (Nat.le_refl N)
theorem rch_in (hN : Net N A B) {C : Nat → Prop} (hC : Clo N A B C) {a : Nat} (ha : a < 6) (hCa : C a) {k : Nat} (hk : k < 6) (h : (rch N A B a).testBit k = true) : C k := by
  refine rnds_in hN hC (fun k hk z => ?_) 5 k hk h
  have := ((one_a ⟨a, ha⟩).2.2.2 ⟨k, hk⟩).mp z
  rw [show k = a from congrArg Fin.val this]
  exact hCa
theorem rch_self (hN : Net N A B) {a : Nat} (ha : a < 6) : (rch N A B a).testBit a = true := by
  have go : ∀ r, (rnds N A B r (1 <<< a)).testBit a = true := fun r => by
    induction r with
    | zero => exact ((one_a ⟨a, ha⟩).2.2.2 ⟨a, ha⟩).mpr rfl
    | succ r ih => exact rndW_sub hN (rnds N A B r (1 <<< a)) (v := 0) N (Nat.le_refl N) (Nat.zero_le N) a ha ih
  exact go 5
theorem reach_in (hN : Net N A B) (h1 : ∀ w, w < N → w1 w = nI (A w) ∧ w2 w = nI (B w)) {b : Nat} (hb : b < 64) : ∀ (r w : Nat), w + r = N → ∀ fuel, r < fuel → LX3_reachedFrom_15 (nI N) w1 w2 fuel (nI (rndW A B w b)) (nI w) = some (nI (rndW A B N b)) := by
  have hN12 := hN.1
  intro r
  induction r with
  | zero =>
    intro w hw fuel hf
    obtain ⟨f, rfl⟩ : ∃ f, fuel = f + 1 := ⟨fuel - 1, by omega⟩
    obtain rfl : w = N := by omega
    unfold LX3_reachedFrom_15
    rw [if_pos (nI_le (by omega) (by omega))]
  | succ r ih =>
    intro w hw fuel hf
    obtain ⟨f, rfl⟩ : ∃ f, fuel = f + 1 := ⟨fuel - 1, by omega⟩
    have hab := hN.2 w (by omega)
    have he := ends_n ⟨rndW A B w b, rndW_lt hN hb w (by omega)⟩ ⟨A w, hab.1⟩ ⟨B w, hab.2.1⟩
    obtain ⟨e1, e2, e3, -⟩ := he
    have e1 : ((1 : Int32) <<< (nI (A w) &&& 31)) ||| ((1 : Int32) <<< (nI (B w) &&& 31)) = nI (ends (A w) (B w)) := e1
    have e2 : (nI (ends (A w) (B w)) &&& nI (rndW A B w b) = 0) ↔ ¬ ((rndW A B w b).testBit (A w) = true ∨ (rndW A B w b).testBit (B w) = true) := e2
    have e3 : nI (rndW A B w b) ||| nI (ends (A w) (B w)) = nI (rndW A B w b ||| ends (A w) (B w)) := e3
    unfold LX3_reachedFrom_15
    rw [if_neg (nI_ge (by omega) (by omega)), nI_clamp (show N < 2 ^ 31 by omega), if_pos (jok_nI (by omega) (by omega)), nI_clamp (show w < 2 ^ 31 by omega), (h1 w (by omega)).1, (h1 w (by omega)).2]
    unfold fX4_touches
    rw [e1]
    by_cases c : (rndW A B w b).testBit (A w) = true ∨ (rndW A B w b).testBit (B w) = true
    · rw [if_neg (fun z => e2.mp z c)]
      simp only [Option.bind_some, jlet]
      rw [if_neg (by decide), e3, ← nI_succ]
      have := ih (w + 1) (by omega) f (by omega)
      rw [show rndW A B (w + 1) b = rndW A B w b ||| ends (A w) (B w) from if_pos c] at this
      exact this
    · rw [if_pos (e2.mpr c)]
      simp only [Option.bind_some, jlet]
      rw [if_pos trivial, ← nI_succ]
      have := ih (w + 1) (by omega) f (by omega)
      rw [show rndW A B (w + 1) b = rndW A B w b from if_neg c] at this
      exact this
theorem reach_out (hN : Net N A B) (h1 : ∀ w, w < N → w1 w = nI (A w) ∧ w2 w = nI (B w)) {b : Nat} (hb : b < 64) : ∀ (r k : Nat), k + r = 5 → ∀ fuel, r < fuel → LX3_reachedFrom_6 (nI N) w1 w2 fuel (nI (rnds N A B k b)) (nI (k + 1)) = some (nI (rnds N A B 5 b)) := by
  have hN12 := hN.1
  intro r
  induction r with
  | zero =>
    intro k hk fuel hf
    obtain ⟨f, rfl⟩ : ∃ f, fuel = f + 1 := ⟨fuel - 1, by omega⟩
    obtain rfl : k = 5 := by omega
    unfold LX3_reachedFrom_6
    rw [if_pos (by decide)]
  | succ r ih =>
    intro k hk fuel hf
    obtain ⟨f, rfl⟩ : ∃ f, fuel = f + 1 := ⟨fuel - 1, by omega⟩
    unfold LX3_reachedFrom_6
    rw [if_neg (show ¬ (6 : Int32) ≤ nI (k + 1) from nI_ge (b := 6) (by omega) (by omega))]
    have h := reach_in hN h1 (rnds_lt hN hb k) N 0 (by omega) 5000 (by omega)
    have h : LX3_reachedFrom_15 (nI N) w1 w2 5000 (nI (rnds N A B k b)) (0 : Int32) = some (nI (rnds N A B (k + 1) b)) := h
    rw [h]
    simp only [Option.bind_some, jlet]
    rw [← nI_succ]
    exact ih (k + 1) (by omega) f (by omega)
theorem reachOk (hN : Net N A B) (h1 : ∀ w, w < N → w1 w = nI (A w) ∧ w2 w = nI (B w)) {a : Nat} (ha : a < 6) : fX3_reachedFrom (nI a) (nI N) w1 w2 = some (nI (rch N A B a)) := by
  have o := one_a ⟨a, ha⟩
  unfold fX3_reachedFrom
  simp only [jlet]
  rw [show (1 : Int32) <<< (nI a &&& 31) = nI (1 <<< a) from o.2.1]
  have h := reach_out hN h1 o.1 5 0 (by omega) 5000 (by omega)
  have h : LX3_reachedFrom_6 (nI N) w1 w2 5000 (nI (1 <<< a)) (1 : Int32) = some (nI (rch N A B a)) := h
  rw [h]
  rfl
theorem hangOk (hN : Net N A B) (h1 : ∀ w, w < N → w1 w = nI (A w) ∧ w2 w = nI (B w)) {a b : Nat} (ha : a < 6) (hb : b < 6) : fX3_hangTogether (nI a) (nI b) (nI N) w1 w2 = some (if (rch N A B a).testBit b = true then 1 else 0) := by
  unfold fX3_hangTogether
  rw [reachOk hN h1 ha]
  simp only [Option.bind_some]
  by_cases c : (rch N A B a).testBit b = true
  · rw [if_pos ((bit_test (rch_lt hN ha) hb).mpr c), if_pos c]
  · rw [if_neg (fun z => c ((bit_test (rch_lt hN ha) hb).mp z)), if_neg c]
end REACH
