/-! knots and lines -/
section KNOTS
variable {N K gd : Nat} {A B : Nat → Nat} {c : Nat → Int}
/-- a set of knots with its ground -/
def Kok (N K gd : Nat) (A B : Nat → Nat) : Prop := K < 64 ∧ gd < 6 ∧ K.testBit gd = true ∧ Clo N A B (fun k => K.testBit k = true)
theorem lab_gd (h : Kok N K gd A B) : lab (msk K gd) gd = 5 := by
  unfold lab
  rw [if_neg]
  intro z
  exact ((msk_t ⟨K, h.1⟩ ⟨gd, h.2.1⟩ ⟨gd, h.2.1⟩).mp z).2 rfl
theorem lab_out (h : Kok N K gd A B) {x : Nat} (hx : x < 6) (hn : ¬ K.testBit x = true) : lab (msk K gd) x = 5 := by
  unfold lab
  rw [if_neg]
  intro z
  exact hn ((msk_t ⟨K, h.1⟩ ⟨gd, h.2.1⟩ ⟨x, hx⟩).mp z).1
theorem lab_lt (h : Kok N K gd A B) {x : Nat} (hx : x < 6) (hK : K.testBit x = true) (hn : x ≠ gd) : lab (msk K gd) x < pcn (msk K gd) 6 := by
  have ht : (msk K gd).testBit x = true := (msk_t ⟨K, h.1⟩ ⟨gd, h.2.1⟩ ⟨x, hx⟩).mpr ⟨hK, fun z => hn (congrArg Fin.val z)⟩
  unfold lab
  rw [if_pos ht]
  exact pcn_lt hx ht
theorem msk5 (h : Kok N K gd A B) : pcn (msk K gd) 6 ≤ 5 ∧ pcn (msk K gd) 6 + 1 = pcn K 6 := ⟨(msk_n ⟨K, h.1⟩ ⟨gd, h.2.1⟩).2.2.1, (msk_n ⟨K, h.1⟩ ⟨gd, h.2.1⟩).2.2.2 h.2.2.1⟩
theorem lab_inj (h : Kok N K gd A B) {x y : Nat} (hx : x < 6) (hy : y < 6) (hKx : K.testBit x = true) (hKy : K.testBit y = true) : lab (msk K gd) x = lab (msk K gd) y ↔ x = y := by
  have h5 := msk5 h
  constructor
  · intro e
    by_cases c1 : x = y
    · exact c1
    · rcases lab_ne (b := msk K gd) hx hy h5.1 c1 with q | q
      · exact absurd e q
      · by_cases c2 : x = gd
        · by_cases c3 : y = gd
          · rw [c2, c3]
          · have := lab_lt h hy hKy c3
            omega
        · have := lab_lt h hx hKx c2
          omega
  · intro e
    rw [e]
/-- labels of knots and of lines that say the same of K -/
def Rel (K b : Nat) (g P : Nat → Nat) : Prop := ∀ x y, x < 6 → y < 6 → K.testBit x = true → K.testBit y = true → (g x = g y ↔ P (lab b x) = P (lab b y))
theorem Rel0 (h : Kok N K gd A B) : Rel K (msk K gd) id (PS (sn (pcn (msk K gd) 6))) := fun x y hx hy hKx hKy => by
  rw [PS_sn (lab_cases hx) (msk5 h).1, PS_sn (lab_cases hy) (msk5 h).1, lab_inj h hx hy hKx hKy]
  rfl
theorem Rel.step {b : Nat} {g P : Nat → Nat} (h : Rel K b g P) {i j : Nat} (hi : i < 6) (hj : j < 6) (hKi : K.testBit i = true) (hKj : K.testBit j = true) (cc : Int) : Rel K b (kst g i j) (stp P (lab b i, lab b j, cc)) := fun x y hx hy hKx hKy => by
  rw [kst_eq, stp_eq, h x y hx hy hKx hKy, h x i hx hi hKx hKi, h y j hy hj hKy hKj, h x j hx hj hKx hKj, h y i hy hi hKy hKi]
def wr (b : Nat) (A B : Nat → Nat) (c : Nat → Int) (w : Nat) : Wr := (lab b (A w), lab b (B w), c w)
theorem div2 (s w : Nat) : s / 2 ^ w / 2 = s / 2 ^ (w + 1) := by
  rw [Nat.div_div_eq_div_mul, Nat.pow_succ]
theorem conn (hN : Net N A B) (hK : Kok N K gd A B) {s : Nat} : ∀ (r w : Nat) (g P : Nat → Nat), w + r = N → Rel K (msk K gd) g P → opnS ((List.range' w r).map (wr (msk K gd) A B c)) P (s / 2 ^ w) = (kin K A r w s && kopn A B r w g s) ∧ (kin K A r w s = true → Rel K (msk K gd) (kfin A B r w g s) (finS ((List.range' w r).map (wr (msk K gd) A B c)) P (s / 2 ^ w))) := by
  intro r
  induction r with
  | zero =>
    intro w g P hw h
    exact ⟨rfl, fun _ => h⟩
  | succ r ih =>
    intro w g P hw h
    have hab := hN.2 w (by omega)
    have hc := hK.2.2.2 w (by omega)
    have hc : K.testBit (A w) = true ↔ K.testBit (B w) = true := hc
    rw [List.range'_succ, List.map_cons, opnS_c, finS_c, kin_s, div2]
    unfold kopn kfin
    rcases bit01 s w with c0 | c0
    · rw [c0, if_neg (show ¬ 0 = 1 by decide), if_neg (show ¬ 0 = 1 by decide), if_neg (show ¬ 0 = 1 by decide), if_neg (show ¬ 0 = 1 by decide), decide_eq_true (show 0 = 0 from rfl), Bool.true_or, Bool.true_and]
      exact ih (w + 1) g P (by omega) h
    · rw [c0, if_pos rfl, if_pos rfl, if_pos rfl, if_pos rfl, decide_eq_false (show ¬ 1 = 0 by decide), Bool.false_or]
      by_cases kA : K.testBit (A w) = true
      · have kB := hc.mp kA
        rw [kA, Bool.true_and]
        have hs := h.step hab.1 hab.2.1 kA kB (c w)
        have i2 := ih (w + 1) _ _ (by omega) hs
        refine ⟨?_, i2.2⟩
        have hr := h _ _ hab.1 hab.2.1 kA kB
        by_cases z : g (A w) = g (B w)
        · rw [decide_eq_false (show ¬ g (A w) ≠ g (B w) from fun q => q z), decide_eq_false (show ¬ P (wr (msk K gd) A B c w).1 ≠ P (wr (msk K gd) A B c w).2.1 from fun q => q (hr.mp z))]
          simp
        · have z2 : P (lab (msk K gd) (A w)) ≠ P (lab (msk K gd) (B w)) := fun q => z (hr.mpr q)
          rw [decide_eq_true (show g (A w) ≠ g (B w) from z), decide_eq_true (show P (wr (msk K gd) A B c w).1 ≠ P (wr (msk K gd) A B c w).2.1 from z2), Bool.true_and, Bool.true_and, ← i2.1]
          rw [show stp P (lab (msk K gd) (A w), lab (msk K gd) (B w), c w) = mrg P (wr (msk K gd) A B c w).1 (wr (msk K gd) A B c w).2.1 from if_neg z2]
      · have kB : ¬ K.testBit (B w) = true := fun z => kA (hc.mpr z)
        have kA' : K.testBit (A w) = false := by
          cases q : K.testBit (A w)
          · rfl
          · exact absurd q kA
        rw [kA']
        refine ⟨?_, fun z => by simp at z⟩
        have e1 : (wr (msk K gd) A B c w).1 = 5 := lab_out hK hab.1 kA
        have e2 : (wr (msk K gd) A B c w).2.1 = 5 := lab_out hK hab.2.1 kB
        rw [e1, e2]
        simp
theorem wgt_k {b s : Nat} : ∀ (r w : Nat), wgtS ((List.range' w r).map (wr b A B c)) (s / 2 ^ w) = kwgt c r w s
  | 0, _ => rfl
  | r + 1, w => by
    rw [List.range'_succ, List.map_cons, wgtS_c, kwgt_s, div2, wgt_k r (w + 1)]
    rfl
theorem wl_wr (b : Nat) : wl b A B c N = (List.range' 0 N).map (wr b A B c) := by
  unfold wl
  rw [List.range_eq_range']
  rfl
/-- a set's part in the trees -/
theorem tw_k (hN : Net N A B) (hK : Kok N K gd A B) (m s : Nat) : twS (wl (msk K gd) A B c N) (PS (sn (pcn (msk K gd) 6))) m s = if cntS N s = m ∧ kin K A N 0 s = true ∧ kopn A B N 0 id s = true then kwgt c N 0 s else 0 := by
  unfold twS
  have h := conn (c := c) hN hK (s := s) N 0 id _ (by omega) (Rel0 hK)
  have hw := wgt_k (A := A) (B := B) (c := c) (b := msk K gd) (s := s) N 0
  rw [Nat.pow_zero, Nat.div_one] at h hw
  rw [wl_len, wl_wr, h.1, hw]
  simp only [Bool.and_eq_true]
/-- a set's part in the forests of two that keep a from the ground -/
theorem tw_a (hN : Net N A B) (hK : Kok N K gd A B) {a : Nat} (ha : a < 6) (hKa : K.testBit a = true) (hag : a ≠ gd) (m s : Nat) : twS (wl (msk K gd) A B c N) (mvP (PS (sn (pcn (msk K gd) 6))) (lab (msk K gd) a) 5) m s = if cntS N s = m ∧ kin K A N 0 s = true ∧ kopn A B N 0 id s = true ∧ kfin A B N 0 id s a ≠ kfin A B N 0 id s gd then kwgt c N 0 s else 0 := by
  unfold twS
  have h := conn (c := c) hN hK (s := s) N 0 id _ (by omega) (Rel0 hK)
  have hw := wgt_k (A := A) (B := B) (c := c) (b := msk K gd) (s := s) N 0
  rw [Nat.pow_zero, Nat.div_one] at h hw
  have hla := lab_lt hK ha hKa hag
  have h5 := msk5 hK
  have e1 : PS (sn (pcn (msk K gd) 6)) (lab (msk K gd) a) = lab (msk K gd) a := PS_sn (Or.inl hla) h5.1
  have e2 : PS (sn (pcn (msk K gd) 6)) 5 = 5 := PS_sn (Or.inr rfl) h5.1
  have em : mvP (PS (sn (pcn (msk K gd) 6))) (lab (msk K gd) a) 5 = mrg (PS (sn (pcn (msk K gd) 6))) (lab (msk K gd) a) 5 := by
    unfold mrg
    rw [if_neg (by rw [e1]; omega), e1, e2]
  rw [wl_len, wl_wr, em, hw]
  have ho := opn_apart ((List.range' 0 N).map (wr (msk K gd) A B c)) (PS (sn (pcn (msk K gd) 6))) s (lab (msk K gd) a) 5 (by rw [e1, e2]; omega)
  have key : (opnS ((List.range' 0 N).map (wr (msk K gd) A B c)) (mrg (PS (sn (pcn (msk K gd) 6))) (lab (msk K gd) a) 5) s = true) ↔ (kin K A N 0 s = true ∧ kopn A B N 0 id s = true ∧ kfin A B N 0 id s a ≠ kfin A B N 0 id s gd) := by
    rw [ho, h.1, Bool.and_eq_true]
    constructor
    · rintro ⟨⟨z1, z2⟩, z3⟩
      have hr := h.2 z1 a gd ha hK.2.1 hKa hK.2.2.1
      rw [lab_gd hK] at hr
      exact ⟨z1, z2, fun q => z3 (hr.mp q)⟩
    · rintro ⟨z1, z2, z3⟩
      have hr := h.2 z1 a gd ha hK.2.1 hKa hK.2.2.1
      rw [lab_gd hK] at hr
      exact ⟨⟨z1, z2⟩, fun q => z3 (hr.mpr q)⟩
  simp only [key]
end KNOTS
