/-! labels: which are one, what wires make one, sums over sets of wires -/
theorem mrg_eq {P : Nat → Nat} {i j : Nat} (hn : P i ≠ P j) (a b : Nat) : mrg P i j a = mrg P i j b ↔ (P a = P b ∨ (P a = P i ∧ P b = P j) ∨ (P a = P j ∧ P b = P i)) := by
  unfold mrg mvP
  by_cases c1 : P i = 5
  · simp only [if_pos c1]
    by_cases c2 : P a = P j <;> by_cases c3 : P b = P j <;> simp only [c2, c3, if_true, if_false] <;> grind
  · simp only [if_neg c1]
    by_cases c2 : P a = P i <;> by_cases c3 : P b = P i <;> simp only [c2, c3, if_true, if_false] <;> grind
def Eqv (P Q : Nat → Nat) : Prop := ∀ a b, P a = P b ↔ Q a = Q b
theorem Eqv.mrg {P Q : Nat → Nat} (h : Eqv P Q) {i j : Nat} (hn : P i ≠ P j) : Eqv (mrg P i j) (mrg Q i j) := fun a b => by
  rw [mrg_eq hn, mrg_eq (fun z => hn ((h i j).mpr z)), h a b, h a i, h b j, h a j, h b i]
def Fnr (P Q : Nat → Nat) : Prop := ∀ a b, P a = P b → Q a = Q b
def stp (P : Nat → Nat) (w : Wr) : Nat → Nat := if P w.1 = P w.2.1 then P else mrg P w.1 w.2.1
theorem stp_eq {P : Nat → Nat} {w : Wr} (a b : Nat) : stp P w a = stp P w b ↔ (P a = P b ∨ (P a = P w.1 ∧ P b = P w.2.1) ∨ (P a = P w.2.1 ∧ P b = P w.1)) := by
  unfold stp
  by_cases c : P w.1 = P w.2.1
  · rw [if_pos c]
    grind
  · rw [if_neg c]
    exact mrg_eq c a b
theorem stp_rt {P : Nat → Nat} (h : Rt P) {w : Wr} (hw : w.1 ≤ 5 ∧ w.2.1 ≤ 5) : Rt (stp P w) := by
  unfold stp
  by_cases c : P w.1 = P w.2.1
  · rw [if_pos c]; exact h
  · rw [if_neg c]; exact mrg_rt h hw.1 hw.2 c
theorem Fnr.step {P Q : Nat → Nat} (h : Fnr P Q) (w : Wr) : Fnr (stp P w) (stp Q w) := fun a b => by
  rw [stp_eq, stp_eq]
  rintro (z | ⟨z1, z2⟩ | ⟨z1, z2⟩)
  · exact Or.inl (h _ _ z)
  · exact Or.inr (Or.inl ⟨h _ _ z1, h _ _ z2⟩)
  · exact Or.inr (Or.inr ⟨h _ _ z1, h _ _ z2⟩)
theorem Fnr.self (P : Nat → Nat) (w : Wr) : Fnr P (stp P w) := fun a b h => (stp_eq a b).mpr (Or.inl h)
def clo : List Wr → (Nat → Nat) → Nat → Nat
  | [], P => P
  | w :: ws, P => clo ws (stp P w)
theorem Fnr.close : ∀ (ws : List Wr) {P Q : Nat → Nat}, Fnr P Q → Fnr (clo ws P) (clo ws Q)
  | [], _, _, h => h
  | w :: ws, _, _, h => Fnr.close ws (h.step w)
theorem clo_rt : ∀ (ws : List Wr) {P : Nat → Nat}, Rt P → Wok ws → Rt (clo ws P)
  | [], _, h, _ => h
  | w :: ws, _, h, hw => clo_rt ws (stp_rt h (hw w List.mem_cons_self)) (fun q hq => hw q (List.mem_cons_of_mem _ hq))
theorem liv0 {P : Nat → Nat} (h : Rt P) : liv P = 0 ↔ ∀ k, k < 5 → P k = 5 := by
  constructor
  · intro z k hk
    have h1 := h.2 k (by omega)
    rcases (show P k = 5 ∨ P k = 0 ∨ P k = 1 ∨ P k = 2 ∨ P k = 3 ∨ P k = 4 by omega) with e | e | e | e | e | e
    · exact e
    all_goals
      rw [e] at h1
      unfold liv at z
      rw [h1.2] at z
      simp at z
      try omega
  · intro z
    unfold liv
    rw [z 0 (by decide), z 1 (by decide), z 2 (by decide), z 3 (by decide), z 4 (by decide)]
    rfl
theorem liv0_fnr {P Q : Nat → Nat} (hP : Rt P) (hQ : Rt Q) (h : Fnr P Q) (z : liv P = 0) : liv Q = 0 := by
  rw [liv0 hQ]
  rw [liv0 hP] at z
  intro k hk
  rw [← hQ.1]
  exact h k 5 (by rw [z k hk, hP.1])
/-- there is a forest of all lines just if the wires join them all to the ground -/
theorem Gf_pos : ∀ (ws : List Wr), Wok ws → (∀ w, w ∈ ws → 0 < w.2.2 ∧ w.2.2 ≤ 48) → ∀ P, Rt P → (0 < Gf ws P (liv P) ↔ liv (clo ws P) = 0) := by
  intro ws
  induction ws with
  | nil =>
    intro hw hc P h
    show 0 < (if liv P = 0 then (1 : Int) else 0) ↔ liv P = 0
    by_cases z : liv P = 0
    · rw [if_pos z]; exact ⟨fun _ => z, fun _ => by decide⟩
    · rw [if_neg z]; exact ⟨fun q => absurd q (by decide), fun q => absurd q z⟩
  | cons w ws ih =>
    intro hw hc P h
    have hw' : Wok ws := fun q hq => hw q (List.mem_cons_of_mem _ hq)
    have hc' : ∀ w, w ∈ ws → 0 < w.2.2 ∧ w.2.2 ≤ 48 := fun q hq => hc q (List.mem_cons_of_mem _ hq)
    have hc0 : Wc ws := fun q hq => ⟨Int.le_of_lt (hc' q hq).1, (hc' q hq).2⟩
    have ww := hw w List.mem_cons_self
    have cw := hc w List.mem_cons_self
    show _ ↔ liv (clo ws (stp P w)) = 0
    unfold Gf
    by_cases c : P w.1 = P w.2.1
    · rw [if_pos c, Int.add_zero, show stp P w = P from if_pos c]
      exact ih hw' hc' P h
    · have hr := mrg_rt h ww.1 ww.2 c
      have hl : liv P = liv (mrg P w.1 w.2.1) + 1 := by
        unfold mrg
        by_cases c5 : P w.1 = 5
        · rw [if_pos c5]
          exact liv_mvP h (by have := (h.2 _ ww.2).1; omega) (h.2 _ ww.2).2 (by omega) (by omega) h.1
        · rw [if_neg c5]
          exact liv_mvP h (by have := (h.2 _ ww.1).1; omega) (h.2 _ ww.1).2 c (h.2 _ ww.2).1 (h.2 _ ww.2).2
      have b1 := Gf_bd ws hc0 P (liv P)
      have b2 := Gf_bd ws hc0 (mrg P w.1 w.2.1) (liv (mrg P w.1 w.2.1))
      have i1 := ih hw' hc' P h
      have i2 := ih hw' hc' _ hr
      rw [if_neg c, if_neg (show ¬ liv P = 0 by omega), show liv P - 1 = liv (mrg P w.1 w.2.1) by omega, show stp P w = mrg P w.1 w.2.1 from if_neg c]
      constructor
      · intro z
        by_cases z2 : 0 < Gf ws P (liv P)
        · have f : Fnr P (mrg P w.1 w.2.1) := by
            have := Fnr.self P w
            rwa [show stp P w = mrg P w.1 w.2.1 from if_neg c] at this
          exact liv0_fnr (clo_rt ws h hw') (clo_rt ws hr hw') (f.close ws) (i1.mp z2)
        · refine i2.mp ?_
          rcases Int.lt_or_eq_of_le b2.1 with q | q
          · exact q
          · rw [← q, Int.mul_zero] at z
            omega
      · intro z
        have := Int.mul_pos cw.1 (i2.mpr z)
        omega
theorem liv_mrg {P : Nat → Nat} (h : Rt P) {i j : Nat} (hi : i ≤ 5) (hj : j ≤ 5) (c : P i ≠ P j) : liv P = liv (mrg P i j) + 1 := by
  unfold mrg
  by_cases c5 : P i = 5
  · rw [if_pos c5]
    exact liv_mvP h (by have := (h.2 _ hj).1; omega) (h.2 _ hj).2 (by omega) (by omega) h.1
  · rw [if_neg c5]
    exact liv_mvP h (by have := (h.2 _ hi).1; omega) (h.2 _ hi).2 c (h.2 _ hj).1 (h.2 _ hj).2
/-! sets of wires, as numbers -/
def sumT (f : Nat → Int) : Nat → Int
  | 0 => 0
  | n + 1 => sumT f n + f n
theorem sumT_s (f : Nat → Int) (n : Nat) : sumT f (n + 1) = sumT f n + f n := rfl
theorem sumT_congr {f g : Nat → Int} {n : Nat} (h : ∀ s, s < n → f s = g s) : sumT f n = sumT g n := by
  induction n with
  | zero => rfl
  | succ n ih =>
    unfold sumT
    rw [ih (fun s hs => h s (by omega)), h n (by omega)]
theorem sumT_add (f g : Nat → Int) (n : Nat) : sumT (fun s => f s + g s) n = sumT f n + sumT g n := by
  induction n with
  | zero => rfl
  | succ n ih =>
    unfold sumT
    rw [ih]
    omega
theorem sumT_mul (c : Int) (f : Nat → Int) (n : Nat) : sumT (fun s => c * f s) n = c * sumT f n := by
  induction n with
  | zero => rw [sumT, sumT, Int.mul_zero]
  | succ n ih =>
    unfold sumT
    rw [ih, Int.mul_add]
theorem sumT_zero (n : Nat) : sumT (fun _ => 0) n = 0 := by
  induction n with
  | zero => rfl
  | succ n ih =>
    unfold sumT
    rw [ih]
    rfl
theorem sumT_two (f : Nat → Int) (n : Nat) : sumT f (2 * n) = sumT (fun s => f (2 * s) + f (2 * s + 1)) n := by
  induction n with
  | zero => rfl
  | succ n ih =>
    rw [show 2 * (n + 1) = 2 * n + 1 + 1 by omega, sumT_s, sumT_s, sumT_s, ih]
    omega
/-- how many wires of the set, whether it is a forest from the labels P, the labels behind it, its weight -/
def cntS : Nat → Nat → Nat
  | 0, _ => 0
  | n + 1, s => s % 2 + cntS n (s / 2)
def opnS : List Wr → (Nat → Nat) → Nat → Bool
  | [], _, _ => true
  | w :: ws, P, s => if s % 2 = 1 then (decide (P w.1 ≠ P w.2.1) && opnS ws (mrg P w.1 w.2.1) (s / 2)) else opnS ws P (s / 2)
def finS : List Wr → (Nat → Nat) → Nat → Nat → Nat
  | [], P, _ => P
  | w :: ws, P, s => if s % 2 = 1 then finS ws (stp P w) (s / 2) else finS ws P (s / 2)
def wgtS : List Wr → Nat → Int
  | [], _ => 1
  | w :: ws, s => (if s % 2 = 1 then w.2.2 else 1) * wgtS ws (s / 2)
theorem cntS_s (n s : Nat) : cntS (n + 1) s = s % 2 + cntS n (s / 2) := rfl
theorem opnS_c (w : Wr) (ws : List Wr) (P : Nat → Nat) (s : Nat) : opnS (w :: ws) P s = if s % 2 = 1 then (decide (P w.1 ≠ P w.2.1) && opnS ws (mrg P w.1 w.2.1) (s / 2)) else opnS ws P (s / 2) := rfl
theorem finS_c (w : Wr) (ws : List Wr) (P : Nat → Nat) (s : Nat) : finS (w :: ws) P s = if s % 2 = 1 then finS ws (stp P w) (s / 2) else finS ws P (s / 2) := rfl
theorem wgtS_c (w : Wr) (ws : List Wr) (s : Nat) : wgtS (w :: ws) s = (if s % 2 = 1 then w.2.2 else 1) * wgtS ws (s / 2) := rfl
def twS (ws : List Wr) (P : Nat → Nat) (m s : Nat) : Int := if cntS ws.length s = m ∧ opnS ws P s = true then wgtS ws s else 0
theorem Gf_sum : ∀ (ws : List Wr) (P : Nat → Nat) (m : Nat), Gf ws P m = sumT (twS ws P m) (2 ^ ws.length)
  | [], P, m => by
    show (if m = 0 then (1 : Int) else 0) = 0 + twS [] P m 0
    unfold twS
    show _ = 0 + if 0 = m ∧ true = true then (1 : Int) else 0
    by_cases h : m = 0
    · rw [if_pos h, if_pos ⟨h.symm, rfl⟩]; rfl
    · rw [if_neg h, if_neg (fun z => h z.1.symm)]; rfl
  | w :: ws, P, m => by
    rw [List.length_cons, Nat.pow_succ, Nat.mul_comm, sumT_two, sumT_add]
    have e1 : sumT (fun s => twS (w :: ws) P m (2 * s)) (2 ^ ws.length) = Gf ws P m := by
      rw [Gf_sum ws P m]
      refine sumT_congr (fun s _ => ?_)
      unfold twS
      rw [List.length_cons, cntS_s, opnS_c, wgtS_c, show 2 * s % 2 = 0 by omega, show 2 * s / 2 = s by omega, if_neg (show ¬ (0 = 1) by decide), if_neg (show ¬ (0 = 1) by decide), Int.one_mul, Nat.zero_add]
    have e2 : sumT (fun s => twS (w :: ws) P m (2 * s + 1)) (2 ^ ws.length) = (if P w.1 = P w.2.1 then 0 else if m = 0 then 0 else w.2.2 * Gf ws (mrg P w.1 w.2.1) (m - 1)) := by
      have hs : ∀ s, twS (w :: ws) P m (2 * s + 1) = if (1 + cntS ws.length s = m ∧ (decide (P w.1 ≠ P w.2.1) && opnS ws (mrg P w.1 w.2.1) s) = true) then w.2.2 * wgtS ws s else 0 := fun s => by
        unfold twS
        rw [List.length_cons, cntS_s, opnS_c, wgtS_c, show (2 * s + 1) % 2 = 1 by omega, show (2 * s + 1) / 2 = s by omega, if_pos rfl, if_pos rfl]
      by_cases c : P w.1 = P w.2.1
      · rw [if_pos c, ← sumT_zero (2 ^ ws.length)]
        refine sumT_congr (fun s _ => ?_)
        rw [hs, if_neg]
        rintro ⟨-, z⟩
        rw [decide_eq_false (show ¬ P w.1 ≠ P w.2.1 from fun q => q c), Bool.false_and] at z
        exact absurd z (by decide)
      · rw [if_neg c]
        by_cases hm : m = 0
        · rw [if_pos hm, ← sumT_zero (2 ^ ws.length)]
          refine sumT_congr (fun s _ => ?_)
          rw [hs, if_neg]
          rintro ⟨z, -⟩
          omega
        · rw [if_neg hm, Gf_sum ws _ (m - 1), ← sumT_mul]
          refine sumT_congr (fun s _ => ?_)
          rw [hs]
          unfold twS
          rw [decide_eq_true c, Bool.true_and]
          by_cases z : cntS ws.length s = m - 1 ∧ opnS ws (mrg P w.1 w.2.1) s = true
          · rw [if_pos z, if_pos ⟨by omega, z.2⟩]
          · rw [if_neg z, if_neg (fun q => z ⟨by omega, q.2⟩), Int.mul_zero]
    rw [e1, e2]
    rfl
theorem opnS_eqv : ∀ (ws : List Wr) {P Q : Nat → Nat} (s : Nat), Eqv P Q → opnS ws P s = opnS ws Q s
  | [], _, _, _, _ => rfl
  | w :: ws, P, Q, s, h => by
    rw [opnS_c, opnS_c]
    by_cases c : s % 2 = 1
    · rw [if_pos c, if_pos c]
      by_cases z : P w.1 = P w.2.1
      · rw [decide_eq_false (show ¬ P w.1 ≠ P w.2.1 from fun q => q z), decide_eq_false (show ¬ Q w.1 ≠ Q w.2.1 from fun q => q ((h _ _).mp z))]
        rfl
      · rw [decide_eq_true z, decide_eq_true (show Q w.1 ≠ Q w.2.1 from fun q => z ((h _ _).mpr q)), opnS_eqv ws _ (h.mrg z)]
    · rw [if_neg c, if_neg c, opnS_eqv ws _ h]
theorem finS_fnr : ∀ (ws : List Wr) (P : Nat → Nat) (s : Nat), Fnr P (finS ws P s)
  | [], P, _ => fun _ _ h => h
  | w :: ws, P, s => by
    rw [finS_c]
    by_cases c : s % 2 = 1
    · rw [if_pos c]
      exact fun a b h => finS_fnr ws _ _ a b (Fnr.self P w a b h)
    · rw [if_neg c]
      exact finS_fnr ws P _
/-- made one first or last: a forest that keeps them apart -/
theorem opn_apart : ∀ (ws : List Wr) (P : Nat → Nat) (s a b : Nat), P a ≠ P b → (opnS ws (mrg P a b) s = true ↔ opnS ws P s = true ∧ finS ws P s a ≠ finS ws P s b)
  | [], P, s, a, b, h => ⟨fun _ => ⟨rfl, h⟩, fun _ => rfl⟩
  | w :: ws, P, s, a, b, h => by
    rw [opnS_c, opnS_c, finS_c]
    by_cases c : s % 2 = 1
    · rw [if_pos c, if_pos c, if_pos c]
      by_cases z : P w.1 = P w.2.1
      · rw [decide_eq_false (show ¬ P w.1 ≠ P w.2.1 from fun q => q z), decide_eq_false (show ¬ mrg P a b w.1 ≠ mrg P a b w.2.1 from fun q => q ((mrg_eq h _ _).mpr (Or.inl z)))]
        simp
      · rw [decide_eq_true z, show stp P w = mrg P w.1 w.2.1 from if_neg z]
        by_cases y : mrg P a b w.1 = mrg P a b w.2.1
        · rw [decide_eq_false (show ¬ mrg P a b w.1 ≠ mrg P a b w.2.1 from fun q => q y)]
          have y2 := (mrg_eq h _ _).mp y
          have y3 : mrg P w.1 w.2.1 a = mrg P w.1 w.2.1 b := (mrg_eq z _ _).mpr (by
            rcases y2 with y2 | y2 | y2
            · exact absurd y2 z
            · exact Or.inr (Or.inl ⟨y2.1.symm, y2.2.symm⟩)
            · exact Or.inr (Or.inr ⟨y2.2.symm, y2.1.symm⟩))
          constructor
          · intro q; simp at q
          · rintro ⟨-, q⟩; exact absurd (finS_fnr ws _ _ _ _ y3) q
        · rw [decide_eq_true y, Bool.true_and, Bool.true_and]
          have y2 : mrg P w.1 w.2.1 a ≠ mrg P w.1 w.2.1 b := fun q => by
            rcases (mrg_eq z _ _).mp q with q | q | q
            · exact h q
            · exact y ((mrg_eq h _ _).mpr (Or.inr (Or.inl ⟨q.1.symm, q.2.symm⟩)))
            · exact y ((mrg_eq h _ _).mpr (Or.inr (Or.inr ⟨q.2.symm, q.1.symm⟩)))
          rw [← opn_apart ws (mrg P w.1 w.2.1) (s / 2) a b y2]
          have e : Eqv (mrg (mrg P a b) w.1 w.2.1) (mrg (mrg P w.1 w.2.1) a b) := fun x u => by
            rw [mrg_eq y, mrg_eq y2]
            simp only [mrg_eq h, mrg_eq z]
            grind
          rw [opnS_eqv ws _ e]
    · rw [if_neg c, if_neg c, if_neg c]
      exact opn_apart ws P _ a b h
/-- a forest of m wires leaves so many lines less -/
theorem finS_liv : ∀ (ws : List Wr), Wok ws → ∀ (P : Nat → Nat) (s : Nat), Rt P → opnS ws P s = true → Rt (finS ws P s) ∧ liv P = liv (finS ws P s) + cntS ws.length s
  | [], _, P, s, h, _ => ⟨h, rfl⟩
  | w :: ws, hw, P, s, h, ho => by
    have hw' : Wok ws := fun q hq => hw q (List.mem_cons_of_mem _ hq)
    have ww := hw w List.mem_cons_self
    rw [opnS_c] at ho
    rw [finS_c, List.length_cons, cntS_s]
    by_cases c : s % 2 = 1
    · rw [if_pos c] at ho ⊢
      have ho := Bool.and_eq_true_iff.mp ho
      have z : P w.1 ≠ P w.2.1 := of_decide_eq_true ho.1
      rw [show stp P w = mrg P w.1 w.2.1 from if_neg z]
      have i := finS_liv ws hw' _ (s / 2) (mrg_rt h ww.1 ww.2 z) ho.2
      have l := liv_mrg h ww.1 ww.2 z
      exact ⟨i.1, by omega⟩
    · rw [if_neg c] at ho ⊢
      have i := finS_liv ws hw' _ (s / 2) h ho
      exact ⟨i.1, by omega⟩
