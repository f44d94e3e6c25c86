/-! the numbers of the elimination of n lines, and how large they are -/
def sn (n : Nat) : Nat → Bool := fun r => decide (r < n)
theorem sn_ok {n : Nat} (h : n ≤ 5) : Sok (sn n) := fun r hr => decide_eq_false (by omega)
theorem sn_in {n r : Nat} (h : r < n) : sn n r = true := decide_eq_true h
theorem sn_out {n r : Nat} (h : ¬ r < n) : sn n r = false := decide_eq_false h
theorem liv_sn {k : Nat} (h : k ≤ 5) : liv (PS (sn k)) = k := by
  rcases (show k = 0 ∨ k = 1 ∨ k = 2 ∨ k = 3 ∨ k = 4 ∨ k = 5 by omega) with rfl | rfl | rfl | rfl | rfl | rfl <;> decide
/-- the lines below k, and i and j -/
def sij (k i j : Nat) : Nat → Bool := fun r => decide (r < k) || (decide (r = i) || decide (r = j))
theorem sij_ok {k i j : Nat} (hk : k ≤ 5) (hi : i < 5) (hj : j < 5) : Sok (sij k i j) := fun r hr => by
  unfold sij
  rw [decide_eq_false (show ¬ r < k by omega), decide_eq_false (show ¬ r = i by omega), decide_eq_false (show ¬ r = j by omega)]
  rfl
theorem sij_iff {k i j r : Nat} : sij k i j r = true ↔ r < k ∨ r = i ∨ r = j := by
  unfold sij
  simp
theorem sij_not {k i j r : Nat} : sij k i j r = false ↔ ¬ (r < k ∨ r = i ∨ r = j) := by
  rw [← sij_iff]
  simp
theorem liv_sij : ∀ (k : Fin 6) (i j : Fin 5), liv (PS (sij k i j)) ≤ k.1 + 2 ∧ liv (PS (sij k i i)) ≤ k.1 + 1 ∧ liv (PS (sij k i j)) ≤ 5 := by decide
theorem eb12 : ∀ (a b : Fin 6), a ≤ b → eb 12 a ≤ eb 12 b := by decide +kernel
theorem eb_12 {a b : Nat} (h : a ≤ b) (hb : b ≤ 5) : eb 12 a ≤ eb 12 b := eb12 ⟨a, by omega⟩ ⟨b, by omega⟩ h
section BAREISS
variable {ws : List Wr} {n : Nat}
abbrev An (ws : List Wr) (n : Nat) : Nat → Nat → Int := Mx (PS (sn n)) ws
theorem An_col (hw : Wok ws) (hn : n ≤ 5) {r c : Nat} (hr : r < 5) (hc : c < 5) (h : n ≤ c) : An ws n r c = if r = c then 1 else 0 := Mx_dead (sn_ok hn) hr hc (Or.inr (sn_out (by omega))) ws hw
theorem Bk_last (hw : Wok ws) (hn : n ≤ 5) {k : Nat} (hk : k ≤ n) : det5 (Bk (An ws n) k) = Gf ws (PS (sn k)) k := by
  have h5 := Gf_det ws _ (PS_rt (sn_ok (show k ≤ 5 by omega))) hw
  rw [liv_sn (by omega)] at h5
  rw [h5, clS_det (sn k) _ (fun c hc hS r hr => by
    unfold Bk
    rw [if_neg (fun z => by rw [sn_in z] at hS; exact absurd hS (by decide))])]
  refine det5_congr (fun r c hr hc => ?_)
  unfold clS Bk
  by_cases c1 : r < k
  · rw [if_pos (sn_in c1)]
    by_cases c2 : c < k
    · rw [if_pos c2]
      exact Mx_PS (sn_ok hn) (sn_ok (by omega)) (sn_in (by omega)) (sn_in c1) (sn_in (by omega)) (sn_in c2) ws
    · rw [if_neg c2, Mx_dead (sn_ok (by omega)) hr hc (Or.inr (sn_out c2)) ws hw]
  · rw [if_neg (by rw [sn_out c1]; decide), Mx_dead (sn_ok (by omega)) hr hc (Or.inl (sn_out c1)) ws hw]
theorem Bk_bd (hw : Wok ws) (hc : Wc ws) (hl : ws.length ≤ 12) (hn : n ≤ 5) {k : Nat} (hk : k ≤ n) : 0 ≤ det5 (Bk (An ws n) k) ∧ det5 (Bk (An ws n) k) ≤ eb 12 k := by
  rw [Bk_last hw hn hk]
  have h := Gf_bd ws hc (PS (sn k)) k
  exact ⟨h.1, Int.le_trans h.2 (eb_mono hl k)⟩
/-- a number on the diagonal -/
theorem mk_d (hw : Wok ws) (hn : n ≤ 5) {k i : Nat} (hk : k ≤ n) (hi : i < n) (hik : k ≤ i) : mk (An ws n) k i (fun r => An ws n r i) = det5 (Mx (PS (sij k i i)) ws) := by
  have hS := sij_ok (show k ≤ 5 by omega) (show i < 5 by omega) (show i < 5 by omega)
  unfold mk
  rw [clS_det (sij k i i) _ (fun c hc h r hr => by
    have h := sij_not.mp h
    unfold repc Bk
    rw [if_neg (by omega), if_neg (by omega)])]
  refine det5_congr (fun r c hr hc => ?_)
  unfold clS repc Bk
  by_cases c1 : sij k i i r = true
  · rw [if_pos c1]
    have c1' := sij_iff.mp c1
    by_cases c2 : c = i
    · subst c2
      rw [if_pos rfl]
      exact Mx_PS (sn_ok hn) hS (sn_in (by omega)) c1 (sn_in (by omega)) (sij_iff.mpr (by omega)) ws
    · rw [if_neg c2]
      by_cases c3 : c < k
      · rw [if_pos c3]
        exact Mx_PS (sn_ok hn) hS (sn_in (by omega)) c1 (sn_in (by omega)) (sij_iff.mpr (by omega)) ws
      · rw [if_neg c3, Mx_dead hS hr hc (Or.inr (sij_not.mpr (by omega))) ws hw]
  · have c1' : sij k i i r = false := by
      cases h : sij k i i r
      · rfl
      · exact absurd h c1
    rw [if_neg c1, Mx_dead hS hr hc (Or.inl c1') ws hw]
/-- one beside it -/
theorem mk_o (hw : Wok ws) (hn : n ≤ 5) {k i j : Nat} (hk : k ≤ n) (hi : i < n) (hj : j < n) (hjk : k ≤ j) (hij : i ≠ j) : mk (An ws n) k i (fun r => An ws n r j) = - det5 (repc (Mx (PS (sij k i j)) ws) i (una j)) := by
  have hS := sij_ok (show k ≤ 5 by omega) (show i < 5 by omega) (show j < 5 by omega)
  unfold mk
  have e1 : Bk (An ws n) k = repc (Bk (An ws n) k) j (una j) := by
    funext r c
    unfold repc
    by_cases c1 : c = j
    · subst c1
      rw [if_pos rfl]
      unfold Bk una
      rw [if_neg (by omega)]
    · rw [if_neg c1]
  rw [e1, det5_swap (by omega) (by omega) (Ne.symm hij)]
  rw [clS_det (sij k i j) (repc (repc (Bk (An ws n) k) j (fun r => An ws n r j)) i (una j)) (fun c hc h r hr => by
    have h := sij_not.mp h
    unfold repc Bk
    rw [if_neg (by omega), if_neg (by omega), if_neg (by omega)])]
  congr 1
  refine det5_congr (fun r c hr hc => ?_)
  unfold clS repc Bk
  by_cases c1 : sij k i j r = true
  · rw [if_pos c1]
    have c1' := sij_iff.mp c1
    by_cases c2 : c = i
    · rw [if_pos c2, if_pos c2]
    · rw [if_neg c2, if_neg c2]
      by_cases c4 : c = j
      · subst c4
        rw [if_pos rfl]
        exact Mx_PS (sn_ok hn) hS (sn_in (by omega)) c1 (sn_in (by omega)) (sij_iff.mpr (by omega)) ws
      · rw [if_neg c4]
        by_cases c3 : c < k
        · rw [if_pos c3]
          exact Mx_PS (sn_ok hn) hS (sn_in (by omega)) c1 (sn_in (by omega)) (sij_iff.mpr (by omega)) ws
        · rw [if_neg c3, Mx_dead hS hr hc (Or.inr (sij_not.mpr (by omega))) ws hw]
  · have c1' : sij k i j r = false := by
      cases h : sij k i j r
      · rfl
      · exact absurd h c1
    have c1'' := sij_not.mp c1'
    rw [if_neg c1]
    by_cases c2 : c = i
    · rw [if_pos c2]
      unfold una
      rw [if_neg (by omega), if_neg (by omega)]
    · rw [if_neg c2, Mx_dead hS hr hc (Or.inl c1') ws hw]
/-- one of what comes in -/
theorem mk_r (hw : Wok ws) (hn : n ≤ 5) {k i a : Nat} (hk : k ≤ n) (hi : i < n) (ha : a < n) (haS : a < k ∨ a = i) : mk (An ws n) k i (una a) = det5 (repc (Mx (PS (sij k i i)) ws) i (una a)) := by
  have hS := sij_ok (show k ≤ 5 by omega) (show i < 5 by omega) (show i < 5 by omega)
  unfold mk
  rw [clS_det (sij k i i) _ (fun c hc h r hr => by
    have h := sij_not.mp h
    unfold repc Bk
    rw [if_neg (by omega), if_neg (by omega)])]
  refine det5_congr (fun r c hr hc => ?_)
  unfold clS repc Bk
  by_cases c1 : sij k i i r = true
  · rw [if_pos c1]
    have c1' := sij_iff.mp c1
    by_cases c2 : c = i
    · rw [if_pos c2, if_pos c2]
    · rw [if_neg c2, if_neg c2]
      by_cases c3 : c < k
      · rw [if_pos c3]
        exact Mx_PS (sn_ok hn) hS (sn_in (by omega)) c1 (sn_in (by omega)) (sij_iff.mpr (by omega)) ws
      · rw [if_neg c3, Mx_dead hS hr hc (Or.inr (sij_not.mpr (by omega))) ws hw]
  · have c1' : sij k i i r = false := by
      cases h : sij k i i r
      · rfl
      · exact absurd h c1
    have c1'' := sij_not.mp c1'
    rw [if_neg c1]
    by_cases c2 : c = i
    · rw [if_pos c2]
      unfold una
      rw [if_neg (by omega), if_neg (by omega)]
    · rw [if_neg c2, Mx_dead hS hr hc (Or.inl c1') ws hw]
theorem mk_r0 {A : Nat → Nat → Int} {k i a : Nat} (hi : i < 5) (ha : a < 5) (haS : ¬ (a < k ∨ a = i)) : mk A k i (una a) = 0 := by
  unfold mk
  have e1 : Bk A k = repc (Bk A k) a (una a) := by
    funext r c
    unfold repc
    by_cases c1 : c = a
    · subst c1
      rw [if_pos rfl]
      unfold Bk una
      rw [if_neg (by omega)]
    · rw [if_neg c1]
  rw [e1]
  exact det5_alt ha hi (by omega) _ _
def small (x b : Int) : Prop := -b ≤ x ∧ x ≤ b
theorem mk_col_bd (hw : Wok ws) (hc : Wc ws) (hl : ws.length ≤ 12) (hn : n ≤ 5) {k i j : Nat} (hk : k ≤ n) (hi : i < n) (hj : j < n) (hjk : k ≤ j) : small (mk (An ws n) k i (fun r => An ws n r j)) (eb 12 (k + 1)) := by
  have hS := sij_ok (show k ≤ 5 by omega) (show i < 5 by omega) (show j < 5 by omega)
  have h0 := liv_sij ⟨k, by omega⟩ ⟨i, by omega⟩ ⟨j, by omega⟩
  by_cases hij : i = j
  · subst hij
    rw [mk_d hw hn hk hi hjk, ← Gf_det ws _ (PS_rt hS) hw]
    have b := Gf_bd ws hc (PS (sij k i i)) (liv (PS (sij k i i)))
    have b2 := eb_mono hl (liv (PS (sij k i i)))
    have b3 := eb_12 h0.2.1 (show k + 1 ≤ 5 by omega)
    have b3 : eb 12 (liv (PS (sij k i i))) ≤ eb 12 (k + 1) := b3
    constructor <;> omega
  · rw [mk_o hw hn hk hi hj hjk hij]
    have b := cof_bd (PS_rt hS) hw hc (show i < 5 by omega) (PS_in (sij_iff.mpr (by omega))) (show j < 5 by omega) (PS_in (sij_iff.mpr (by omega)))
    have b2 := eb_mono hl (liv (PS (sij k i j)) - 1)
    have b3 : eb 12 (liv (PS (sij k i j)) - 1) ≤ eb 12 (k + 1) := eb_12 (by have := h0.1; have : liv (PS (sij k i j)) ≤ k + 2 := this; omega) (show k + 1 ≤ 5 by omega)
    constructor <;> omega
theorem mk_rhs_bd (hw : Wok ws) (hc : Wc ws) (hl : ws.length ≤ 12) (hn : n ≤ 5) {k i a : Nat} (hk : k ≤ n) (hi : i < n) (ha : a < n) : small (mk (An ws n) k i (una a)) (eb 12 (min k 4)) := by
  have hS := sij_ok (show k ≤ 5 by omega) (show i < 5 by omega) (show i < 5 by omega)
  have h0 := liv_sij ⟨k, by omega⟩ ⟨i, by omega⟩ ⟨i, by omega⟩
  by_cases haS : a < k ∨ a = i
  · rw [mk_r hw hn hk hi ha haS]
    have b := cof_bd (PS_rt hS) hw hc (show i < 5 by omega) (PS_in (sij_iff.mpr (by omega))) (show a < 5 by omega) (PS_in (sij_iff.mpr (by omega)))
    have b2 := eb_mono hl (liv (PS (sij k i i)) - 1)
    have h1 : liv (PS (sij k i i)) ≤ k + 1 := h0.2.1
    have h2 : liv (PS (sij k i i)) ≤ 5 := h0.2.2
    have b3 : eb 12 (liv (PS (sij k i i)) - 1) ≤ eb 12 (min k 4) := eb_12 (by omega) (by omega)
    constructor <;> omega
  · rw [mk_r0 (by omega) (by omega) haS]
    have := eb_pos 12 (min k 4)
    constructor <;> omega
/-- at the end -/
theorem mk_end (hw : Wok ws) (hn : n ≤ 5) {i a : Nat} : mk (An ws n) n i (una a) = det5 (repc (An ws n) i (una a)) := by
  unfold mk
  refine det5_congr (fun r c hr hc => ?_)
  unfold repc
  by_cases c1 : c = i
  · rw [if_pos c1, if_pos c1]
  · rw [if_neg c1, if_neg c1]
    unfold Bk
    by_cases c2 : c < n
    · rw [if_pos c2]
    · rw [if_neg c2, An_col hw hn hr hc (by omega)]
end BAREISS
