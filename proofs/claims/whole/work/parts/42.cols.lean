/-! columns of a determinant -/
def repc (A : Nat → Nat → Int) (i : Nat) (u : Nat → Int) : Nat → Nat → Int := fun r k => if k = i then u r else A r k
def una (j : Nat) : Nat → Int := fun r => if r = j then 1 else 0
set_option maxHeartbeats 8000000 in
theorem det5_lin_0 (A : Nat → Nat → Int) (s t : Int) (u w : Nat → Int) : det5 (repc A 0 (fun r => s * u r + t * w r)) = s * det5 (repc A 0 u) + t * det5 (repc A 0 w) := by
  simp only [det5, repc, reduceIte, Nat.reduceEqDiff, or_true, true_or, or_self, and_true, true_and, and_self, and_false, false_and, Nat.reduceBEq, Nat.zero_ne_one, Nat.one_ne_zero, reduceCtorEq, Nat.add_eq_zero_iff]
  unfold dd5
  grind
set_option maxHeartbeats 8000000 in
theorem det5_lin_1 (A : Nat → Nat → Int) (s t : Int) (u w : Nat → Int) : det5 (repc A 1 (fun r => s * u r + t * w r)) = s * det5 (repc A 1 u) + t * det5 (repc A 1 w) := by
  simp only [det5, repc, reduceIte, Nat.reduceEqDiff, or_true, true_or, or_self, and_true, true_and, and_self, and_false, false_and, Nat.reduceBEq, Nat.zero_ne_one, Nat.one_ne_zero, reduceCtorEq, Nat.add_eq_zero_iff]
  unfold dd5
  grind
set_option maxHeartbeats 8000000 in
theorem det5_lin_2 (A : Nat → Nat → Int) (s t : Int) (u w : Nat → Int) : det5 (repc A 2 (fun r => s * u r + t * w r)) = s * det5 (repc A 2 u) + t * det5 (repc A 2 w) := by
  simp only [det5, repc, reduceIte, Nat.reduceEqDiff, or_true, true_or, or_self, and_true, true_and, and_self, and_false, false_and, Nat.reduceBEq, Nat.zero_ne_one, Nat.one_ne_zero, reduceCtorEq, Nat.add_eq_zero_iff]
  unfold dd5
  grind
set_option maxHeartbeats 8000000 in
theorem det5_lin_3 (A : Nat → Nat → Int) (s t : Int) (u w : Nat → Int) : det5 (repc A 3 (fun r => s * u r + t * w r)) = s * det5 (repc A 3 u) + t * det5 (repc A 3 w) := by
  simp only [det5, repc, reduceIte, Nat.reduceEqDiff, or_true, true_or, or_self, and_true, true_and, and_self, and_false, false_and, Nat.reduceBEq, Nat.zero_ne_one, Nat.one_ne_zero, reduceCtorEq, Nat.add_eq_zero_iff]
  unfold dd5
  grind
set_option maxHeartbeats 8000000 in
theorem det5_lin_4 (A : Nat → Nat → Int) (s t : Int) (u w : Nat → Int) : det5 (repc A 4 (fun r => s * u r + t * w r)) = s * det5 (repc A 4 u) + t * det5 (repc A 4 w) := by
  simp only [det5, repc, reduceIte, Nat.reduceEqDiff, or_true, true_or, or_self, and_true, true_and, and_self, and_false, false_and, Nat.reduceBEq, Nat.zero_ne_one, Nat.one_ne_zero, reduceCtorEq, Nat.add_eq_zero_iff]
  unfold dd5
  grind
theorem det5_lin {k : Nat} (hk : k < 5) (A : Nat → Nat → Int) (s t : Int) (u w : Nat → Int) : det5 (repc A k (fun r => s * u r + t * w r)) = s * det5 (repc A k u) + t * det5 (repc A k w) := by
  rcases (show k = 0 ∨ k = 1 ∨ k = 2 ∨ k = 3 ∨ k = 4 by omega) with rfl | rfl | rfl | rfl | rfl
  · exact det5_lin_0 A s t u w
  · exact det5_lin_1 A s t u w
  · exact det5_lin_2 A s t u w
  · exact det5_lin_3 A s t u w
  · exact det5_lin_4 A s t u w
set_option maxHeartbeats 8000000 in
theorem det5_alt_01 (A : Nat → Nat → Int) (u : Nat → Int) : det5 (repc (repc A 0 u) 1 u) = 0 := by
  simp only [det5, repc, reduceIte, Nat.reduceEqDiff, or_true, true_or, or_self, and_true, true_and, and_self, and_false, false_and, Nat.reduceBEq, Nat.zero_ne_one, Nat.one_ne_zero, reduceCtorEq, Nat.add_eq_zero_iff]
  unfold dd5
  grind
set_option maxHeartbeats 8000000 in
theorem det5_alt_02 (A : Nat → Nat → Int) (u : Nat → Int) : det5 (repc (repc A 0 u) 2 u) = 0 := by
  simp only [det5, repc, reduceIte, Nat.reduceEqDiff, or_true, true_or, or_self, and_true, true_and, and_self, and_false, false_and, Nat.reduceBEq, Nat.zero_ne_one, Nat.one_ne_zero, reduceCtorEq, Nat.add_eq_zero_iff]
  unfold dd5
  grind
set_option maxHeartbeats 8000000 in
theorem det5_alt_03 (A : Nat → Nat → Int) (u : Nat → Int) : det5 (repc (repc A 0 u) 3 u) = 0 := by
  simp only [det5, repc, reduceIte, Nat.reduceEqDiff, or_true, true_or, or_self, and_true, true_and, and_self, and_false, false_and, Nat.reduceBEq, Nat.zero_ne_one, Nat.one_ne_zero, reduceCtorEq, Nat.add_eq_zero_iff]
  unfold dd5
  grind
set_option maxHeartbeats 8000000 in
theorem det5_alt_04 (A : Nat → Nat → Int) (u : Nat → Int) : det5 (repc (repc A 0 u) 4 u) = 0 := by
  simp only [det5, repc, reduceIte, Nat.reduceEqDiff, or_true, true_or, or_self, and_true, true_and, and_self, and_false, false_and, Nat.reduceBEq, Nat.zero_ne_one, Nat.one_ne_zero, reduceCtorEq, Nat.add_eq_zero_iff]
  unfold dd5
  grind
set_option maxHeartbeats 8000000 in
theorem det5_alt_12 (A : Nat → Nat → Int) (u : Nat → Int) : det5 (repc (repc A 1 u) 2 u) = 0 := by
  simp only [det5, repc, reduceIte, Nat.reduceEqDiff, or_true, true_or, or_self, and_true, true_and, and_self, and_false, false_and, Nat.reduceBEq, Nat.zero_ne_one, Nat.one_ne_zero, reduceCtorEq, Nat.add_eq_zero_iff]
  unfold dd5
  grind
set_option maxHeartbeats 8000000 in
theorem det5_alt_13 (A : Nat → Nat → Int) (u : Nat → Int) : det5 (repc (repc A 1 u) 3 u) = 0 := by
  simp only [det5, repc, reduceIte, Nat.reduceEqDiff, or_true, true_or, or_self, and_true, true_and, and_self, and_false, false_and, Nat.reduceBEq, Nat.zero_ne_one, Nat.one_ne_zero, reduceCtorEq, Nat.add_eq_zero_iff]
  unfold dd5
  grind
set_option maxHeartbeats 8000000 in
theorem det5_alt_14 (A : Nat → Nat → Int) (u : Nat → Int) : det5 (repc (repc A 1 u) 4 u) = 0 := by
  simp only [det5, repc, reduceIte, Nat.reduceEqDiff, or_true, true_or, or_self, and_true, true_and, and_self, and_false, false_and, Nat.reduceBEq, Nat.zero_ne_one, Nat.one_ne_zero, reduceCtorEq, Nat.add_eq_zero_iff]
  unfold dd5
  grind
set_option maxHeartbeats 8000000 in
theorem det5_alt_23 (A : Nat → Nat → Int) (u : Nat → Int) : det5 (repc (repc A 2 u) 3 u) = 0 := by
  simp only [det5, repc, reduceIte, Nat.reduceEqDiff, or_true, true_or, or_self, and_true, true_and, and_self, and_false, false_and, Nat.reduceBEq, Nat.zero_ne_one, Nat.one_ne_zero, reduceCtorEq, Nat.add_eq_zero_iff]
  unfold dd5
  grind
set_option maxHeartbeats 8000000 in
theorem det5_alt_24 (A : Nat → Nat → Int) (u : Nat → Int) : det5 (repc (repc A 2 u) 4 u) = 0 := by
  simp only [det5, repc, reduceIte, Nat.reduceEqDiff, or_true, true_or, or_self, and_true, true_and, and_self, and_false, false_and, Nat.reduceBEq, Nat.zero_ne_one, Nat.one_ne_zero, reduceCtorEq, Nat.add_eq_zero_iff]
  unfold dd5
  grind
set_option maxHeartbeats 8000000 in
theorem det5_alt_34 (A : Nat → Nat → Int) (u : Nat → Int) : det5 (repc (repc A 3 u) 4 u) = 0 := by
  simp only [det5, repc, reduceIte, Nat.reduceEqDiff, or_true, true_or, or_self, and_true, true_and, and_self, and_false, false_and, Nat.reduceBEq, Nat.zero_ne_one, Nat.one_ne_zero, reduceCtorEq, Nat.add_eq_zero_iff]
  unfold dd5
  grind
theorem repc_at (A : Nat → Nat → Int) (i : Nat) (u : Nat → Int) (r : Nat) : repc A i u r i = u r := if_pos rfl
theorem repc_ne (A : Nat → Nat → Int) {i k : Nat} (u : Nat → Int) (h : k ≠ i) {r : Nat} : repc A i u r k = A r k := if_neg h
theorem repc_comm (A : Nat → Nat → Int) {k i : Nat} (h : k ≠ i) (u v : Nat → Int) : repc (repc A k u) i v = repc (repc A i v) k u := by
  funext r c
  unfold repc
  by_cases c1 : c = i <;> by_cases c2 : c = k <;> simp_all
theorem repc_self (A : Nat → Nat → Int) (i : Nat) : repc A i (fun r => A r i) = A := by
  funext r c
  unfold repc
  by_cases c1 : c = i <;> simp_all
theorem repc_repc (A : Nat → Nat → Int) (i : Nat) (u v : Nat → Int) : repc (repc A i u) i v = repc A i v := by
  funext r c
  unfold repc
  by_cases c1 : c = i <;> simp_all
theorem det5_alt {k i : Nat} (hk : k < 5) (hi : i < 5) (h : k ≠ i) (A : Nat → Nat → Int) (u : Nat → Int) : det5 (repc (repc A k u) i u) = 0 := by
  rcases Nat.lt_or_gt_of_ne h with h1 | h1
  · rcases (show k = 0 ∧ i = 1 ∨ k = 0 ∧ i = 2 ∨ k = 0 ∧ i = 3 ∨ k = 0 ∧ i = 4 ∨ k = 1 ∧ i = 2 ∨ k = 1 ∧ i = 3 ∨ k = 1 ∧ i = 4 ∨ k = 2 ∧ i = 3 ∨ k = 2 ∧ i = 4 ∨ k = 3 ∧ i = 4 by omega) with ⟨rfl, rfl⟩ | ⟨rfl, rfl⟩ | ⟨rfl, rfl⟩ | ⟨rfl, rfl⟩ | ⟨rfl, rfl⟩ | ⟨rfl, rfl⟩ | ⟨rfl, rfl⟩ | ⟨rfl, rfl⟩ | ⟨rfl, rfl⟩ | ⟨rfl, rfl⟩
    · exact det5_alt_01 A u
    · exact det5_alt_02 A u
    · exact det5_alt_03 A u
    · exact det5_alt_04 A u
    · exact det5_alt_12 A u
    · exact det5_alt_13 A u
    · exact det5_alt_14 A u
    · exact det5_alt_23 A u
    · exact det5_alt_24 A u
    · exact det5_alt_34 A u
  · rw [repc_comm _ h]
    rcases (show i = 0 ∧ k = 1 ∨ i = 0 ∧ k = 2 ∨ i = 0 ∧ k = 3 ∨ i = 0 ∧ k = 4 ∨ i = 1 ∧ k = 2 ∨ i = 1 ∧ k = 3 ∨ i = 1 ∧ k = 4 ∨ i = 2 ∧ k = 3 ∨ i = 2 ∧ k = 4 ∨ i = 3 ∧ k = 4 by omega) with ⟨rfl, rfl⟩ | ⟨rfl, rfl⟩ | ⟨rfl, rfl⟩ | ⟨rfl, rfl⟩ | ⟨rfl, rfl⟩ | ⟨rfl, rfl⟩ | ⟨rfl, rfl⟩ | ⟨rfl, rfl⟩ | ⟨rfl, rfl⟩ | ⟨rfl, rfl⟩
    · exact det5_alt_01 A u
    · exact det5_alt_02 A u
    · exact det5_alt_03 A u
    · exact det5_alt_04 A u
    · exact det5_alt_12 A u
    · exact det5_alt_13 A u
    · exact det5_alt_14 A u
    · exact det5_alt_23 A u
    · exact det5_alt_24 A u
    · exact det5_alt_34 A u
theorem det5_swap {k i : Nat} (hk : k < 5) (hi : i < 5) (h : k ≠ i) (A : Nat → Nat → Int) (u v : Nat → Int) : det5 (repc (repc A k u) i v) = - det5 (repc (repc A k v) i u) := by
  have e := det5_alt hk hi h A (fun r => 1 * u r + 1 * v r)
  rw [det5_lin hi, repc_comm _ h, repc_comm _ h, det5_lin hk, det5_lin hk, repc_comm _ (Ne.symm h), repc_comm _ (Ne.symm h), repc_comm _ (Ne.symm h), repc_comm _ (Ne.symm h), det5_alt hk hi h, det5_alt hk hi h] at e
  omega
def cf00 (A : Nat → Nat → Int) : Int := (A 1 1 * (A 2 2 * (A 3 3 * A 4 4 - A 3 4 * A 4 3) - A 2 3 * (A 3 2 * A 4 4 - A 3 4 * A 4 2) + A 2 4 * (A 3 2 * A 4 3 - A 3 3 * A 4 2)) - A 1 2 * (A 2 1 * (A 3 3 * A 4 4 - A 3 4 * A 4 3) - A 2 3 * (A 3 1 * A 4 4 - A 3 4 * A 4 1) + A 2 4 * (A 3 1 * A 4 3 - A 3 3 * A 4 1)) + A 1 3 * (A 2 1 * (A 3 2 * A 4 4 - A 3 4 * A 4 2) - A 2 2 * (A 3 1 * A 4 4 - A 3 4 * A 4 1) + A 2 4 * (A 3 1 * A 4 2 - A 3 2 * A 4 1)) - A 1 4 * (A 2 1 * (A 3 2 * A 4 3 - A 3 3 * A 4 2) - A 2 2 * (A 3 1 * A 4 3 - A 3 3 * A 4 1) + A 2 3 * (A 3 1 * A 4 2 - A 3 2 * A 4 1)))
def cf01 (A : Nat → Nat → Int) : Int := -(A 1 0 * (A 2 2 * (A 3 3 * A 4 4 - A 3 4 * A 4 3) - A 2 3 * (A 3 2 * A 4 4 - A 3 4 * A 4 2) + A 2 4 * (A 3 2 * A 4 3 - A 3 3 * A 4 2)) - A 1 2 * (A 2 0 * (A 3 3 * A 4 4 - A 3 4 * A 4 3) - A 2 3 * (A 3 0 * A 4 4 - A 3 4 * A 4 0) + A 2 4 * (A 3 0 * A 4 3 - A 3 3 * A 4 0)) + A 1 3 * (A 2 0 * (A 3 2 * A 4 4 - A 3 4 * A 4 2) - A 2 2 * (A 3 0 * A 4 4 - A 3 4 * A 4 0) + A 2 4 * (A 3 0 * A 4 2 - A 3 2 * A 4 0)) - A 1 4 * (A 2 0 * (A 3 2 * A 4 3 - A 3 3 * A 4 2) - A 2 2 * (A 3 0 * A 4 3 - A 3 3 * A 4 0) + A 2 3 * (A 3 0 * A 4 2 - A 3 2 * A 4 0)))
def cf02 (A : Nat → Nat → Int) : Int := (A 1 0 * (A 2 1 * (A 3 3 * A 4 4 - A 3 4 * A 4 3) - A 2 3 * (A 3 1 * A 4 4 - A 3 4 * A 4 1) + A 2 4 * (A 3 1 * A 4 3 - A 3 3 * A 4 1)) - A 1 1 * (A 2 0 * (A 3 3 * A 4 4 - A 3 4 * A 4 3) - A 2 3 * (A 3 0 * A 4 4 - A 3 4 * A 4 0) + A 2 4 * (A 3 0 * A 4 3 - A 3 3 * A 4 0)) + A 1 3 * (A 2 0 * (A 3 1 * A 4 4 - A 3 4 * A 4 1) - A 2 1 * (A 3 0 * A 4 4 - A 3 4 * A 4 0) + A 2 4 * (A 3 0 * A 4 1 - A 3 1 * A 4 0)) - A 1 4 * (A 2 0 * (A 3 1 * A 4 3 - A 3 3 * A 4 1) - A 2 1 * (A 3 0 * A 4 3 - A 3 3 * A 4 0) + A 2 3 * (A 3 0 * A 4 1 - A 3 1 * A 4 0)))
def cf03 (A : Nat → Nat → Int) : Int := -(A 1 0 * (A 2 1 * (A 3 2 * A 4 4 - A 3 4 * A 4 2) - A 2 2 * (A 3 1 * A 4 4 - A 3 4 * A 4 1) + A 2 4 * (A 3 1 * A 4 2 - A 3 2 * A 4 1)) - A 1 1 * (A 2 0 * (A 3 2 * A 4 4 - A 3 4 * A 4 2) - A 2 2 * (A 3 0 * A 4 4 - A 3 4 * A 4 0) + A 2 4 * (A 3 0 * A 4 2 - A 3 2 * A 4 0)) + A 1 2 * (A 2 0 * (A 3 1 * A 4 4 - A 3 4 * A 4 1) - A 2 1 * (A 3 0 * A 4 4 - A 3 4 * A 4 0) + A 2 4 * (A 3 0 * A 4 1 - A 3 1 * A 4 0)) - A 1 4 * (A 2 0 * (A 3 1 * A 4 2 - A 3 2 * A 4 1) - A 2 1 * (A 3 0 * A 4 2 - A 3 2 * A 4 0) + A 2 2 * (A 3 0 * A 4 1 - A 3 1 * A 4 0)))
def cf04 (A : Nat → Nat → Int) : Int := (A 1 0 * (A 2 1 * (A 3 2 * A 4 3 - A 3 3 * A 4 2) - A 2 2 * (A 3 1 * A 4 3 - A 3 3 * A 4 1) + A 2 3 * (A 3 1 * A 4 2 - A 3 2 * A 4 1)) - A 1 1 * (A 2 0 * (A 3 2 * A 4 3 - A 3 3 * A 4 2) - A 2 2 * (A 3 0 * A 4 3 - A 3 3 * A 4 0) + A 2 3 * (A 3 0 * A 4 2 - A 3 2 * A 4 0)) + A 1 2 * (A 2 0 * (A 3 1 * A 4 3 - A 3 3 * A 4 1) - A 2 1 * (A 3 0 * A 4 3 - A 3 3 * A 4 0) + A 2 3 * (A 3 0 * A 4 1 - A 3 1 * A 4 0)) - A 1 3 * (A 2 0 * (A 3 1 * A 4 2 - A 3 2 * A 4 1) - A 2 1 * (A 3 0 * A 4 2 - A 3 2 * A 4 0) + A 2 2 * (A 3 0 * A 4 1 - A 3 1 * A 4 0)))
def cf10 (A : Nat → Nat → Int) : Int := -(A 0 1 * (A 2 2 * (A 3 3 * A 4 4 - A 3 4 * A 4 3) - A 2 3 * (A 3 2 * A 4 4 - A 3 4 * A 4 2) + A 2 4 * (A 3 2 * A 4 3 - A 3 3 * A 4 2)) - A 0 2 * (A 2 1 * (A 3 3 * A 4 4 - A 3 4 * A 4 3) - A 2 3 * (A 3 1 * A 4 4 - A 3 4 * A 4 1) + A 2 4 * (A 3 1 * A 4 3 - A 3 3 * A 4 1)) + A 0 3 * (A 2 1 * (A 3 2 * A 4 4 - A 3 4 * A 4 2) - A 2 2 * (A 3 1 * A 4 4 - A 3 4 * A 4 1) + A 2 4 * (A 3 1 * A 4 2 - A 3 2 * A 4 1)) - A 0 4 * (A 2 1 * (A 3 2 * A 4 3 - A 3 3 * A 4 2) - A 2 2 * (A 3 1 * A 4 3 - A 3 3 * A 4 1) + A 2 3 * (A 3 1 * A 4 2 - A 3 2 * A 4 1)))
def cf11 (A : Nat → Nat → Int) : Int := (A 0 0 * (A 2 2 * (A 3 3 * A 4 4 - A 3 4 * A 4 3) - A 2 3 * (A 3 2 * A 4 4 - A 3 4 * A 4 2) + A 2 4 * (A 3 2 * A 4 3 - A 3 3 * A 4 2)) - A 0 2 * (A 2 0 * (A 3 3 * A 4 4 - A 3 4 * A 4 3) - A 2 3 * (A 3 0 * A 4 4 - A 3 4 * A 4 0) + A 2 4 * (A 3 0 * A 4 3 - A 3 3 * A 4 0)) + A 0 3 * (A 2 0 * (A 3 2 * A 4 4 - A 3 4 * A 4 2) - A 2 2 * (A 3 0 * A 4 4 - A 3 4 * A 4 0) + A 2 4 * (A 3 0 * A 4 2 - A 3 2 * A 4 0)) - A 0 4 * (A 2 0 * (A 3 2 * A 4 3 - A 3 3 * A 4 2) - A 2 2 * (A 3 0 * A 4 3 - A 3 3 * A 4 0) + A 2 3 * (A 3 0 * A 4 2 - A 3 2 * A 4 0)))
def cf12 (A : Nat → Nat → Int) : Int := -(A 0 0 * (A 2 1 * (A 3 3 * A 4 4 - A 3 4 * A 4 3) - A 2 3 * (A 3 1 * A 4 4 - A 3 4 * A 4 1) + A 2 4 * (A 3 1 * A 4 3 - A 3 3 * A 4 1)) - A 0 1 * (A 2 0 * (A 3 3 * A 4 4 - A 3 4 * A 4 3) - A 2 3 * (A 3 0 * A 4 4 - A 3 4 * A 4 0) + A 2 4 * (A 3 0 * A 4 3 - A 3 3 * A 4 0)) + A 0 3 * (A 2 0 * (A 3 1 * A 4 4 - A 3 4 * A 4 1) - A 2 1 * (A 3 0 * A 4 4 - A 3 4 * A 4 0) + A 2 4 * (A 3 0 * A 4 1 - A 3 1 * A 4 0)) - A 0 4 * (A 2 0 * (A 3 1 * A 4 3 - A 3 3 * A 4 1) - A 2 1 * (A 3 0 * A 4 3 - A 3 3 * A 4 0) + A 2 3 * (A 3 0 * A 4 1 - A 3 1 * A 4 0)))
def cf13 (A : Nat → Nat → Int) : Int := (A 0 0 * (A 2 1 * (A 3 2 * A 4 4 - A 3 4 * A 4 2) - A 2 2 * (A 3 1 * A 4 4 - A 3 4 * A 4 1) + A 2 4 * (A 3 1 * A 4 2 - A 3 2 * A 4 1)) - A 0 1 * (A 2 0 * (A 3 2 * A 4 4 - A 3 4 * A 4 2) - A 2 2 * (A 3 0 * A 4 4 - A 3 4 * A 4 0) + A 2 4 * (A 3 0 * A 4 2 - A 3 2 * A 4 0)) + A 0 2 * (A 2 0 * (A 3 1 * A 4 4 - A 3 4 * A 4 1) - A 2 1 * (A 3 0 * A 4 4 - A 3 4 * A 4 0) + A 2 4 * (A 3 0 * A 4 1 - A 3 1 * A 4 0)) - A 0 4 * (A 2 0 * (A 3 1 * A 4 2 - A 3 2 * A 4 1) - A 2 1 * (A 3 0 * A 4 2 - A 3 2 * A 4 0) + A 2 2 * (A 3 0 * A 4 1 - A 3 1 * A 4 0)))
def cf14 (A : Nat → Nat → Int) : Int := -(A 0 0 * (A 2 1 * (A 3 2 * A 4 3 - A 3 3 * A 4 2) - A 2 2 * (A 3 1 * A 4 3 - A 3 3 * A 4 1) + A 2 3 * (A 3 1 * A 4 2 - A 3 2 * A 4 1)) - A 0 1 * (A 2 0 * (A 3 2 * A 4 3 - A 3 3 * A 4 2) - A 2 2 * (A 3 0 * A 4 3 - A 3 3 * A 4 0) + A 2 3 * (A 3 0 * A 4 2 - A 3 2 * A 4 0)) + A 0 2 * (A 2 0 * (A 3 1 * A 4 3 - A 3 3 * A 4 1) - A 2 1 * (A 3 0 * A 4 3 - A 3 3 * A 4 0) + A 2 3 * (A 3 0 * A 4 1 - A 3 1 * A 4 0)) - A 0 3 * (A 2 0 * (A 3 1 * A 4 2 - A 3 2 * A 4 1) - A 2 1 * (A 3 0 * A 4 2 - A 3 2 * A 4 0) + A 2 2 * (A 3 0 * A 4 1 - A 3 1 * A 4 0)))
def cf20 (A : Nat → Nat → Int) : Int := (A 0 1 * (A 1 2 * (A 3 3 * A 4 4 - A 3 4 * A 4 3) - A 1 3 * (A 3 2 * A 4 4 - A 3 4 * A 4 2) + A 1 4 * (A 3 2 * A 4 3 - A 3 3 * A 4 2)) - A 0 2 * (A 1 1 * (A 3 3 * A 4 4 - A 3 4 * A 4 3) - A 1 3 * (A 3 1 * A 4 4 - A 3 4 * A 4 1) + A 1 4 * (A 3 1 * A 4 3 - A 3 3 * A 4 1)) + A 0 3 * (A 1 1 * (A 3 2 * A 4 4 - A 3 4 * A 4 2) - A 1 2 * (A 3 1 * A 4 4 - A 3 4 * A 4 1) + A 1 4 * (A 3 1 * A 4 2 - A 3 2 * A 4 1)) - A 0 4 * (A 1 1 * (A 3 2 * A 4 3 - A 3 3 * A 4 2) - A 1 2 * (A 3 1 * A 4 3 - A 3 3 * A 4 1) + A 1 3 * (A 3 1 * A 4 2 - A 3 2 * A 4 1)))
def cf21 (A : Nat → Nat → Int) : Int := -(A 0 0 * (A 1 2 * (A 3 3 * A 4 4 - A 3 4 * A 4 3) - A 1 3 * (A 3 2 * A 4 4 - A 3 4 * A 4 2) + A 1 4 * (A 3 2 * A 4 3 - A 3 3 * A 4 2)) - A 0 2 * (A 1 0 * (A 3 3 * A 4 4 - A 3 4 * A 4 3) - A 1 3 * (A 3 0 * A 4 4 - A 3 4 * A 4 0) + A 1 4 * (A 3 0 * A 4 3 - A 3 3 * A 4 0)) + A 0 3 * (A 1 0 * (A 3 2 * A 4 4 - A 3 4 * A 4 2) - A 1 2 * (A 3 0 * A 4 4 - A 3 4 * A 4 0) + A 1 4 * (A 3 0 * A 4 2 - A 3 2 * A 4 0)) - A 0 4 * (A 1 0 * (A 3 2 * A 4 3 - A 3 3 * A 4 2) - A 1 2 * (A 3 0 * A 4 3 - A 3 3 * A 4 0) + A 1 3 * (A 3 0 * A 4 2 - A 3 2 * A 4 0)))
def cf22 (A : Nat → Nat → Int) : Int := (A 0 0 * (A 1 1 * (A 3 3 * A 4 4 - A 3 4 * A 4 3) - A 1 3 * (A 3 1 * A 4 4 - A 3 4 * A 4 1) + A 1 4 * (A 3 1 * A 4 3 - A 3 3 * A 4 1)) - A 0 1 * (A 1 0 * (A 3 3 * A 4 4 - A 3 4 * A 4 3) - A 1 3 * (A 3 0 * A 4 4 - A 3 4 * A 4 0) + A 1 4 * (A 3 0 * A 4 3 - A 3 3 * A 4 0)) + A 0 3 * (A 1 0 * (A 3 1 * A 4 4 - A 3 4 * A 4 1) - A 1 1 * (A 3 0 * A 4 4 - A 3 4 * A 4 0) + A 1 4 * (A 3 0 * A 4 1 - A 3 1 * A 4 0)) - A 0 4 * (A 1 0 * (A 3 1 * A 4 3 - A 3 3 * A 4 1) - A 1 1 * (A 3 0 * A 4 3 - A 3 3 * A 4 0) + A 1 3 * (A 3 0 * A 4 1 - A 3 1 * A 4 0)))
def cf23 (A : Nat → Nat → Int) : Int := -(A 0 0 * (A 1 1 * (A 3 2 * A 4 4 - A 3 4 * A 4 2) - A 1 2 * (A 3 1 * A 4 4 - A 3 4 * A 4 1) + A 1 4 * (A 3 1 * A 4 2 - A 3 2 * A 4 1)) - A 0 1 * (A 1 0 * (A 3 2 * A 4 4 - A 3 4 * A 4 2) - A 1 2 * (A 3 0 * A 4 4 - A 3 4 * A 4 0) + A 1 4 * (A 3 0 * A 4 2 - A 3 2 * A 4 0)) + A 0 2 * (A 1 0 * (A 3 1 * A 4 4 - A 3 4 * A 4 1) - A 1 1 * (A 3 0 * A 4 4 - A 3 4 * A 4 0) + A 1 4 * (A 3 0 * A 4 1 - A 3 1 * A 4 0)) - A 0 4 * (A 1 0 * (A 3 1 * A 4 2 - A 3 2 * A 4 1) - A 1 1 * (A 3 0 * A 4 2 - A 3 2 * A 4 0) + A 1 2 * (A 3 0 * A 4 1 - A 3 1 * A 4 0)))
def cf24 (A : Nat → Nat → Int) : Int := (A 0 0 * (A 1 1 * (A 3 2 * A 4 3 - A 3 3 * A 4 2) - A 1 2 * (A 3 1 * A 4 3 - A 3 3 * A 4 1) + A 1 3 * (A 3 1 * A 4 2 - A 3 2 * A 4 1)) - A 0 1 * (A 1 0 * (A 3 2 * A 4 3 - A 3 3 * A 4 2) - A 1 2 * (A 3 0 * A 4 3 - A 3 3 * A 4 0) + A 1 3 * (A 3 0 * A 4 2 - A 3 2 * A 4 0)) + A 0 2 * (A 1 0 * (A 3 1 * A 4 3 - A 3 3 * A 4 1) - A 1 1 * (A 3 0 * A 4 3 - A 3 3 * A 4 0) + A 1 3 * (A 3 0 * A 4 1 - A 3 1 * A 4 0)) - A 0 3 * (A 1 0 * (A 3 1 * A 4 2 - A 3 2 * A 4 1) - A 1 1 * (A 3 0 * A 4 2 - A 3 2 * A 4 0) + A 1 2 * (A 3 0 * A 4 1 - A 3 1 * A 4 0)))
def cf30 (A : Nat → Nat → Int) : Int := -(A 0 1 * (A 1 2 * (A 2 3 * A 4 4 - A 2 4 * A 4 3) - A 1 3 * (A 2 2 * A 4 4 - A 2 4 * A 4 2) + A 1 4 * (A 2 2 * A 4 3 - A 2 3 * A 4 2)) - A 0 2 * (A 1 1 * (A 2 3 * A 4 4 - A 2 4 * A 4 3) - A 1 3 * (A 2 1 * A 4 4 - A 2 4 * A 4 1) + A 1 4 * (A 2 1 * A 4 3 - A 2 3 * A 4 1)) + A 0 3 * (A 1 1 * (A 2 2 * A 4 4 - A 2 4 * A 4 2) - A 1 2 * (A 2 1 * A 4 4 - A 2 4 * A 4 1) + A 1 4 * (A 2 1 * A 4 2 - A 2 2 * A 4 1)) - A 0 4 * (A 1 1 * (A 2 2 * A 4 3 - A 2 3 * A 4 2) - A 1 2 * (A 2 1 * A 4 3 - A 2 3 * A 4 1) + A 1 3 * (A 2 1 * A 4 2 - A 2 2 * A 4 1)))
def cf31 (A : Nat → Nat → Int) : Int := (A 0 0 * (A 1 2 * (A 2 3 * A 4 4 - A 2 4 * A 4 3) - A 1 3 * (A 2 2 * A 4 4 - A 2 4 * A 4 2) + A 1 4 * (A 2 2 * A 4 3 - A 2 3 * A 4 2)) - A 0 2 * (A 1 0 * (A 2 3 * A 4 4 - A 2 4 * A 4 3) - A 1 3 * (A 2 0 * A 4 4 - A 2 4 * A 4 0) + A 1 4 * (A 2 0 * A 4 3 - A 2 3 * A 4 0)) + A 0 3 * (A 1 0 * (A 2 2 * A 4 4 - A 2 4 * A 4 2) - A 1 2 * (A 2 0 * A 4 4 - A 2 4 * A 4 0) + A 1 4 * (A 2 0 * A 4 2 - A 2 2 * A 4 0)) - A 0 4 * (A 1 0 * (A 2 2 * A 4 3 - A 2 3 * A 4 2) - A 1 2 * (A 2 0 * A 4 3 - A 2 3 * A 4 0) + A 1 3 * (A 2 0 * A 4 2 - A 2 2 * A 4 0)))
def cf32 (A : Nat → Nat → Int) : Int := -(A 0 0 * (A 1 1 * (A 2 3 * A 4 4 - A 2 4 * A 4 3) - A 1 3 * (A 2 1 * A 4 4 - A 2 4 * A 4 1) + A 1 4 * (A 2 1 * A 4 3 - A 2 3 * A 4 1)) - A 0 1 * (A 1 0 * (A 2 3 * A 4 4 - A 2 4 * A 4 3) - A 1 3 * (A 2 0 * A 4 4 - A 2 4 * A 4 0) + A 1 4 * (A 2 0 * A 4 3 - A 2 3 * A 4 0)) + A 0 3 * (A 1 0 * (A 2 1 * A 4 4 - A 2 4 * A 4 1) - A 1 1 * (A 2 0 * A 4 4 - A 2 4 * A 4 0) + A 1 4 * (A 2 0 * A 4 1 - A 2 1 * A 4 0)) - A 0 4 * (A 1 0 * (A 2 1 * A 4 3 - A 2 3 * A 4 1) - A 1 1 * (A 2 0 * A 4 3 - A 2 3 * A 4 0) + A 1 3 * (A 2 0 * A 4 1 - A 2 1 * A 4 0)))
def cf33 (A : Nat → Nat → Int) : Int := (A 0 0 * (A 1 1 * (A 2 2 * A 4 4 - A 2 4 * A 4 2) - A 1 2 * (A 2 1 * A 4 4 - A 2 4 * A 4 1) + A 1 4 * (A 2 1 * A 4 2 - A 2 2 * A 4 1)) - A 0 1 * (A 1 0 * (A 2 2 * A 4 4 - A 2 4 * A 4 2) - A 1 2 * (A 2 0 * A 4 4 - A 2 4 * A 4 0) + A 1 4 * (A 2 0 * A 4 2 - A 2 2 * A 4 0)) + A 0 2 * (A 1 0 * (A 2 1 * A 4 4 - A 2 4 * A 4 1) - A 1 1 * (A 2 0 * A 4 4 - A 2 4 * A 4 0) + A 1 4 * (A 2 0 * A 4 1 - A 2 1 * A 4 0)) - A 0 4 * (A 1 0 * (A 2 1 * A 4 2 - A 2 2 * A 4 1) - A 1 1 * (A 2 0 * A 4 2 - A 2 2 * A 4 0) + A 1 2 * (A 2 0 * A 4 1 - A 2 1 * A 4 0)))
def cf34 (A : Nat → Nat → Int) : Int := -(A 0 0 * (A 1 1 * (A 2 2 * A 4 3 - A 2 3 * A 4 2) - A 1 2 * (A 2 1 * A 4 3 - A 2 3 * A 4 1) + A 1 3 * (A 2 1 * A 4 2 - A 2 2 * A 4 1)) - A 0 1 * (A 1 0 * (A 2 2 * A 4 3 - A 2 3 * A 4 2) - A 1 2 * (A 2 0 * A 4 3 - A 2 3 * A 4 0) + A 1 3 * (A 2 0 * A 4 2 - A 2 2 * A 4 0)) + A 0 2 * (A 1 0 * (A 2 1 * A 4 3 - A 2 3 * A 4 1) - A 1 1 * (A 2 0 * A 4 3 - A 2 3 * A 4 0) + A 1 3 * (A 2 0 * A 4 1 - A 2 1 * A 4 0)) - A 0 3 * (A 1 0 * (A 2 1 * A 4 2 - A 2 2 * A 4 1) - A 1 1 * (A 2 0 * A 4 2 - A 2 2 * A 4 0) + A 1 2 * (A 2 0 * A 4 1 - A 2 1 * A 4 0)))
def cf40 (A : Nat → Nat → Int) : Int := (A 0 1 * (A 1 2 * (A 2 3 * A 3 4 - A 2 4 * A 3 3) - A 1 3 * (A 2 2 * A 3 4 - A 2 4 * A 3 2) + A 1 4 * (A 2 2 * A 3 3 - A 2 3 * A 3 2)) - A 0 2 * (A 1 1 * (A 2 3 * A 3 4 - A 2 4 * A 3 3) - A 1 3 * (A 2 1 * A 3 4 - A 2 4 * A 3 1) + A 1 4 * (A 2 1 * A 3 3 - A 2 3 * A 3 1)) + A 0 3 * (A 1 1 * (A 2 2 * A 3 4 - A 2 4 * A 3 2) - A 1 2 * (A 2 1 * A 3 4 - A 2 4 * A 3 1) + A 1 4 * (A 2 1 * A 3 2 - A 2 2 * A 3 1)) - A 0 4 * (A 1 1 * (A 2 2 * A 3 3 - A 2 3 * A 3 2) - A 1 2 * (A 2 1 * A 3 3 - A 2 3 * A 3 1) + A 1 3 * (A 2 1 * A 3 2 - A 2 2 * A 3 1)))
def cf41 (A : Nat → Nat → Int) : Int := -(A 0 0 * (A 1 2 * (A 2 3 * A 3 4 - A 2 4 * A 3 3) - A 1 3 * (A 2 2 * A 3 4 - A 2 4 * A 3 2) + A 1 4 * (A 2 2 * A 3 3 - A 2 3 * A 3 2)) - A 0 2 * (A 1 0 * (A 2 3 * A 3 4 - A 2 4 * A 3 3) - A 1 3 * (A 2 0 * A 3 4 - A 2 4 * A 3 0) + A 1 4 * (A 2 0 * A 3 3 - A 2 3 * A 3 0)) + A 0 3 * (A 1 0 * (A 2 2 * A 3 4 - A 2 4 * A 3 2) - A 1 2 * (A 2 0 * A 3 4 - A 2 4 * A 3 0) + A 1 4 * (A 2 0 * A 3 2 - A 2 2 * A 3 0)) - A 0 4 * (A 1 0 * (A 2 2 * A 3 3 - A 2 3 * A 3 2) - A 1 2 * (A 2 0 * A 3 3 - A 2 3 * A 3 0) + A 1 3 * (A 2 0 * A 3 2 - A 2 2 * A 3 0)))
def cf42 (A : Nat → Nat → Int) : Int := (A 0 0 * (A 1 1 * (A 2 3 * A 3 4 - A 2 4 * A 3 3) - A 1 3 * (A 2 1 * A 3 4 - A 2 4 * A 3 1) + A 1 4 * (A 2 1 * A 3 3 - A 2 3 * A 3 1)) - A 0 1 * (A 1 0 * (A 2 3 * A 3 4 - A 2 4 * A 3 3) - A 1 3 * (A 2 0 * A 3 4 - A 2 4 * A 3 0) + A 1 4 * (A 2 0 * A 3 3 - A 2 3 * A 3 0)) + A 0 3 * (A 1 0 * (A 2 1 * A 3 4 - A 2 4 * A 3 1) - A 1 1 * (A 2 0 * A 3 4 - A 2 4 * A 3 0) + A 1 4 * (A 2 0 * A 3 1 - A 2 1 * A 3 0)) - A 0 4 * (A 1 0 * (A 2 1 * A 3 3 - A 2 3 * A 3 1) - A 1 1 * (A 2 0 * A 3 3 - A 2 3 * A 3 0) + A 1 3 * (A 2 0 * A 3 1 - A 2 1 * A 3 0)))
def cf43 (A : Nat → Nat → Int) : Int := -(A 0 0 * (A 1 1 * (A 2 2 * A 3 4 - A 2 4 * A 3 2) - A 1 2 * (A 2 1 * A 3 4 - A 2 4 * A 3 1) + A 1 4 * (A 2 1 * A 3 2 - A 2 2 * A 3 1)) - A 0 1 * (A 1 0 * (A 2 2 * A 3 4 - A 2 4 * A 3 2) - A 1 2 * (A 2 0 * A 3 4 - A 2 4 * A 3 0) + A 1 4 * (A 2 0 * A 3 2 - A 2 2 * A 3 0)) + A 0 2 * (A 1 0 * (A 2 1 * A 3 4 - A 2 4 * A 3 1) - A 1 1 * (A 2 0 * A 3 4 - A 2 4 * A 3 0) + A 1 4 * (A 2 0 * A 3 1 - A 2 1 * A 3 0)) - A 0 4 * (A 1 0 * (A 2 1 * A 3 2 - A 2 2 * A 3 1) - A 1 1 * (A 2 0 * A 3 2 - A 2 2 * A 3 0) + A 1 2 * (A 2 0 * A 3 1 - A 2 1 * A 3 0)))
def cf44 (A : Nat → Nat → Int) : Int := (A 0 0 * (A 1 1 * (A 2 2 * A 3 3 - A 2 3 * A 3 2) - A 1 2 * (A 2 1 * A 3 3 - A 2 3 * A 3 1) + A 1 3 * (A 2 1 * A 3 2 - A 2 2 * A 3 1)) - A 0 1 * (A 1 0 * (A 2 2 * A 3 3 - A 2 3 * A 3 2) - A 1 2 * (A 2 0 * A 3 3 - A 2 3 * A 3 0) + A 1 3 * (A 2 0 * A 3 2 - A 2 2 * A 3 0)) + A 0 2 * (A 1 0 * (A 2 1 * A 3 3 - A 2 3 * A 3 1) - A 1 1 * (A 2 0 * A 3 3 - A 2 3 * A 3 0) + A 1 3 * (A 2 0 * A 3 1 - A 2 1 * A 3 0)) - A 0 3 * (A 1 0 * (A 2 1 * A 3 2 - A 2 2 * A 3 1) - A 1 1 * (A 2 0 * A 3 2 - A 2 2 * A 3 0) + A 1 2 * (A 2 0 * A 3 1 - A 2 1 * A 3 0)))
set_option maxHeartbeats 8000000 in
theorem cfx_0 (A : Nat → Nat → Int) (u : Nat → Int) : det5 (repc A 0 u) = u 0 * cf00 A + u 1 * cf10 A + u 2 * cf20 A + u 3 * cf30 A + u 4 * cf40 A := by
  simp only [det5, repc, reduceIte, Nat.reduceEqDiff, or_true, true_or, or_self, and_true, true_and, and_self, and_false, false_and, Nat.reduceBEq, Nat.zero_ne_one, Nat.one_ne_zero, reduceCtorEq, Nat.add_eq_zero_iff]
  unfold dd5 cf00 cf10 cf20 cf30 cf40
  grind
set_option maxHeartbeats 8000000 in
theorem cfx_1 (A : Nat → Nat → Int) (u : Nat → Int) : det5 (repc A 1 u) = u 0 * cf01 A + u 1 * cf11 A + u 2 * cf21 A + u 3 * cf31 A + u 4 * cf41 A := by
  simp only [det5, repc, reduceIte, Nat.reduceEqDiff, or_true, true_or, or_self, and_true, true_and, and_self, and_false, false_and, Nat.reduceBEq, Nat.zero_ne_one, Nat.one_ne_zero, reduceCtorEq, Nat.add_eq_zero_iff]
  unfold dd5 cf01 cf11 cf21 cf31 cf41
  grind
set_option maxHeartbeats 8000000 in
theorem cfx_2 (A : Nat → Nat → Int) (u : Nat → Int) : det5 (repc A 2 u) = u 0 * cf02 A + u 1 * cf12 A + u 2 * cf22 A + u 3 * cf32 A + u 4 * cf42 A := by
  simp only [det5, repc, reduceIte, Nat.reduceEqDiff, or_true, true_or, or_self, and_true, true_and, and_self, and_false, false_and, Nat.reduceBEq, Nat.zero_ne_one, Nat.one_ne_zero, reduceCtorEq, Nat.add_eq_zero_iff]
  unfold dd5 cf02 cf12 cf22 cf32 cf42
  grind
set_option maxHeartbeats 8000000 in
theorem cfx_3 (A : Nat → Nat → Int) (u : Nat → Int) : det5 (repc A 3 u) = u 0 * cf03 A + u 1 * cf13 A + u 2 * cf23 A + u 3 * cf33 A + u 4 * cf43 A := by
  simp only [det5, repc, reduceIte, Nat.reduceEqDiff, or_true, true_or, or_self, and_true, true_and, and_self, and_false, false_and, Nat.reduceBEq, Nat.zero_ne_one, Nat.one_ne_zero, reduceCtorEq, Nat.add_eq_zero_iff]
  unfold dd5 cf03 cf13 cf23 cf33 cf43
  grind
set_option maxHeartbeats 8000000 in
theorem cfx_4 (A : Nat → Nat → Int) (u : Nat → Int) : det5 (repc A 4 u) = u 0 * cf04 A + u 1 * cf14 A + u 2 * cf24 A + u 3 * cf34 A + u 4 * cf44 A := by
  simp only [det5, repc, reduceIte, Nat.reduceEqDiff, or_true, true_or, or_self, and_true, true_and, and_self, and_false, false_and, Nat.reduceBEq, Nat.zero_ne_one, Nat.one_ne_zero, reduceCtorEq, Nat.add_eq_zero_iff]
  unfold dd5 cf04 cf14 cf24 cf34 cf44
  grind
set_option maxHeartbeats 8000000 in
theorem cfz_00 (A : Nat → Nat → Int) : cf00 A * A 0 0 + cf01 A * A 0 1 + cf02 A * A 0 2 + cf03 A * A 0 3 + cf04 A * A 0 4 = det5 A := by
  unfold det5 dd5 cf00 cf01 cf02 cf03 cf04
  grind
set_option maxHeartbeats 8000000 in
theorem cfz_01 (A : Nat → Nat → Int) : cf00 A * A 1 0 + cf01 A * A 1 1 + cf02 A * A 1 2 + cf03 A * A 1 3 + cf04 A * A 1 4 = 0 := by
  unfold cf00 cf01 cf02 cf03 cf04
  grind
set_option maxHeartbeats 8000000 in
theorem cfz_02 (A : Nat → Nat → Int) : cf00 A * A 2 0 + cf01 A * A 2 1 + cf02 A * A 2 2 + cf03 A * A 2 3 + cf04 A * A 2 4 = 0 := by
  unfold cf00 cf01 cf02 cf03 cf04
  grind
set_option maxHeartbeats 8000000 in
theorem cfz_03 (A : Nat → Nat → Int) : cf00 A * A 3 0 + cf01 A * A 3 1 + cf02 A * A 3 2 + cf03 A * A 3 3 + cf04 A * A 3 4 = 0 := by
  unfold cf00 cf01 cf02 cf03 cf04
  grind
set_option maxHeartbeats 8000000 in
theorem cfz_04 (A : Nat → Nat → Int) : cf00 A * A 4 0 + cf01 A * A 4 1 + cf02 A * A 4 2 + cf03 A * A 4 3 + cf04 A * A 4 4 = 0 := by
  unfold cf00 cf01 cf02 cf03 cf04
  grind
set_option maxHeartbeats 8000000 in
theorem cfz_10 (A : Nat → Nat → Int) : cf10 A * A 0 0 + cf11 A * A 0 1 + cf12 A * A 0 2 + cf13 A * A 0 3 + cf14 A * A 0 4 = 0 := by
  unfold cf10 cf11 cf12 cf13 cf14
  grind
set_option maxHeartbeats 8000000 in
theorem cfz_11 (A : Nat → Nat → Int) : cf10 A * A 1 0 + cf11 A * A 1 1 + cf12 A * A 1 2 + cf13 A * A 1 3 + cf14 A * A 1 4 = det5 A := by
  unfold det5 dd5 cf10 cf11 cf12 cf13 cf14
  grind
set_option maxHeartbeats 8000000 in
theorem cfz_12 (A : Nat → Nat → Int) : cf10 A * A 2 0 + cf11 A * A 2 1 + cf12 A * A 2 2 + cf13 A * A 2 3 + cf14 A * A 2 4 = 0 := by
  unfold cf10 cf11 cf12 cf13 cf14
  grind
set_option maxHeartbeats 8000000 in
theorem cfz_13 (A : Nat → Nat → Int) : cf10 A * A 3 0 + cf11 A * A 3 1 + cf12 A * A 3 2 + cf13 A * A 3 3 + cf14 A * A 3 4 = 0 := by
  unfold cf10 cf11 cf12 cf13 cf14
  grind
set_option maxHeartbeats 8000000 in
theorem cfz_14 (A : Nat → Nat → Int) : cf10 A * A 4 0 + cf11 A * A 4 1 + cf12 A * A 4 2 + cf13 A * A 4 3 + cf14 A * A 4 4 = 0 := by
  unfold cf10 cf11 cf12 cf13 cf14
  grind
set_option maxHeartbeats 8000000 in
theorem cfz_20 (A : Nat → Nat → Int) : cf20 A * A 0 0 + cf21 A * A 0 1 + cf22 A * A 0 2 + cf23 A * A 0 3 + cf24 A * A 0 4 = 0 := by
  unfold cf20 cf21 cf22 cf23 cf24
  grind
set_option maxHeartbeats 8000000 in
theorem cfz_21 (A : Nat → Nat → Int) : cf20 A * A 1 0 + cf21 A * A 1 1 + cf22 A * A 1 2 + cf23 A * A 1 3 + cf24 A * A 1 4 = 0 := by
  unfold cf20 cf21 cf22 cf23 cf24
  grind
set_option maxHeartbeats 8000000 in
theorem cfz_22 (A : Nat → Nat → Int) : cf20 A * A 2 0 + cf21 A * A 2 1 + cf22 A * A 2 2 + cf23 A * A 2 3 + cf24 A * A 2 4 = det5 A := by
  unfold det5 dd5 cf20 cf21 cf22 cf23 cf24
  grind
set_option maxHeartbeats 8000000 in
theorem cfz_23 (A : Nat → Nat → Int) : cf20 A * A 3 0 + cf21 A * A 3 1 + cf22 A * A 3 2 + cf23 A * A 3 3 + cf24 A * A 3 4 = 0 := by
  unfold cf20 cf21 cf22 cf23 cf24
  grind
set_option maxHeartbeats 8000000 in
theorem cfz_24 (A : Nat → Nat → Int) : cf20 A * A 4 0 + cf21 A * A 4 1 + cf22 A * A 4 2 + cf23 A * A 4 3 + cf24 A * A 4 4 = 0 := by
  unfold cf20 cf21 cf22 cf23 cf24
  grind
set_option maxHeartbeats 8000000 in
theorem cfz_30 (A : Nat → Nat → Int) : cf30 A * A 0 0 + cf31 A * A 0 1 + cf32 A * A 0 2 + cf33 A * A 0 3 + cf34 A * A 0 4 = 0 := by
  unfold cf30 cf31 cf32 cf33 cf34
  grind
set_option maxHeartbeats 8000000 in
theorem cfz_31 (A : Nat → Nat → Int) : cf30 A * A 1 0 + cf31 A * A 1 1 + cf32 A * A 1 2 + cf33 A * A 1 3 + cf34 A * A 1 4 = 0 := by
  unfold cf30 cf31 cf32 cf33 cf34
  grind
set_option maxHeartbeats 8000000 in
theorem cfz_32 (A : Nat → Nat → Int) : cf30 A * A 2 0 + cf31 A * A 2 1 + cf32 A * A 2 2 + cf33 A * A 2 3 + cf34 A * A 2 4 = 0 := by
  unfold cf30 cf31 cf32 cf33 cf34
  grind
set_option maxHeartbeats 8000000 in
theorem cfz_33 (A : Nat → Nat → Int) : cf30 A * A 3 0 + cf31 A * A 3 1 + cf32 A * A 3 2 + cf33 A * A 3 3 + cf34 A * A 3 4 = det5 A := by
  unfold det5 dd5 cf30 cf31 cf32 cf33 cf34
  grind
set_option maxHeartbeats 8000000 in
theorem cfz_34 (A : Nat → Nat → Int) : cf30 A * A 4 0 + cf31 A * A 4 1 + cf32 A * A 4 2 + cf33 A * A 4 3 + cf34 A * A 4 4 = 0 := by
  unfold cf30 cf31 cf32 cf33 cf34
  grind
set_option maxHeartbeats 8000000 in
theorem cfz_40 (A : Nat → Nat → Int) : cf40 A * A 0 0 + cf41 A * A 0 1 + cf42 A * A 0 2 + cf43 A * A 0 3 + cf44 A * A 0 4 = 0 := by
  unfold cf40 cf41 cf42 cf43 cf44
  grind
set_option maxHeartbeats 8000000 in
theorem cfz_41 (A : Nat → Nat → Int) : cf40 A * A 1 0 + cf41 A * A 1 1 + cf42 A * A 1 2 + cf43 A * A 1 3 + cf44 A * A 1 4 = 0 := by
  unfold cf40 cf41 cf42 cf43 cf44
  grind
set_option maxHeartbeats 8000000 in
theorem cfz_42 (A : Nat → Nat → Int) : cf40 A * A 2 0 + cf41 A * A 2 1 + cf42 A * A 2 2 + cf43 A * A 2 3 + cf44 A * A 2 4 = 0 := by
  unfold cf40 cf41 cf42 cf43 cf44
  grind
set_option maxHeartbeats 8000000 in
theorem cfz_43 (A : Nat → Nat → Int) : cf40 A * A 3 0 + cf41 A * A 3 1 + cf42 A * A 3 2 + cf43 A * A 3 3 + cf44 A * A 3 4 = 0 := by
  unfold cf40 cf41 cf42 cf43 cf44
  grind
set_option maxHeartbeats 8000000 in
theorem cfz_44 (A : Nat → Nat → Int) : cf40 A * A 4 0 + cf41 A * A 4 1 + cf42 A * A 4 2 + cf43 A * A 4 3 + cf44 A * A 4 4 = det5 A := by
  unfold det5 dd5 cf40 cf41 cf42 cf43 cf44
  grind
set_option maxHeartbeats 8000000 in
theorem cramer_0 (A : Nat → Nat → Int) (u : Nat → Int) : det5 A * u 0 = det5 (repc A 0 u) * A 0 0 + det5 (repc A 1 u) * A 0 1 + det5 (repc A 2 u) * A 0 2 + det5 (repc A 3 u) * A 0 3 + det5 (repc A 4 u) * A 0 4 := by
  rw [cfx_0, cfx_1, cfx_2, cfx_3, cfx_4]
  have h0 := cfz_00 A
  have h1 := cfz_10 A
  have h2 := cfz_20 A
  have h3 := cfz_30 A
  have h4 := cfz_40 A
  generalize det5 A = D at *
  generalize cf00 A = x00 at *
  generalize cf01 A = x01 at *
  generalize cf02 A = x02 at *
  generalize cf03 A = x03 at *
  generalize cf04 A = x04 at *
  generalize cf10 A = x10 at *
  generalize cf11 A = x11 at *
  generalize cf12 A = x12 at *
  generalize cf13 A = x13 at *
  generalize cf14 A = x14 at *
  generalize cf20 A = x20 at *
  generalize cf21 A = x21 at *
  generalize cf22 A = x22 at *
  generalize cf23 A = x23 at *
  generalize cf24 A = x24 at *
  generalize cf30 A = x30 at *
  generalize cf31 A = x31 at *
  generalize cf32 A = x32 at *
  generalize cf33 A = x33 at *
  generalize cf34 A = x34 at *
  generalize cf40 A = x40 at *
  generalize cf41 A = x41 at *
  generalize cf42 A = x42 at *
  generalize cf43 A = x43 at *
  generalize cf44 A = x44 at *
  generalize A 0 0 = a0 at *
  generalize A 0 1 = a1 at *
  generalize A 0 2 = a2 at *
  generalize A 0 3 = a3 at *
  generalize A 0 4 = a4 at *
  generalize u 0 = u0 at *
  generalize u 1 = u1 at *
  generalize u 2 = u2 at *
  generalize u 3 = u3 at *
  generalize u 4 = u4 at *
  rw [← h0]
  have e : u0 * (x00 * a0 + x01 * a1 + x02 * a2 + x03 * a3 + x04 * a4) + u1 * (x10 * a0 + x11 * a1 + x12 * a2 + x13 * a3 + x14 * a4) + u2 * (x20 * a0 + x21 * a1 + x22 * a2 + x23 * a3 + x24 * a4) + u3 * (x30 * a0 + x31 * a1 + x32 * a2 + x33 * a3 + x34 * a4) + u4 * (x40 * a0 + x41 * a1 + x42 * a2 + x43 * a3 + x44 * a4) = u0 * (x00 * a0 + x01 * a1 + x02 * a2 + x03 * a3 + x04 * a4) := by
    rw [h1, h2, h3, h4]
    simp only [Int.mul_zero, Int.add_zero, Int.zero_add]
  grind
set_option maxHeartbeats 8000000 in
theorem cramer_1 (A : Nat → Nat → Int) (u : Nat → Int) : det5 A * u 1 = det5 (repc A 0 u) * A 1 0 + det5 (repc A 1 u) * A 1 1 + det5 (repc A 2 u) * A 1 2 + det5 (repc A 3 u) * A 1 3 + det5 (repc A 4 u) * A 1 4 := by
  rw [cfx_0, cfx_1, cfx_2, cfx_3, cfx_4]
  have h0 := cfz_01 A
  have h1 := cfz_11 A
  have h2 := cfz_21 A
  have h3 := cfz_31 A
  have h4 := cfz_41 A
  generalize det5 A = D at *
  generalize cf00 A = x00 at *
  generalize cf01 A = x01 at *
  generalize cf02 A = x02 at *
  generalize cf03 A = x03 at *
  generalize cf04 A = x04 at *
  generalize cf10 A = x10 at *
  generalize cf11 A = x11 at *
  generalize cf12 A = x12 at *
  generalize cf13 A = x13 at *
  generalize cf14 A = x14 at *
  generalize cf20 A = x20 at *
  generalize cf21 A = x21 at *
  generalize cf22 A = x22 at *
  generalize cf23 A = x23 at *
  generalize cf24 A = x24 at *
  generalize cf30 A = x30 at *
  generalize cf31 A = x31 at *
  generalize cf32 A = x32 at *
  generalize cf33 A = x33 at *
  generalize cf34 A = x34 at *
  generalize cf40 A = x40 at *
  generalize cf41 A = x41 at *
  generalize cf42 A = x42 at *
  generalize cf43 A = x43 at *
  generalize cf44 A = x44 at *
  generalize A 1 0 = a0 at *
  generalize A 1 1 = a1 at *
  generalize A 1 2 = a2 at *
  generalize A 1 3 = a3 at *
  generalize A 1 4 = a4 at *
  generalize u 0 = u0 at *
  generalize u 1 = u1 at *
  generalize u 2 = u2 at *
  generalize u 3 = u3 at *
  generalize u 4 = u4 at *
  rw [← h1]
  have e : u0 * (x00 * a0 + x01 * a1 + x02 * a2 + x03 * a3 + x04 * a4) + u1 * (x10 * a0 + x11 * a1 + x12 * a2 + x13 * a3 + x14 * a4) + u2 * (x20 * a0 + x21 * a1 + x22 * a2 + x23 * a3 + x24 * a4) + u3 * (x30 * a0 + x31 * a1 + x32 * a2 + x33 * a3 + x34 * a4) + u4 * (x40 * a0 + x41 * a1 + x42 * a2 + x43 * a3 + x44 * a4) = u1 * (x10 * a0 + x11 * a1 + x12 * a2 + x13 * a3 + x14 * a4) := by
    rw [h0, h2, h3, h4]
    simp only [Int.mul_zero, Int.add_zero, Int.zero_add]
  grind
set_option maxHeartbeats 8000000 in
theorem cramer_2 (A : Nat → Nat → Int) (u : Nat → Int) : det5 A * u 2 = det5 (repc A 0 u) * A 2 0 + det5 (repc A 1 u) * A 2 1 + det5 (repc A 2 u) * A 2 2 + det5 (repc A 3 u) * A 2 3 + det5 (repc A 4 u) * A 2 4 := by
  rw [cfx_0, cfx_1, cfx_2, cfx_3, cfx_4]
  have h0 := cfz_02 A
  have h1 := cfz_12 A
  have h2 := cfz_22 A
  have h3 := cfz_32 A
  have h4 := cfz_42 A
  generalize det5 A = D at *
  generalize cf00 A = x00 at *
  generalize cf01 A = x01 at *
  generalize cf02 A = x02 at *
  generalize cf03 A = x03 at *
  generalize cf04 A = x04 at *
  generalize cf10 A = x10 at *
  generalize cf11 A = x11 at *
  generalize cf12 A = x12 at *
  generalize cf13 A = x13 at *
  generalize cf14 A = x14 at *
  generalize cf20 A = x20 at *
  generalize cf21 A = x21 at *
  generalize cf22 A = x22 at *
  generalize cf23 A = x23 at *
  generalize cf24 A = x24 at *
  generalize cf30 A = x30 at *
  generalize cf31 A = x31 at *
  generalize cf32 A = x32 at *
  generalize cf33 A = x33 at *
  generalize cf34 A = x34 at *
  generalize cf40 A = x40 at *
  generalize cf41 A = x41 at *
  generalize cf42 A = x42 at *
  generalize cf43 A = x43 at *
  generalize cf44 A = x44 at *
  generalize A 2 0 = a0 at *
  generalize A 2 1 = a1 at *
  generalize A 2 2 = a2 at *
  generalize A 2 3 = a3 at *
  generalize A 2 4 = a4 at *
  generalize u 0 = u0 at *
  generalize u 1 = u1 at *
  generalize u 2 = u2 at *
  generalize u 3 = u3 at *
  generalize u 4 = u4 at *
  rw [← h2]
  have e : u0 * (x00 * a0 + x01 * a1 + x02 * a2 + x03 * a3 + x04 * a4) + u1 * (x10 * a0 + x11 * a1 + x12 * a2 + x13 * a3 + x14 * a4) + u2 * (x20 * a0 + x21 * a1 + x22 * a2 + x23 * a3 + x24 * a4) + u3 * (x30 * a0 + x31 * a1 + x32 * a2 + x33 * a3 + x34 * a4) + u4 * (x40 * a0 + x41 * a1 + x42 * a2 + x43 * a3 + x44 * a4) = u2 * (x20 * a0 + x21 * a1 + x22 * a2 + x23 * a3 + x24 * a4) := by
    rw [h0, h1, h3, h4]
    simp only [Int.mul_zero, Int.add_zero, Int.zero_add]
  grind
set_option maxHeartbeats 8000000 in
theorem cramer_3 (A : Nat → Nat → Int) (u : Nat → Int) : det5 A * u 3 = det5 (repc A 0 u) * A 3 0 + det5 (repc A 1 u) * A 3 1 + det5 (repc A 2 u) * A 3 2 + det5 (repc A 3 u) * A 3 3 + det5 (repc A 4 u) * A 3 4 := by
  rw [cfx_0, cfx_1, cfx_2, cfx_3, cfx_4]
  have h0 := cfz_03 A
  have h1 := cfz_13 A
  have h2 := cfz_23 A
  have h3 := cfz_33 A
  have h4 := cfz_43 A
  generalize det5 A = D at *
  generalize cf00 A = x00 at *
  generalize cf01 A = x01 at *
  generalize cf02 A = x02 at *
  generalize cf03 A = x03 at *
  generalize cf04 A = x04 at *
  generalize cf10 A = x10 at *
  generalize cf11 A = x11 at *
  generalize cf12 A = x12 at *
  generalize cf13 A = x13 at *
  generalize cf14 A = x14 at *
  generalize cf20 A = x20 at *
  generalize cf21 A = x21 at *
  generalize cf22 A = x22 at *
  generalize cf23 A = x23 at *
  generalize cf24 A = x24 at *
  generalize cf30 A = x30 at *
  generalize cf31 A = x31 at *
  generalize cf32 A = x32 at *
  generalize cf33 A = x33 at *
  generalize cf34 A = x34 at *
  generalize cf40 A = x40 at *
  generalize cf41 A = x41 at *
  generalize cf42 A = x42 at *
  generalize cf43 A = x43 at *
  generalize cf44 A = x44 at *
  generalize A 3 0 = a0 at *
  generalize A 3 1 = a1 at *
  generalize A 3 2 = a2 at *
  generalize A 3 3 = a3 at *
  generalize A 3 4 = a4 at *
  generalize u 0 = u0 at *
  generalize u 1 = u1 at *
  generalize u 2 = u2 at *
  generalize u 3 = u3 at *
  generalize u 4 = u4 at *
  rw [← h3]
  have e : u0 * (x00 * a0 + x01 * a1 + x02 * a2 + x03 * a3 + x04 * a4) + u1 * (x10 * a0 + x11 * a1 + x12 * a2 + x13 * a3 + x14 * a4) + u2 * (x20 * a0 + x21 * a1 + x22 * a2 + x23 * a3 + x24 * a4) + u3 * (x30 * a0 + x31 * a1 + x32 * a2 + x33 * a3 + x34 * a4) + u4 * (x40 * a0 + x41 * a1 + x42 * a2 + x43 * a3 + x44 * a4) = u3 * (x30 * a0 + x31 * a1 + x32 * a2 + x33 * a3 + x34 * a4) := by
    rw [h0, h1, h2, h4]
    simp only [Int.mul_zero, Int.add_zero, Int.zero_add]
  grind
set_option maxHeartbeats 8000000 in
theorem cramer_4 (A : Nat → Nat → Int) (u : Nat → Int) : det5 A * u 4 = det5 (repc A 0 u) * A 4 0 + det5 (repc A 1 u) * A 4 1 + det5 (repc A 2 u) * A 4 2 + det5 (repc A 3 u) * A 4 3 + det5 (repc A 4 u) * A 4 4 := by
  rw [cfx_0, cfx_1, cfx_2, cfx_3, cfx_4]
  have h0 := cfz_04 A
  have h1 := cfz_14 A
  have h2 := cfz_24 A
  have h3 := cfz_34 A
  have h4 := cfz_44 A
  generalize det5 A = D at *
  generalize cf00 A = x00 at *
  generalize cf01 A = x01 at *
  generalize cf02 A = x02 at *
  generalize cf03 A = x03 at *
  generalize cf04 A = x04 at *
  generalize cf10 A = x10 at *
  generalize cf11 A = x11 at *
  generalize cf12 A = x12 at *
  generalize cf13 A = x13 at *
  generalize cf14 A = x14 at *
  generalize cf20 A = x20 at *
  generalize cf21 A = x21 at *
  generalize cf22 A = x22 at *
  generalize cf23 A = x23 at *
  generalize cf24 A = x24 at *
  generalize cf30 A = x30 at *
  generalize cf31 A = x31 at *
  generalize cf32 A = x32 at *
  generalize cf33 A = x33 at *
  generalize cf34 A = x34 at *
  generalize cf40 A = x40 at *
  generalize cf41 A = x41 at *
  generalize cf42 A = x42 at *
  generalize cf43 A = x43 at *
  generalize cf44 A = x44 at *
  generalize A 4 0 = a0 at *
  generalize A 4 1 = a1 at *
  generalize A 4 2 = a2 at *
  generalize A 4 3 = a3 at *
  generalize A 4 4 = a4 at *
  generalize u 0 = u0 at *
  generalize u 1 = u1 at *
  generalize u 2 = u2 at *
  generalize u 3 = u3 at *
  generalize u 4 = u4 at *
  rw [← h4]
  have e : u0 * (x00 * a0 + x01 * a1 + x02 * a2 + x03 * a3 + x04 * a4) + u1 * (x10 * a0 + x11 * a1 + x12 * a2 + x13 * a3 + x14 * a4) + u2 * (x20 * a0 + x21 * a1 + x22 * a2 + x23 * a3 + x24 * a4) + u3 * (x30 * a0 + x31 * a1 + x32 * a2 + x33 * a3 + x34 * a4) + u4 * (x40 * a0 + x41 * a1 + x42 * a2 + x43 * a3 + x44 * a4) = u4 * (x40 * a0 + x41 * a1 + x42 * a2 + x43 * a3 + x44 * a4) := by
    rw [h0, h1, h2, h3]
    simp only [Int.mul_zero, Int.add_zero, Int.zero_add]
  grind
theorem cramer {r : Nat} (hr : r < 5) (A : Nat → Nat → Int) (u : Nat → Int) : det5 A * u r = det5 (repc A 0 u) * A r 0 + det5 (repc A 1 u) * A r 1 + det5 (repc A 2 u) * A r 2 + det5 (repc A 3 u) * A r 3 + det5 (repc A 4 u) * A r 4 := by
  rcases (show r = 0 ∨ r = 1 ∨ r = 2 ∨ r = 3 ∨ r = 4 by omega) with rfl | rfl | rfl | rfl | rfl
  · exact cramer_0 A u
  · exact cramer_1 A u
  · exact cramer_2 A u
  · exact cramer_3 A u
  · exact cramer_4 A u
set_option maxHeartbeats 8000000 in
theorem jacobi {k i : Nat} (hk : k < 5) (hi : i < 5) (h : k ≠ i) (A : Nat → Nat → Int) (u v : Nat → Int) : det5 A * det5 (repc (repc A k u) i v) = det5 (repc A k u) * det5 (repc A i v) - det5 (repc A i u) * det5 (repc A k v) := by
  have e1 : det5 A * det5 (repc (repc A k u) i v) = det5 (repc (repc A i v) k (fun r => det5 A * u r + 0 * u r)) := by
    rw [det5_lin hk, repc_comm _ h]
    omega
  have e2 : det5 (repc (repc A i v) k (fun r => det5 A * u r + 0 * u r)) = det5 (repc (repc A i v) k (fun r => det5 (repc A 0 u) * A r 0 + 1 * (det5 (repc A 1 u) * A r 1 + 1 * (det5 (repc A 2 u) * A r 2 + 1 * (det5 (repc A 3 u) * A r 3 + det5 (repc A 4 u) * A r 4))))) := by
    refine det5_congr (fun r c hr hc => ?_)
    by_cases c1 : c = k
    · subst c1
      rw [repc_at, repc_at, cramer hr A u]
      simp only [Int.zero_mul, Int.one_mul, Int.add_zero, Int.add_assoc]
    · rw [repc_ne _ _ c1, repc_ne _ _ c1]
  rw [e1, e2, det5_lin hk, det5_lin hk (s := det5 (repc A 1 u)), det5_lin hk (s := det5 (repc A 2 u)), det5_lin hk (s := det5 (repc A 3 u))]
  have hz : ∀ j, j < 5 → j ≠ k → j ≠ i → det5 (repc (repc A i v) k (fun r => A r j)) = 0 := fun j hj h1 h2 => by
    have e := det5_alt hk hj (Ne.symm h1) (repc A i v) (fun r => A r j)
    have e3 : repc (repc (repc A i v) k (fun r => A r j)) j (fun r => A r j) = repc (repc A i v) k (fun r => A r j) := by
      funext r c
      unfold repc
      by_cases c1 : c = j
      · subst c1
        rw [if_pos rfl, if_neg h1, if_neg h2]
      · rw [if_neg c1]
    rw [e3] at e
    exact e
  have hk1 : det5 (repc (repc A i v) k (fun r => A r k)) = det5 (repc A i v) := by
    rw [repc_comm _ (Ne.symm h), repc_self]
  have hi1 : det5 (repc (repc A i v) k (fun r => A r i)) = - det5 (repc A k v) := by
    rw [← repc_comm _ h, det5_swap hk hi h, repc_comm _ h, repc_self]
  rcases (show k = 0 ∨ k = 1 ∨ k = 2 ∨ k = 3 ∨ k = 4 by omega) with rfl | rfl | rfl | rfl | rfl
  · rcases (show i = 0 ∨ i = 1 ∨ i = 2 ∨ i = 3 ∨ i = 4 by omega) with rfl | rfl | rfl | rfl | rfl
    · exact absurd rfl h
    · rw [hk1, hi1, hz 2 (by decide) (by decide) (by decide), hz 3 (by decide) (by decide) (by decide), hz 4 (by decide) (by decide) (by decide)]
      clear hz hk1 hi1 e1 e2
      simp only [Int.mul_zero, Int.one_mul, Int.add_zero, Int.zero_add, Int.mul_neg]
      omega
    · rw [hk1, hi1, hz 1 (by decide) (by decide) (by decide), hz 3 (by decide) (by decide) (by decide), hz 4 (by decide) (by decide) (by decide)]
      clear hz hk1 hi1 e1 e2
      simp only [Int.mul_zero, Int.one_mul, Int.add_zero, Int.zero_add, Int.mul_neg]
      omega
    · rw [hk1, hi1, hz 1 (by decide) (by decide) (by decide), hz 2 (by decide) (by decide) (by decide), hz 4 (by decide) (by decide) (by decide)]
      clear hz hk1 hi1 e1 e2
      simp only [Int.mul_zero, Int.one_mul, Int.add_zero, Int.zero_add, Int.mul_neg]
      omega
    · rw [hk1, hi1, hz 1 (by decide) (by decide) (by decide), hz 2 (by decide) (by decide) (by decide), hz 3 (by decide) (by decide) (by decide)]
      clear hz hk1 hi1 e1 e2
      simp only [Int.mul_zero, Int.one_mul, Int.add_zero, Int.zero_add, Int.mul_neg]
      omega
  · rcases (show i = 0 ∨ i = 1 ∨ i = 2 ∨ i = 3 ∨ i = 4 by omega) with rfl | rfl | rfl | rfl | rfl
    · rw [hk1, hi1, hz 2 (by decide) (by decide) (by decide), hz 3 (by decide) (by decide) (by decide), hz 4 (by decide) (by decide) (by decide)]
      clear hz hk1 hi1 e1 e2
      simp only [Int.mul_zero, Int.one_mul, Int.add_zero, Int.zero_add, Int.mul_neg]
      omega
    · exact absurd rfl h
    · rw [hk1, hi1, hz 0 (by decide) (by decide) (by decide), hz 3 (by decide) (by decide) (by decide), hz 4 (by decide) (by decide) (by decide)]
      clear hz hk1 hi1 e1 e2
      simp only [Int.mul_zero, Int.one_mul, Int.add_zero, Int.zero_add, Int.mul_neg]
      omega
    · rw [hk1, hi1, hz 0 (by decide) (by decide) (by decide), hz 2 (by decide) (by decide) (by decide), hz 4 (by decide) (by decide) (by decide)]
      clear hz hk1 hi1 e1 e2
      simp only [Int.mul_zero, Int.one_mul, Int.add_zero, Int.zero_add, Int.mul_neg]
      omega
    · rw [hk1, hi1, hz 0 (by decide) (by decide) (by decide), hz 2 (by decide) (by decide) (by decide), hz 3 (by decide) (by decide) (by decide)]
      clear hz hk1 hi1 e1 e2
      simp only [Int.mul_zero, Int.one_mul, Int.add_zero, Int.zero_add, Int.mul_neg]
      omega
  · rcases (show i = 0 ∨ i = 1 ∨ i = 2 ∨ i = 3 ∨ i = 4 by omega) with rfl | rfl | rfl | rfl | rfl
    · rw [hk1, hi1, hz 1 (by decide) (by decide) (by decide), hz 3 (by decide) (by decide) (by decide), hz 4 (by decide) (by decide) (by decide)]
      clear hz hk1 hi1 e1 e2
      simp only [Int.mul_zero, Int.one_mul, Int.add_zero, Int.zero_add, Int.mul_neg]
      omega
    · rw [hk1, hi1, hz 0 (by decide) (by decide) (by decide), hz 3 (by decide) (by decide) (by decide), hz 4 (by decide) (by decide) (by decide)]
      clear hz hk1 hi1 e1 e2
      simp only [Int.mul_zero, Int.one_mul, Int.add_zero, Int.zero_add, Int.mul_neg]
      omega
    · exact absurd rfl h
    · rw [hk1, hi1, hz 0 (by decide) (by decide) (by decide), hz 1 (by decide) (by decide) (by decide), hz 4 (by decide) (by decide) (by decide)]
      clear hz hk1 hi1 e1 e2
      simp only [Int.mul_zero, Int.one_mul, Int.add_zero, Int.zero_add, Int.mul_neg]
      omega
    · rw [hk1, hi1, hz 0 (by decide) (by decide) (by decide), hz 1 (by decide) (by decide) (by decide), hz 3 (by decide) (by decide) (by decide)]
      clear hz hk1 hi1 e1 e2
      simp only [Int.mul_zero, Int.one_mul, Int.add_zero, Int.zero_add, Int.mul_neg]
      omega
  · rcases (show i = 0 ∨ i = 1 ∨ i = 2 ∨ i = 3 ∨ i = 4 by omega) with rfl | rfl | rfl | rfl | rfl
    · rw [hk1, hi1, hz 1 (by decide) (by decide) (by decide), hz 2 (by decide) (by decide) (by decide), hz 4 (by decide) (by decide) (by decide)]
      clear hz hk1 hi1 e1 e2
      simp only [Int.mul_zero, Int.one_mul, Int.add_zero, Int.zero_add, Int.mul_neg]
      omega
    · rw [hk1, hi1, hz 0 (by decide) (by decide) (by decide), hz 2 (by decide) (by decide) (by decide), hz 4 (by decide) (by decide) (by decide)]
      clear hz hk1 hi1 e1 e2
      simp only [Int.mul_zero, Int.one_mul, Int.add_zero, Int.zero_add, Int.mul_neg]
      omega
    · rw [hk1, hi1, hz 0 (by decide) (by decide) (by decide), hz 1 (by decide) (by decide) (by decide), hz 4 (by decide) (by decide) (by decide)]
      clear hz hk1 hi1 e1 e2
      simp only [Int.mul_zero, Int.one_mul, Int.add_zero, Int.zero_add, Int.mul_neg]
      omega
    · exact absurd rfl h
    · rw [hk1, hi1, hz 0 (by decide) (by decide) (by decide), hz 1 (by decide) (by decide) (by decide), hz 2 (by decide) (by decide) (by decide)]
      clear hz hk1 hi1 e1 e2
      simp only [Int.mul_zero, Int.one_mul, Int.add_zero, Int.zero_add, Int.mul_neg]
      omega
  · rcases (show i = 0 ∨ i = 1 ∨ i = 2 ∨ i = 3 ∨ i = 4 by omega) with rfl | rfl | rfl | rfl | rfl
    · rw [hk1, hi1, hz 1 (by decide) (by decide) (by decide), hz 2 (by decide) (by decide) (by decide), hz 3 (by decide) (by decide) (by decide)]
      clear hz hk1 hi1 e1 e2
      simp only [Int.mul_zero, Int.one_mul, Int.add_zero, Int.zero_add, Int.mul_neg]
      omega
    · rw [hk1, hi1, hz 0 (by decide) (by decide) (by decide), hz 2 (by decide) (by decide) (by decide), hz 3 (by decide) (by decide) (by decide)]
      clear hz hk1 hi1 e1 e2
      simp only [Int.mul_zero, Int.one_mul, Int.add_zero, Int.zero_add, Int.mul_neg]
      omega
    · rw [hk1, hi1, hz 0 (by decide) (by decide) (by decide), hz 1 (by decide) (by decide) (by decide), hz 3 (by decide) (by decide) (by decide)]
      clear hz hk1 hi1 e1 e2
      simp only [Int.mul_zero, Int.one_mul, Int.add_zero, Int.zero_add, Int.mul_neg]
      omega
    · rw [hk1, hi1, hz 0 (by decide) (by decide) (by decide), hz 1 (by decide) (by decide) (by decide), hz 2 (by decide) (by decide) (by decide)]
      clear hz hk1 hi1 e1 e2
      simp only [Int.mul_zero, Int.one_mul, Int.add_zero, Int.zero_add, Int.mul_neg]
      omega
    · exact absurd rfl h
set_option maxHeartbeats 8000000 in
theorem cof_00 (A : Nat → Nat → Int) : det5 (repc A 0 (una 0)) = det5 (foldM A 0 5) := by
  simp only [det5, repc, una, foldM, reduceIte, Nat.reduceEqDiff, or_true, true_or, or_self, and_true, true_and, and_self, and_false, false_and, Nat.reduceBEq, Nat.zero_ne_one, Nat.one_ne_zero, reduceCtorEq, Nat.add_eq_zero_iff]
  unfold dd5
  grind
set_option maxHeartbeats 8000000 in
theorem cof_01 (A : Nat → Nat → Int) (h : ∀ r k, r < 5 → k < 5 → A r k = A k r) : 2 * det5 (repc A 0 (una 1)) = det5 (foldM A 0 5) + det5 (foldM A 1 5) - det5 (foldM A 0 1) := by
  simp only [det5, repc, una, foldM, reduceIte, Nat.reduceEqDiff, or_true, true_or, or_self, and_true, true_and, and_self, and_false, false_and, Nat.reduceBEq, Nat.zero_ne_one, Nat.one_ne_zero, reduceCtorEq, Nat.add_eq_zero_iff]
  simp only [h 1 0 (by decide) (by decide), h 2 0 (by decide) (by decide), h 2 1 (by decide) (by decide), h 3 0 (by decide) (by decide), h 3 1 (by decide) (by decide), h 3 2 (by decide) (by decide), h 4 0 (by decide) (by decide), h 4 1 (by decide) (by decide), h 4 2 (by decide) (by decide), h 4 3 (by decide) (by decide)]
  clear h
  unfold dd5
  grind
set_option maxHeartbeats 8000000 in
theorem cof_02 (A : Nat → Nat → Int) (h : ∀ r k, r < 5 → k < 5 → A r k = A k r) : 2 * det5 (repc A 0 (una 2)) = det5 (foldM A 0 5) + det5 (foldM A 2 5) - det5 (foldM A 0 2) := by
  simp only [det5, repc, una, foldM, reduceIte, Nat.reduceEqDiff, or_true, true_or, or_self, and_true, true_and, and_self, and_false, false_and, Nat.reduceBEq, Nat.zero_ne_one, Nat.one_ne_zero, reduceCtorEq, Nat.add_eq_zero_iff]
  simp only [h 1 0 (by decide) (by decide), h 2 0 (by decide) (by decide), h 2 1 (by decide) (by decide), h 3 0 (by decide) (by decide), h 3 1 (by decide) (by decide), h 3 2 (by decide) (by decide), h 4 0 (by decide) (by decide), h 4 1 (by decide) (by decide), h 4 2 (by decide) (by decide), h 4 3 (by decide) (by decide)]
  clear h
  unfold dd5
  grind
set_option maxHeartbeats 8000000 in
theorem cof_03 (A : Nat → Nat → Int) (h : ∀ r k, r < 5 → k < 5 → A r k = A k r) : 2 * det5 (repc A 0 (una 3)) = det5 (foldM A 0 5) + det5 (foldM A 3 5) - det5 (foldM A 0 3) := by
  simp only [det5, repc, una, foldM, reduceIte, Nat.reduceEqDiff, or_true, true_or, or_self, and_true, true_and, and_self, and_false, false_and, Nat.reduceBEq, Nat.zero_ne_one, Nat.one_ne_zero, reduceCtorEq, Nat.add_eq_zero_iff]
  simp only [h 1 0 (by decide) (by decide), h 2 0 (by decide) (by decide), h 2 1 (by decide) (by decide), h 3 0 (by decide) (by decide), h 3 1 (by decide) (by decide), h 3 2 (by decide) (by decide), h 4 0 (by decide) (by decide), h 4 1 (by decide) (by decide), h 4 2 (by decide) (by decide), h 4 3 (by decide) (by decide)]
  clear h
  unfold dd5
  grind
set_option maxHeartbeats 8000000 in
theorem cof_04 (A : Nat → Nat → Int) (h : ∀ r k, r < 5 → k < 5 → A r k = A k r) : 2 * det5 (repc A 0 (una 4)) = det5 (foldM A 0 5) + det5 (foldM A 4 5) - det5 (foldM A 0 4) := by
  simp only [det5, repc, una, foldM, reduceIte, Nat.reduceEqDiff, or_true, true_or, or_self, and_true, true_and, and_self, and_false, false_and, Nat.reduceBEq, Nat.zero_ne_one, Nat.one_ne_zero, reduceCtorEq, Nat.add_eq_zero_iff]
  simp only [h 1 0 (by decide) (by decide), h 2 0 (by decide) (by decide), h 2 1 (by decide) (by decide), h 3 0 (by decide) (by decide), h 3 1 (by decide) (by decide), h 3 2 (by decide) (by decide), h 4 0 (by decide) (by decide), h 4 1 (by decide) (by decide), h 4 2 (by decide) (by decide), h 4 3 (by decide) (by decide)]
  clear h
  unfold dd5
  grind
set_option maxHeartbeats 8000000 in
theorem cof_11 (A : Nat → Nat → Int) : det5 (repc A 1 (una 1)) = det5 (foldM A 1 5) := by
  simp only [det5, repc, una, foldM, reduceIte, Nat.reduceEqDiff, or_true, true_or, or_self, and_true, true_and, and_self, and_false, false_and, Nat.reduceBEq, Nat.zero_ne_one, Nat.one_ne_zero, reduceCtorEq, Nat.add_eq_zero_iff]
  unfold dd5
  grind
set_option maxHeartbeats 8000000 in
theorem cof_10 (A : Nat → Nat → Int) (h : ∀ r k, r < 5 → k < 5 → A r k = A k r) : 2 * det5 (repc A 1 (una 0)) = det5 (foldM A 1 5) + det5 (foldM A 0 5) - det5 (foldM A 1 0) := by
  simp only [det5, repc, una, foldM, reduceIte, Nat.reduceEqDiff, or_true, true_or, or_self, and_true, true_and, and_self, and_false, false_and, Nat.reduceBEq, Nat.zero_ne_one, Nat.one_ne_zero, reduceCtorEq, Nat.add_eq_zero_iff]
  simp only [h 1 0 (by decide) (by decide), h 2 0 (by decide) (by decide), h 2 1 (by decide) (by decide), h 3 0 (by decide) (by decide), h 3 1 (by decide) (by decide), h 3 2 (by decide) (by decide), h 4 0 (by decide) (by decide), h 4 1 (by decide) (by decide), h 4 2 (by decide) (by decide), h 4 3 (by decide) (by decide)]
  clear h
  unfold dd5
  grind
set_option maxHeartbeats 8000000 in
theorem cof_12 (A : Nat → Nat → Int) (h : ∀ r k, r < 5 → k < 5 → A r k = A k r) : 2 * det5 (repc A 1 (una 2)) = det5 (foldM A 1 5) + det5 (foldM A 2 5) - det5 (foldM A 1 2) := by
  simp only [det5, repc, una, foldM, reduceIte, Nat.reduceEqDiff, or_true, true_or, or_self, and_true, true_and, and_self, and_false, false_and, Nat.reduceBEq, Nat.zero_ne_one, Nat.one_ne_zero, reduceCtorEq, Nat.add_eq_zero_iff]
  simp only [h 1 0 (by decide) (by decide), h 2 0 (by decide) (by decide), h 2 1 (by decide) (by decide), h 3 0 (by decide) (by decide), h 3 1 (by decide) (by decide), h 3 2 (by decide) (by decide), h 4 0 (by decide) (by decide), h 4 1 (by decide) (by decide), h 4 2 (by decide) (by decide), h 4 3 (by decide) (by decide)]
  clear h
  unfold dd5
  grind
set_option maxHeartbeats 8000000 in
theorem cof_13 (A : Nat → Nat → Int) (h : ∀ r k, r < 5 → k < 5 → A r k = A k r) : 2 * det5 (repc A 1 (una 3)) = det5 (foldM A 1 5) + det5 (foldM A 3 5) - det5 (foldM A 1 3) := by
  simp only [det5, repc, una, foldM, reduceIte, Nat.reduceEqDiff, or_true, true_or, or_self, and_true, true_and, and_self, and_false, false_and, Nat.reduceBEq, Nat.zero_ne_one, Nat.one_ne_zero, reduceCtorEq, Nat.add_eq_zero_iff]
  simp only [h 1 0 (by decide) (by decide), h 2 0 (by decide) (by decide), h 2 1 (by decide) (by decide), h 3 0 (by decide) (by decide), h 3 1 (by decide) (by decide), h 3 2 (by decide) (by decide), h 4 0 (by decide) (by decide), h 4 1 (by decide) (by decide), h 4 2 (by decide) (by decide), h 4 3 (by decide) (by decide)]
  clear h
  unfold dd5
  grind
set_option maxHeartbeats 8000000 in
theorem cof_14 (A : Nat → Nat → Int) (h : ∀ r k, r < 5 → k < 5 → A r k = A k r) : 2 * det5 (repc A 1 (una 4)) = det5 (foldM A 1 5) + det5 (foldM A 4 5) - det5 (foldM A 1 4) := by
  simp only [det5, repc, una, foldM, reduceIte, Nat.reduceEqDiff, or_true, true_or, or_self, and_true, true_and, and_self, and_false, false_and, Nat.reduceBEq, Nat.zero_ne_one, Nat.one_ne_zero, reduceCtorEq, Nat.add_eq_zero_iff]
  simp only [h 1 0 (by decide) (by decide), h 2 0 (by decide) (by decide), h 2 1 (by decide) (by decide), h 3 0 (by decide) (by decide), h 3 1 (by decide) (by decide), h 3 2 (by decide) (by decide), h 4 0 (by decide) (by decide), h 4 1 (by decide) (by decide), h 4 2 (by decide) (by decide), h 4 3 (by decide) (by decide)]
  clear h
  unfold dd5
  grind
set_option maxHeartbeats 8000000 in
theorem cof_22 (A : Nat → Nat → Int) : det5 (repc A 2 (una 2)) = det5 (foldM A 2 5) := by
  simp only [det5, repc, una, foldM, reduceIte, Nat.reduceEqDiff, or_true, true_or, or_self, and_true, true_and, and_self, and_false, false_and, Nat.reduceBEq, Nat.zero_ne_one, Nat.one_ne_zero, reduceCtorEq, Nat.add_eq_zero_iff]
  unfold dd5
  grind
set_option maxHeartbeats 8000000 in
theorem cof_20 (A : Nat → Nat → Int) (h : ∀ r k, r < 5 → k < 5 → A r k = A k r) : 2 * det5 (repc A 2 (una 0)) = det5 (foldM A 2 5) + det5 (foldM A 0 5) - det5 (foldM A 2 0) := by
  simp only [det5, repc, una, foldM, reduceIte, Nat.reduceEqDiff, or_true, true_or, or_self, and_true, true_and, and_self, and_false, false_and, Nat.reduceBEq, Nat.zero_ne_one, Nat.one_ne_zero, reduceCtorEq, Nat.add_eq_zero_iff]
  simp only [h 1 0 (by decide) (by decide), h 2 0 (by decide) (by decide), h 2 1 (by decide) (by decide), h 3 0 (by decide) (by decide), h 3 1 (by decide) (by decide), h 3 2 (by decide) (by decide), h 4 0 (by decide) (by decide), h 4 1 (by decide) (by decide), h 4 2 (by decide) (by decide), h 4 3 (by decide) (by decide)]
  clear h
  unfold dd5
  grind
set_option maxHeartbeats 8000000 in
theorem cof_21 (A : Nat → Nat → Int) (h : ∀ r k, r < 5 → k < 5 → A r k = A k r) : 2 * det5 (repc A 2 (una 1)) = det5 (foldM A 2 5) + det5 (foldM A 1 5) - det5 (foldM A 2 1) := by
  simp only [det5, repc, una, foldM, reduceIte, Nat.reduceEqDiff, or_true, true_or, or_self, and_true, true_and, and_self, and_false, false_and, Nat.reduceBEq, Nat.zero_ne_one, Nat.one_ne_zero, reduceCtorEq, Nat.add_eq_zero_iff]
  simp only [h 1 0 (by decide) (by decide), h 2 0 (by decide) (by decide), h 2 1 (by decide) (by decide), h 3 0 (by decide) (by decide), h 3 1 (by decide) (by decide), h 3 2 (by decide) (by decide), h 4 0 (by decide) (by decide), h 4 1 (by decide) (by decide), h 4 2 (by decide) (by decide), h 4 3 (by decide) (by decide)]
  clear h
  unfold dd5
  grind
set_option maxHeartbeats 8000000 in
theorem cof_23 (A : Nat → Nat → Int) (h : ∀ r k, r < 5 → k < 5 → A r k = A k r) : 2 * det5 (repc A 2 (una 3)) = det5 (foldM A 2 5) + det5 (foldM A 3 5) - det5 (foldM A 2 3) := by
  simp only [det5, repc, una, foldM, reduceIte, Nat.reduceEqDiff, or_true, true_or, or_self, and_true, true_and, and_self, and_false, false_and, Nat.reduceBEq, Nat.zero_ne_one, Nat.one_ne_zero, reduceCtorEq, Nat.add_eq_zero_iff]
  simp only [h 1 0 (by decide) (by decide), h 2 0 (by decide) (by decide), h 2 1 (by decide) (by decide), h 3 0 (by decide) (by decide), h 3 1 (by decide) (by decide), h 3 2 (by decide) (by decide), h 4 0 (by decide) (by decide), h 4 1 (by decide) (by decide), h 4 2 (by decide) (by decide), h 4 3 (by decide) (by decide)]
  clear h
  unfold dd5
  grind
set_option maxHeartbeats 8000000 in
theorem cof_24 (A : Nat → Nat → Int) (h : ∀ r k, r < 5 → k < 5 → A r k = A k r) : 2 * det5 (repc A 2 (una 4)) = det5 (foldM A 2 5) + det5 (foldM A 4 5) - det5 (foldM A 2 4) := by
  simp only [det5, repc, una, foldM, reduceIte, Nat.reduceEqDiff, or_true, true_or, or_self, and_true, true_and, and_self, and_false, false_and, Nat.reduceBEq, Nat.zero_ne_one, Nat.one_ne_zero, reduceCtorEq, Nat.add_eq_zero_iff]
  simp only [h 1 0 (by decide) (by decide), h 2 0 (by decide) (by decide), h 2 1 (by decide) (by decide), h 3 0 (by decide) (by decide), h 3 1 (by decide) (by decide), h 3 2 (by decide) (by decide), h 4 0 (by decide) (by decide), h 4 1 (by decide) (by decide), h 4 2 (by decide) (by decide), h 4 3 (by decide) (by decide)]
  clear h
  unfold dd5
  grind
set_option maxHeartbeats 8000000 in
theorem cof_33 (A : Nat → Nat → Int) : det5 (repc A 3 (una 3)) = det5 (foldM A 3 5) := by
  simp only [det5, repc, una, foldM, reduceIte, Nat.reduceEqDiff, or_true, true_or, or_self, and_true, true_and, and_self, and_false, false_and, Nat.reduceBEq, Nat.zero_ne_one, Nat.one_ne_zero, reduceCtorEq, Nat.add_eq_zero_iff]
  unfold dd5
  grind
set_option maxHeartbeats 8000000 in
theorem cof_30 (A : Nat → Nat → Int) (h : ∀ r k, r < 5 → k < 5 → A r k = A k r) : 2 * det5 (repc A 3 (una 0)) = det5 (foldM A 3 5) + det5 (foldM A 0 5) - det5 (foldM A 3 0) := by
  simp only [det5, repc, una, foldM, reduceIte, Nat.reduceEqDiff, or_true, true_or, or_self, and_true, true_and, and_self, and_false, false_and, Nat.reduceBEq, Nat.zero_ne_one, Nat.one_ne_zero, reduceCtorEq, Nat.add_eq_zero_iff]
  simp only [h 1 0 (by decide) (by decide), h 2 0 (by decide) (by decide), h 2 1 (by decide) (by decide), h 3 0 (by decide) (by decide), h 3 1 (by decide) (by decide), h 3 2 (by decide) (by decide), h 4 0 (by decide) (by decide), h 4 1 (by decide) (by decide), h 4 2 (by decide) (by decide), h 4 3 (by decide) (by decide)]
  clear h
  unfold dd5
  grind
set_option maxHeartbeats 8000000 in
theorem cof_31 (A : Nat → Nat → Int) (h : ∀ r k, r < 5 → k < 5 → A r k = A k r) : 2 * det5 (repc A 3 (una 1)) = det5 (foldM A 3 5) + det5 (foldM A 1 5) - det5 (foldM A 3 1) := by
  simp only [det5, repc, una, foldM, reduceIte, Nat.reduceEqDiff, or_true, true_or, or_self, and_true, true_and, and_self, and_false, false_and, Nat.reduceBEq, Nat.zero_ne_one, Nat.one_ne_zero, reduceCtorEq, Nat.add_eq_zero_iff]
  simp only [h 1 0 (by decide) (by decide), h 2 0 (by decide) (by decide), h 2 1 (by decide) (by decide), h 3 0 (by decide) (by decide), h 3 1 (by decide) (by decide), h 3 2 (by decide) (by decide), h 4 0 (by decide) (by decide), h 4 1 (by decide) (by decide), h 4 2 (by decide) (by decide), h 4 3 (by decide) (by decide)]
  clear h
  unfold dd5
  grind
set_option maxHeartbeats 8000000 in
theorem cof_32 (A : Nat → Nat → Int) (h : ∀ r k, r < 5 → k < 5 → A r k = A k r) : 2 * det5 (repc A 3 (una 2)) = det5 (foldM A 3 5) + det5 (foldM A 2 5) - det5 (foldM A 3 2) := by
  simp only [det5, repc, una, foldM, reduceIte, Nat.reduceEqDiff, or_true, true_or, or_self, and_true, true_and, and_self, and_false, false_and, Nat.reduceBEq, Nat.zero_ne_one, Nat.one_ne_zero, reduceCtorEq, Nat.add_eq_zero_iff]
  simp only [h 1 0 (by decide) (by decide), h 2 0 (by decide) (by decide), h 2 1 (by decide) (by decide), h 3 0 (by decide) (by decide), h 3 1 (by decide) (by decide), h 3 2 (by decide) (by decide), h 4 0 (by decide) (by decide), h 4 1 (by decide) (by decide), h 4 2 (by decide) (by decide), h 4 3 (by decide) (by decide)]
  clear h
  unfold dd5
  grind
set_option maxHeartbeats 8000000 in
theorem cof_34 (A : Nat → Nat → Int) (h : ∀ r k, r < 5 → k < 5 → A r k = A k r) : 2 * det5 (repc A 3 (una 4)) = det5 (foldM A 3 5) + det5 (foldM A 4 5) - det5 (foldM A 3 4) := by
  simp only [det5, repc, una, foldM, reduceIte, Nat.reduceEqDiff, or_true, true_or, or_self, and_true, true_and, and_self, and_false, false_and, Nat.reduceBEq, Nat.zero_ne_one, Nat.one_ne_zero, reduceCtorEq, Nat.add_eq_zero_iff]
  simp only [h 1 0 (by decide) (by decide), h 2 0 (by decide) (by decide), h 2 1 (by decide) (by decide), h 3 0 (by decide) (by decide), h 3 1 (by decide) (by decide), h 3 2 (by decide) (by decide), h 4 0 (by decide) (by decide), h 4 1 (by decide) (by decide), h 4 2 (by decide) (by decide), h 4 3 (by decide) (by decide)]
  clear h
  unfold dd5
  grind
set_option maxHeartbeats 8000000 in
theorem cof_44 (A : Nat → Nat → Int) : det5 (repc A 4 (una 4)) = det5 (foldM A 4 5) := by
  simp only [det5, repc, una, foldM, reduceIte, Nat.reduceEqDiff, or_true, true_or, or_self, and_true, true_and, and_self, and_false, false_and, Nat.reduceBEq, Nat.zero_ne_one, Nat.one_ne_zero, reduceCtorEq, Nat.add_eq_zero_iff]
  unfold dd5
  grind
set_option maxHeartbeats 8000000 in
theorem cof_40 (A : Nat → Nat → Int) (h : ∀ r k, r < 5 → k < 5 → A r k = A k r) : 2 * det5 (repc A 4 (una 0)) = det5 (foldM A 4 5) + det5 (foldM A 0 5) - det5 (foldM A 4 0) := by
  simp only [det5, repc, una, foldM, reduceIte, Nat.reduceEqDiff, or_true, true_or, or_self, and_true, true_and, and_self, and_false, false_and, Nat.reduceBEq, Nat.zero_ne_one, Nat.one_ne_zero, reduceCtorEq, Nat.add_eq_zero_iff]
  simp only [h 1 0 (by decide) (by decide), h 2 0 (by decide) (by decide), h 2 1 (by decide) (by decide), h 3 0 (by decide) (by decide), h 3 1 (by decide) (by decide), h 3 2 (by decide) (by decide), h 4 0 (by decide) (by decide), h 4 1 (by decide) (by decide), h 4 2 (by decide) (by decide), h 4 3 (by decide) (by decide)]
  clear h
  unfold dd5
  grind
set_option maxHeartbeats 8000000 in
theorem cof_41 (A : Nat → Nat → Int) (h : ∀ r k, r < 5 → k < 5 → A r k = A k r) : 2 * det5 (repc A 4 (una 1)) = det5 (foldM A 4 5) + det5 (foldM A 1 5) - det5 (foldM A 4 1) := by
  simp only [det5, repc, una, foldM, reduceIte, Nat.reduceEqDiff, or_true, true_or, or_self, and_true, true_and, and_self, and_false, false_and, Nat.reduceBEq, Nat.zero_ne_one, Nat.one_ne_zero, reduceCtorEq, Nat.add_eq_zero_iff]
  simp only [h 1 0 (by decide) (by decide), h 2 0 (by decide) (by decide), h 2 1 (by decide) (by decide), h 3 0 (by decide) (by decide), h 3 1 (by decide) (by decide), h 3 2 (by decide) (by decide), h 4 0 (by decide) (by decide), h 4 1 (by decide) (by decide), h 4 2 (by decide) (by decide), h 4 3 (by decide) (by decide)]
  clear h
  unfold dd5
  grind
set_option maxHeartbeats 8000000 in
theorem cof_42 (A : Nat → Nat → Int) (h : ∀ r k, r < 5 → k < 5 → A r k = A k r) : 2 * det5 (repc A 4 (una 2)) = det5 (foldM A 4 5) + det5 (foldM A 2 5) - det5 (foldM A 4 2) := by
  simp only [det5, repc, una, foldM, reduceIte, Nat.reduceEqDiff, or_true, true_or, or_self, and_true, true_and, and_self, and_false, false_and, Nat.reduceBEq, Nat.zero_ne_one, Nat.one_ne_zero, reduceCtorEq, Nat.add_eq_zero_iff]
  simp only [h 1 0 (by decide) (by decide), h 2 0 (by decide) (by decide), h 2 1 (by decide) (by decide), h 3 0 (by decide) (by decide), h 3 1 (by decide) (by decide), h 3 2 (by decide) (by decide), h 4 0 (by decide) (by decide), h 4 1 (by decide) (by decide), h 4 2 (by decide) (by decide), h 4 3 (by decide) (by decide)]
  clear h
  unfold dd5
  grind
set_option maxHeartbeats 8000000 in
theorem cof_43 (A : Nat → Nat → Int) (h : ∀ r k, r < 5 → k < 5 → A r k = A k r) : 2 * det5 (repc A 4 (una 3)) = det5 (foldM A 4 5) + det5 (foldM A 3 5) - det5 (foldM A 4 3) := by
  simp only [det5, repc, una, foldM, reduceIte, Nat.reduceEqDiff, or_true, true_or, or_self, and_true, true_and, and_self, and_false, false_and, Nat.reduceBEq, Nat.zero_ne_one, Nat.one_ne_zero, reduceCtorEq, Nat.add_eq_zero_iff]
  simp only [h 1 0 (by decide) (by decide), h 2 0 (by decide) (by decide), h 2 1 (by decide) (by decide), h 3 0 (by decide) (by decide), h 3 1 (by decide) (by decide), h 3 2 (by decide) (by decide), h 4 0 (by decide) (by decide), h 4 1 (by decide) (by decide), h 4 2 (by decide) (by decide), h 4 3 (by decide) (by decide)]
  clear h
  unfold dd5
  grind
theorem cof_self {i : Nat} (hi : i < 5) (A : Nat → Nat → Int) : det5 (repc A i (una i)) = det5 (foldM A i 5) := by
  rcases (show i = 0 ∨ i = 1 ∨ i = 2 ∨ i = 3 ∨ i = 4 by omega) with rfl | rfl | rfl | rfl | rfl
  · exact cof_00 A
  · exact cof_11 A
  · exact cof_22 A
  · exact cof_33 A
  · exact cof_44 A
theorem cof_two {i j : Nat} (hi : i < 5) (hj : j < 5) (hn : i ≠ j) (A : Nat → Nat → Int) (h : ∀ r k, r < 5 → k < 5 → A r k = A k r) : 2 * det5 (repc A i (una j)) = det5 (foldM A i 5) + det5 (foldM A j 5) - det5 (foldM A i j) := by
  rcases (show i = 0 ∨ i = 1 ∨ i = 2 ∨ i = 3 ∨ i = 4 by omega) with rfl | rfl | rfl | rfl | rfl
  · rcases (show j = 0 ∨ j = 1 ∨ j = 2 ∨ j = 3 ∨ j = 4 by omega) with rfl | rfl | rfl | rfl | rfl
    · exact absurd rfl hn
    · exact cof_01 A h
    · exact cof_02 A h
    · exact cof_03 A h
    · exact cof_04 A h
  · rcases (show j = 0 ∨ j = 1 ∨ j = 2 ∨ j = 3 ∨ j = 4 by omega) with rfl | rfl | rfl | rfl | rfl
    · exact cof_10 A h
    · exact absurd rfl hn
    · exact cof_12 A h
    · exact cof_13 A h
    · exact cof_14 A h
  · rcases (show j = 0 ∨ j = 1 ∨ j = 2 ∨ j = 3 ∨ j = 4 by omega) with rfl | rfl | rfl | rfl | rfl
    · exact cof_20 A h
    · exact cof_21 A h
    · exact absurd rfl hn
    · exact cof_23 A h
    · exact cof_24 A h
  · rcases (show j = 0 ∨ j = 1 ∨ j = 2 ∨ j = 3 ∨ j = 4 by omega) with rfl | rfl | rfl | rfl | rfl
    · exact cof_30 A h
    · exact cof_31 A h
    · exact cof_32 A h
    · exact absurd rfl hn
    · exact cof_34 A h
  · rcases (show j = 0 ∨ j = 1 ∨ j = 2 ∨ j = 3 ∨ j = 4 by omega) with rfl | rfl | rfl | rfl | rfl
    · exact cof_40 A h
    · exact cof_41 A h
    · exact cof_42 A h
    · exact cof_43 A h
    · exact absurd rfl hn
