/-! determinants of five lines -/
def dd5 (a00 a01 a02 a03 a04 a10 a11 a12 a13 a14 a20 a21 a22 a23 a24 a30 a31 a32 a33 a34 a40 a41 a42 a43 a44 : Int) : Int := a00 * (a11 * (a22 * (a33 * a44 - a34 * a43) - a23 * (a32 * a44 - a34 * a42) + a24 * (a32 * a43 - a33 * a42)) - a12 * (a21 * (a33 * a44 - a34 * a43) - a23 * (a31 * a44 - a34 * a41) + a24 * (a31 * a43 - a33 * a41)) + a13 * (a21 * (a32 * a44 - a34 * a42) - a22 * (a31 * a44 - a34 * a41) + a24 * (a31 * a42 - a32 * a41)) - a14 * (a21 * (a32 * a43 - a33 * a42) - a22 * (a31 * a43 - a33 * a41) + a23 * (a31 * a42 - a32 * a41))) - a01 * (a10 * (a22 * (a33 * a44 - a34 * a43) - a23 * (a32 * a44 - a34 * a42) + a24 * (a32 * a43 - a33 * a42)) - a12 * (a20 * (a33 * a44 - a34 * a43) - a23 * (a30 * a44 - a34 * a40) + a24 * (a30 * a43 - a33 * a40)) + a13 * (a20 * (a32 * a44 - a34 * a42) - a22 * (a30 * a44 - a34 * a40) + a24 * (a30 * a42 - a32 * a40)) - a14 * (a20 * (a32 * a43 - a33 * a42) - a22 * (a30 * a43 - a33 * a40) + a23 * (a30 * a42 - a32 * a40))) + a02 * (a10 * (a21 * (a33 * a44 - a34 * a43) - a23 * (a31 * a44 - a34 * a41) + a24 * (a31 * a43 - a33 * a41)) - a11 * (a20 * (a33 * a44 - a34 * a43) - a23 * (a30 * a44 - a34 * a40) + a24 * (a30 * a43 - a33 * a40)) + a13 * (a20 * (a31 * a44 - a34 * a41) - a21 * (a30 * a44 - a34 * a40) + a24 * (a30 * a41 - a31 * a40)) - a14 * (a20 * (a31 * a43 - a33 * a41) - a21 * (a30 * a43 - a33 * a40) + a23 * (a30 * a41 - a31 * a40))) - a03 * (a10 * (a21 * (a32 * a44 - a34 * a42) - a22 * (a31 * a44 - a34 * a41) + a24 * (a31 * a42 - a32 * a41)) - a11 * (a20 * (a32 * a44 - a34 * a42) - a22 * (a30 * a44 - a34 * a40) + a24 * (a30 * a42 - a32 * a40)) + a12 * (a20 * (a31 * a44 - a34 * a41) - a21 * (a30 * a44 - a34 * a40) + a24 * (a30 * a41 - a31 * a40)) - a14 * (a20 * (a31 * a42 - a32 * a41) - a21 * (a30 * a42 - a32 * a40) + a22 * (a30 * a41 - a31 * a40))) + a04 * (a10 * (a21 * (a32 * a43 - a33 * a42) - a22 * (a31 * a43 - a33 * a41) + a23 * (a31 * a42 - a32 * a41)) - a11 * (a20 * (a32 * a43 - a33 * a42) - a22 * (a30 * a43 - a33 * a40) + a23 * (a30 * a42 - a32 * a40)) + a12 * (a20 * (a31 * a43 - a33 * a41) - a21 * (a30 * a43 - a33 * a40) + a23 * (a30 * a41 - a31 * a40)) - a13 * (a20 * (a31 * a42 - a32 * a41) - a21 * (a30 * a42 - a32 * a40) + a22 * (a30 * a41 - a31 * a40)))
def det5 (A : Nat → Nat → Int) : Int := dd5 (A 0 0) (A 0 1) (A 0 2) (A 0 3) (A 0 4) (A 1 0) (A 1 1) (A 1 2) (A 1 3) (A 1 4) (A 2 0) (A 2 1) (A 2 2) (A 2 3) (A 2 4) (A 3 0) (A 3 1) (A 3 2) (A 3 3) (A 3 4) (A 4 0) (A 4 1) (A 4 2) (A 4 3) (A 4 4)
/-- a wire of flow c between the lines x and y (5: the ground) -/
def cadd (A : Nat → Nat → Int) (c : Int) (x y : Nat) : Nat → Nat → Int := fun r k => A r k + c * ((if x = r then 1 else 0) - (if y = r then 1 else 0)) * ((if x = k then 1 else 0) - (if y = k then 1 else 0))
/-- line x laid onto line y -/
def foldM (A : Nat → Nat → Int) (x y : Nat) : Nat → Nat → Int := fun r k => if r = x ∨ k = x then (if r = k then 1 else 0) else A r k + (if r = y then A x k else 0) + (if k = y then A r x else 0) + (if r = y ∧ k = y then A x x else 0)
theorem det5_congr {A B : Nat → Nat → Int} (h : ∀ r k, r < 5 → k < 5 → A r k = B r k) : det5 A = det5 B := by
  unfold det5
  rw [h 0 0 (by decide) (by decide), h 0 1 (by decide) (by decide), h 0 2 (by decide) (by decide), h 0 3 (by decide) (by decide), h 0 4 (by decide) (by decide), h 1 0 (by decide) (by decide), h 1 1 (by decide) (by decide), h 1 2 (by decide) (by decide), h 1 3 (by decide) (by decide), h 1 4 (by decide) (by decide), h 2 0 (by decide) (by decide), h 2 1 (by decide) (by decide), h 2 2 (by decide) (by decide), h 2 3 (by decide) (by decide), h 2 4 (by decide) (by decide), h 3 0 (by decide) (by decide), h 3 1 (by decide) (by decide), h 3 2 (by decide) (by decide), h 3 3 (by decide) (by decide), h 3 4 (by decide) (by decide), h 4 0 (by decide) (by decide), h 4 1 (by decide) (by decide), h 4 2 (by decide) (by decide), h 4 3 (by decide) (by decide), h 4 4 (by decide) (by decide)]
set_option maxHeartbeats 4000000 in
theorem det5_add_01 (A : Nat → Nat → Int) (c : Int) : det5 (cadd A c 0 1) = det5 A + c * det5 (foldM A 0 1) := by
  simp only [det5, cadd, foldM, reduceIte, Nat.reduceEqDiff, or_true, true_or, or_self, and_true, true_and, and_self, and_false, false_and, Nat.reduceEqDiff, Nat.reduceBEq, Nat.zero_ne_one, Nat.one_ne_zero, reduceCtorEq, Nat.add_eq_zero_iff]
  unfold dd5
  grind
set_option maxHeartbeats 4000000 in
theorem det5_add_02 (A : Nat → Nat → Int) (c : Int) : det5 (cadd A c 0 2) = det5 A + c * det5 (foldM A 0 2) := by
  simp only [det5, cadd, foldM, reduceIte, Nat.reduceEqDiff, or_true, true_or, or_self, and_true, true_and, and_self, and_false, false_and, Nat.reduceEqDiff, Nat.reduceBEq, Nat.zero_ne_one, Nat.one_ne_zero, reduceCtorEq, Nat.add_eq_zero_iff]
  unfold dd5
  grind
set_option maxHeartbeats 4000000 in
theorem det5_add_03 (A : Nat → Nat → Int) (c : Int) : det5 (cadd A c 0 3) = det5 A + c * det5 (foldM A 0 3) := by
  simp only [det5, cadd, foldM, reduceIte, Nat.reduceEqDiff, or_true, true_or, or_self, and_true, true_and, and_self, and_false, false_and, Nat.reduceEqDiff, Nat.reduceBEq, Nat.zero_ne_one, Nat.one_ne_zero, reduceCtorEq, Nat.add_eq_zero_iff]
  unfold dd5
  grind
set_option maxHeartbeats 4000000 in
theorem det5_add_04 (A : Nat → Nat → Int) (c : Int) : det5 (cadd A c 0 4) = det5 A + c * det5 (foldM A 0 4) := by
  simp only [det5, cadd, foldM, reduceIte, Nat.reduceEqDiff, or_true, true_or, or_self, and_true, true_and, and_self, and_false, false_and, Nat.reduceEqDiff, Nat.reduceBEq, Nat.zero_ne_one, Nat.one_ne_zero, reduceCtorEq, Nat.add_eq_zero_iff]
  unfold dd5
  grind
set_option maxHeartbeats 4000000 in
theorem det5_add_05 (A : Nat → Nat → Int) (c : Int) : det5 (cadd A c 0 5) = det5 A + c * det5 (foldM A 0 5) := by
  simp only [det5, cadd, foldM, reduceIte, Nat.reduceEqDiff, or_true, true_or, or_self, and_true, true_and, and_self, and_false, false_and, Nat.reduceEqDiff, Nat.reduceBEq, Nat.zero_ne_one, Nat.one_ne_zero, reduceCtorEq, Nat.add_eq_zero_iff]
  unfold dd5
  grind
set_option maxHeartbeats 4000000 in
theorem det5_add_10 (A : Nat → Nat → Int) (c : Int) : det5 (cadd A c 1 0) = det5 A + c * det5 (foldM A 1 0) := by
  simp only [det5, cadd, foldM, reduceIte, Nat.reduceEqDiff, or_true, true_or, or_self, and_true, true_and, and_self, and_false, false_and, Nat.reduceEqDiff, Nat.reduceBEq, Nat.zero_ne_one, Nat.one_ne_zero, reduceCtorEq, Nat.add_eq_zero_iff]
  unfold dd5
  grind
set_option maxHeartbeats 4000000 in
theorem det5_add_12 (A : Nat → Nat → Int) (c : Int) : det5 (cadd A c 1 2) = det5 A + c * det5 (foldM A 1 2) := by
  simp only [det5, cadd, foldM, reduceIte, Nat.reduceEqDiff, or_true, true_or, or_self, and_true, true_and, and_self, and_false, false_and, Nat.reduceEqDiff, Nat.reduceBEq, Nat.zero_ne_one, Nat.one_ne_zero, reduceCtorEq, Nat.add_eq_zero_iff]
  unfold dd5
  grind
set_option maxHeartbeats 4000000 in
theorem det5_add_13 (A : Nat → Nat → Int) (c : Int) : det5 (cadd A c 1 3) = det5 A + c * det5 (foldM A 1 3) := by
  simp only [det5, cadd, foldM, reduceIte, Nat.reduceEqDiff, or_true, true_or, or_self, and_true, true_and, and_self, and_false, false_and, Nat.reduceEqDiff, Nat.reduceBEq, Nat.zero_ne_one, Nat.one_ne_zero, reduceCtorEq, Nat.add_eq_zero_iff]
  unfold dd5
  grind
set_option maxHeartbeats 4000000 in
theorem det5_add_14 (A : Nat → Nat → Int) (c : Int) : det5 (cadd A c 1 4) = det5 A + c * det5 (foldM A 1 4) := by
  simp only [det5, cadd, foldM, reduceIte, Nat.reduceEqDiff, or_true, true_or, or_self, and_true, true_and, and_self, and_false, false_and, Nat.reduceEqDiff, Nat.reduceBEq, Nat.zero_ne_one, Nat.one_ne_zero, reduceCtorEq, Nat.add_eq_zero_iff]
  unfold dd5
  grind
set_option maxHeartbeats 4000000 in
theorem det5_add_15 (A : Nat → Nat → Int) (c : Int) : det5 (cadd A c 1 5) = det5 A + c * det5 (foldM A 1 5) := by
  simp only [det5, cadd, foldM, reduceIte, Nat.reduceEqDiff, or_true, true_or, or_self, and_true, true_and, and_self, and_false, false_and, Nat.reduceEqDiff, Nat.reduceBEq, Nat.zero_ne_one, Nat.one_ne_zero, reduceCtorEq, Nat.add_eq_zero_iff]
  unfold dd5
  grind
set_option maxHeartbeats 4000000 in
theorem det5_add_20 (A : Nat → Nat → Int) (c : Int) : det5 (cadd A c 2 0) = det5 A + c * det5 (foldM A 2 0) := by
  simp only [det5, cadd, foldM, reduceIte, Nat.reduceEqDiff, or_true, true_or, or_self, and_true, true_and, and_self, and_false, false_and, Nat.reduceEqDiff, Nat.reduceBEq, Nat.zero_ne_one, Nat.one_ne_zero, reduceCtorEq, Nat.add_eq_zero_iff]
  unfold dd5
  grind
set_option maxHeartbeats 4000000 in
theorem det5_add_21 (A : Nat → Nat → Int) (c : Int) : det5 (cadd A c 2 1) = det5 A + c * det5 (foldM A 2 1) := by
  simp only [det5, cadd, foldM, reduceIte, Nat.reduceEqDiff, or_true, true_or, or_self, and_true, true_and, and_self, and_false, false_and, Nat.reduceEqDiff, Nat.reduceBEq, Nat.zero_ne_one, Nat.one_ne_zero, reduceCtorEq, Nat.add_eq_zero_iff]
  unfold dd5
  grind
set_option maxHeartbeats 4000000 in
theorem det5_add_23 (A : Nat → Nat → Int) (c : Int) : det5 (cadd A c 2 3) = det5 A + c * det5 (foldM A 2 3) := by
  simp only [det5, cadd, foldM, reduceIte, Nat.reduceEqDiff, or_true, true_or, or_self, and_true, true_and, and_self, and_false, false_and, Nat.reduceEqDiff, Nat.reduceBEq, Nat.zero_ne_one, Nat.one_ne_zero, reduceCtorEq, Nat.add_eq_zero_iff]
  unfold dd5
  grind
set_option maxHeartbeats 4000000 in
theorem det5_add_24 (A : Nat → Nat → Int) (c : Int) : det5 (cadd A c 2 4) = det5 A + c * det5 (foldM A 2 4) := by
  simp only [det5, cadd, foldM, reduceIte, Nat.reduceEqDiff, or_true, true_or, or_self, and_true, true_and, and_self, and_false, false_and, Nat.reduceEqDiff, Nat.reduceBEq, Nat.zero_ne_one, Nat.one_ne_zero, reduceCtorEq, Nat.add_eq_zero_iff]
  unfold dd5
  grind
set_option maxHeartbeats 4000000 in
theorem det5_add_25 (A : Nat → Nat → Int) (c : Int) : det5 (cadd A c 2 5) = det5 A + c * det5 (foldM A 2 5) := by
  simp only [det5, cadd, foldM, reduceIte, Nat.reduceEqDiff, or_true, true_or, or_self, and_true, true_and, and_self, and_false, false_and, Nat.reduceEqDiff, Nat.reduceBEq, Nat.zero_ne_one, Nat.one_ne_zero, reduceCtorEq, Nat.add_eq_zero_iff]
  unfold dd5
  grind
set_option maxHeartbeats 4000000 in
theorem det5_add_30 (A : Nat → Nat → Int) (c : Int) : det5 (cadd A c 3 0) = det5 A + c * det5 (foldM A 3 0) := by
  simp only [det5, cadd, foldM, reduceIte, Nat.reduceEqDiff, or_true, true_or, or_self, and_true, true_and, and_self, and_false, false_and, Nat.reduceEqDiff, Nat.reduceBEq, Nat.zero_ne_one, Nat.one_ne_zero, reduceCtorEq, Nat.add_eq_zero_iff]
  unfold dd5
  grind
set_option maxHeartbeats 4000000 in
theorem det5_add_31 (A : Nat → Nat → Int) (c : Int) : det5 (cadd A c 3 1) = det5 A + c * det5 (foldM A 3 1) := by
  simp only [det5, cadd, foldM, reduceIte, Nat.reduceEqDiff, or_true, true_or, or_self, and_true, true_and, and_self, and_false, false_and, Nat.reduceEqDiff, Nat.reduceBEq, Nat.zero_ne_one, Nat.one_ne_zero, reduceCtorEq, Nat.add_eq_zero_iff]
  unfold dd5
  grind
set_option maxHeartbeats 4000000 in
theorem det5_add_32 (A : Nat → Nat → Int) (c : Int) : det5 (cadd A c 3 2) = det5 A + c * det5 (foldM A 3 2) := by
  simp only [det5, cadd, foldM, reduceIte, Nat.reduceEqDiff, or_true, true_or, or_self, and_true, true_and, and_self, and_false, false_and, Nat.reduceEqDiff, Nat.reduceBEq, Nat.zero_ne_one, Nat.one_ne_zero, reduceCtorEq, Nat.add_eq_zero_iff]
  unfold dd5
  grind
set_option maxHeartbeats 4000000 in
theorem det5_add_34 (A : Nat → Nat → Int) (c : Int) : det5 (cadd A c 3 4) = det5 A + c * det5 (foldM A 3 4) := by
  simp only [det5, cadd, foldM, reduceIte, Nat.reduceEqDiff, or_true, true_or, or_self, and_true, true_and, and_self, and_false, false_and, Nat.reduceEqDiff, Nat.reduceBEq, Nat.zero_ne_one, Nat.one_ne_zero, reduceCtorEq, Nat.add_eq_zero_iff]
  unfold dd5
  grind
set_option maxHeartbeats 4000000 in
theorem det5_add_35 (A : Nat → Nat → Int) (c : Int) : det5 (cadd A c 3 5) = det5 A + c * det5 (foldM A 3 5) := by
  simp only [det5, cadd, foldM, reduceIte, Nat.reduceEqDiff, or_true, true_or, or_self, and_true, true_and, and_self, and_false, false_and, Nat.reduceEqDiff, Nat.reduceBEq, Nat.zero_ne_one, Nat.one_ne_zero, reduceCtorEq, Nat.add_eq_zero_iff]
  unfold dd5
  grind
set_option maxHeartbeats 4000000 in
theorem det5_add_40 (A : Nat → Nat → Int) (c : Int) : det5 (cadd A c 4 0) = det5 A + c * det5 (foldM A 4 0) := by
  simp only [det5, cadd, foldM, reduceIte, Nat.reduceEqDiff, or_true, true_or, or_self, and_true, true_and, and_self, and_false, false_and, Nat.reduceEqDiff, Nat.reduceBEq, Nat.zero_ne_one, Nat.one_ne_zero, reduceCtorEq, Nat.add_eq_zero_iff]
  unfold dd5
  grind
set_option maxHeartbeats 4000000 in
theorem det5_add_41 (A : Nat → Nat → Int) (c : Int) : det5 (cadd A c 4 1) = det5 A + c * det5 (foldM A 4 1) := by
  simp only [det5, cadd, foldM, reduceIte, Nat.reduceEqDiff, or_true, true_or, or_self, and_true, true_and, and_self, and_false, false_and, Nat.reduceEqDiff, Nat.reduceBEq, Nat.zero_ne_one, Nat.one_ne_zero, reduceCtorEq, Nat.add_eq_zero_iff]
  unfold dd5
  grind
set_option maxHeartbeats 4000000 in
theorem det5_add_42 (A : Nat → Nat → Int) (c : Int) : det5 (cadd A c 4 2) = det5 A + c * det5 (foldM A 4 2) := by
  simp only [det5, cadd, foldM, reduceIte, Nat.reduceEqDiff, or_true, true_or, or_self, and_true, true_and, and_self, and_false, false_and, Nat.reduceEqDiff, Nat.reduceBEq, Nat.zero_ne_one, Nat.one_ne_zero, reduceCtorEq, Nat.add_eq_zero_iff]
  unfold dd5
  grind
set_option maxHeartbeats 4000000 in
theorem det5_add_43 (A : Nat → Nat → Int) (c : Int) : det5 (cadd A c 4 3) = det5 A + c * det5 (foldM A 4 3) := by
  simp only [det5, cadd, foldM, reduceIte, Nat.reduceEqDiff, or_true, true_or, or_self, and_true, true_and, and_self, and_false, false_and, Nat.reduceEqDiff, Nat.reduceBEq, Nat.zero_ne_one, Nat.one_ne_zero, reduceCtorEq, Nat.add_eq_zero_iff]
  unfold dd5
  grind
set_option maxHeartbeats 4000000 in
theorem det5_add_45 (A : Nat → Nat → Int) (c : Int) : det5 (cadd A c 4 5) = det5 A + c * det5 (foldM A 4 5) := by
  simp only [det5, cadd, foldM, reduceIte, Nat.reduceEqDiff, or_true, true_or, or_self, and_true, true_and, and_self, and_false, false_and, Nat.reduceEqDiff, Nat.reduceBEq, Nat.zero_ne_one, Nat.one_ne_zero, reduceCtorEq, Nat.add_eq_zero_iff]
  unfold dd5
  grind
theorem det5_add {x y : Nat} (hx : x < 5) (hy : y < 6) (hn : x ≠ y) (A : Nat → Nat → Int) (c : Int) : det5 (cadd A c x y) = det5 A + c * det5 (foldM A x y) := by
  rcases (show x = 0 ∨ x = 1 ∨ x = 2 ∨ x = 3 ∨ x = 4 by omega) with rfl | rfl | rfl | rfl | rfl
  · rcases (show y = 1 ∨ y = 2 ∨ y = 3 ∨ y = 4 ∨ y = 5 by omega) with rfl | rfl | rfl | rfl | rfl
    · exact det5_add_01 A c
    · exact det5_add_02 A c
    · exact det5_add_03 A c
    · exact det5_add_04 A c
    · exact det5_add_05 A c
  · rcases (show y = 0 ∨ y = 2 ∨ y = 3 ∨ y = 4 ∨ y = 5 by omega) with rfl | rfl | rfl | rfl | rfl
    · exact det5_add_10 A c
    · exact det5_add_12 A c
    · exact det5_add_13 A c
    · exact det5_add_14 A c
    · exact det5_add_15 A c
  · rcases (show y = 0 ∨ y = 1 ∨ y = 3 ∨ y = 4 ∨ y = 5 by omega) with rfl | rfl | rfl | rfl | rfl
    · exact det5_add_20 A c
    · exact det5_add_21 A c
    · exact det5_add_23 A c
    · exact det5_add_24 A c
    · exact det5_add_25 A c
  · rcases (show y = 0 ∨ y = 1 ∨ y = 2 ∨ y = 4 ∨ y = 5 by omega) with rfl | rfl | rfl | rfl | rfl
    · exact det5_add_30 A c
    · exact det5_add_31 A c
    · exact det5_add_32 A c
    · exact det5_add_34 A c
    · exact det5_add_35 A c
  · rcases (show y = 0 ∨ y = 1 ∨ y = 2 ∨ y = 3 ∨ y = 5 by omega) with rfl | rfl | rfl | rfl | rfl
    · exact det5_add_40 A c
    · exact det5_add_41 A c
    · exact det5_add_42 A c
    · exact det5_add_43 A c
    · exact det5_add_45 A c
