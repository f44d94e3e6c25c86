/-! wires over lines: forests and determinants -/
abbrev Wr : Type := Nat × Nat × Int
/-- labels of the six (5: the ground): rooted, the ground its own root -/
def Rt (P : Nat → Nat) : Prop := P 5 = 5 ∧ ∀ k, k ≤ 5 → P k ≤ 5 ∧ P (P k) = P k
def mvP (P : Nat → Nat) (x y : Nat) : Nat → Nat := fun k => if P k = x then y else P k
/-- the labels with those of i and j made one -/
def mrg (P : Nat → Nat) (i j : Nat) : Nat → Nat := if P i = 5 then mvP P (P j) 5 else mvP P (P i) (P j)
theorem mvP_rt {P : Nat → Nat} (h : Rt P) {x y : Nat} (hx : x ≠ 5) (hxy : x ≠ y) (hy : y ≤ 5) (hyy : P y = y) : Rt (mvP P x y) := by
  refine ⟨?_, fun k hk => ?_⟩
  · unfold mvP
    rw [h.1, if_neg (Ne.symm hx)]
  · have h1 := h.2 k hk
    unfold mvP
    by_cases c : P k = x
    · simp only [if_pos c]
      refine ⟨hy, ?_⟩
      rw [hyy, if_neg (Ne.symm hxy)]
    · simp only [if_neg c]
      refine ⟨h1.1, ?_⟩
      rw [h1.2, if_neg c]
theorem mrg_rt {P : Nat → Nat} (h : Rt P) {i j : Nat} (hi : i ≤ 5) (hj : j ≤ 5) (hn : P i ≠ P j) : Rt (mrg P i j) := by
  unfold mrg
  split
  · rename_i c
    exact mvP_rt h (fun z => hn (c.trans z.symm)) (fun z => hn (c.trans z.symm)) (Nat.le_refl 5) h.1
  · rename_i c
    exact mvP_rt h c hn (h.2 j hj).1 (h.2 j hj).2
/-- how many lines live -/
def liv (P : Nat → Nat) : Nat := (if P 0 = 0 then 1 else 0) + (if P 1 = 1 then 1 else 0) + (if P 2 = 2 then 1 else 0) + (if P 3 = 3 then 1 else 0) + (if P 4 = 4 then 1 else 0)
theorem liv_mvP {P : Nat → Nat} (h : Rt P) {x y : Nat} (hx : x < 5) (hxx : P x = x) (hxy : x ≠ y) (hy : y ≤ 5) (hyy : P y = y) : liv P = liv (mvP P x y) + 1 := by
  have e : ∀ r, r < 5 → ((mvP P x y) r = r ↔ (P r = r ∧ r ≠ x)) := fun r hr => by
    unfold mvP
    by_cases c : P r = x
    · rw [if_pos c]
      constructor
      · intro z
        subst z
        exact absurd (hyy.symm.trans c) (Ne.symm hxy)
      · rintro ⟨z1, z2⟩
        exact absurd (z1.symm.trans c) z2
    · rw [if_neg c]
      constructor
      · intro z
        exact ⟨z, fun q => c (by rw [q]; exact hxx)⟩
      · rintro ⟨z1, z2⟩
        exact z1
  unfold liv
  simp only [e 0 (by decide), e 1 (by decide), e 2 (by decide), e 3 (by decide), e 4 (by decide)]
  rcases (show x = 0 ∨ x = 1 ∨ x = 2 ∨ x = 3 ∨ x = 4 by omega) with rfl | rfl | rfl | rfl | rfl <;> simp [hxx] <;> omega
def vv (P : Nat → Nat) (i j r : Nat) : Int := (if P i = r then 1 else 0) - (if P j = r then 1 else 0)
def Mx (P : Nat → Nat) : List Wr → Nat → Nat → Int
  | [], r, k => if P r = r then 0 else if r = k then 1 else 0
  | w :: ws, r, k => Mx P ws r k + w.2.2 * vv P w.1 w.2.1 r * vv P w.1 w.2.1 k
theorem Mx_cons (P : Nat → Nat) (w : Wr) (ws : List Wr) : Mx P (w :: ws) = cadd (Mx P ws) w.2.2 (P w.1) (P w.2.1) := rfl
theorem Mx_c (P : Nat → Nat) (w : Wr) (ws : List Wr) (r k : Nat) : Mx P (w :: ws) r k = Mx P ws r k + w.2.2 * vv P w.1 w.2.1 r * vv P w.1 w.2.1 k := rfl
/-- the forests of m of the wires that join no two of one label -/
def Gf : List Wr → (Nat → Nat) → Nat → Int
  | [], _, m => if m = 0 then 1 else 0
  | w :: ws, P, m => Gf ws P m + (if P w.1 = P w.2.1 then 0 else if m = 0 then 0 else w.2.2 * Gf ws (mrg P w.1 w.2.1) (m - 1))
def Wok (ws : List Wr) : Prop := ∀ w, w ∈ ws → w.1 ≤ 5 ∧ w.2.1 ≤ 5
theorem Gf_zero (ws : List Wr) : ∀ P, Gf ws P 0 = 1 := by
  induction ws with
  | nil => intro P; rfl
  | cons w ws ih =>
    intro P
    unfold Gf
    rw [ih P]
    simp
theorem vv_dead {P : Nat → Nat} (h : Rt P) {i j r : Nat} (hi : i ≤ 5) (hj : j ≤ 5) (hr : P r ≠ r) : vv P i j r = 0 := by
  unfold vv
  rw [if_neg (fun z => hr (by rw [← z]; exact (h.2 i hi).2)), if_neg (fun z => hr (by rw [← z]; exact (h.2 j hj).2))]
  rfl
theorem vv_mv {P : Nat → Nat} {x y i j r : Nat} (hr : r ≠ x) (hxy : x ≠ y) : vv (mvP P x y) i j r = vv P i j r + (if r = y then vv P i j x else 0) := by
  unfold vv mvP
  by_cases c1 : P i = x <;> by_cases c2 : P j = x <;> by_cases c3 : r = y <;> simp_all <;> (try omega) <;> grind
theorem vv_mvx {P : Nat → Nat} {x y i j : Nat} (hxy : x ≠ y) : vv (mvP P x y) i j x = 0 := by
  unfold vv mvP
  by_cases c1 : P i = x <;> by_cases c2 : P j = x <;> simp_all <;> grind
theorem Mx_fold {P : Nat → Nat} (h : Rt P) {x y : Nat} (hx : x < 5) (hxx : P x = x) (hxy : x ≠ y) (hy : y ≤ 5) (hyy : P y = y) : ∀ (ws : List Wr) (r k : Nat), r < 5 → k < 5 → foldM (Mx P ws) x y r k = Mx (mvP P x y) ws r k := by
  intro ws
  induction ws with
  | nil =>
    intro r k hr hk
    unfold foldM Mx mvP
    by_cases c1 : r = x <;> by_cases c2 : k = x <;> by_cases c3 : P r = x <;> grind
  | cons w ws ih =>
    intro r k hr hk
    have e := ih r k hr hk
    rw [Mx_c, ← e]
    unfold foldM
    simp only [Mx_c]
    by_cases c1 : r = x
    · subst c1
      simp only [true_or, if_true, vv_mvx hxy]
      simp
    · by_cases c2 : k = x
      · subst c2
        simp only [or_true, if_true, vv_mvx hxy]
        simp
      · have cn : ¬ (r = x ∨ k = x) := fun z => z.elim c1 c2
        rw [if_neg cn, if_neg cn, vv_mv c1 hxy, vv_mv c2 hxy]
        generalize vv P w.1 w.2.1 r = vr
        generalize vv P w.1 w.2.1 k = vk
        generalize vv P w.1 w.2.1 x = vx
        generalize Mx P ws r k = m1
        generalize Mx P ws x k = m2
        generalize Mx P ws r x = m3
        generalize Mx P ws x x = m4
        by_cases c3 : r = y <;> by_cases c4 : k = y
        · rw [if_pos c3, if_pos c3, if_pos c4, if_pos c4, if_pos ⟨c3, c4⟩, if_pos c3, if_pos c4, if_pos ⟨c3, c4⟩]
          grind
        · rw [if_pos c3, if_pos c3, if_neg c4, if_neg c4, if_neg (fun z => c4 z.2), if_pos c3, if_neg c4, if_neg (fun z => c4 z.2)]
          grind
        · rw [if_neg c3, if_neg c3, if_pos c4, if_pos c4, if_neg (fun z => c3 z.1), if_neg c3, if_pos c4, if_neg (fun z => c3 z.1)]
          grind
        · rw [if_neg c3, if_neg c3, if_neg c4, if_neg c4, if_neg (fun z => c3 z.1), if_neg c3, if_neg c4, if_neg (fun z => c3 z.1)]
          grind
set_option maxHeartbeats 4000000 in
theorem Mx_nil (P : Nat → Nat) : det5 (Mx P []) = if liv P = 0 then 1 else 0 := by
  unfold det5 Mx liv
  by_cases c0 : P 0 = 0 <;> by_cases c1 : P 1 = 1 <;> by_cases c2 : P 2 = 2 <;> by_cases c3 : P 3 = 3 <;> by_cases c4 : P 4 = 4 <;> simp [c0, c1, c2, c3, c4, dd5]
theorem cadd_flip (A : Nat → Nat → Int) (c : Int) (x y : Nat) : cadd A c x y = cadd A c y x := by
  funext r k
  unfold cadd
  grind
theorem cadd_self (A : Nat → Nat → Int) (c : Int) (x : Nat) : cadd A c x x = A := by
  funext r k
  unfold cadd
  simp
/-- the forests of as many wires as lines live are told by the determinant -/
theorem Gf_det : ∀ (ws : List Wr) (P : Nat → Nat), Rt P → Wok ws → Gf ws P (liv P) = det5 (Mx P ws) := by
  intro ws
  induction ws with
  | nil =>
    intro P h hw
    rw [Mx_nil]
    rfl
  | cons w ws ih =>
    intro P h hw
    have hw' : Wok ws := fun q hq => hw q (List.mem_cons_of_mem _ hq)
    have hi := (hw w (List.mem_cons_self)).1
    have hj := (hw w (List.mem_cons_self)).2
    rw [Mx_cons]
    unfold Gf
    rw [ih P h hw']
    by_cases c : P w.1 = P w.2.1
    · rw [if_pos c, c, cadd_self]
      simp
    · rw [if_neg c]
      have hgo : ∀ x y, x < 5 → P x = x → x ≠ y → y ≤ 5 → P y = y → det5 (cadd (Mx P ws) w.2.2 x y) = det5 (Mx P ws) + (if liv P = 0 then 0 else w.2.2 * Gf ws (mvP P x y) (liv P - 1)) := fun x y hx hxx hxy hy hyy => by
        rw [det5_add hx (by omega) hxy, det5_congr (Mx_fold h hx hxx hxy hy hyy ws), liv_mvP h hx hxx hxy hy hyy, if_neg (by omega), Nat.add_sub_cancel, ih _ (mvP_rt h (by omega) hxy hy hyy) hw']
      by_cases c5 : P w.1 = 5
      · rw [show mrg P w.1 w.2.1 = mvP P (P w.2.1) 5 from if_pos c5, c5, cadd_flip]
        exact (hgo (P w.2.1) 5 (by have := (h.2 _ hj).1; omega) (h.2 _ hj).2 (by omega) (by omega) h.1).symm
      · rw [show mrg P w.1 w.2.1 = mvP P (P w.1) (P w.2.1) from if_neg c5]
        exact (hgo (P w.1) (P w.2.1) (by have := (h.2 _ hi).1; omega) (h.2 _ hi).2 c (h.2 _ hj).1 (h.2 _ hj).2).symm
