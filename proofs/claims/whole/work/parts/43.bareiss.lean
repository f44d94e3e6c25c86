/-! how large forests, cofactors and the numbers of the elimination are -/
def eb : Nat → Nat → Int
  | 0, m => if m = 0 then 1 else 0
  | _ + 1, 0 => 1
  | n + 1, m + 1 => eb n (m + 1) + 48 * eb n m
theorem eb_pos : ∀ n m, 0 ≤ eb n m
  | 0, m => by
    unfold eb
    split <;> decide
  | n + 1, 0 => show (0 : Int) ≤ 1 by decide
  | n + 1, m + 1 => by
    unfold eb
    have := eb_pos n (m + 1)
    have := eb_pos n m
    omega
theorem eb_one : ∀ n, eb n 0 = 1
  | 0 => rfl
  | _ + 1 => rfl
theorem eb_succ : ∀ n m, eb n m ≤ eb (n + 1) m
  | n, 0 => by rw [eb_one, eb_one]; exact Int.le_refl 1
  | n, m + 1 => by
    show eb n (m + 1) ≤ eb n (m + 1) + 48 * eb n m
    have := eb_pos n m
    omega
theorem eb_mono {a b : Nat} (h : a ≤ b) (m : Nat) : eb a m ≤ eb b m := by
  induction h with
  | refl => exact Int.le_refl _
  | step _ ih => exact Int.le_trans ih (eb_succ _ _)
def Wc (ws : List Wr) : Prop := ∀ w, w ∈ ws → 0 ≤ w.2.2 ∧ w.2.2 ≤ 48
theorem Gf_bd : ∀ (ws : List Wr), Wc ws → ∀ (P : Nat → Nat) (m : Nat), 0 ≤ Gf ws P m ∧ Gf ws P m ≤ eb ws.length m := by
  intro ws
  induction ws with
  | nil =>
    intro hc P m
    show 0 ≤ (if m = 0 then (1 : Int) else 0) ∧ (if m = 0 then (1 : Int) else 0) ≤ (if m = 0 then 1 else 0)
    by_cases h : m = 0
    · rw [if_pos h]; decide
    · rw [if_neg h]; decide
  | cons w ws ih =>
    intro hc P m
    have ih := ih (fun q hq => hc q (List.mem_cons_of_mem _ hq))
    have hw := hc w List.mem_cons_self
    have h1 := ih P m
    unfold Gf
    cases m with
    | zero =>
      rw [Gf_zero]
      show 0 ≤ (1 : Int) + _ ∧ (1 : Int) + _ ≤ 1
      by_cases c1 : P w.1 = P w.2.1
      · rw [if_pos c1]; decide
      · rw [if_neg c1, if_pos rfl]; decide
    | succ m =>
      show _ ∧ _ ≤ eb ws.length (m + 1) + 48 * eb ws.length m
      have h3 := eb_pos ws.length m
      by_cases c1 : P w.1 = P w.2.1
      · rw [if_pos c1]
        omega
      · rw [if_neg c1, if_neg (by omega), Nat.add_sub_cancel]
        have h2 := ih (mrg P w.1 w.2.1) m
        have h4 : 0 ≤ w.2.2 * Gf ws (mrg P w.1 w.2.1) m := Int.mul_nonneg hw.1 h2.1
        have h5 : w.2.2 * Gf ws (mrg P w.1 w.2.1) m ≤ 48 * eb ws.length m := Int.mul_le_mul hw.2 h2.2 h2.1 (by decide)
        omega
theorem Mx_sym (P : Nat → Nat) : ∀ (ws : List Wr) (r k : Nat), Mx P ws r k = Mx P ws k r := by
  intro ws
  induction ws with
  | nil =>
    intro r k
    unfold Mx
    by_cases c1 : r = k
    · subst c1; rfl
    · rw [if_neg c1, if_neg (Ne.symm c1)]
      simp
  | cons w ws ih =>
    intro r k
    rw [Mx_c, Mx_c, ih r k, Int.mul_assoc, Int.mul_assoc, Int.mul_comm (vv P w.1 w.2.1 r)]
theorem Gf_mv {ws : List Wr} {P : Nat → Nat} (h : Rt P) (hw : Wok ws) {x y : Nat} (hx : x < 5) (hxx : P x = x) (hxy : x ≠ y) (hy : y ≤ 5) (hyy : P y = y) : det5 (foldM (Mx P ws) x y) = Gf ws (mvP P x y) (liv P - 1) := by
  rw [det5_congr (Mx_fold h hx hxx hxy hy hyy ws), liv_mvP h hx hxx hxy hy hyy, Nat.add_sub_cancel, Gf_det _ _ (mvP_rt h (by omega) hxy hy hyy) hw]
/-- a cofactor on the diagonal -/
theorem cof_d {ws : List Wr} {P : Nat → Nat} (h : Rt P) (hw : Wok ws) {i : Nat} (hi : i < 5) (hii : P i = i) : det5 (repc (Mx P ws) i (una i)) = Gf ws (mvP P i 5) (liv P - 1) := by
  rw [cof_self hi, Gf_mv h hw hi hii (by omega) (Nat.le_refl 5) h.1]
/-- one beside it -/
theorem cof_o {ws : List Wr} {P : Nat → Nat} (h : Rt P) (hw : Wok ws) {i j : Nat} (hi : i < 5) (hii : P i = i) (hj : j < 5) (hjj : P j = j) (hn : i ≠ j) : 2 * det5 (repc (Mx P ws) i (una j)) = Gf ws (mvP P i 5) (liv P - 1) + Gf ws (mvP P j 5) (liv P - 1) - Gf ws (mvP P i j) (liv P - 1) := by
  rw [cof_two hi hj hn _ (fun r k _ _ => Mx_sym P ws r k), Gf_mv h hw hi hii (by omega) (Nat.le_refl 5) h.1, Gf_mv h hw hj hjj (by omega) (Nat.le_refl 5) h.1, Gf_mv h hw hi hii hn (by omega) hjj]
theorem cof_bd {ws : List Wr} {P : Nat → Nat} (h : Rt P) (hw : Wok ws) (hc : Wc ws) {i j : Nat} (hi : i < 5) (hii : P i = i) (hj : j < 5) (hjj : P j = j) : - eb ws.length (liv P - 1) ≤ det5 (repc (Mx P ws) i (una j)) ∧ det5 (repc (Mx P ws) i (una j)) ≤ eb ws.length (liv P - 1) := by
  have e0 := eb_pos ws.length (liv P - 1)
  have b1 := Gf_bd ws hc (mvP P i 5) (liv P - 1)
  by_cases hn : i = j
  · subst hn
    rw [cof_d h hw hi hii]
    omega
  · have b2 := Gf_bd ws hc (mvP P j 5) (liv P - 1)
    have b3 := Gf_bd ws hc (mvP P i j) (liv P - 1)
    have e := cof_o h hw hi hii hj hjj hn
    omega
/-- a row made one of the unit matrix -/
def rowc (A : Nat → Nat → Int) (c : Nat) : Nat → Nat → Int := fun r k => if r = c then (if k = c then 1 else 0) else A r k
/-- the first k columns, and those of the unit matrix -/
def Bk (A : Nat → Nat → Int) (k : Nat) : Nat → Nat → Int := fun r c => if c < k then A r c else if r = c then 1 else 0
def mk (A : Nat → Nat → Int) (k i : Nat) (u : Nat → Int) : Int := det5 (repc (Bk A k) i u)
theorem Bk_succ (A : Nat → Nat → Int) (k : Nat) : repc (Bk A k) k (fun r => A r k) = Bk A (k + 1) := by
  funext r c
  unfold repc Bk
  by_cases c1 : c = k
  · subst c1
    rw [if_pos rfl, if_pos (show c < c + 1 by omega)]
  · rw [if_neg c1]
    by_cases c2 : c < k
    · rw [if_pos c2, if_pos (show c < k + 1 by omega)]
    · rw [if_neg c2, if_neg (show ¬ c < k + 1 by omega)]
theorem mk_piv (A : Nat → Nat → Int) (k : Nat) : mk A k k (fun r => A r k) = det5 (Bk A (k + 1)) := by
  unfold mk
  rw [Bk_succ]
theorem mk_same (A : Nat → Nat → Int) (k : Nat) (u : Nat → Int) : mk A (k + 1) k u = mk A k k u := by
  unfold mk
  rw [← Bk_succ, repc_repc]
/-- a stage of the elimination -/
theorem mk_step (A : Nat → Nat → Int) {k i : Nat} (hk : k < 5) (hi : i < 5) (hn : i ≠ k) (u : Nat → Int) : det5 (Bk A k) * mk A (k + 1) i u = det5 (Bk A (k + 1)) * mk A k i u - mk A k i (fun r => A r k) * mk A k k u := by
  have e := jacobi hk hi (Ne.symm hn) (Bk A k) (fun r => A r k) u
  rw [Bk_succ] at e
  exact e
set_option maxHeartbeats 8000000 in
theorem mk_zero_0 (A : Nat → Nat → Int) (u : Nat → Int) : mk A 0 0 u = u 0 := by
  unfold mk
  simp only [det5, repc, una, Bk, rowc, reduceIte, Nat.reduceEqDiff, or_true, true_or, or_self, and_true, true_and, and_self, and_false, false_and, Nat.reduceBEq, Nat.zero_ne_one, Nat.one_ne_zero, reduceCtorEq, Nat.add_eq_zero_iff, Nat.not_lt_zero, if_false]
  unfold dd5
  grind
set_option maxHeartbeats 8000000 in
theorem mk_zero_1 (A : Nat → Nat → Int) (u : Nat → Int) : mk A 0 1 u = u 1 := by
  unfold mk
  simp only [det5, repc, una, Bk, rowc, reduceIte, Nat.reduceEqDiff, or_true, true_or, or_self, and_true, true_and, and_self, and_false, false_and, Nat.reduceBEq, Nat.zero_ne_one, Nat.one_ne_zero, reduceCtorEq, Nat.add_eq_zero_iff, Nat.not_lt_zero, if_false]
  unfold dd5
  grind
set_option maxHeartbeats 8000000 in
theorem mk_zero_2 (A : Nat → Nat → Int) (u : Nat → Int) : mk A 0 2 u = u 2 := by
  unfold mk
  simp only [det5, repc, una, Bk, rowc, reduceIte, Nat.reduceEqDiff, or_true, true_or, or_self, and_true, true_and, and_self, and_false, false_and, Nat.reduceBEq, Nat.zero_ne_one, Nat.one_ne_zero, reduceCtorEq, Nat.add_eq_zero_iff, Nat.not_lt_zero, if_false]
  unfold dd5
  grind
set_option maxHeartbeats 8000000 in
theorem mk_zero_3 (A : Nat → Nat → Int) (u : Nat → Int) : mk A 0 3 u = u 3 := by
  unfold mk
  simp only [det5, repc, una, Bk, rowc, reduceIte, Nat.reduceEqDiff, or_true, true_or, or_self, and_true, true_and, and_self, and_false, false_and, Nat.reduceBEq, Nat.zero_ne_one, Nat.one_ne_zero, reduceCtorEq, Nat.add_eq_zero_iff, Nat.not_lt_zero, if_false]
  unfold dd5
  grind
set_option maxHeartbeats 8000000 in
theorem mk_zero_4 (A : Nat → Nat → Int) (u : Nat → Int) : mk A 0 4 u = u 4 := by
  unfold mk
  simp only [det5, repc, una, Bk, rowc, reduceIte, Nat.reduceEqDiff, or_true, true_or, or_self, and_true, true_and, and_self, and_false, false_and, Nat.reduceBEq, Nat.zero_ne_one, Nat.one_ne_zero, reduceCtorEq, Nat.add_eq_zero_iff, Nat.not_lt_zero, if_false]
  unfold dd5
  grind
theorem mk_zero (A : Nat → Nat → Int) {i : Nat} (hi : i < 5) (u : Nat → Int) : mk A 0 i u = u i := by
  rcases (show i = 0 ∨ i = 1 ∨ i = 2 ∨ i = 3 ∨ i = 4 by omega) with rfl | rfl | rfl | rfl | rfl
  · exact mk_zero_0 A u
  · exact mk_zero_1 A u
  · exact mk_zero_2 A u
  · exact mk_zero_3 A u
  · exact mk_zero_4 A u
set_option maxHeartbeats 8000000 in
theorem det5_one : ∀ A : Nat → Nat → Int, det5 (Bk A 0) = 1 := by
  intro A
  simp only [det5, Bk, reduceIte, Nat.reduceEqDiff, or_true, true_or, or_self, and_true, true_and, and_self, and_false, false_and, Nat.reduceBEq, Nat.zero_ne_one, Nat.one_ne_zero, reduceCtorEq, Nat.add_eq_zero_iff, Nat.not_lt_zero, if_false]
  unfold dd5
  grind
set_option maxHeartbeats 8000000 in
theorem rowc_0 (A : Nat → Nat → Int) (h0 : A 0 0 = 1) (h1 : A 1 0 = 0) (h2 : A 2 0 = 0) (h3 : A 3 0 = 0) (h4 : A 4 0 = 0) : det5 A = det5 (rowc A 0) := by
  simp only [det5, rowc, reduceIte, Nat.reduceEqDiff, Nat.zero_ne_one, Nat.one_ne_zero, reduceCtorEq, Nat.add_eq_zero_iff, h0, h1, h2, h3, h4]
  clear h0 h1 h2 h3 h4
  unfold dd5
  grind
set_option maxHeartbeats 8000000 in
theorem rowc_1 (A : Nat → Nat → Int) (h0 : A 0 1 = 0) (h1 : A 1 1 = 1) (h2 : A 2 1 = 0) (h3 : A 3 1 = 0) (h4 : A 4 1 = 0) : det5 A = det5 (rowc A 1) := by
  simp only [det5, rowc, reduceIte, Nat.reduceEqDiff, Nat.zero_ne_one, Nat.one_ne_zero, reduceCtorEq, Nat.add_eq_zero_iff, h0, h1, h2, h3, h4]
  clear h0 h1 h2 h3 h4
  unfold dd5
  grind
set_option maxHeartbeats 8000000 in
theorem rowc_2 (A : Nat → Nat → Int) (h0 : A 0 2 = 0) (h1 : A 1 2 = 0) (h2 : A 2 2 = 1) (h3 : A 3 2 = 0) (h4 : A 4 2 = 0) : det5 A = det5 (rowc A 2) := by
  simp only [det5, rowc, reduceIte, Nat.reduceEqDiff, Nat.zero_ne_one, Nat.one_ne_zero, reduceCtorEq, Nat.add_eq_zero_iff, h0, h1, h2, h3, h4]
  clear h0 h1 h2 h3 h4
  unfold dd5
  grind
set_option maxHeartbeats 8000000 in
theorem rowc_3 (A : Nat → Nat → Int) (h0 : A 0 3 = 0) (h1 : A 1 3 = 0) (h2 : A 2 3 = 0) (h3 : A 3 3 = 1) (h4 : A 4 3 = 0) : det5 A = det5 (rowc A 3) := by
  simp only [det5, rowc, reduceIte, Nat.reduceEqDiff, Nat.zero_ne_one, Nat.one_ne_zero, reduceCtorEq, Nat.add_eq_zero_iff, h0, h1, h2, h3, h4]
  clear h0 h1 h2 h3 h4
  unfold dd5
  grind
set_option maxHeartbeats 8000000 in
theorem rowc_4 (A : Nat → Nat → Int) (h0 : A 0 4 = 0) (h1 : A 1 4 = 0) (h2 : A 2 4 = 0) (h3 : A 3 4 = 0) (h4 : A 4 4 = 1) : det5 A = det5 (rowc A 4) := by
  simp only [det5, rowc, reduceIte, Nat.reduceEqDiff, Nat.zero_ne_one, Nat.one_ne_zero, reduceCtorEq, Nat.add_eq_zero_iff, h0, h1, h2, h3, h4]
  clear h0 h1 h2 h3 h4
  unfold dd5
  grind
theorem rowc_det {c : Nat} (hc : c < 5) (A : Nat → Nat → Int) (h : ∀ r, r < 5 → A r c = if r = c then 1 else 0) : det5 A = det5 (rowc A c) := by
  rcases (show c = 0 ∨ c = 1 ∨ c = 2 ∨ c = 3 ∨ c = 4 by omega) with rfl | rfl | rfl | rfl | rfl
  · exact rowc_0 A (h 0 (by decide)) (h 1 (by decide)) (h 2 (by decide)) (h 3 (by decide)) (h 4 (by decide))
  · exact rowc_1 A (h 0 (by decide)) (h 1 (by decide)) (h 2 (by decide)) (h 3 (by decide)) (h 4 (by decide))
  · exact rowc_2 A (h 0 (by decide)) (h 1 (by decide)) (h 2 (by decide)) (h 3 (by decide)) (h 4 (by decide))
  · exact rowc_3 A (h 0 (by decide)) (h 1 (by decide)) (h 2 (by decide)) (h 3 (by decide)) (h 4 (by decide))
  · exact rowc_4 A (h 0 (by decide)) (h 1 (by decide)) (h 2 (by decide)) (h 3 (by decide)) (h 4 (by decide))
/-- the lines of S, and those of the unit matrix -/
def clS (S : Nat → Bool) (A : Nat → Nat → Int) : Nat → Nat → Int := fun r k => if S r = true then A r k else if r = k then 1 else 0
theorem clS_det (S : Nat → Bool) (A : Nat → Nat → Int) (h : ∀ c, c < 5 → S c = false → ∀ r, r < 5 → A r c = if r = c then 1 else 0) : det5 A = det5 (clS S A) := by
  have go : ∀ n, n ≤ 5 → det5 A = det5 (fun r k => if r < n ∧ S r = false then (if r = k then 1 else 0) else A r k) := by
    intro n
    induction n with
    | zero =>
      intro _
      refine det5_congr (fun r k _ _ => ?_)
      rw [if_neg (by omega)]
    | succ n ih =>
      intro hn
      rw [ih (by omega)]
      by_cases c1 : S n = true
      · refine det5_congr (fun r k _ _ => ?_)
        by_cases c2 : r < n ∧ S r = false
        · rw [if_pos c2, if_pos (show r < n + 1 ∧ S r = false from ⟨by omega, c2.2⟩)]
        · rw [if_neg c2]
          by_cases c3 : r < n + 1 ∧ S r = false
          · have : r = n := by
              by_cases c4 : r < n
              · exact absurd ⟨c4, c3.2⟩ c2
              · omega
            subst this
            rw [c1] at c3
            exact absurd c3.2 (by decide)
          · rw [if_neg c3]
      · have c1 : S n = false := by
          cases hS : S n
          · rfl
          · exact absurd hS c1
        rw [rowc_det (c := n) (by omega) _ (fun r hr => by
          by_cases c2 : r < n ∧ S r = false
          · rw [if_pos c2]
          · rw [if_neg c2]
            exact h n (by omega) c1 r hr)]
        refine det5_congr (fun r k _ _ => ?_)
        unfold rowc
        by_cases c2 : r = n
        · subst c2
          rw [if_pos rfl, if_pos (show r < r + 1 ∧ S r = false from ⟨by omega, c1⟩)]
          by_cases c3 : k = r
          · rw [if_pos c3, if_pos c3.symm]
          · rw [if_neg c3, if_neg (Ne.symm c3)]
        · rw [if_neg c2]
          show (if r < n ∧ S r = false then (if r = k then (1 : Int) else 0) else A r k) = _
          by_cases c3 : r < n ∧ S r = false
          · rw [if_pos c3, if_pos (show r < n + 1 ∧ S r = false from ⟨by omega, c3.2⟩)]
          · rw [if_neg c3, if_neg (show ¬ (r < n + 1 ∧ S r = false) from fun z => c3 ⟨by omega, z.2⟩)]
  rw [go 5 (Nat.le_refl 5)]
  refine det5_congr (fun r k hr _ => ?_)
  unfold clS
  by_cases c1 : S r = true
  · rw [if_pos c1, if_neg (fun z => by rw [c1] at z; exact absurd z.2 (by decide))]
  · rw [if_neg c1, if_pos ⟨hr, by cases hS : S r; rfl; exact absurd hS c1⟩]
/-- only the lines of S live -/
def PS (S : Nat → Bool) : Nat → Nat := fun r => if S r = true then r else 5
def Sok (S : Nat → Bool) : Prop := ∀ r, 5 ≤ r → S r = false
theorem PS_in {S : Nat → Bool} {r : Nat} (h : S r = true) : PS S r = r := if_pos h
theorem PS_out {S : Nat → Bool} {r : Nat} (h : S r = false) : PS S r = 5 := if_neg (by rw [h]; decide)
theorem PS_rt {S : Nat → Bool} (h : Sok S) : Rt (PS S) := by
  refine ⟨PS_out (h 5 (Nat.le_refl 5)), fun k hk => ?_⟩
  cases hS : S k
  · rw [PS_out hS]
    exact ⟨Nat.le_refl 5, PS_out (h 5 (Nat.le_refl 5))⟩
  · rw [PS_in hS]
    exact ⟨hk, PS_in hS⟩
theorem PS_eq {S T : Nat → Bool} (hS : Sok S) (hT : Sok T) {i r : Nat} (h1 : S r = true) (h2 : T r = true) : (PS S i = r) ↔ (PS T i = r) := by
  have hr : r ≠ 5 := fun z => by rw [z, hS 5 (Nat.le_refl 5)] at h1; exact absurd h1 (by decide)
  have go : ∀ {U : Nat → Bool}, U r = true → ((PS U i = r) ↔ i = r) := fun {U} hU => by
    cases hi : U i
    · rw [PS_out hi]
      constructor
      · intro z; exact absurd z.symm hr
      · intro z; rw [z, hU] at hi; exact absurd hi (by decide)
    · rw [PS_in hi]
  rw [go h1, go h2]
theorem vv_PS {S T : Nat → Bool} (hS : Sok S) (hT : Sok T) {i j r : Nat} (h1 : S r = true) (h2 : T r = true) : vv (PS S) i j r = vv (PS T) i j r := by
  unfold vv
  simp only [PS_eq hS hT h1 h2]
theorem Mx_PS {S T : Nat → Bool} (hS : Sok S) (hT : Sok T) {r k : Nat} (h1 : S r = true) (h2 : T r = true) (h3 : S k = true) (h4 : T k = true) : ∀ ws : List Wr, Mx (PS S) ws r k = Mx (PS T) ws r k
  | [] => by
    unfold Mx
    rw [if_pos (PS_in h1), if_pos (PS_in h2)]
  | w :: ws => by
    rw [Mx_c, Mx_c, Mx_PS hS hT h1 h2 h3 h4 ws, vv_PS hS hT h1 h2, vv_PS hS hT h3 h4]
theorem Mx_dead {S : Nat → Bool} (hS : Sok S) {r k : Nat} (hr : r < 5) (hk : k < 5) (h : S r = false ∨ S k = false) : ∀ ws : List Wr, Wok ws → Mx (PS S) ws r k = if r = k then 1 else 0
  | [], _ => by
    unfold Mx
    cases c1 : S r
    · rw [PS_out c1, if_neg (by omega)]
    · rw [PS_in c1, if_pos rfl, if_neg]
      intro z
      rcases h with h | h
      · rw [c1] at h; exact absurd h (by decide)
      · rw [← z, c1] at h; exact absurd h (by decide)
  | w :: ws, hw => by
    have hw1 := hw w List.mem_cons_self
    rw [Mx_c, Mx_dead hS hr hk h ws (fun q hq => hw q (List.mem_cons_of_mem _ hq))]
    rcases h with h | h
    · rw [vv_dead (PS_rt hS) hw1.1 hw1.2 (by rw [PS_out h]; omega)]
      omega
    · rw [vv_dead (PS_rt hS) (r := k) hw1.1 hw1.2 (by rw [PS_out h]; omega)]
      omega
