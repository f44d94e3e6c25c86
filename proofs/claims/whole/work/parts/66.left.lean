/-! the reference's falls: wires that are left -/
def Ms (N : Nat) (frm too isThere : Nat → Int32) (F T : Nat → Nat) (Al : Nat → Bool) : Prop := N ≤ 12 ∧ ∀ w, w < N → frm w = nI (F w) ∧ too w = nI (T w) ∧ F w < 6 ∧ T w < 6 ∧ isThere w = (if Al w = true then 1 else 0)
def tch (F T : Nat → Nat) (Al : Nat → Bool) (k w : Nat) : Prop := Al w = true ∧ (F w = k ∨ T w = k)
def RE (N : Nat) (F T : Nat → Nat) (Al : Nat → Bool) : Nat → Nat → Prop := fun u v => ∃ w, w < N ∧ Al w = true ∧ F w ≠ T w ∧ ((u = F w ∧ v = T w) ∨ (u = T w ∧ v = F w))
theorem RE_pln (N : Nat) (F T : Nat → Nat) (Al : Nat → Bool) : Pln (RE N F T Al) := by
  refine ⟨fun u v z => ?_, fun u z => ?_⟩
  · obtain ⟨w, h1, h2, h3, h4⟩ := z
    exact ⟨w, h1, h2, h3, h4.symm.imp (fun q => ⟨q.2, q.1⟩) (fun q => ⟨q.2, q.1⟩)⟩
  · obtain ⟨w, h1, h2, h3, h4 | h4⟩ := z
    · exact h3 (h4.1.symm.trans h4.2)
    · exact h3 (h4.2.symm.trans h4.1)
/-- how many wires are at k, of those below n -/
def atc (F T : Nat → Nat) (Al : Nat → Bool) (k : Nat) : Nat → Nat
  | 0 => 0
  | w + 1 => atc F T Al k w + (if Al w = true ∧ F w = k then 1 else 0) + (if Al w = true ∧ T w = k then 1 else 0)
section LEFT
variable {N : Nat} {F T : Nat → Nat} {Al : Nat → Bool} {frm too isThere : Nat → Int32}
theorem atc_mono {k : Nat} {m n : Nat} (h : m ≤ n) : atc F T Al k m ≤ atc F T Al k n := by
  induction h with
  | refl => exact Nat.le_refl _
  | step _ ih =>
    refine Nat.le_trans ih ?_
    show _ ≤ atc F T Al k _ + _ + _
    omega
theorem atc_up {k w : Nat} (h : tch F T Al k w) : atc F T Al k w + 1 ≤ atc F T Al k (w + 1) := by
  show _ ≤ atc F T Al k w + (if Al w = true ∧ F w = k then 1 else 0) + (if Al w = true ∧ T w = k then 1 else 0)
  rcases h with ⟨h1, h2 | h2⟩
  · rw [if_pos ⟨h1, h2⟩]; omega
  · rw [if_pos (show Al w = true ∧ T w = k from ⟨h1, h2⟩)]; omega
theorem atc_2 {k w v n : Nat} (hw : tch F T Al k w) (hv : tch F T Al k v) (h : w < v) (hn : v < n) : 2 ≤ atc F T Al k n := by
  have a1 := atc_up hw
  have a2 := atc_mono (F := F) (T := T) (Al := Al) (k := k) (show w + 1 ≤ v by omega)
  have a3 := atc_up hv
  have a4 := atc_mono (F := F) (T := T) (Al := Al) (k := k) (show v + 1 ≤ n by omega)
  omega
theorem atc_3 {k w v u n : Nat} (hw : tch F T Al k w) (hv : tch F T Al k v) (hu : tch F T Al k u) (h : w < v) (h2 : v < u) (hn : u < n) : 3 ≤ atc F T Al k n := by
  have a1 := atc_2 hw hv h h2
  have a3 := atc_up hu
  have a4 := atc_mono (F := F) (T := T) (Al := Al) (k := k) (show u + 1 ≤ n by omega)
  omega
/-- no wire has both ends at one knot -/
def Nol (N : Nat) (F T : Nat → Nat) (Al : Nat → Bool) : Prop := ∀ w, w < N → Al w = true → F w ≠ T w
theorem atc_step (hl : Nol N F T Al) {k w : Nat} (hw : w < N) : atc F T Al k (w + 1) ≤ atc F T Al k w + 1 ∧ (¬ tch F T Al k w → atc F T Al k (w + 1) = atc F T Al k w) := by
  have e : atc F T Al k (w + 1) = atc F T Al k w + (if Al w = true ∧ F w = k then 1 else 0) + (if Al w = true ∧ T w = k then 1 else 0) := rfl
  rw [e]
  by_cases c1 : Al w = true ∧ F w = k
  · rw [if_pos c1]
    have := hl w hw c1.1
    rw [if_neg (show ¬ (Al w = true ∧ T w = k) from fun z => this (c1.2.trans z.2.symm))]
    exact ⟨Nat.le_refl _, fun z => absurd ⟨c1.1, Or.inl c1.2⟩ z⟩
  · rw [if_neg c1]
    by_cases c2 : Al w = true ∧ T w = k
    · rw [if_pos c2]
      exact ⟨by omega, fun z => absurd ⟨c2.1, Or.inr c2.2⟩ z⟩
    · rw [if_neg c2]
      exact ⟨by omega, fun _ => by omega⟩
theorem atc_ex1 (hl : Nol N F T Al) {k : Nat} : ∀ n, n ≤ N → 1 ≤ atc F T Al k n → ∃ w, w < n ∧ tch F T Al k w
  | 0, _, h => by
    have h : 1 ≤ 0 := h
    omega
  | n + 1, hn, h => by
    have := atc_step hl (k := k) (show n < N by omega)
    by_cases c : tch F T Al k n
    · exact ⟨n, by omega, c⟩
    · rw [this.2 c] at h
      obtain ⟨w, h1, h2⟩ := atc_ex1 hl n (by omega) h
      exact ⟨w, by omega, h2⟩
theorem atc_ex2 (hl : Nol N F T Al) {k : Nat} : ∀ n, n ≤ N → 2 ≤ atc F T Al k n → ∃ w v, w < v ∧ v < n ∧ tch F T Al k w ∧ tch F T Al k v
  | 0, _, h => by
    have h : 2 ≤ 0 := h
    omega
  | n + 1, hn, h => by
    have := atc_step hl (k := k) (show n < N by omega)
    by_cases c : tch F T Al k n
    · obtain ⟨w, h1, h2⟩ := atc_ex1 hl (k := k) n (by omega) (by omega)
      exact ⟨w, n, h1, by omega, h2, c⟩
    · rw [this.2 c] at h
      obtain ⟨w, v, h1, h2, h3, h4⟩ := atc_ex2 hl n (by omega) h
      exact ⟨w, v, h1, by omega, h3, h4⟩
theorem atc_ex3 (hl : Nol N F T Al) {k : Nat} : ∀ n, n ≤ N → 3 ≤ atc F T Al k n → ∃ w v u, w < v ∧ v < u ∧ u < n ∧ tch F T Al k w ∧ tch F T Al k v ∧ tch F T Al k u
  | 0, _, h => by
    have h : 3 ≤ 0 := h
    omega
  | n + 1, hn, h => by
    have := atc_step hl (k := k) (show n < N by omega)
    by_cases c : tch F T Al k n
    · obtain ⟨w, v, h1, h2, h3, h4⟩ := atc_ex2 hl (k := k) n (by omega) (by omega)
      exact ⟨w, v, n, h1, h2, by omega, h3, h4, c⟩
    · rw [this.2 c] at h
      obtain ⟨w, v, u, h1, h2, h3, h4⟩ := atc_ex3 hl n (by omega) h
      exact ⟨w, v, u, h1, h2, by omega, h4⟩
theorem Ms.al (h : Ms N frm too isThere F T Al) {w : Nat} (hw : w < N) : (isThere w = 0) ↔ ¬ Al w = true := by
  rw [(h.2 w hw).2.2.2.2]
  by_cases c : Al w = true
  · rw [if_pos c]
    exact ⟨fun z => absurd z (by decide), fun z => absurd c z⟩
  · rw [if_neg c]
    exact ⟨fun _ => c, fun _ => rfl⟩
theorem nI6 {a b : Nat} (ha : a < 6) (hb : b < 6) : nI a = nI b ↔ a = b := nI_inj (by omega) (by omega)
theorem wa4 (h : Ms N frm too isThere F T Al) {k : Nat} (hk : k < 6) : ∀ (r w : Nat), w + r = N → ∀ fuel, r < fuel → LX10_wiresAt_4 (nI N) frm too isThere (nI k) fuel (nI (atc F T Al k w)) (nI w) = some (nI (atc F T Al k N)) := by
  have h12 := h.1
  intro r
  induction r with
  | zero =>
    intro w hw fuel hf
    obtain ⟨f, rfl⟩ : ∃ f, fuel = f + 1 := ⟨fuel - 1, by omega⟩
    obtain rfl : w = N := by omega
    unfold LX10_wiresAt_4
    rw [if_pos (nI_le (by omega) (by omega))]
  | succ r ih =>
    intro w hw fuel hf
    obtain ⟨f, rfl⟩ : ∃ f, fuel = f + 1 := ⟨fuel - 1, by omega⟩
    obtain ⟨m1, m2, m3, m4, m5⟩ := h.2 w (by omega)
    have al := h.al (show w < N by omega)
    unfold LX10_wiresAt_4
    rw [if_neg (nI_ge (by omega) (by omega)), if_pos (jok_nI (by omega) (by omega))]
    simp only [jlet]
    rw [nI_clamp (show w < 2 ^ 31 by omega), m1, m2, ← nI_succ]
    have e1 : (if isThere w = 0 then (0 : Int32) else if nI (F w) = nI k then 1 else 0) = nI (if Al w = true ∧ F w = k then 1 else 0) := by
      by_cases c : Al w = true
      · rw [if_neg (fun z => al.mp z c)]
        by_cases c2 : F w = k
        · rw [if_pos (by rw [c2]), if_pos ⟨c, c2⟩]; rfl
        · rw [if_neg (fun z => c2 ((nI6 m3 hk).mp z)), if_neg (fun z => c2 z.2)]; rfl
      · rw [if_pos (al.mpr c), if_neg (fun z => c z.1)]; rfl
    have e2 : (if isThere w = 0 then (0 : Int32) else if nI (T w) = nI k then 1 else 0) = nI (if Al w = true ∧ T w = k then 1 else 0) := by
      by_cases c : Al w = true
      · rw [if_neg (fun z => al.mp z c)]
        by_cases c2 : T w = k
        · rw [if_pos (by rw [c2]), if_pos ⟨c, c2⟩]; rfl
        · rw [if_neg (fun z => c2 ((nI6 m4 hk).mp z)), if_neg (fun z => c2 z.2)]; rfl
      · rw [if_pos (al.mpr c), if_neg (fun z => c z.1)]; rfl
    rw [e1, e2, nI_plus, nI_plus]
    exact ih (w + 1) (by omega) f (by omega)
theorem waOk (h : Ms N frm too isThere F T Al) {k : Nat} (hk : k < 6) : fX10_wiresAt (nI k) (nI N) frm too isThere = some (nI (atc F T Al k N)) := by
  have h12 := h.1
  have q := wa4 h hk N 0 (by omega) 5000 (by omega)
  have q : LX10_wiresAt_4 (nI N) frm too isThere (nI k) 5000 (0 : Int32) (0 : Int32) = some (nI (atc F T Al k N)) := q
  unfold fX10_wiresAt
  rw [q]
  rfl
theorem atc_le (k : Nat) : ∀ n, atc F T Al k n ≤ 2 * n
  | 0 => Nat.le_refl 0
  | n + 1 => by
    have e : atc F T Al k (n + 1) = atc F T Al k n + (if Al n = true ∧ F n = k then 1 else 0) + (if Al n = true ∧ T n = k then 1 else 0) := rfl
    have := atc_le k n
    rw [e]
    split <;> split <;> omega
/-- two wires between the same knots -/
def prl (F T : Nat → Nat) (Al : Nat → Bool) (w v : Nat) : Prop := Al v = true ∧ ((F v = F w ∧ T v = T w) ∨ (F v = T w ∧ T v = F w))
theorem le49 (h : Ms N frm too isThere F T Al) {w : Nat} (hw : w < N) : ∀ (r v : Nat) (o : Int32), v + r = w → (o = 0 ∨ o = 1) → ∀ fuel, r < fuel → ∃ o', LX10_lessens_49 frm too isThere (nI w) fuel o (nI v) = some o' ∧ (o' = 0 ∨ o' = 1) ∧ (o' = 0 ↔ (o = 0 ∧ ∀ x, v ≤ x → x < w → ¬ prl F T Al w x)) := by
  have h12 := h.1
  intro r
  induction r with
  | zero =>
    intro v o hv ho fuel hf
    obtain ⟨f, rfl⟩ : ∃ f, fuel = f + 1 := ⟨fuel - 1, by omega⟩
    refine ⟨o, ?_, ho, ⟨fun z => ⟨z, fun x h1 h2 => by omega⟩, fun z => z.1⟩⟩
    unfold LX10_lessens_49
    rw [if_pos (nI_le (by omega) (by omega))]
  | succ r ih =>
    intro v o hv ho fuel hf
    obtain ⟨f, rfl⟩ : ∃ f, fuel = f + 1 := ⟨fuel - 1, by omega⟩
    obtain ⟨m1, m2, m3, m4, m5⟩ := h.2 v (by omega)
    obtain ⟨p1, p2, p3, p4, p5⟩ := h.2 w hw
    have al := h.al (show v < N by omega)
    have key : ∃ i : Int32, (if isThere v = 0 then (0 : Int32) else if nI (F v) = nI (F w) then (if nI (T v) = nI (T w) then 1 else if nI (F v) = nI (T w) then (if nI (T v) = nI (F w) then 1 else 0) else 0) else if nI (F v) = nI (T w) then (if nI (T v) = nI (F w) then 1 else 0) else 0) = i ∧ ((i = 1 ∧ prl F T Al w v) ∨ (i = 0 ∧ ¬ prl F T Al w v)) := by
      refine ⟨_, rfl, ?_⟩
      simp only [nI6 m3 p3, nI6 m4 p4, nI6 m3 p4, nI6 m4 p3]
      unfold prl
      by_cases c : Al v = true
      · rw [if_neg (fun z => al.mp z c)]
        by_cases c1 : F v = F w <;> by_cases c2 : T v = T w <;> by_cases c3 : F v = T w <;> by_cases c4 : T v = F w <;> simp only [c, c1, c2, c3, c4, if_true, if_false] <;> simp_all
      · rw [if_pos (al.mpr c)]
        exact Or.inr ⟨rfl, fun z => c z.1⟩
    obtain ⟨i, ei, hi⟩ := key
    unfold LX10_lessens_49
    rw [if_neg (nI_ge (by omega) (by omega)), if_pos (jok_nI (by omega) (by omega))]
    simp only [jlet]
    rw [nI_clamp (show v < 2 ^ 31 by omega), nI_clamp (show w < 2 ^ 31 by omega), m1, m2, p1, p2, ei, ← nI_succ]
    have ho' : (o ||| i = 0 ∨ o ||| i = 1) ∧ (o ||| i = 0 ↔ (o = 0 ∧ i = 0)) := by
      rcases ho with rfl | rfl <;> rcases hi with ⟨rfl, -⟩ | ⟨rfl, -⟩ <;> decide
    obtain ⟨o', e1, e2, e3⟩ := ih (v + 1) (o ||| i) (by omega) ho'.1 f (by omega)
    refine ⟨o', e1, e2, ?_⟩
    rw [e3, ho'.2]
    constructor
    · rintro ⟨⟨z1, z2⟩, z3⟩
      refine ⟨z1, fun x h1 h2 => ?_⟩
      by_cases e : x = v
      · rw [e]
        rcases hi with ⟨q, -⟩ | ⟨-, q⟩
        · rw [q] at z2; exact absurd z2 (by decide)
        · exact q
      · exact z3 x (by omega) h2
    · rintro ⟨z1, z2⟩
      refine ⟨⟨z1, ?_⟩, fun x h1 h2 => z2 x (by omega) h2⟩
      rcases hi with ⟨-, q⟩ | ⟨q, -⟩
      · exact absurd q (z2 v (Nat.le_refl v) (by omega))
      · exact q
end LEFT
