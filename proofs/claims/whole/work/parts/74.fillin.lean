/-! filling, as lists see it -/
theorem ofrL_len (u d h p i k : Nat) : ∀ l : List En, l.length ≤ (ofrL u d h p i k l).length
  | [] => Nat.zero_le _
  | e :: l => by
    have := ofrL_len u d h p i k l
    unfold ofrL
    split
    · rw [List.length_cons, List.length_cons]; omega
    · split
      · exact Nat.le_refl _
      · rw [List.length_cons (a := (u / Nat.gcd u d, d / Nat.gcd u d, h, p, i, k))]; omega
theorem inL_len (h p i : Nat) (x : En) : ∀ (l : List En) (k : Nat) (t : List En), t.length ≤ (inL h p i x l k t).length
  | [], _, t => Nat.le_refl _
  | y :: l, k, t => by
    unfold inL
    refine Nat.le_trans ?_ (inL_len h p i x l (k + 1) _)
    split
    · exact ofrL_len _ _ _ _ _ _ t
    · exact ofrL_len _ _ _ _ _ _ t
theorem outL_len (h p : Nat) (l2 : List En) : ∀ (l : List En) (i : Nat) (t : List En), t.length ≤ (outL h p l2 l i t).length
  | [], _, t => Nat.le_refl _
  | x :: l, i, t => by
    unfold outL
    exact Nat.le_trans (inL_len h p i x l2 0 t) (outL_len h p l2 l (i + 1) _)
theorem aL_len (n h : Nat) (Ls : Nat → List En) : ∀ (r a : Nat) (t : List En), t.length ≤ (aL n h Ls r a t).length
  | 0, _, t => Nat.le_refl _
  | r + 1, a, t => by
    unfold aL
    exact Nat.le_trans (outL_len h a _ _ 0 t) (aL_len n h Ls r (a + 1) _)
def RS (σ : LkS) (Ls : Nat → List En) : Prop := ∀ i, i < 9 → Rpl (Ls i) (σ.1 i) (σ.2.1 i) ∧ LOk (Ls i)
def upL (Ls : Nat → List En) (t : Nat) (l : List En) : Nat → List En := fun i => if i = t then l else Ls i
theorem upL_upL (Ls : Nat → List En) (t : Nat) (l m : List En) : upL (upL Ls t l) t m = upL Ls t m := by
  funext i
  unfold upL
  split <;> rfl
theorem upL_at (Ls : Nat → List En) (t : Nat) (l : List En) : upL Ls t l t = l := if_pos rfl
theorem upL_ne (Ls : Nat → List En) {t i : Nat} (l : List En) (h : i ≠ t) : upL Ls t l i = Ls i := if_neg h
theorem oneOfferL {σ : LkS} {Ls : Nat → List En} (hS : RS σ Ls) {t u d h p i k : Nat} (ht : t < 9) (hlen : (Ls t).length ≤ 900) (hu0 : 0 < u) (hu : u ≤ 1000000) (hd0 : 0 < d) (hd : d ≤ 1000000) (hh : h = 1 ∨ h = 2) : ∃ σ', oneOffer t (nI h, nI p, nI i, nI k) (σ.1, σ.2.1, Zl (u : Int), Zl (d : Int)) = some σ' ∧ RS σ' (upL Ls t (ofrL u d h p i k (Ls t))) := by
  obtain ⟨r, l⟩ := hS t ht
  have hn : σ.1 t ≤ 900 := by rw [r.1]; exact hlen
  obtain ⟨o, o1, o2⟩ := offerL (p := p) (i := i) (k := k) r l hn hu0 hu hd0 hd hh
  unfold oneOffer
  dsimp only
  rw [if_pos hn, o1]
  simp only [Option.bind_some]
  rcases o2 with ⟨z1, z2⟩ | ⟨q, q1, z1, z2, z3⟩
  · rw [z1]
    refine ⟨_, rfl, fun j hj => ?_⟩
    rw [z2]
    have : upL Ls t (Ls t) j = Ls j := by
      unfold upL
      by_cases e : j = t
      · rw [if_pos e, e]
      · rw [if_neg e]
    rw [this]
    exact hS j hj
  · rw [z1]
    dsimp only
    rw [nI_clamp (show q < 2 ^ 31 by omega), if_pos ⟨nI_pos' (by omega), q1⟩]
    refine ⟨_, rfl, fun j hj => ?_⟩
    dsimp only
    by_cases e : j = t
    · subst e
      rw [upL_at, va_up_self, va_up_self]
      exact ⟨z2, z3⟩
    · rw [upL_ne _ _ e, va_up_ne _ _ e, va_up_ne _ _ e]
      exact hS j hj
def Sml (l : List En) : Prop := ∀ e, e ∈ l → 0 < e.1 ∧ e.1 ≤ 100 ∧ 0 < e.2.1 ∧ e.2.1 ≤ 100
theorem join_n {x y : En} {h : Nat} (hx : 0 < x.1 ∧ x.1 ≤ 100 ∧ 0 < x.2.1 ∧ x.2.1 ≤ 100) (hy : 0 < y.1 ∧ y.1 ≤ 100 ∧ 0 < y.2.1 ∧ y.2.1 ≤ 100) (hh : h = 1 ∨ h = 2) : ∃ u d : Nat, fJoin (enS x) (enS y) (nI h) = (Zl (u : Int), Zl (d : Int)) ∧ 0 < u ∧ u ≤ 1000000 ∧ 0 < d ∧ d ≤ 1000000 ∧ ∀ (p i k : Nat) (t : List En), (if h = 1 then ofrL (x.1 * y.2.1 + y.1 * x.2.1) (x.2.1 * y.2.1) h p i k t else ofrL (x.1 * y.1) (x.1 * y.2.1 + y.1 * x.2.1) h p i k t) = ofrL u d h p i k t := by
  have m1 : x.1 * y.2.1 ≤ 100 * 100 := Nat.mul_le_mul hx.2.1 hy.2.2.2
  have m2 : y.1 * x.2.1 ≤ 100 * 100 := Nat.mul_le_mul hy.2.1 hx.2.2.2
  have m3 : x.2.1 * y.2.1 ≤ 100 * 100 := Nat.mul_le_mul hx.2.2.2 hy.2.2.2
  have m4 : x.1 * y.1 ≤ 100 * 100 := Nat.mul_le_mul hx.2.1 hy.2.1
  have p1 : 0 < x.1 * y.2.1 := Nat.mul_pos hx.1 hy.2.2.1
  have p3 : 0 < x.2.1 * y.2.1 := Nat.mul_pos hx.2.2.1 hy.2.2.1
  have p4 : 0 < x.1 * y.1 := Nat.mul_pos hx.1 hy.1
  unfold fJoin enS
  rcases hh with rfl | rfl
  · refine ⟨x.1 * y.2.1 + y.1 * x.2.1, x.2.1 * y.2.1, ?_, by omega, by omega, by omega, by omega, fun p i k t => if_pos rfl⟩
    rw [if_pos (show nI 1 = 1 by decide)]
    dsimp only
    rw [nI_times, nI_times, nI_times, nI_plus, nI_64 (by omega), nI_64 (by omega)]
  · refine ⟨x.1 * y.1, x.1 * y.2.1 + y.1 * x.2.1, ?_, by omega, by omega, by omega, by omega, fun p i k t => if_neg (by decide)⟩
    rw [if_neg (show ¬ nI 2 = 1 by decide)]
    dsimp only
    rw [nI_times, nI_times, nI_times, nI_plus, nI_64 (by omega), nI_64 (by omega)]
theorem inSim {Ls : Nat → List En} {t i1 i2 h p i : Nat} {x : En} (ht : t < 9) (h1 : i1 < 9) (h2 : i2 < 9) (n1 : i1 ≠ t) (n2 : i2 ≠ t) (hx : (Ls i1)[i]? = some x) (s1 : Sml (Ls i1)) (s2 : Sml (Ls i2)) (hh : h = 1 ∨ h = 2) : ∀ (l : List En) (k : Nat) (tl : List En) (σ : LkS), RS σ (upL Ls t tl) → (∀ r, (Ls i2)[k + r]? = l[r]?) → (inL h p i x l k tl).length ≤ 900 → ∃ σ', pairIn t i1 i2 (nI h) (nI p) i l.length k σ = some σ' ∧ RS σ' (upL Ls t (inL h p i x l k tl))
  | [], k, tl, σ, hS, _, _ => ⟨σ, rfl, hS⟩
  | y :: l, k, tl, σ, hS, hk, hlen => by
    have hy : (Ls i2)[k]? = some y := by
      have := hk 0
      rw [Nat.add_zero] at this
      exact this
    have r1 := (hS i1 h1).1
    have r2 := (hS i2 h2).1
    rw [upL_ne _ _ n1] at r1
    rw [upL_ne _ _ n2] at r2
    obtain ⟨u, d, j1, j2, j3, j4, j5, j6⟩ := join_n (s1 x (List.mem_of_getElem? hx)) (s2 y (List.mem_of_getElem? hy)) hh
    unfold inL at hlen ⊢
    rw [j6] at hlen ⊢
    have l1 := inL_len h p i x l (k + 1) (ofrL u d h p i k tl)
    have l2 := ofrL_len u d h p i k tl
    obtain ⟨σ1, o1, o2⟩ := oneOfferL (p := p) (i := i) (k := k) hS ht (by rw [upL_at]; omega) j2 j3 j4 j5 hh
    rw [upL_at, upL_upL] at o2
    obtain ⟨σ2, q1, q2⟩ := inSim ht h1 h2 n1 n2 hx s1 s2 hh l (k + 1) _ σ1 o2 (fun r => by
      have := hk (r + 1)
      rw [show k + (r + 1) = k + 1 + r by omega] at this
      exact this) hlen
    refine ⟨σ2, ?_, q2⟩
    rw [List.length_cons, pairIn, r1.2 i x hx, r2.2 k y hy, j1, o1]
    exact q1
