/-! an offer, as lists see it -/
def enS (e : En) : SV := (nI e.1, nI e.2.1, nI e.2.2.1, if e.2.2.1 = 0 then -9 else nI e.2.2.2.1, if e.2.2.1 = 0 then -9 else nI e.2.2.2.2.1, if e.2.2.1 = 0 then -9 else nI e.2.2.2.2.2)
def Rpl (l : List En) (n : Nat) (sv : Nat → SV) : Prop := n = l.length ∧ ∀ r e, l[r]? = some e → sv r = enS e
/-- in order, none too large -/
def LOk (l : List En) : Prop := l.length ≤ 1400 ∧ (∀ e, e ∈ l → 0 < e.1 ∧ e.1 ≤ 1000000 ∧ 0 < e.2.1 ∧ e.2.1 ≤ 1000000) ∧ ∀ (r s : Nat) (e f : En), r < s → l[r]? = some e → l[s]? = some f → e.1 * f.2.1 < f.1 * e.2.1
theorem Rpl.srt {l : List En} {n : Nat} {sv : Nat → SV} (h : Rpl l n sv) (hl : LOk l) : Srt n (fun r => (l.getD r (0, 0, 0, 0, 0, 0)).1) (fun r => (l.getD r (0, 0, 0, 0, 0, 0)).2.1) (fun r => (sv r).1) (fun r => (sv r).2.1) := by
  have get : ∀ r, r < n → ∃ e, l[r]? = some e ∧ l.getD r (0, 0, 0, 0, 0, 0) = e := fun r hr => by
    rw [h.1] at hr
    refine ⟨l[r], List.getElem?_eq_getElem hr, ?_⟩
    rw [List.getD_eq_getElem?_getD, List.getElem?_eq_getElem hr]
    rfl
  refine ⟨by rw [h.1]; exact hl.1, fun r hr => ?_, fun r s hrs hs => ?_⟩
  · obtain ⟨e, e1, e2⟩ := get r hr
    have := hl.2.1 e (List.mem_of_getElem? e1)
    show (sv r).1 = nI (l.getD r (0, 0, 0, 0, 0, 0)).1 ∧ (sv r).2.1 = nI (l.getD r (0, 0, 0, 0, 0, 0)).2.1 ∧ 0 < (l.getD r (0, 0, 0, 0, 0, 0)).1 ∧ (l.getD r (0, 0, 0, 0, 0, 0)).1 ≤ 1000000 ∧ 0 < (l.getD r (0, 0, 0, 0, 0, 0)).2.1 ∧ (l.getD r (0, 0, 0, 0, 0, 0)).2.1 ≤ 1000000
    rw [e2, h.2 r e e1]
    exact ⟨rfl, rfl, this⟩
  · obtain ⟨e, e1, e2⟩ := get r (by omega)
    obtain ⟨f, f1, f2⟩ := get s hs
    show (l.getD r (0, 0, 0, 0, 0, 0)).1 * (l.getD s (0, 0, 0, 0, 0, 0)).2.1 < (l.getD s (0, 0, 0, 0, 0, 0)).1 * (l.getD r (0, 0, 0, 0, 0, 0)).2.1
    rw [e2, f2]
    exact hl.2.2 r s e f hrs e1 f1
/-- where the offered one comes -/
theorem ofrL_at (u d h p i k : Nat) : ∀ (l : List En) (q : Nat), q ≤ l.length → (∀ r e, r < q → l[r]? = some e → e.1 * d < u * e.2.1) → (∀ e, l[q]? = some e → ¬ e.1 * d < u * e.2.1) → ((∃ e, l[q]? = some e ∧ e.1 * d = u * e.2.1) → ofrL u d h p i k l = l) ∧ ((∀ e, l[q]? = some e → ¬ e.1 * d = u * e.2.1) → ofrL u d h p i k l = l.take q ++ (u / Nat.gcd u d, d / Nat.gcd u d, h, p, i, k) :: l.drop q)
  | [], q, hq, _, _ => by
    obtain rfl : q = 0 := by
      have : q ≤ 0 := hq
      omega
    refine ⟨fun ⟨e, h1, _⟩ => by simp at h1, fun _ => rfl⟩
  | e :: l, 0, _, _, h2 => by
    have n := h2 e rfl
    unfold ofrL
    rw [if_neg n]
    refine ⟨fun ⟨f, h1, h3⟩ => ?_, fun h3 => ?_⟩
    · have : e = f := Option.some.inj h1
      subst this
      rw [if_pos h3]
    · rw [if_neg (h3 e rfl)]
      rfl
  | e :: l, q + 1, hq, h1, h2 => by
    have y := h1 0 e (by omega) rfl
    have ih := ofrL_at u d h p i k l q (by have : q + 1 ≤ l.length + 1 := hq; omega) (fun r f hr hf => h1 (r + 1) f (by omega) hf) (fun f hf => h2 f hf)
    unfold ofrL
    rw [if_pos y]
    refine ⟨fun z => ?_, fun z => ?_⟩
    · rw [ih.1 z]
    · rw [ih.2 z]
      rfl
theorem Zl_nI {u : Nat} : (Zl (u : Int)).toInt32 = nI u := by
  rw [Int64.toInt32_ofInt, Int32.ofInt_eq_ofNat]
  rfl
theorem lst_div (u d : Nat) : (lst (u : Int) d).1 = ((u / Nat.gcd u d : Nat) : Int) ∧ (lst (u : Int) d).2 = ((d / Nat.gcd u d : Nat) : Int) := ⟨(Int.ofNat_tdiv u (Nat.gcd u d)).symm, (Int.ofNat_tdiv d (Nat.gcd u d)).symm⟩
theorem getE_ins {l : List En} {q r : Nat} {x e : En} (hq : q ≤ l.length) (h : (l.take q ++ x :: l.drop q)[r]? = some e) : (r < q ∧ l[r]? = some e) ∨ (r = q ∧ e = x) ∨ (q < r ∧ l[r - 1]? = some e) := by
  have ht : (l.take q).length = q := by rw [List.length_take]; omega
  by_cases c : r < q
  · rw [List.getElem?_append_left (by omega), List.getElem?_take_of_lt c] at h
    exact Or.inl ⟨c, h⟩
  · rw [List.getElem?_append_right (by omega), ht] at h
    by_cases c2 : r = q
    · rw [c2, Nat.sub_self] at h
      exact Or.inr (Or.inl ⟨c2, (Option.some.inj h).symm⟩)
    · rw [show r - q = (r - q - 1) + 1 by omega, List.getElem?_cons_succ, List.getElem?_drop, show q + (r - q - 1) = r - 1 by omega] at h
      exact Or.inr (Or.inr ⟨by omega, h⟩)
/-- one offer -/
theorem offerL {l : List En} {n : Nat} {sv : Nat → SV} (h : Rpl l n sv) (hl : LOk l) (hn : n ≤ 900) {u d hw p i k : Nat} (hu0 : 0 < u) (hu : u ≤ 1000000) (hd0 : 0 < d) (hd : d ≤ 1000000) (hhw : hw = 1 ∨ hw = 2) : ∃ o, fOffer (Zl (u : Int)) (Zl (d : Int)) n sv = some o ∧ ((o.2.2 = none ∧ ofrL u d hw p i k l = l) ∨ ∃ q, q ≤ n ∧ o.2.2 = some (nI q, nI (u / Nat.gcd u d), nI (d / Nat.gcd u d)) ∧ Rpl (ofrL u d hw p i k l) (n + 1) (insSV sv q (nI (u / Nat.gcd u d), nI (d / Nat.gcd u d), nI hw, nI p, nI i, nI k)) ∧ LOk (ofrL u d hw p i k l)) := by
  have hs := h.srt hl
  have gg : ∀ r e, l[r]? = some e → l.getD r (0, 0, 0, 0, 0, 0) = e := fun r e he => by
    rw [List.getD_eq_getElem?_getD, he]
    rfl
  obtain ⟨q, q1, q2, q3, q4⟩ := placeOk hs (show u ≤ 1000000000 by omega) (show d ≤ 1000000000 by omega) hd0
  obtain ⟨o, o1, o2⟩ := atOk hs (show u ≤ 1000000000 by omega) (show d ≤ 1000000000 by omega) q1
  have hn' := h.1
  have hat := ofrL_at u d hw p i k l q (by omega) (fun r e hr he => by
    have := q3 r hr
    have this : (l.getD r (0, 0, 0, 0, 0, 0)).1 * d < u * (l.getD r (0, 0, 0, 0, 0, 0)).2.1 := this
    rw [gg r e he] at this
    exact this) (fun e he => by
    have hqn : q < n := by
      rw [hn']
      exact (List.getElem?_eq_some_iff.mp he).1
    have := q4 q (Nat.le_refl q) hqn
    have this : ¬ (l.getD q (0, 0, 0, 0, 0, 0)).1 * d < u * (l.getD q (0, 0, 0, 0, 0, 0)).2.1 := this
    rw [gg q e he] at this
    exact this)
  unfold fOffer
  rw [Zl_nI, Zl_nI, q2]
  simp only [Option.bind_some]
  rw [o1]
  simp only [Option.bind_some]
  rcases o2 with ⟨rfl, z1, z2⟩ | ⟨rfl, z⟩
  · rw [if_neg (show ¬ (1 : Int32) = 0 by decide)]
    refine ⟨_, rfl, Or.inl ⟨rfl, hat.1 ?_⟩⟩
    have hql : q < l.length := by omega
    have hget : l[q]? = some l[q] := List.getElem?_eq_getElem hql
    refine ⟨l[q], hget, ?_⟩
    have z2 : (l.getD q (0, 0, 0, 0, 0, 0)).1 * d = u * (l.getD q (0, 0, 0, 0, 0, 0)).2.1 := z2
    rw [gg q _ hget] at z2
    exact z2
  · rw [if_pos rfl, reduceOk (u := (u : Int)) (d := d) (by omega) hd0 (by omega)]
    simp only [Option.bind_some]
    rw [(lst_div u d).1, (lst_div u d).2, Zl_nI, Zl_nI]
    refine ⟨_, rfl, Or.inr ⟨q, q1, rfl, ?_⟩⟩
    have nz : ∀ e, l[q]? = some e → ¬ e.1 * d = u * e.2.1 := fun e he ee => by
      have hqn : q < n := by
        rw [hn']
        exact (List.getElem?_eq_some_iff.mp he).1
      refine z ⟨hqn, ?_⟩
      show (l.getD q (0, 0, 0, 0, 0, 0)).1 * d = u * (l.getD q (0, 0, 0, 0, 0, 0)).2.1
      rw [gg q e he]
      exact ee
    have eo := hat.2 nz
    have hg : 0 < Nat.gcd u d := Nat.gcd_pos_of_pos_right _ hd0
    obtain ⟨u', hu'⟩ := Nat.gcd_dvd_left u d
    obtain ⟨d', hd'⟩ := Nat.gcd_dvd_right u d
    have eu : u / Nat.gcd u d = u' := by
      conv => lhs; lhs; rw [hu']
      exact Nat.mul_div_cancel_left u' hg
    have ed : d / Nat.gcd u d = d' := by
      conv => lhs; lhs; rw [hd']
      exact Nat.mul_div_cancel_left d' hg
    rw [eu, ed] at eo ⊢
    generalize Nat.gcd u d = g at *
    have u0 : 0 < u' := by
      by_cases c : u' = 0
      · rw [c, Nat.mul_zero] at hu'; omega
      · omega
    have d0 : 0 < d' := by
      by_cases c : d' = 0
      · rw [c, Nat.mul_zero] at hd'; omega
      · omega
    have u1 : u' ≤ u := by rw [hu']; exact Nat.le_mul_of_pos_left u' hg
    have d1 : d' ≤ d := by rw [hd']; exact Nat.le_mul_of_pos_left d' hg
    have len : (l.take q ++ (u', d', hw, p, i, k) :: l.drop q).length = l.length + 1 := by
      rw [List.length_append, List.length_take, List.length_cons, List.length_drop]
      omega
    have below : ∀ r e, r < q → l[r]? = some e → e.1 * d' < u' * e.2.1 := fun r e hr he => by
      have := q3 r hr
      have this : (l.getD r (0, 0, 0, 0, 0, 0)).1 * d < u * (l.getD r (0, 0, 0, 0, 0, 0)).2.1 := this
      rw [gg r e he, hu', hd', show e.1 * (g * d') = g * (e.1 * d') by grind, show g * u' * e.2.1 = g * (u' * e.2.1) by grind] at this
      exact Nat.lt_of_mul_lt_mul_left this
    have above : ∀ r e, q ≤ r → l[r]? = some e → u' * e.2.1 < e.1 * d' := fun r e hr he => by
      have hrn : r < n := by
        rw [hn']
        exact (List.getElem?_eq_some_iff.mp he).1
      have hge := q4 r hr hrn
      have hge : ¬ (l.getD r (0, 0, 0, 0, 0, 0)).1 * d < u * (l.getD r (0, 0, 0, 0, 0, 0)).2.1 := hge
      rw [gg r e he] at hge
      have hne : ¬ e.1 * d = u * e.2.1 := by
        by_cases c : r = q
        · rw [c] at he
          exact nz e he
        · intro ee
          have hql : q < l.length := by omega
          have hget : l[q]? = some l[q] := List.getElem?_eq_getElem hql
          have so := hl.2.2 q r _ e (by omega) hget he
          have hq4 := q4 q (Nat.le_refl q) (by omega)
          have hq4 : ¬ (l.getD q (0, 0, 0, 0, 0, 0)).1 * d < u * (l.getD q (0, 0, 0, 0, 0, 0)).2.1 := hq4
          rw [gg q _ hget] at hq4
          have pe := (hl.2.1 e (List.mem_of_getElem? he)).2.2.1
          have e2 : (l[q].1 * e.2.1) * d < (e.1 * l[q].2.1) * d := Nat.mul_lt_mul_of_pos_right so hd0
          refine hq4 ?_
          have e3 : (l[q].1 * d) * e.2.1 < (u * l[q].2.1) * e.2.1 := by
            have t1 : (l[q].1 * e.2.1) * d = (l[q].1 * d) * e.2.1 := by grind
            have t2 : (e.1 * l[q].2.1) * d = (e.1 * d) * l[q].2.1 := by grind
            have t3 : (u * e.2.1) * l[q].2.1 = (u * l[q].2.1) * e.2.1 := by grind
            rw [ee] at t2
            omega
          exact Nat.lt_of_mul_lt_mul_right e3
      have lt : u * e.2.1 < e.1 * d := by omega
      rw [hu', hd', show e.1 * (g * d') = g * (e.1 * d') by grind, show g * u' * e.2.1 = g * (u' * e.2.1) by grind] at lt
      exact Nat.lt_of_mul_lt_mul_left lt
    rw [eo]
    refine ⟨⟨by rw [len]; omega, fun r e he => ?_⟩, ⟨by rw [len]; have := hl.1; omega, fun e he => ?_, fun r s e f hrs he hf => ?_⟩⟩
    · unfold insSV
      rcases getE_ins (by omega) he with ⟨c1, c2⟩ | ⟨c1, c2⟩ | ⟨c1, c2⟩
      · rw [if_pos c1]
        exact h.2 r e c2
      · rw [if_neg (by omega), if_pos c1, c2]
        unfold enS
        rcases hhw with rfl | rfl <;> rfl
      · rw [if_neg (by omega), if_neg (by omega)]
        exact h.2 (r - 1) e c2
    · rcases List.mem_append.mp he with c | c
      · exact hl.2.1 e (List.mem_of_mem_take c)
      · rcases List.mem_cons.mp c with c | c
        · rw [c]
          exact ⟨u0, by show u' ≤ 1000000; omega, d0, by show d' ≤ 1000000; omega⟩
        · exact hl.2.1 e (List.mem_of_mem_drop c)
    · rcases getE_ins (by omega) he with ⟨c1, c2⟩ | ⟨c1, c2⟩ | ⟨c1, c2⟩ <;> rcases getE_ins (by omega) hf with ⟨d1', d2⟩ | ⟨d1', d2⟩ | ⟨d1', d2⟩
      · exact hl.2.2 r s e f hrs c2 d2
      · rw [d2]; exact below r e c1 c2
      · exact hl.2.2 r (s - 1) e f (by omega) c2 d2
      · omega
      · omega
      · rw [c2]; exact above (s - 1) f (by omega) d2
      · omega
      · omega
      · exact hl.2.2 (r - 1) (s - 1) e f (by omega) c2 d2
