/-! one put, as lists see it -/
def SegL (upper lower : Nat → Int32) (bg : Nat) (l : List En) : Prop := bg + l.length ≤ 1590 ∧ ∀ r e, l[r]? = some e → upper (bg + r) = nI e.1 ∧ lower (bg + r) = nI e.2.1
def COk (l : List En) : Prop := ∀ e, e ∈ l → Nat.gcd e.1 e.2.1 = 1
theorem cop_eq {a b c d : Nat} (h1 : Nat.gcd a b = 1) (h2 : Nat.gcd c d = 1) (h : a * d = c * b) : a = c ∧ b = d := by
  have d1 : a ∣ c := Nat.Coprime.dvd_of_dvd_mul_right h1 ⟨d, h.symm⟩
  have d2 : c ∣ a := Nat.Coprime.dvd_of_dvd_mul_right h2 ⟨b, h⟩
  have d3 : b ∣ d := by
    have : Nat.Coprime b a := by rw [Nat.Coprime, Nat.gcd_comm]; exact h1
    exact Nat.Coprime.dvd_of_dvd_mul_left this ⟨c, by rw [h, Nat.mul_comm]⟩
  have d4 : d ∣ b := by
    have : Nat.Coprime d c := by rw [Nat.Coprime, Nat.gcd_comm]; exact h2
    exact Nat.Coprime.dvd_of_dvd_mul_left this ⟨a, by rw [← h, Nat.mul_comm]⟩
  exact ⟨Nat.dvd_antisymm d1 d2, Nat.dvd_antisymm d3 d4⟩
theorem putOk {upper lower : Nat → Int32} {bg : Nat} {l : List En} (hS : SegL upper lower bg l) (hl : LOk l) (hc : COk l) (h9 : l.length ≤ 900) (hb : bg + l.length + 1 ≤ 1590) {u d : Nat} (hu0 : 0 < u) (hu : u ≤ 1000000) (hd0 : 0 < d) (hd : d ≤ 1000000) : ∃ upper' lower' ab bl, fX10_puts (nI bg) (Zl (u : Int)) (Zl (d : Int)) upper lower (nI (bg + l.length)) = some (upper', lower', nI (bg + (ofrL u d 1 0 0 0 l).length), ab, bl) ∧ SegL upper' lower' bg (ofrL u d 1 0 0 0 l) ∧ LOk (ofrL u d 1 0 0 0 l) ∧ COk (ofrL u d 1 0 0 0 l) ∧ ∀ x, x < bg → upper' x = upper x ∧ lower' x = lower x := by
  have hg : 0 < Nat.gcd u d := Nat.gcd_pos_of_pos_right _ hd0
  have hcop : Nat.gcd (u / Nat.gcd u d) (d / Nat.gcd u d) = 1 := Nat.coprime_div_gcd_div_gcd hg
  have eu : u = Nat.gcd u d * (u / Nat.gcd u d) := (Nat.mul_div_cancel' (Nat.gcd_dvd_left u d)).symm
  have ed : d = Nat.gcd u d * (d / Nat.gcd u d) := (Nat.mul_div_cancel' (Nat.gcd_dvd_right u d)).symm
  have u1 : u / Nat.gcd u d ≤ u := Nat.div_le_self _ _
  have d1 : d / Nat.gcd u d ≤ d := Nat.div_le_self _ _
  have d0 : 0 < d / Nat.gcd u d := Nat.div_pos (Nat.gcd_le_right u hd0) hg
  have gg : ∀ r e, l[r]? = some e → l.getD r (0, 0, 0, 0, 0, 0) = e := fun r e he => by
    rw [List.getD_eq_getElem?_getD, he]
    rfl
  have ge : ∀ r, r < l.length → ∃ e, l[r]? = some e := fun r hr => ⟨l[r], List.getElem?_eq_getElem hr⟩
  -- order is kept
  have lok : LOk (ofrL u d 1 0 0 0 l) := by
    obtain ⟨o, -, o2⟩ := offerL (l := l) (n := l.length) (sv := fun r => enS (l.getD r (0, 0, 0, 0, 0, 0))) (p := 0) (i := 0) (k := 0) ⟨rfl, fun r e he => by show enS (l.getD r (0, 0, 0, 0, 0, 0)) = enS e; rw [gg r e he]⟩ hl h9 hu0 hu hd0 hd (Or.inl rfl)
    rcases o2 with ⟨-, z⟩ | ⟨q, -, -, -, z⟩
    · rw [z]; exact hl
    · exact z
  have hseg : Seg upper lower bg l.length (fun r => (l.getD r (0, 0, 0, 0, 0, 0)).1) (fun r => (l.getD r (0, 0, 0, 0, 0, 0)).2.1) := by
    refine ⟨by omega, fun r hr => ?_⟩
    obtain ⟨e, he⟩ := ge r hr
    have b := hl.2.1 e (List.mem_of_getElem? he)
    have s := hS.2 r e he
    show upper (bg + r) = nI (l.getD r (0, 0, 0, 0, 0, 0)).1 ∧ lower (bg + r) = nI (l.getD r (0, 0, 0, 0, 0, 0)).2.1 ∧ 0 < (l.getD r (0, 0, 0, 0, 0, 0)).1 ∧ (l.getD r (0, 0, 0, 0, 0, 0)).1 ≤ 1000000 ∧ 0 < (l.getD r (0, 0, 0, 0, 0, 0)).2.1 ∧ (l.getD r (0, 0, 0, 0, 0, 0)).2.1 ≤ 1000000
    rw [gg r e he]
    exact ⟨s.1, s.2, b⟩
  obtain ⟨q, q1, q2, q3, q4⟩ := pu13 (u := u / Nat.gcd u d) (d := d / Nat.gcd u d) hseg (by omega) (by omega) l.length (Nat.le_refl _) 5000 (by omega)
  -- the same in unreduced numbers
  have cmp : ∀ e : En, (e.1 * d < u * e.2.1 ↔ e.1 * (d / Nat.gcd u d) < (u / Nat.gcd u d) * e.2.1) ∧ (e.1 * d = u * e.2.1 ↔ e.1 * (d / Nat.gcd u d) = (u / Nat.gcd u d) * e.2.1) := fun e => by
    have t1 : e.1 * d = Nat.gcd u d * (e.1 * (d / Nat.gcd u d)) := by
      conv => lhs; rw [ed]
      generalize Nat.gcd u d = g
      grind
    have t2 : u * e.2.1 = Nat.gcd u d * ((u / Nat.gcd u d) * e.2.1) := by
      conv => lhs; lhs; rw [eu]
      rw [Nat.mul_assoc]
    rw [t1, t2]
    exact ⟨Nat.mul_lt_mul_left hg, ⟨fun z => Nat.eq_of_mul_eq_mul_left hg z, fun z => by rw [z]⟩⟩
  have above : ∀ r e, q ≤ r → l[r]? = some e → (u / Nat.gcd u d) * e.2.1 < e.1 * (d / Nat.gcd u d) := fun r e hr he => by
    have hrl := (List.getElem?_eq_some_iff.mp he).1
    have := q3 r hr hrl
    have this : u / Nat.gcd u d * (l.getD r (0, 0, 0, 0, 0, 0)).2.1 < d / Nat.gcd u d * (l.getD r (0, 0, 0, 0, 0, 0)).1 := this
    rw [gg r e he, Nat.mul_comm (d / Nat.gcd u d)] at this
    exact this
  have lk := leastOk (u := (u : Int)) (d := d) (by omega) hd0 (by omega)
  rw [(lst_div u d).1, (lst_div u d).2] at lk
  unfold fX10_puts
  rw [lk]
  simp only [Option.bind_some]
  rw [q2]
  simp only [Option.bind_some]
  have ins : (∀ r e, r < q → l[r]? = some e → e.1 * d < u * e.2.1) → ∃ upper' lower' ab bl, (LX10_puts_108 (nI (bg + q)) 5000 (nI (bg + l.length)) upper lower).bind (fun o_24 => if jok (nI (bg + q)) 1600 then jlet (upd o_24.1 (nI (bg + q)).toNatClampNeg (Zl ((u / Nat.gcd u d : Nat) : Int)).toInt32) (fun upper_36 => jlet (upd o_24.2 (nI (bg + q)).toNatClampNeg (Zl ((d / Nat.gcd u d : Nat) : Int)).toInt32) (fun lower_37 => some (upper_36, lower_37, (nI (bg + l.length) + (1 : Int32)), Zl ((u / Nat.gcd u d : Nat) : Int), Zl ((d / Nat.gcd u d : Nat) : Int)))) else none) = some (upper', lower', nI (bg + (ofrL u d 1 0 0 0 l).length), ab, bl) ∧ SegL upper' lower' bg (ofrL u d 1 0 0 0 l) ∧ LOk (ofrL u d 1 0 0 0 l) ∧ COk (ofrL u d 1 0 0 0 l) ∧ ∀ x, x < bg → upper' x = upper x ∧ lower' x = lower x := fun hbel => by
    have eo := (ofrL_at u d 1 0 0 0 l q q1 hbel (fun e he z => by
      have a := above q e (Nat.le_refl q) he
      have b := (cmp e).1.mp z
      omega)).2 (fun e he z => by
      have a := above q e (Nat.le_refl q) he
      have b := (cmp e).2.mp z
      omega)
    have len : (l.take q ++ (u / Nat.gcd u d, d / Nat.gcd u d, 1, 0, 0, 0) :: l.drop q).length = l.length + 1 := by
      rw [List.length_append, List.length_take, List.length_cons, List.length_drop]
      omega
    obtain ⟨up, lo, p1, p2⟩ := pu108 (at' := bg + q) (by omega) (l.length - q) (bg + l.length) upper lower (by omega) (by omega) 5000 (by omega)
    rw [p1]
    simp only [Option.bind_some, jlet]
    rw [if_pos (jok_nI (by omega) (by omega)), nI_clamp (show bg + q < 2 ^ 31 by omega), Zl_nI, Zl_nI, ← nI_succ]
    rw [eo] at lok ⊢
    rw [len]
    refine ⟨_, _, _, _, rfl, ⟨by rw [len]; omega, fun r e he => ?_⟩, lok, fun e he => ?_, fun x hx => ?_⟩
    · unfold upd
      rcases getE_ins q1 he with ⟨c1, c2⟩ | ⟨c1, c2⟩ | ⟨c1, c2⟩
      · rw [if_neg (by omega), if_neg (by omega), ((p2 (bg + r)).2 (by omega)).1, ((p2 (bg + r)).2 (by omega)).2]
        exact hS.2 r e c2
      · rw [if_pos (by omega), if_pos (by omega), c2]
        exact ⟨rfl, rfl⟩
      · have hrl := (List.getElem?_eq_some_iff.mp c2).1
        have := (p2 (bg + r)).1 (by omega)
        rw [if_neg (by omega), if_neg (by omega), this.1, this.2, show bg + r - 1 = bg + (r - 1) by omega]
        exact hS.2 (r - 1) e c2
    · rcases List.mem_append.mp he with z | z
      · exact hc e (List.mem_of_mem_take z)
      · rcases List.mem_cons.mp z with z | z
        · rw [z]; exact hcop
        · exact hc e (List.mem_of_mem_drop z)
    · unfold upd
      rw [if_neg (by omega), if_neg (by omega)]
      exact (p2 x).2 (by omega)
  by_cases c0 : q = 0
  · subst c0
    rw [if_pos (nI_le (by omega) (by omega))]
    simp only [Option.bind_some, jex]
    exact ins (fun r e hr => absurd hr (Nat.not_lt_zero r))
  · obtain ⟨j, rfl⟩ : ∃ j, q = j + 1 := ⟨q - 1, by omega⟩
    obtain ⟨e, he⟩ := ge j (by omega)
    have b := hl.2.1 e (List.mem_of_getElem? he)
    have s := hS.2 j e he
    have le4 := q4 (by omega)
    rw [Nat.add_sub_cancel] at le4
    have le4 : d / Nat.gcd u d * (l.getD j (0, 0, 0, 0, 0, 0)).1 ≤ u / Nat.gcd u d * (l.getD j (0, 0, 0, 0, 0, 0)).2.1 := le4
    rw [gg j e he, Nat.mul_comm (d / Nat.gcd u d)] at le4
    have low : ∀ r f, r < j → l[r]? = some f → f.1 * d < u * f.2.1 := fun r f hr hf => by
      have so := hl.2.2 r j f e hr hf he
      have bf := hl.2.1 f (List.mem_of_getElem? hf)
      rw [(cmp f).1]
      have e1 : (f.1 * e.2.1) * (d / Nat.gcd u d) < (e.1 * f.2.1) * (d / Nat.gcd u d) := Nat.mul_lt_mul_of_pos_right so d0
      have e2 : (e.1 * (d / Nat.gcd u d)) * f.2.1 ≤ (u / Nat.gcd u d * e.2.1) * f.2.1 := Nat.mul_le_mul_right _ le4
      have e3 : (f.1 * (d / Nat.gcd u d)) * e.2.1 < (u / Nat.gcd u d * f.2.1) * e.2.1 := by
        have t1 : (f.1 * e.2.1) * (d / Nat.gcd u d) = (f.1 * (d / Nat.gcd u d)) * e.2.1 := by
          generalize d / Nat.gcd u d = dd
          grind
        have t2 : (e.1 * f.2.1) * (d / Nat.gcd u d) = (e.1 * (d / Nat.gcd u d)) * f.2.1 := by
          generalize d / Nat.gcd u d = dd
          grind
        have t3 : (u / Nat.gcd u d * e.2.1) * f.2.1 = (u / Nat.gcd u d * f.2.1) * e.2.1 := by
          generalize u / Nat.gcd u d = uu
          grind
        omega
      exact Nat.lt_of_mul_lt_mul_right e3
    have ep := nI_pre (bg + j)
    rw [if_neg (nI_ge (by omega) (by omega)), show bg + (j + 1) = bg + j + 1 by omega, ep.1, if_pos (jok_nI (by omega) (by omega)), nI_clamp (show bg + j < 2 ^ 31 by omega), s.1, s.2, nI_64 (by omega), nI_64 (by omega)]
    have ru : rg ((u / Nat.gcd u d : Nat) : Int) := rgN (by omega)
    have rd : rg ((d / Nat.gcd u d : Nat) : Int) := rgN (by omega)
    have re1 : rg (e.1 : Int) := rgN (by omega)
    have re2 : rg (e.2.1 : Int) := rgN (by omega)
    have fin : ∀ (_ : ¬ (e.1 * d = u * e.2.1)), ∀ r f, r < j + 1 → l[r]? = some f → f.1 * d < u * f.2.1 := fun hne r f hr hf => by
      by_cases c : r = j
      · rw [c, he] at hf
        obtain rfl := Option.some.inj hf
        have : ¬ e.1 * (d / Nat.gcd u d) = (u / Nat.gcd u d) * e.2.1 := fun z => hne ((cmp e).2.mpr z)
        rw [(cmp e).1]
        omega
      · exact low r f (by omega) hf
    by_cases k1 : u / Nat.gcd u d = e.1
    · rw [if_pos (by rw [k1])]
      by_cases k2 : d / Nat.gcd u d = e.2.1
      · rw [if_pos (by rw [k2])]
        simp only [Option.bind_some, jex]
        have ee : e.1 * d = u * e.2.1 := (cmp e).2.mpr (by rw [k1, k2])
        have eo := (ofrL_at u d 1 0 0 0 l j (by omega) low (fun f hf z => by
          rw [he] at hf
          obtain rfl := Option.some.inj hf
          omega)).1 ⟨e, he, ee⟩
        rw [eo]
        exact ⟨_, _, _, _, rfl, hS, hl, hc, fun _ _ => ⟨rfl, rfl⟩⟩
      · rw [if_neg (fun z => k2 (by have := (Zl_inj rd re2).mp z; omega))]
        simp only [Option.bind_some, jex]
        exact ins (fin (fun z => k2 (by
          have := (cmp e).2.mp z
          exact ((cop_eq (hc e (List.mem_of_getElem? he)) hcop this).2).symm)))
    · rw [if_neg (fun z => k1 (by have := (Zl_inj ru re1).mp z; omega))]
      simp only [Option.bind_some, jex]
      exact ins (fin (fun z => k1 (by
        have := (cmp e).2.mp z
        exact ((cop_eq (hc e (List.mem_of_getElem? he)) hcop this).1).symm)))
