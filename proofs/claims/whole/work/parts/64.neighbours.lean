/-! the class: neighbours as bits -/
theorem or_one : ∀ (m : Fin 64) (j : Fin 6), (nI m.1 ||| ((1 : Int32) <<< (nI j.1 &&& 31)) = nI (m.1 ||| 1 <<< j.1)) ∧ m.1 ||| 1 <<< j.1 < 64 ∧ ∀ k : Fin 6, ((m.1 ||| 1 <<< j.1).testBit k.1 = true) ↔ (m.1.testBit k.1 = true ∨ k = j) := by decide +kernel
theorem two_bits : ∀ m : Fin 64, pcn m.1 6 = 2 → ∃ lo hi : Fin 6, fJ6_numberOfTrailingZeros_0f7a4 (nI m.1) = some (nI lo.1) ∧ fJ6_numberOfTrailingZeros_0f7a4 (nI m.1 &&& (((1 : Int32) <<< (nI lo.1 &&& 31)) ^^^ (-1 : Int32))) = some (nI hi.1) ∧ lo ≠ hi ∧ ∀ v : Fin 6, (m.1.testBit v.1 = true) ↔ (v = lo ∨ v = hi) := by decide +kernel
theorem one_bit : ∀ m : Fin 64, pcn m.1 6 ≤ 1 → ∀ u v : Fin 6, m.1.testBit u.1 = true → m.1.testBit v.1 = true → u = v := by decide +kernel
theorem three_bits : ∀ m : Fin 64, ¬ pcn m.1 6 ≤ 2 → ∃ u v w : Fin 6, m.1.testBit u.1 = true ∧ m.1.testBit v.1 = true ∧ m.1.testBit w.1 = true ∧ u ≠ v ∧ v ≠ w ∧ u ≠ w := by decide +kernel
theorem eq_one : ∀ (m : Fin 64) (b : Fin 6), (nI m.1 = (1 : Int32) <<< (nI b.1 &&& 31)) ↔ ∀ v : Fin 6, (m.1.testBit v.1 = true ↔ v = b) := by decide +kernel
def Nb (nb : Nat → Int32) (R : Nat → Nat → Prop) : Prop := (∀ u v, R u v → u < 6 ∧ v < 6) ∧ ∀ k, k < 6 → ∃ m, m < 64 ∧ nb k = nI m ∧ ∀ v, v < 6 → (m.testBit v = true ↔ R k v)
def addR (R : Nat → Nat → Prop) (i j : Nat) : Nat → Nat → Prop := fun u v => R u v ∨ (u = i ∧ v = j) ∨ (u = j ∧ v = i)
theorem Nb.or1 {nb : Nat → Int32} {R : Nat → Nat → Prop} (h : Nb nb R) {i j : Nat} (hi : i < 6) (hj : j < 6) : Nb (upd nb i (nb i ||| ((1 : Int32) <<< (nI j &&& 31)))) (fun u v => R u v ∨ (u = i ∧ v = j)) := by
  refine ⟨fun u v z => ?_, fun k hk => ?_⟩
  · rcases z with z | ⟨z1, z2⟩
    · exact h.1 u v z
    · exact ⟨by omega, by omega⟩
  · obtain ⟨m, hm, e, ht⟩ := h.2 k hk
    unfold upd
    by_cases c : k = i
    · subst c
      obtain ⟨o1, o2, o3⟩ := or_one ⟨m, hm⟩ ⟨j, hj⟩
      have o1 : nI m ||| ((1 : Int32) <<< (nI j &&& 31)) = nI (m ||| 1 <<< j) := o1
      refine ⟨m ||| 1 <<< j, o2, by rw [if_pos rfl, e, o1], fun v hv => ?_⟩
      have := o3 ⟨v, hv⟩
      have this : ((m ||| 1 <<< j).testBit v = true) ↔ (m.testBit v = true ∨ (⟨v, hv⟩ : Fin 6) = ⟨j, hj⟩) := this
      rw [this, ht v hv, Fin.mk.injEq]
      simp
    · refine ⟨m, hm, by rw [if_neg c, e], fun v hv => ?_⟩
      rw [ht v hv]
      constructor
      · exact Or.inl
      · rintro (z | z)
        · exact z
        · exact absurd z.1 c
theorem linkOk {nb : Nat → Int32} {R : Nat → Nat → Prop} (h : Nb nb R) {i j : Nat} (hi : i < 6) (hj : j < 6) : ∃ nb', fX3_link (nI i) (nI j) nb = some nb' ∧ Nb nb' (addR R i j) := by
  have h2 := (h.or1 hi hj).or1 hj hi
  unfold fX3_link
  simp only [jlet]
  rw [if_pos (jok_nI hi (by omega)), if_pos (jok_nI hj (by omega)), nI_clamp (show i < 2 ^ 31 by omega), nI_clamp (show j < 2 ^ 31 by omega)]
  refine ⟨_, rfl, ?_⟩
  have e : (fun u v => (R u v ∨ (u = i ∧ v = j)) ∨ (u = j ∧ v = i)) = addR R i j := by
    funext u v
    unfold addR
    exact propext or_assoc
  rw [← e]
  exact h2
theorem ta16 {R : Nat → Nat → Prop} {k : Nat} (hk : k < 6) : ∀ (r y : Nat) (nb : Nat → Int32), y + r = 6 → Nb nb (fun u v => R u v ∧ (u < y → v ≠ k)) → ∀ fuel, r < fuel → ∃ nb', LX3_takeAway_16 (nI k) fuel (nI y) nb = some nb' ∧ Nb nb' (fun u v => R u v ∧ (u < 6 → v ≠ k)) := by
  intro r
  induction r with
  | zero =>
    intro y nb hy h fuel hf
    obtain ⟨f, rfl⟩ : ∃ f, fuel = f + 1 := ⟨fuel - 1, by omega⟩
    obtain rfl : y = 6 := by omega
    refine ⟨nb, ?_, h⟩
    unfold LX3_takeAway_16
    rw [if_pos (by decide)]
  | succ r ih =>
    intro y nb hy h fuel hf
    obtain ⟨f, rfl⟩ : ∃ f, fuel = f + 1 := ⟨fuel - 1, by omega⟩
    unfold LX3_takeAway_16
    rw [if_neg (show ¬ (6 : Int32) ≤ nI y from nI_ge (b := 6) (by omega) (by omega)), if_pos (jok_nI (by omega) (by omega))]
    simp only [jlet]
    rw [nI_clamp (show y < 2 ^ 31 by omega), ← nI_succ]
    refine ih (y + 1) _ (by omega) ⟨fun u v z => ?_, fun x hx => ?_⟩ f (by omega)
    · exact h.1 u v ⟨z.1, fun q => z.2 (by omega)⟩
    · obtain ⟨m, hm, e, ht⟩ := h.2 x hx
      unfold upd
      by_cases c : x = y
      · subst c
        obtain ⟨o1, o2, -, -⟩ := msk_n ⟨m, hm⟩ ⟨k, hk⟩
        have o1 : nI m &&& (((1 : Int32) <<< (nI k &&& 31)) ^^^ (-1 : Int32)) = nI (msk m k) := o1
        refine ⟨msk m k, o2, by rw [if_pos rfl, e, o1], fun v hv => ?_⟩
        have := msk_t ⟨m, hm⟩ ⟨k, hk⟩ ⟨v, hv⟩
        have this : ((msk m k).testBit v = true) ↔ (m.testBit v = true ∧ (⟨v, hv⟩ : Fin 6) ≠ ⟨k, hk⟩) := this
        rw [this, ht v hv, Ne, Fin.mk.injEq]
        constructor
        · rintro ⟨⟨z1, -⟩, z2⟩; exact ⟨z1, fun _ => z2⟩
        · rintro ⟨z1, z2⟩; exact ⟨⟨z1, fun q => absurd q (Nat.lt_irrefl x)⟩, z2 (by omega)⟩
      · refine ⟨m, hm, by rw [if_neg c, e], fun v hv => ?_⟩
        rw [ht v hv]
        constructor
        · rintro ⟨z1, z2⟩; exact ⟨z1, fun q => z2 (by omega)⟩
        · rintro ⟨z1, z2⟩; exact ⟨z1, fun q => z2 (by omega)⟩
/-- whether no more than two are beside a knot -/
theorem cnt_D2 {nb : Nat → Int32} {R : Nat → Nat → Prop} (h : Nb nb R) {k : Nat} (hk : k < 6) : ∃ n, n ≤ 6 ∧ fJ6_bitCount_0f7a4 (nb k) = some (nI n) ∧ (n ≤ 2 ↔ D2 R k) := by
  obtain ⟨m, hm, e, ht⟩ := h.2 k hk
  refine ⟨pcn m 6, pcn_le m 6, by rw [e]; exact bcn ⟨m, hm⟩, ?_⟩
  constructor
  · intro hn u v w hu hv hw
    have bu := (h.1 _ _ hu).2
    have bv := (h.1 _ _ hv).2
    have bw := (h.1 _ _ hw).2
    by_cases c : pcn m 6 = 2
    · obtain ⟨lo, hi, -, -, -, h4⟩ := two_bits ⟨m, hm⟩ c
      have q1 := (h4 ⟨u, bu⟩).mp ((ht u bu).mpr hu)
      have q2 := (h4 ⟨v, bv⟩).mp ((ht v bv).mpr hv)
      have q3 := (h4 ⟨w, bw⟩).mp ((ht w bw).mpr hw)
      have e1 : u = lo.1 ∨ u = hi.1 := q1.imp (fun z => congrArg Fin.val z) (fun z => congrArg Fin.val z)
      have e2 : v = lo.1 ∨ v = hi.1 := q2.imp (fun z => congrArg Fin.val z) (fun z => congrArg Fin.val z)
      have e3 : w = lo.1 ∨ w = hi.1 := q3.imp (fun z => congrArg Fin.val z) (fun z => congrArg Fin.val z)
      omega
    · exact Or.inl (congrArg Fin.val (one_bit ⟨m, hm⟩ (show pcn m 6 ≤ 1 by omega) ⟨u, bu⟩ ⟨v, bv⟩ ((ht u bu).mpr hu) ((ht v bv).mpr hv)))
  · intro hd
    by_cases c : pcn m 6 ≤ 2
    · exact c
    · obtain ⟨u, v, w, h1, h2, h3, n1, n2, n3⟩ := three_bits ⟨m, hm⟩ c
      rcases hd u.1 v.1 w.1 ((ht _ u.2).mp h1) ((ht _ v.2).mp h2) ((ht _ w.2).mp h3) with z | z | z
      · exact absurd (Fin.ext z) n1
      · exact absurd (Fin.ext z) n2
      · exact absurd (Fin.ext z) n3
theorem takeOk {nb : Nat → Int32} {R : Nat → Nat → Prop} (hR : Pln R) (h : Nb nb R) {k : Nat} (hk : k < 6) (hd : D2 R k) : ∃ nb', fX3_takeAway (nI k) nb = some nb' ∧ Nb nb' (elm R k) := by
  obtain ⟨m, hm, e, ht⟩ := h.2 k hk
  have h0 : Nb (upd nb k 0) (fun u v => (R u v ∧ u ≠ k) ∧ (u < 0 → v ≠ k)) := by
    refine ⟨fun u v z => h.1 u v z.1.1, fun x hx => ?_⟩
    unfold upd
    by_cases c : x = k
    · refine ⟨0, by decide, by rw [if_pos c]; rfl, fun v hv => ?_⟩
      constructor
      · intro z
        have := testBit0 ⟨v, hv⟩
        have this : Nat.testBit 0 v = false := this
        rw [this] at z
        exact absurd z (by decide)
      · rintro ⟨⟨-, z⟩, -⟩
        exact absurd c z
    · obtain ⟨m', hm', e', ht'⟩ := h.2 x hx
      refine ⟨m', hm', by rw [if_neg c, e'], fun v hv => ?_⟩
      rw [ht' v hv]
      exact ⟨fun z => ⟨⟨z, c⟩, fun q => absurd q (Nat.not_lt_zero x)⟩, fun z => z.1.1⟩
  obtain ⟨nb1, t1, t2⟩ := ta16 (R := fun u v => R u v ∧ u ≠ k) hk 6 0 _ rfl h0 5000 (by omega)
  have t1 : LX3_takeAway_16 (nI k) 5000 (0 : Int32) (upd nb k 0) = some nb1 := t1
  have hb : fJ6_bitCount_0f7a4 (nI m) = some (nI (pcn m 6)) := bcn ⟨m, hm⟩
  unfold fX3_takeAway
  rw [if_pos (jok_nI hk (by omega))]
  simp only [jlet]
  rw [nI_clamp (show k < 2 ^ 31 by omega), t1, e]
  simp only [Option.bind_some]
  rw [hb]
  simp only [Option.bind_some]
  have p6 := pcn_le m 6
  by_cases c : pcn m 6 = 2
  · obtain ⟨lo, hi, n1, n2, n3, n4⟩ := two_bits ⟨m, hm⟩ c
    have n1 : fJ6_numberOfTrailingZeros_0f7a4 (nI m) = some (nI lo.1) := n1
    have n2 : fJ6_numberOfTrailingZeros_0f7a4 (nI m &&& (((1 : Int32) <<< (nI lo.1 &&& 31)) ^^^ (-1 : Int32))) = some (nI hi.1) := n2
    rw [if_pos (by rw [c]; rfl), n1]
    simp only [Option.bind_some]
    rw [n2]
    simp only [Option.bind_some]
    obtain ⟨nb2, l1, l2⟩ := linkOk t2 lo.2 hi.2
    rw [l1]
    refine ⟨nb2, rfl, ?_⟩
    have rk : ∀ v, v < 6 → (R k v ↔ (v = lo.1 ∨ v = hi.1)) := fun v hv => by
      rw [← ht v hv]
      have := n4 ⟨v, hv⟩
      rw [this]
      constructor
      · exact fun z => z.imp (fun z => congrArg Fin.val z) (fun z => congrArg Fin.val z)
      · exact fun z => z.imp (fun z => Fin.ext z) (fun z => Fin.ext z)
    have hlo := (rk lo.1 lo.2).mpr (Or.inl rfl)
    have hhi := (rk hi.1 hi.2).mpr (Or.inr rfl)
    have nlo : lo.1 ≠ k := fun z => hR.2 k (by rw [z] at hlo; exact hlo)
    have nhi : hi.1 ≠ k := fun z => hR.2 k (by rw [z] at hhi; exact hhi)
    have nlh : lo.1 ≠ hi.1 := fun z => n3 (Fin.ext z)
    have ee : addR (fun u v => (R u v ∧ u ≠ k) ∧ (u < 6 → v ≠ k)) lo.1 hi.1 = elm R k := by
      funext u v
      refine propext ⟨?_, ?_⟩
      · rintro (⟨⟨z1, z2⟩, z3⟩ | ⟨z1, z2⟩ | ⟨z1, z2⟩)
        · exact ⟨z2, z3 (h.1 u v z1).1, fun q => hR.2 v (by rw [q] at z1; exact z1), Or.inl z1⟩
        · rw [z1, z2]; exact ⟨nlo, nhi, nlh, Or.inr ⟨hlo, hhi⟩⟩
        · rw [z1, z2]; exact ⟨nhi, nlo, Ne.symm nlh, Or.inr ⟨hhi, hlo⟩⟩
      · rintro ⟨z1, z2, z3, z4 | ⟨z4, z5⟩⟩
        · exact Or.inl ⟨⟨z4, z1⟩, fun _ => z2⟩
        · rcases (rk u (h.1 _ _ z4).2).mp z4 with a | a <;> rcases (rk v (h.1 _ _ z5).2).mp z5 with b | b
          · exact absurd (a.trans b.symm) z3
          · exact Or.inr (Or.inl ⟨a, b⟩)
          · exact Or.inr (Or.inr ⟨a, b⟩)
          · exact absurd (a.trans b.symm) z3
    rw [← ee]
    exact l2
  · have c2 : pcn m 6 ≤ 2 := by
      obtain ⟨n, -, e2, hn⟩ := cnt_D2 h hk
      rw [e, hb] at e2
      by_cases z : pcn m 6 ≤ 2
      · exact z
      · obtain ⟨u, v, w, h1, h2, h3, n1, n2, n3⟩ := three_bits ⟨m, hm⟩ z
        rcases hd u.1 v.1 w.1 ((ht _ u.2).mp h1) ((ht _ v.2).mp h2) ((ht _ w.2).mp h3) with z | z | z
        · exact absurd (Fin.ext z) n1
        · exact absurd (Fin.ext z) n2
        · exact absurd (Fin.ext z) n3
    rw [if_neg (show ¬ nI (pcn m 6) = 2 from fun z => c ((nI_inj (b := 2) (by omega) (by omega)).mp z))]
    refine ⟨nb1, rfl, ?_⟩
    have ee : (fun u v => (R u v ∧ u ≠ k) ∧ (u < 6 → v ≠ k)) = elm R k := by
      funext u v
      refine propext ⟨?_, ?_⟩
      · rintro ⟨⟨z1, z2⟩, z3⟩
        exact ⟨z2, z3 (h.1 u v z1).1, fun q => hR.2 v (by rw [q] at z1; exact z1), Or.inl z1⟩
      · rintro ⟨z1, z2, z3, z4 | ⟨z4, z5⟩⟩
        · exact ⟨⟨z4, z1⟩, fun _ => z2⟩
        · have bu := (h.1 _ _ z4).2
          have bv := (h.1 _ _ z5).2
          exact absurd (congrArg Fin.val (one_bit ⟨m, hm⟩ (show pcn m 6 ≤ 1 by omega) ⟨u, bu⟩ ⟨v, bv⟩ ((ht u bu).mpr z4) ((ht v bv).mpr z5))) z3
    rw [← ee]
    exact t2
