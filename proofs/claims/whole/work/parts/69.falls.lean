section FALLS
variable {N : Nat} {F T : Nat → Nat} {Al : Nat → Bool} {frm too isThere : Nat → Int32} {a b : Nat}
theorem le262 (h : Ms N frm too isThere F T Al) (ha : a < 6) (hb : b < 6) : ∀ (r k : Nat), k + r = 6 → ∀ fuel, r < fuel → (LX10_lessens_262 (nI N) frm too isThere (nI a) (nI b) fuel (nI k) = some (.inl ()) ∧ ∀ x, k ≤ x → x < 6 → x ≠ a → x ≠ b → atc F T Al x N ≠ 2) ∨ ∃ x, x < 6 ∧ x ≠ a ∧ x ≠ b ∧ atc F T Al x N = 2 ∧ LX10_lessens_262 (nI N) frm too isThere (nI a) (nI b) fuel (nI k) = (fX10_links (nI x) (nI N) frm too isThere).bind (fun o_84 => some (Sum.inr (α := Unit) ((1 : Int32), o_84.1, o_84.2.1, o_84.2.2))) := by
  have h12 := h.1
  intro r
  induction r with
  | zero =>
    intro k hk fuel hf
    obtain ⟨f, rfl⟩ : ∃ f, fuel = f + 1 := ⟨fuel - 1, by omega⟩
    obtain rfl : k = 6 := by omega
    refine Or.inl ⟨?_, fun x h1 h2 => by omega⟩
    unfold LX10_lessens_262
    rw [if_pos (by decide)]
  | succ r ih =>
    intro k hk fuel hf
    obtain ⟨f, rfl⟩ : ∃ f, fuel = f + 1 := ⟨fuel - 1, by omega⟩
    have hk6 : k < 6 := by omega
    have ihh := ih (k + 1) (by omega) f (by omega)
    have bd := atc_le (F := F) (T := T) (Al := Al) k N
    have next : ∀ (_ : k ≠ a → k ≠ b → atc F T Al k N ≠ 2), (LX10_lessens_262 (nI N) frm too isThere (nI a) (nI b) f (nI (k + 1)) = some (.inl ()) ∧ ∀ x, k ≤ x → x < 6 → x ≠ a → x ≠ b → atc F T Al x N ≠ 2) ∨ ∃ x, x < 6 ∧ x ≠ a ∧ x ≠ b ∧ atc F T Al x N = 2 ∧ LX10_lessens_262 (nI N) frm too isThere (nI a) (nI b) f (nI (k + 1)) = (fX10_links (nI x) (nI N) frm too isThere).bind (fun o_84 => some (Sum.inr (α := Unit) ((1 : Int32), o_84.1, o_84.2.1, o_84.2.2))) := fun hK => by
      rcases ihh with ⟨q1, q2⟩ | q
      · refine Or.inl ⟨q1, fun x h1 h2 h3 h4 => ?_⟩
        by_cases e : x = k
        · rw [e] at h3 h4 ⊢; exact hK h3 h4
        · exact q2 x (by omega) h2 h3 h4
      · exact Or.inr q
    unfold LX10_lessens_262
    rw [if_neg (show ¬ (6 : Int32) ≤ nI k from nI_ge (b := 6) (by omega) (by omega)), waOk h hk6, ← nI_succ]
    simp only [Option.bind_some, jlet]
    by_cases c1 : k = a
    · rw [if_pos (show nI k = nI a by rw [c1])]
      simp only [Option.bind_some, jex]
      exact next (fun z => absurd c1 z)
    · rw [if_neg (show ¬ nI k = nI a from fun z => c1 ((nI6 hk6 ha).mp z))]
      by_cases c2 : k = b
      · rw [if_pos (show nI k = nI b by rw [c2])]
        simp only [Option.bind_some, jex]
        exact next (fun _ z => absurd c2 z)
      · rw [if_neg (show ¬ nI k = nI b from fun z => c2 ((nI6 hk6 hb).mp z))]
        by_cases c3 : atc F T Al k N = 2
        · rw [if_pos (show nI (atc F T Al k N) = 2 by rw [c3]; rfl)]
          refine Or.inr ⟨k, hk6, c1, c2, c3, ?_⟩
          cases fX10_links (nI k) (nI N) frm too isThere with
          | none => rfl
          | some o => rfl
        · rw [if_neg (show ¬ nI (atc F T Al k N) = 2 from fun z => c3 ((nI_inj (b := 2) (by omega) (by omega)).mp z))]
          simp only [Option.bind_some, jex]
          exact next (fun _ _ => c3)
/-- how many wires are left -/
def alc (Al : Nat → Bool) : Nat → Nat
  | 0 => 0
  | w + 1 => alc Al w + (if Al w = true then 1 else 0)
theorem alc_kil {x : Nat} : ∀ n, alc (kil Al x) n + (if x < n ∧ Al x = true then 1 else 0) = alc Al n
  | 0 => by rw [if_neg (fun z => absurd z.1 (Nat.not_lt_zero x))]; rfl
  | n + 1 => by
    have ih := alc_kil (x := x) n
    have e1 : alc (kil Al x) (n + 1) = alc (kil Al x) n + (if kil Al x n = true then 1 else 0) := rfl
    have e2 : alc Al (n + 1) = alc Al n + (if Al n = true then 1 else 0) := rfl
    rw [e1, e2]
    by_cases e : n = x
    · subst e
      rw [if_neg (show ¬ (n < n ∧ _) from fun z => absurd z.1 (Nat.lt_irrefl n))] at ih
      rw [if_neg (show ¬ kil Al n n = true from fun z => (kil_iff.mp z).1 rfl)]
      by_cases c : Al n = true
      · rw [if_pos ⟨by omega, c⟩, if_pos c]; omega
      · rw [if_neg (fun z => c z.2), if_neg c]; omega
    · have ek : kil Al x n = Al n := by unfold kil; rw [if_neg e]
      rw [ek]
      by_cases c : x < n ∧ Al x = true
      · rw [if_pos c] at ih
        rw [if_pos (show x < n + 1 ∧ Al x = true from ⟨by omega, c.2⟩)]
        omega
      · rw [if_neg c] at ih
        rw [if_neg (show ¬ (x < n + 1 ∧ Al x = true) from fun z => c ⟨by omega, z.2⟩)]
        omega
/-- one step of the reference -/
theorem lessOk (h : Ms N frm too isThere F T Al) (ha : a < 6) (hb : b < 6) : (fX10_lessens (nI a) (nI b) (nI N) frm too isThere = some (0, frm, too, isThere) ∧ Nol N F T Al ∧ Nop N F T Al ∧ Nrm a b (RE N F T Al)) ∨ ∃ frm' too' isThere' F' T' Al' l, fX10_lessens (nI a) (nI b) (nI N) frm too isThere = some (1, frm', too', isThere') ∧ Ms N frm' too' isThere' F' T' Al' ∧ Tak a b l (RE N F T Al) (RE N F' T' Al') ∧ alc Al' N < alc Al N := by
  have h12 := h.1
  unfold fX10_lessens
  rcases le2 h ha hb N 0 (by omega) 5000 (by omega) with ⟨q1, q2⟩ | ⟨x, hx, q1, q2⟩
  · have q1 : LX10_lessens_2 (nI N) frm too isThere (nI a) (nI b) 5000 (0 : Int32) = some (.inl ()) := q1
    have hl : Nol N F T Al := fun w hw al => (q2 w (Nat.zero_le w) hw al).1
    have hp : Nop N F T Al := fun w hw al => (q2 w (Nat.zero_le w) hw al).2.1
    rw [q1]
    simp only [Option.bind_some, jex]
    rcases le262 h ha hb 6 0 rfl 5000 (by omega) with ⟨p1, p2⟩ | ⟨k, hk, ka, kb, kc, p1⟩
    · have p1 : LX10_lessens_262 (nI N) frm too isThere (nI a) (nI b) 5000 (0 : Int32) = some (.inl ()) := p1
      rw [p1]
      refine Or.inl ⟨rfl, hl, hp, fun k hk ka kb hd u hu => ?_⟩
      obtain ⟨w, w1, w2, w3, w4⟩ := hu
      have tw : tch F T Al k w := ⟨w2, w4.imp (fun q => q.1.symm) (fun q => q.1.symm)⟩
      have g1 : 1 ≤ atc F T Al k N := by
        have e1 := atc_up tw
        have e2 := atc_mono (F := F) (T := T) (Al := Al) (k := k) (show w + 1 ≤ N by omega)
        omega
      have n1 : atc F T Al k N ≠ 1 := by
        have fw := q2 w (Nat.zero_le w) w1 w2
        rcases w4 with q | q
        · rw [q.1] at ka kb ⊢; exact fw.2.2.1 ka kb
        · rw [q.1] at ka kb ⊢; exact fw.2.2.2 ka kb
      have n2 := p2 k (Nat.zero_le k) hk ka kb
      obtain ⟨x, y, z, xy, yz, zN, tx, ty, tz⟩ := atc_ex3 hl N (Nat.le_refl N) (show 3 ≤ atc F T Al k N by omega)
      have edge : ∀ t, t < N → tch F T Al k t → RE N F T Al k (oth F T k t) := fun t ht tt => by
        obtain ⟨-, p⟩ := oth_p F T (hl t ht tt.1) tt.2
        exact ⟨t, ht, tt.1, hl t ht tt.1, p.imp (fun q => ⟨q.1.symm, q.2.symm⟩) (fun q => ⟨q.1.symm, q.2.symm⟩)⟩
      have dis : ∀ s t, s < t → t < N → tch F T Al k s → tch F T Al k t → oth F T k s ≠ oth F T k t := fun s t st ht ts tt e => by
        obtain ⟨-, p⟩ := oth_p F T (hl s (by omega) ts.1) ts.2
        obtain ⟨-, q⟩ := oth_p F T (hl t ht tt.1) tt.2
        refine hp t ht tt.1 s st ⟨ts.1, ?_⟩
        rcases p with ⟨p1, p2⟩ | ⟨p1, p2⟩ <;> rcases q with ⟨q1, q2⟩ | ⟨q1, q2⟩
        · exact Or.inl ⟨p1.trans q1.symm, p2.trans (e.trans q2.symm)⟩
        · exact Or.inr ⟨p1.trans q1.symm, p2.trans (e.trans q2.symm)⟩
        · exact Or.inr ⟨p2.trans (e.trans q2.symm), p1.trans q1.symm⟩
        · exact Or.inl ⟨p2.trans (e.trans q2.symm), p1.trans q1.symm⟩
      rcases hd _ _ _ (edge x (by omega) tx) (edge y (by omega) ty) (edge z zN tz) with e | e | e
      · exact dis x y xy (by omega) tx ty e
      · exact dis y z yz zN ty tz e
      · exact dis x z (by omega) zN tx tz e
    · have p1 : LX10_lessens_262 (nI N) frm too isThere (nI a) (nI b) 5000 (0 : Int32) = _ := p1
      obtain ⟨x, y, xy, yN, tx, ty⟩ := atc_ex2 hl N (Nat.le_refl N) (show 2 ≤ atc F T Al k N by omega)
      have only : ∀ w, w < N → tch F T Al k w → w = x ∨ w = y := fun w hw tw => by
        by_cases e1 : w = x
        · exact Or.inl e1
        · by_cases e2 : w = y
          · exact Or.inr e2
          · rcases Nat.lt_or_gt_of_ne e1 with g | g
            · have := atc_3 tw tx ty g xy yN; omega
            · rcases Nat.lt_or_gt_of_ne e2 with g2 | g2
              · have := atc_3 tx tw ty g g2 yN; omega
              · have := atc_3 tx ty tw xy g2 hw; omega
      obtain ⟨r1, r2, r3⟩ := links_R h hl hp hk xy yN tx ty only
      rw [p1, linksOk h hk xy yN tx ty only]
      refine Or.inr ⟨_, _, _, _, _, _, [k], rfl, r1, ⟨⟨hk, ka, kb, r2⟩, r3.symm⟩, ?_⟩
      have := alc_kil (Al := Al) (x := y) N
      rw [if_pos ⟨yN, ty.1⟩] at this
      omega
  · have q1 : LX10_lessens_2 (nI N) frm too isThere (nI a) (nI b) 5000 (0 : Int32) = some (.inr (1, frm, too, upd isThere x 0)) := q1
    rw [q1]
    have dec : alc (kil Al x) N < alc Al N := by
      have := alc_kil (Al := Al) (x := x) N
      rw [if_pos ⟨hx, q2.1⟩] at this
      omega
    rcases goes_R h hx q2 with e | ⟨k, hk, ka, kb, kd, e⟩
    · exact Or.inr ⟨_, _, _, _, _, _, [], rfl, h.kill x, e.symm, dec⟩
    · exact Or.inr ⟨_, _, _, _, _, _, [k], rfl, h.kill x, ⟨⟨hk, ka, kb, kd⟩, e.symm⟩, dec⟩
theorem fa111 (ha : a < 6) (hb : b < 6) : ∀ (m : Nat) (frm too isThere : Nat → Int32) (F T : Nat → Nat) (Al : Nat → Bool), alc Al N ≤ m → Ms N frm too isThere F T Al → ∀ fuel, m + 1 < fuel → ∃ frm' too' isThere' F' T' Al' l, LX10_falls_111 (nI N) (nI a) (nI b) fuel 1 frm too isThere = some (frm', too', isThere') ∧ Ms N frm' too' isThere' F' T' Al' ∧ Tak a b l (RE N F T Al) (RE N F' T' Al') ∧ Nol N F' T' Al' ∧ Nop N F' T' Al' ∧ Nrm a b (RE N F' T' Al') := by
  intro m
  induction m with
  | zero =>
    intro frm too isThere F T Al hm h fuel hf
    obtain ⟨f, rfl⟩ : ∃ f, fuel = f + 1 + 1 := ⟨fuel - 2, by omega⟩
    rcases lessOk h ha hb with ⟨q1, q2, q3, q4⟩ | ⟨f1, f2, f3, f4, f5, f6, l, q1, q2, q3, q4⟩
    · refine ⟨frm, too, isThere, F, T, Al, [], ?_, h, rfl, q2, q3, q4⟩
      unfold LX10_falls_111
      rw [if_neg (show ¬ (1 : Int32) = 0 by decide), q1]
      simp only [Option.bind_some, jlet]
      unfold LX10_falls_111
      rw [if_pos rfl]
    · omega
  | succ m ih =>
    intro frm too isThere F T Al hm h fuel hf
    obtain ⟨f, rfl⟩ : ∃ f, fuel = f + 1 + 1 := ⟨fuel - 2, by omega⟩
    rcases lessOk h ha hb with ⟨q1, q2, q3, q4⟩ | ⟨f1, f2, f3, f4, f5, f6, l, q1, q2, q3, q4⟩
    · refine ⟨frm, too, isThere, F, T, Al, [], ?_, h, rfl, q2, q3, q4⟩
      unfold LX10_falls_111
      rw [if_neg (show ¬ (1 : Int32) = 0 by decide), q1]
      simp only [Option.bind_some, jlet]
      unfold LX10_falls_111
      rw [if_pos rfl]
    · obtain ⟨g1, g2, g3, g4, g5, g6, l2, r1, r2, r3, r4⟩ := ih f1 f2 f3 f4 f5 f6 (by omega) q2 (f + 1) (by omega)
      refine ⟨g1, g2, g3, g4, g5, g6, l ++ l2, ?_, r2, Tak.app l l2 q3 r3, r4⟩
      rw [LX10_falls_111, if_neg (show ¬ (1 : Int32) = 0 by decide), q1]
      exact r1
theorem alc_le (Al : Nat → Bool) : ∀ n, alc Al n ≤ n
  | 0 => Nat.le_refl 0
  | n + 1 => by
    have := alc_le Al n
    show alc Al n + (if Al n = true then 1 else 0) ≤ n + 1
    split <;> omega
def isab (F T : Nat → Nat) (Al : Nat → Bool) (a b w : Nat) : Prop := Al w = true ∧ ((F w = a ∧ T w = b) ∨ (F w = b ∧ T w = a))
theorem fa134 (h : Ms N frm too isThere F T Al) (ha : a < 6) (hb : b < 6) : ∀ (r w : Nat) (o : Int32), w + r = N → (o = 0 ∨ o = 1) → (o = 0 ↔ ∀ x, x < w → ¬ isab F T Al a b x) → ∀ fuel, r < fuel → ∃ o', LX10_falls_134 (nI N) (nI a) (nI b) (frm, too, isThere) fuel (nI (alc Al w)) o (nI w) = some (nI (alc Al N), o') ∧ (o' = 0 ∨ o' = 1) ∧ (o' = 0 ↔ ∀ x, x < N → ¬ isab F T Al a b x) := by
  have h12 := h.1
  intro r
  induction r with
  | zero =>
    intro w o hw ho hz fuel hf
    obtain ⟨f, rfl⟩ : ∃ f, fuel = f + 1 := ⟨fuel - 1, by omega⟩
    obtain rfl : w = N := by omega
    refine ⟨o, ?_, ho, hz⟩
    unfold LX10_falls_134
    rw [if_pos (nI_le (by omega) (by omega))]
  | succ r ih =>
    intro w o hw ho hz fuel hf
    obtain ⟨f, rfl⟩ : ∃ f, fuel = f + 1 := ⟨fuel - 1, by omega⟩
    obtain ⟨m1, m2, m3, m4, m5⟩ := h.2 w (by omega)
    have al := h.al (show w < N by omega)
    have key : ∃ i : Int32, (if isThere w = 0 then (0 : Int32) else if nI (F w) = nI a then (if nI (T w) = nI b then 1 else if nI (F w) = nI b then (if nI (T w) = nI a then 1 else 0) else 0) else if nI (F w) = nI b then (if nI (T w) = nI a then 1 else 0) else 0) = i ∧ ((i = 1 ∧ isab F T Al a b w) ∨ (i = 0 ∧ ¬ isab F T Al a b w)) := by
      refine ⟨_, rfl, ?_⟩
      simp only [nI6 m3 ha, nI6 m4 hb, nI6 m3 hb, nI6 m4 ha]
      unfold isab
      by_cases c : Al w = true
      · rw [if_neg (fun z => al.mp z c)]
        by_cases c1 : F w = a <;> by_cases c2 : T w = b <;> by_cases c3 : F w = b <;> by_cases c4 : T w = a <;> simp only [c, c1, c2, c3, c4, if_true, if_false] <;> simp_all
      · rw [if_pos (al.mpr c)]
        exact Or.inr ⟨rfl, fun z => c z.1⟩
    obtain ⟨i, ei, hi⟩ := key
    have el : nI (alc Al w) + (if isThere w = 0 then (0 : Int32) else 1) = nI (alc Al (w + 1)) := by
      show _ = nI (alc Al w + (if Al w = true then 1 else 0))
      by_cases c : Al w = true
      · rw [if_neg (fun z => al.mp z c), if_pos c, nI_succ]
      · rw [if_pos (al.mpr c), if_neg c, Int32.add_zero]; rfl
    unfold LX10_falls_134
    rw [if_neg (nI_ge (by omega) (by omega)), if_pos (jok_nI (by omega) (by omega))]
    simp only [jlet, nI_clamp (show w < 2 ^ 31 by omega), m1, m2]
    rw [ei, el, ← nI_succ]
    have ho' : (o ||| i = 0 ∨ o ||| i = 1) ∧ (o ||| i = 0 ↔ (o = 0 ∧ i = 0)) := by
      rcases ho with rfl | rfl <;> rcases hi with ⟨rfl, -⟩ | ⟨rfl, -⟩ <;> decide
    refine ih (w + 1) (o ||| i) (by omega) ho'.1 ?_ f (by omega)
    rw [ho'.2, hz]
    constructor
    · rintro ⟨z1, z2⟩ x hx
      by_cases e : x = w
      · rw [e]
        rcases hi with ⟨q, -⟩ | ⟨-, q⟩
        · rw [q] at z2; exact absurd z2 (by decide)
        · exact q
      · exact z1 x (by omega)
    · intro z
      refine ⟨fun x hx => z x (by omega), ?_⟩
      rcases hi with ⟨-, q⟩ | ⟨q, -⟩
      · exact absurd q (z w (by omega))
      · exact q
end FALLS
