section FALLS2
variable {N : Nat} {A B : Nat → Nat} {first second w1 w2 : Nat → Int32} {a b : Nat}
theorem fa40 (hN : Net N A B) (h1 : ∀ w, w < N → first w = nI (A w) ∧ second w = nI (B w)) {W G : Nat → Int32} {i0 : Int32} (hW : Whl N A B W) (ha : a < 6) : ∀ (r w : Nat) (frm too isThere : Nat → Int32), w + r = N → (∀ x, x < w → frm x = nI (A x) ∧ too x = nI (B x) ∧ isThere x = (if (rch N A B a).testBit (A x) = true then 1 else 0)) → ∀ fuel, r < fuel → ∃ frm' too' isThere', LX10_falls_40 (nI N) first second (nI a) (i0, G, W) fuel (nI w) frm too isThere = some (frm', too', isThere') ∧ ∀ x, x < N → frm' x = nI (A x) ∧ too' x = nI (B x) ∧ isThere' x = (if (rch N A B a).testBit (A x) = true then 1 else 0) := by
  have h12 := hN.1
  intro r
  induction r with
  | zero =>
    intro w frm too isThere hw h fuel hf
    obtain ⟨f, rfl⟩ : ∃ f, fuel = f + 1 := ⟨fuel - 1, by omega⟩
    obtain rfl : w = N := by omega
    refine ⟨frm, too, isThere, ?_, h⟩
    unfold LX10_falls_40
    rw [if_pos (nI_le (by omega) (by omega))]
  | succ r ih =>
    intro w frm too isThere hw h fuel hf
    obtain ⟨f, rfl⟩ : ∃ f, fuel = f + 1 := ⟨fuel - 1, by omega⟩
    have hab := hN.2 w (by omega)
    have b1 := (hW _ hab.1).2
    have b2 := (hW a ha).2
    have ek : vp_nar .boolean (if W (A w) = W a then (1 : Int32) else 0) = if (rch N A B a).testBit (A w) = true then 1 else 0 := by
      rw [(hW _ hab.1).1, (hW a ha).1]
      by_cases c : (rch N A B a).testBit (A w) = true
      · rw [if_pos (by rw [(gN_rch hN ha hab.1).mpr c]), if_pos c]
        exact nar1
      · rw [if_neg (fun z => c ((gN_rch hN ha hab.1).mp ((nI_inj (by omega) (by omega)).mp z))), if_neg c]
        exact nar0
    unfold LX10_falls_40
    rw [if_neg (nI_ge (by omega) (by omega)), if_pos (jok_nI (by omega) (by omega))]
    simp only [jlet, nI_clamp (show w < 2 ^ 31 by omega), (h1 w (by omega)).1, (h1 w (by omega)).2]
    rw [if_pos (jok_nI hab.1 (by omega)), if_pos (jok_nI ha (by omega))]
    simp only [nI_clamp (show A w < 2 ^ 31 by omega), nI_clamp (show a < 2 ^ 31 by omega)]
    rw [ek, ← nI_succ]
    refine ih (w + 1) _ _ _ (by omega) (fun x hx => ?_) f (by omega)
    unfold upd
    by_cases e : x = w
    · rw [if_pos e, if_pos e, if_pos e, e]
      exact ⟨rfl, rfl, rfl⟩
    · rw [if_neg e, if_neg e, if_neg e]
      exact h x (by omega)
theorem RN_hng (hN : Net N A B) (ha : a < 6) : Hng a (RN N (rch N A B a) A B) := by
  intro C hC hCa u v huv
  have clo : Clo N A B (fun k => (rch N A B a).testBit k = true ∧ C k) := fun w hw => by
    have hc : (rch N A B a).testBit (A w) = true ↔ (rch N A B a).testBit (B w) = true := rch_clo hN ha w hw
    constructor
    · rintro ⟨z1, z2⟩
      exact ⟨hc.mp z1, (hC _ _ ⟨w, hw, z1, Or.inl ⟨rfl, rfl⟩⟩).mp z2⟩
    · rintro ⟨z1, z2⟩
      exact ⟨hc.mpr z1, (hC _ _ ⟨w, hw, hc.mpr z1, Or.inl ⟨rfl, rfl⟩⟩).mpr z2⟩
  obtain ⟨w, hw, kA, h4⟩ := huv
  have hab := hN.2 w hw
  rcases h4 with ⟨q, -⟩ | ⟨q, -⟩
  · rw [q]
    exact (rch_in hN clo ha ⟨rch_self hN ha, hCa⟩ hab.1 kA).2
  · rw [q]
    exact (rch_in hN clo ha ⟨rch_self hN ha, hCa⟩ hab.2.1 ((rch_clo hN ha w hw).mp kA)).2
theorem alc_one {Al : Nat → Bool} : ∀ n, (alc Al n = 0 ↔ ∀ w, w < n → ¬ Al w = true) ∧ (alc Al n = 1 ↔ ∃ w, w < n ∧ Al w = true ∧ ∀ v, v < n → Al v = true → v = w)
  | 0 => by
    refine ⟨⟨fun _ w h => absurd h (Nat.not_lt_zero w), fun _ => rfl⟩, ⟨fun h => ?_, fun ⟨w, h, _⟩ => absurd h (Nat.not_lt_zero w)⟩⟩
    have h : 0 = 1 := h
    omega
  | n + 1 => by
    obtain ⟨i0, i1⟩ := alc_one (Al := Al) n
    have e : alc Al (n + 1) = alc Al n + (if Al n = true then 1 else 0) := rfl
    rw [e]
    by_cases c : Al n = true
    · rw [if_pos c]
      refine ⟨⟨fun h => by omega, fun h => absurd c (h n (by omega))⟩, ⟨fun h => ?_, fun ⟨w, h1, h2, h3⟩ => ?_⟩⟩
      · have z := i0.mp (by omega)
        refine ⟨n, by omega, c, fun v hv av => ?_⟩
        by_cases q : v = n
        · exact q
        · exact absurd av (z v (by omega))
      · have wn := h3 n (by omega) c
        have : alc Al n = 0 := i0.mpr (fun v hv av => by
          have := h3 v (by omega) av
          omega)
        omega
    · rw [if_neg c, Nat.add_zero]
      refine ⟨⟨fun h w hw => ?_, fun h => i0.mpr (fun w hw => h w (by omega))⟩, ⟨fun h => ?_, fun ⟨w, h1, h2, h3⟩ => ?_⟩⟩
      · by_cases q : w = n
        · rw [q]; exact c
        · exact i0.mp h w (by omega)
      · obtain ⟨w, h1, h2, h3⟩ := i1.mp h
        refine ⟨w, by omega, h2, fun v hv av => ?_⟩
        by_cases q : v = n
        · rw [q] at av; exact absurd av c
        · exact h3 v (by omega) av
      · refine i1.mpr ⟨w, ?_, h2, fun v hv av => h3 v (by omega) av⟩
        by_cases q : w = n
        · rw [q] at h2; exact absurd h2 c
        · omega
/-- one wire left, from a to b -/
theorem left_iff {F T : Nat → Nat} {Al : Nat → Bool} (hab : a ≠ b) (hl : Nol N F T Al) (hp : Nop N F T Al) (hH : Hng a (RE N F T Al)) : (alc Al N = 1 ∧ ∃ x, x < N ∧ isab F T Al a b x) ↔ ((∀ u, RE N F T Al a u ↔ u = b) ∧ ∀ u, RE N F T Al b u ↔ u = a) := by
  constructor
  · rintro ⟨h1, x, hx, ax, ex⟩
    obtain ⟨w, w1, w2, w3⟩ := (alc_one N).2.mp h1
    obtain rfl := w3 x hx ax
    have edge : ∀ u v, RE N F T Al u v → ((u = a ∧ v = b) ∨ (u = b ∧ v = a)) := fun u v ⟨y, y1, y2, y3, y4⟩ => by
      obtain rfl := w3 y y1 y2
      rcases y4 with ⟨p, q⟩ | ⟨p, q⟩ <;> rcases ex with ⟨e1, e2⟩ | ⟨e1, e2⟩
      · exact Or.inl ⟨p.trans e1, q.trans e2⟩
      · exact Or.inr ⟨p.trans e1, q.trans e2⟩
      · exact Or.inr ⟨p.trans e2, q.trans e1⟩
      · exact Or.inl ⟨p.trans e2, q.trans e1⟩
    have hba : RE N F T Al a b := ⟨x, hx, ax, hl x hx ax, ex.imp (fun q => ⟨q.1.symm, q.2.symm⟩) (fun q => ⟨q.2.symm, q.1.symm⟩)⟩
    refine ⟨fun u => ⟨fun z => ?_, fun z => by rw [z]; exact hba⟩, fun u => ⟨fun z => ?_, fun z => by rw [z]; exact (RE_pln N F T Al).1 _ _ hba⟩⟩
    · rcases edge a u z with q | q
      · exact q.2
      · exact absurd q.1 hab
    · rcases edge b u z with q | q
      · exact absurd q.1.symm hab
      · exact q.2
  · rintro ⟨h1, h2⟩
    have only := only_ab (RE_pln N F T Al) hH h1 h2
    obtain ⟨w, w1, w2, w3, w4⟩ := (h1 b).mpr rfl
    have hw : isab F T Al a b w := ⟨w2, w4.imp (fun q => ⟨q.1.symm, q.2.symm⟩) (fun q => ⟨q.2.symm, q.1.symm⟩)⟩
    refine ⟨(alc_one N).2.mpr ⟨w, w1, w2, fun v hv av => ?_⟩, w, w1, hw⟩
    have ev := (only (F v) (T v)).mp ⟨v, hv, av, hl v hv av, Or.inl ⟨rfl, rfl⟩⟩
    have par : ∀ s t, s < t → t < N → Al s = true → Al t = true → ((F s = a ∧ T s = b) ∨ (F s = b ∧ T s = a)) → ((F t = a ∧ T t = b) ∨ (F t = b ∧ T t = a)) → False := fun s t st ht as at' es et => by
      refine hp t ht at' s st ⟨as, ?_⟩
      rcases es with ⟨p1, p2⟩ | ⟨p1, p2⟩ <;> rcases et with ⟨q1, q2⟩ | ⟨q1, q2⟩
      · exact Or.inl ⟨p1.trans q1.symm, p2.trans q2.symm⟩
      · exact Or.inr ⟨p1.trans q2.symm, p2.trans q1.symm⟩
      · exact Or.inr ⟨p1.trans q2.symm, p2.trans q1.symm⟩
      · exact Or.inl ⟨p1.trans q1.symm, p2.trans q2.symm⟩
    by_cases e : v = w
    · exact e
    · rcases Nat.lt_or_gt_of_ne e with g | g
      · exact (par v w g w1 av w2 ev hw.2).elim
      · exact (par w v g hv w2 av hw.2 ev).elim
/-- falls: both answer the same -/
theorem falls_same (hN : Net N A B) (h1 : ∀ w, w < N → w1 w = nI (A w) ∧ w2 w = nI (B w)) (h2 : ∀ w, w < N → first w = nI (A w) ∧ second w = nI (B w)) (a1 a2 : Int32) (nb G W frm too isThere : Nat → Int32) : ∃ (r : Int32) (nb' G' W' frm' too' isThere' : Nat → Int32), fX9_falls a1 a2 (nI N) w1 w2 nb = some (r, nb') ∧ fX10_falls a1 a2 (nI N) first second G W frm too isThere = some (r, 0, G', W', frm', too', isThere') := by
  have hN12 := hN.1
  unfold fX9_falls fX10_falls
  rcases two_c a1 a2 with ⟨q3, q4⟩ | ⟨a, b, ha, hb, hab, rfl, rfl, q3, q4, q5⟩
  · rw [q3]
    rcases q4 with q4 | ⟨q4, q5⟩ | ⟨q4, q5, q6⟩
    · rw [q4]
      exact ⟨_, _, _, _, _, _, _, rfl, rfl⟩
    · rw [q4, q5]
      exact ⟨_, _, _, _, _, _, _, rfl, rfl⟩
    · rw [q4, q5]
      simp only [Option.bind_some]
      rw [if_neg (show ¬ (1 : Int32) = 0 by decide), if_pos q6]
      exact ⟨_, _, _, _, _, _, _, rfl, rfl⟩
  · rw [q3, q4, q5]
    simp only [Option.bind_some]
    have hne : ¬ nI a = nI b := fun z => hab ((nI_inj (by omega) (by omega)).mp z)
    rw [if_neg (show ¬ (1 : Int32) = 0 by decide), if_neg (show ¬ (1 : Int32) = 0 by decide), if_neg (show ¬ (1 : Int32) = 0 by decide), if_neg hne, hangOk hN h1 ha hb]
    simp only [Option.bind_some]
    obtain ⟨G1, W1, g1, g2⟩ := hangRef hN h2 ha hb G W
    rw [g1]
    simp only [Option.bind_some]
    by_cases hR : (rch N A B a).testBit b = true
    · rw [if_pos hR, if_neg (show ¬ (1 : Int32) = 0 by decide), if_neg (show ¬ (1 : Int32) = 0 by decide)]
      obtain ⟨nb', S, l, o, c1, c2, c3, c4⟩ := fallsClass hN h1 ha hb nb
      rw [c1]
      simp only [Option.bind_some]
      obtain ⟨f1, f2, f3, r1, r2⟩ := fa40 hN h2 (W := W1) (G := G1) (i0 := (1 : Int32)) g2 ha N 0 frm too isThere (by omega) (fun x hx => absurd hx (Nat.not_lt_zero x)) 5000 (by omega)
      have r1 : LX10_falls_40 (nI N) first second (nI a) ((1 : Int32), G1, W1) 5000 (0 : Int32) frm too isThere = some (f1, f2, f3) := r1
      rw [r1]
      simp only [Option.bind_some]
      have hMs : Ms N f1 f2 f3 A B (fun w => (rch N A B a).testBit (A w)) := ⟨hN12, fun w hw => ⟨(r2 w hw).1, (r2 w hw).2.1, (hN.2 w hw).1, (hN.2 w hw).2.1, (r2 w hw).2.2⟩⟩
      have eR : RE N A B (fun w => (rch N A B a).testBit (A w)) = RN N (rch N A B a) A B := by
        funext u v
        refine propext ⟨fun ⟨w, x1, x2, x3, x4⟩ => ⟨w, x1, x2, x4⟩, fun ⟨w, x1, x2, x4⟩ => ⟨w, x1, x2, (hN.2 w x1).2.2, x4⟩⟩
      obtain ⟨k1, k2, k3, F', T', Al', l2, m1, m2, m3, m4, m5, m6⟩ := fa111 ha hb 12 f1 f2 f3 A B _ (Nat.le_trans (alc_le _ N) hN12) hMs 5000 (by omega)
      rw [m1]
      simp only [Option.bind_some]
      obtain ⟨o', n1, n2, n3⟩ := fa134 m2 ha hb N 0 0 (by omega) (Or.inl rfl) ⟨fun _ x hx => absurd hx (Nat.not_lt_zero x), fun _ => rfl⟩ 5000 (by omega)
      have n1 : LX10_falls_134 (nI N) (nI a) (nI b) (k1, k2, k3) 5000 (0 : Int32) (0 : Int32) (0 : Int32) = some (nI (alc Al' N), o') := n1
      rw [n1]
      simp only [Option.bind_some]
      rw [eR] at m3
      have same : RE N F' T' Al' = S := Tak.one l l2 (RN_pln hN _) m3 m6 c2 c3
      have hH : Hng a (RE N F' T' Al') := Tak.hng l2 (RN_pln hN _) (RN_hng hN ha) m3
      have li := left_iff hab m4 m5 hH
      rw [same] at li
      have lb := alc_le Al' N
      have e1 : (nI (alc Al' N) = 1) ↔ alc Al' N = 1 := nI_inj (b := 1) (by omega) (by omega)
      have ex : (¬ o' = 0) ↔ ∃ x, x < N ∧ isab F' T' Al' a b x := by
        rw [n3]
        constructor
        · intro z
          by_cases q : ∃ x, x < N ∧ isab F' T' Al' a b x
          · exact q
          · exact absurd (fun x hx p => q ⟨x, hx, p⟩) z
        · rintro ⟨x, hx, p⟩ z
          exact z x hx p
      rcases c4 with ⟨rfl, c5, c6⟩ | ⟨rfl, c5⟩
      · have := li.mpr ⟨c5, c6⟩
        rw [if_neg (show ¬ (1 : Int32) = 0 by decide), if_pos (e1.mpr this.1), if_neg (ex.mpr this.2)]
        exact ⟨_, _, _, _, _, _, _, rfl, rfl⟩
      · rw [if_pos rfl]
        by_cases z1 : alc Al' N = 1
        · rw [if_pos (e1.mpr z1)]
          by_cases z2 : o' = 0
          · rw [if_pos z2]
            exact ⟨_, _, _, _, _, _, _, rfl, rfl⟩
          · exact absurd (li.mp ⟨z1, ex.mp z2⟩) c5
        · rw [if_neg (fun z => z1 (e1.mp z))]
          exact ⟨_, _, _, _, _, _, _, rfl, rfl⟩
    · rw [if_neg hR, if_pos rfl, if_pos rfl]
      exact ⟨_, _, _, _, _, _, _, rfl, rfl⟩
end FALLS2
