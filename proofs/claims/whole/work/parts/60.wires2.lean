/-! the wires of both -/
def WR (N : Nat) (wk w1 w2 wq wm : Nat → Int32) (flows : Nat → Int64) (kind first second times byy : Nat → Int32) : Prop := N ≤ 12 ∧ ∀ w, w < N → ∃ (kd a b t u : Nat) (tr : Int32), kd ≤ 2 ∧ a < 6 ∧ b < 6 ∧ a ≠ b ∧ (1 ≤ t ∧ t ≤ 4 ∧ 1 ≤ u ∧ u ≤ 4) ∧ (wk w = nI kd ∧ w1 w = nI a ∧ w2 w = nI b ∧ flows w = Zl ((12 * u / t : Nat) : Int)) ∧ (kind w = nI kd ∧ first w = nI a ∧ second w = nI b ∧ times w = nI t ∧ byy w = nI u) ∧ fmeas (wk w) (wq w) (wm w) = some (tr, Zl t, Zl u) ∧ tr.toInt64 = if kd = 0 then 1 else if kd = 1 then 11 else 111
theorem meas1 : ∀ t : Fin 5, fX2_measure (nI t.1) = some (11, Zl (t.1 : Int), Zl ((1 : Nat) : Int)) := by decide +kernel
theorem meas2 : ∀ t u : Fin 5, fX8_measure (nI t.1) (nI u.1) = some (111, Zl (t.1 : Int), Zl (u.1 : Int)) := by decide +kernel
theorem flow64 : ∀ u t : Fin 5, t.1 ≠ 0 → ¬ Zl (t.1 : Int) = 0 ∧ (12 : Int64) * Zl (u.1 : Int) / Zl (t.1 : Int) = Zl ((12 * u.1 / t.1 : Nat) : Int) := by decide +kernel
theorem nI64 : ∀ t : Fin 5, (nI t.1).toInt64 = Zl (t.1 : Int) := by decide +kernel
section WRS
variable {N : Nat} {wk w1 w2 wq wm kind first second times byy : Nat → Int32} {flows : Nat → Int64}
theorem WR.same (h : WR N wk w1 w2 wq wm flows kind first second times byy) : Same N (fun w => (w1 w).toNatClampNeg) (fun w => (w2 w).toNatClampNeg) (fun w => (times w).toNatClampNeg) (fun w => (byy w).toNatClampNeg) w1 w2 flows first second times byy := by
  have key : ∀ w, w < N → _ := h.2
  refine ⟨⟨h.1, fun w hw => ?_⟩, fun w hw => ?_, fun w hw => ?_, fun w hw => ?_, fun w hw => ?_⟩
  all_goals
    obtain ⟨kd, a, b, t, u, tr, -, ha, hb, hab, ⟨t1, t2, t3, t4⟩, ⟨e1, e2, e3, e4⟩, ⟨f1, f2, f3, f4, f5⟩, -, -⟩ := key w hw
  · show (w1 w).toNatClampNeg < 6 ∧ (w2 w).toNatClampNeg < 6 ∧ (w1 w).toNatClampNeg ≠ (w2 w).toNatClampNeg
    rw [e2, e3, nI_clamp (by omega), nI_clamp (by omega)]
    exact ⟨ha, hb, hab⟩
  · show w1 w = nI (w1 w).toNatClampNeg ∧ w2 w = nI (w2 w).toNatClampNeg
    rw [e2, e3, nI_clamp (by omega), nI_clamp (by omega)]
    exact ⟨rfl, rfl⟩
  · show flows w = Zl ((12 * (byy w).toNatClampNeg / (times w).toNatClampNeg : Nat) : Int)
    rw [f4, f5, nI_clamp (by omega), nI_clamp (by omega), e4]
  · show first w = nI (w1 w).toNatClampNeg ∧ second w = nI (w2 w).toNatClampNeg
    rw [e2, e3, nI_clamp (by omega), nI_clamp (by omega)]
    exact ⟨f2, f3⟩
  · show times w = nI (times w).toNatClampNeg ∧ byy w = nI (byy w).toNatClampNeg ∧ 1 ≤ (times w).toNatClampNeg ∧ (times w).toNatClampNeg ≤ 4 ∧ 1 ≤ (byy w).toNatClampNeg ∧ (byy w).toNatClampNeg ≤ 4
    rw [f4, f5, nI_clamp (by omega), nI_clamp (by omega)]
    exact ⟨rfl, rfl, t1, t2, t3, t4⟩
theorem cut_same (h : WR N wk w1 w2 wq wm flows kind first second times byy) : ∃ (r : Int32) (N' : Nat), fX9_cut (nI N) = some (r, nI N') ∧ fX10_cut (nI N) = some (r, 0, nI N') ∧ WR N' wk w1 w2 wq wm flows kind first second times byy := by
  have h12 := h.1
  unfold fX9_cut fX10_cut fX3_size
  simp only [Option.bind_some]
  by_cases c : N = 0
  · subst c
    rw [if_pos (show nI 0 = 0 by decide), if_pos (show nI 0 = 0 by decide)]
    exact ⟨_, 0, rfl, rfl, h⟩
  · obtain ⟨n, rfl⟩ : ∃ n, N = n + 1 := ⟨N - 1, by omega⟩
    have e : nI (n + 1) - 1 = nI n := by
      rw [nI_succ]
      exact Int32.add_sub_cancel _ _
    rw [if_neg (nI_ne0 (by omega) (by omega)), if_neg (nI_ne0 (by omega) (by omega)), e, if_pos (jok_nI (by omega) (by omega)), nI_clamp (show n < 2 ^ 31 by omega), nI_clamp (show n + 1 < 2 ^ 31 by omega), if_pos (by omega)]
    exact ⟨_, n, rfl, rfl, by omega, fun w hw => h.2 w (by omega)⟩
theorem in02 (a2 : Int32) : fX10_in a2 0 2 = some (if a2 = 0 ∨ a2 = 1 ∨ a2 = 2 then 1 else 0) := by
  have h := within_c a2 0 2 (by decide) (by decide)
  rcases h with ⟨-, h2⟩ | ⟨k, -, hk, ek, -, h2⟩
  · have h2 : fX10_in a2 0 2 = some 0 := h2
    rw [h2, if_neg]
    rintro (rfl | rfl | rfl)
    · exact absurd h2 (by decide)
    · exact absurd h2 (by decide)
    · exact absurd h2 (by decide)
  · have h2 : fX10_in a2 0 2 = some 1 := h2
    rw [h2, if_pos]
    rcases (show k = 0 ∨ k = 1 ∨ k = 2 by omega) with rfl | rfl | rfl
    · exact Or.inl ek
    · exact Or.inr (Or.inl ek)
    · exact Or.inr (Or.inr ek)
theorem about_same (h : WR N wk w1 w2 wq wm flows kind first second times byy) (a1 a2 : Int32) : ∃ r, fX9_about a1 a2 (nI N) wk w1 w2 = some r ∧ fX10_about a1 a2 (nI N) kind first second = some (r, 0) := by
  have h12 := h.1
  unfold fX9_about fX10_about
  rw [nI_clamp (show N < 2 ^ 31 by omega)]
  rcases wire_c a1 h12 with ⟨q1, q2⟩ | ⟨v, hv, rfl, q2⟩
  · rw [if_neg q1, q2]
    exact ⟨_, rfl, rfl⟩
  · obtain ⟨kd, a, b, t, u, tr, -, ha, hb, hab, -, ⟨e1, e2, e3, e4⟩, ⟨f1, f2, f3, f4, f5⟩, -, -⟩ := h.2 v hv
    rw [if_pos (jok_nI hv (by omega)), q2, in02]
    simp only [Option.bind_some]
    simp only [if_pos (show jok (nI v) 12 from jok_nI (by omega) (by omega))]
    rw [if_neg (show ¬ (1 : Int32) = 0 by decide), nI_clamp (show v < 2 ^ 31 by omega), e1, e2, e3, f1, f2, f3]
    by_cases c0 : a2 = 0
    · subst c0
      exact ⟨_, rfl, rfl⟩
    · by_cases c1 : a2 = 1
      · subst c1
        exact ⟨_, rfl, rfl⟩
      · by_cases c2 : a2 = 2
        · subst c2
          exact ⟨_, rfl, rfl⟩
        · rw [if_neg c0, if_neg c1, if_neg c2, if_neg (show ¬ (a2 = 0 ∨ a2 = 1 ∨ a2 = 2) from fun z => z.elim c0 (fun z => z.elim c1 c2))]
          exact ⟨_, rfl, rfl⟩
theorem ohms_same (h : WR N wk w1 w2 wq wm flows kind first second times byy) (a1 a2 : Int32) (tr au al ab bl : Int64) : ∃ (r : Int32) (tr' au' al' ab' bl' : Int64), fX9_ohms a1 a2 (nI N) wk wq wm tr au al = some (r, tr', au', al') ∧ fX10_ohms a1 a2 tr (nI N) kind times byy ab bl = some (r, 0, tr', ab', bl') := by
  have h12 := h.1
  unfold fX9_ohms fX10_ohms
  rw [nI_clamp (show N < 2 ^ 31 by omega)]
  rcases wire_c a1 h12 with ⟨q1, q2⟩ | ⟨v, hv, rfl, q2⟩
  · rw [if_neg q1, q2]
    exact ⟨_, _, _, _, _, _, rfl, rfl⟩
  · obtain ⟨kd, a, b, t, u, tr1, hkd, ha, hb, hab, ⟨t1, t2, t3, t4⟩, ⟨e1, e2, e3, e4⟩, ⟨f1, f2, f3, f4, f5⟩, g1, g2⟩ := h.2 v hv
    rw [if_pos (jok_nI hv (by omega)), q2]
    simp only [Option.bind_some]
    rw [if_neg (show ¬ (1 : Int32) = 0 by decide)]
    have hp := within_c a2 0 1 (by decide) (by decide)
    have hp : (fX9_isWithin a2 0 1 = some 0 ∧ fX10_in a2 0 1 = some 0) ∨ ∃ k, 0 ≤ k ∧ k ≤ 1 ∧ a2 = nI k ∧ fX9_isWithin a2 0 1 = some 1 ∧ fX10_in a2 0 1 = some 1 := hp
    rcases hp with ⟨q5, q6⟩ | ⟨k, -, hk, e5, q5, q6⟩
    · rw [q5, q6]
      exact ⟨_, _, _, _, _, _, rfl, rfl⟩
    · rw [q5, q6]
      simp only [Option.bind_some, jlet]
      rw [if_neg (show ¬ (1 : Int32) = 0 by decide), if_neg (show ¬ (1 : Int32) = 0 by decide), if_pos (jok_nI (show v < 12 by omega) (by omega)), nI_clamp (show v < 2 ^ 31 by omega), g1, f1, f4, f5, nI64 ⟨t, by omega⟩, nI64 ⟨u, by omega⟩]
      simp only [Option.bind_some]
      rw [reduceOk (u := (t : Int)) (d := u) (by omega) (by omega) (by omega), leastOk (u := (t : Int)) (d := u) (by omega) (by omega) (by omega)]
      simp only [Option.bind_some]
      have ek : (if nI kd = 0 then (1 : Int64) else if nI kd = 1 then 11 else 111) = tr1.toInt64 := by
        rw [g2]
        rcases (show kd = 0 ∨ kd = 1 ∨ kd = 2 by omega) with rfl | rfl | rfl <;> decide
      rw [ek]
      unfold fX0_part
      rcases part_c e5 hk with rfl | rfl
      · exact ⟨_, _, _, _, _, _, rfl, rfl⟩
      · exact ⟨_, _, _, _, _, _, rfl, rfl⟩
theorem WR.add (h : WR N wk w1 w2 wq wm flows kind first second times byy) (hN : N < 12) {kd a b t u : Nat} {tr : Int32} {q4 q5 : Int32} (h1 : kd ≤ 2) (ha : a < 6) (hb : b < 6) (hab : a ≠ b) (ht : 1 ≤ t ∧ t ≤ 4 ∧ 1 ≤ u ∧ u ≤ 4) (hm : fmeas (nI kd) q4 q5 = some (tr, Zl t, Zl u)) (htr : tr.toInt64 = if kd = 0 then 1 else if kd = 1 then 11 else 111) : WR (N + 1) (upd wk N (nI kd)) (upd w1 N (nI a)) (upd w2 N (nI b)) (upd wq N q4) (upd wm N q5) (vp_updL flows N (Zl ((12 * u / t : Nat) : Int))) (upd kind N (nI kd)) (upd first N (nI a)) (upd second N (nI b)) (upd times N (nI t)) (upd byy N (nI u)) := by
  refine ⟨by omega, fun w hw => ?_⟩
  unfold upd vp_updL
  by_cases e : w = N
  · simp only [if_pos e]
    exact ⟨kd, a, b, t, u, tr, h1, ha, hb, hab, ht, ⟨rfl, rfl, rfl, rfl⟩, ⟨rfl, rfl, rfl, rfl, rfl⟩, hm, htr⟩
  · simp only [if_neg e]
    exact h.2 w (by omega)
theorem wire_same (h : WR N wk w1 w2 wq wm flows kind first second times byy) (a1 a2 a3 a4 a5 : Int32) (mu ml : Int64) : ∃ (r : Int32) (N' : Nat) (wk' w1' w2' wq' wm' : Nat → Int32) (flows' : Nat → Int64) (mu' ml' : Int64) (kind' first' second' times' byy' : Nat → Int32), fX9_wire a1 a2 a3 a4 a5 (nI N) wk w1 w2 wq wm flows mu ml = some (r, nI N', wk', w1', w2', wq', wm', flows', mu', ml') ∧ fX10_wire a1 a2 a3 a4 a5 (nI N) kind first second times byy = some (r, 0, nI N', kind', first', second', times', byy') ∧ WR N' wk' w1' w2' wq' wm' flows' kind' first' second' times' byy' := by
  have h12 := h.1
  unfold fX9_wire fX10_wire
  have hk := within_c a1 0 2 (by decide) (by decide)
  have hk : (fX9_isWithin a1 0 2 = some 0 ∧ fX10_in a1 0 2 = some 0) ∨ ∃ k, 0 ≤ k ∧ k ≤ 2 ∧ a1 = nI k ∧ fX9_isWithin a1 0 2 = some 1 ∧ fX10_in a1 0 2 = some 1 := hk
  rcases hk with ⟨q1, q2⟩ | ⟨kd, -, hkd, rfl, q1, q2⟩
  · rw [q1, q2]
    exact ⟨_, N, _, _, _, _, _, _, _, _, _, _, _, _, _, rfl, rfl, h⟩
  · rw [q1, q2]
    simp only [Option.bind_some]
    rw [if_neg (show ¬ (1 : Int32) = 0 by decide), if_neg (show ¬ (1 : Int32) = 0 by decide)]
    rcases two_c a2 a3 with ⟨q3, q4⟩ | ⟨a, b, ha, hb, hab, rfl, rfl, q3, q4, q5⟩
    · rw [q3]
      rcases q4 with q4 | ⟨q4, q5⟩ | ⟨q4, q5, q6⟩
      · rw [q4]
        exact ⟨_, N, _, _, _, _, _, _, _, _, _, _, _, _, _, rfl, rfl, h⟩
      · rw [q4, q5]
        exact ⟨_, N, _, _, _, _, _, _, _, _, _, _, _, _, _, rfl, rfl, h⟩
      · rw [q4, q5]
        simp only [Option.bind_some]
        rw [if_neg (show ¬ (1 : Int32) = 0 by decide), if_pos q6]
        exact ⟨_, N, _, _, _, _, _, _, _, _, _, _, _, _, _, rfl, rfl, h⟩
    · rw [q3, q4, q5]
      simp only [Option.bind_some]
      have hne : ¬ nI a = nI b := fun z => hab ((nI_inj (by omega) (by omega)).mp z)
      rw [if_neg (show ¬ (1 : Int32) = 0 by decide), if_neg (show ¬ (1 : Int32) = 0 by decide), if_neg (show ¬ (1 : Int32) = 0 by decide), if_neg hne]
      have s1 : (nI (N + 1)).toNatClampNeg = N + 1 := nI_clamp (by omega)
      have fin : ∀ (t u : Nat) (tr : Int32), (1 ≤ t ∧ t ≤ 4 ∧ 1 ≤ u ∧ u ≤ 4) → fmeas (nI kd) a4 a5 = some (tr, Zl t, Zl u) → (tr.toInt64 = if kd = 0 then 1 else if kd = 1 then 11 else 111) → nI t = (if nI kd ≤ 0 then (1 : Int32) else a4) → nI u = (if nI kd = 2 then a5 else (1 : Int32)) → ∃ (r : Int32) (N' : Nat) (wk' w1' w2' wq' wm' : Nat → Int32) (flows' : Nat → Int64) (mu' ml' : Int64) (kind' first' second' times' byy' : Nat → Int32), ((fX3_size (nI N)).bind (fun o_23 => if o_23 < (12 : Int32) then if nI kd = 0 ∨ nI kd = 1 ∨ nI kd = 2 then if jok (nI N) 12 then if (nI N + 1).toNatClampNeg = (nI N).toNatClampNeg + 1 then (fX3_flowOf (nI kd) a4 a5).bind (fun o_29 => some ((nI N + 1 - 1), (nI N + 1), upd wk (nI N).toNatClampNeg (nI kd), upd w1 (nI N).toNatClampNeg (nI a), upd w2 (nI N).toNatClampNeg (nI b), upd wq (nI N).toNatClampNeg a4, upd wm (nI N).toNatClampNeg a5, vp_updL flows (nI N).toNatClampNeg o_29.1, o_29.2.1, o_29.2.2)) else none else none else none else some ((-3 : Int32), nI N, wk, w1, w2, wq, wm, flows, mu, ml))) = some (r, nI N', wk', w1', w2', wq', wm', flows', mu', ml') ∧ (if nI N = (12 : Int32) then some ((-3 : Int32), (0 : Int32), nI N, kind, first, second, times, byy) else if jok (nI N) 12 then some (((nI N + (1 : Int32)) - (1 : Int32)), (0 : Int32), (nI N + (1 : Int32)), upd kind (nI N).toNatClampNeg (nI kd), upd first (nI N).toNatClampNeg (nI a), upd second (nI N).toNatClampNeg (nI b), upd times (nI N).toNatClampNeg (if nI kd ≤ 0 then (1 : Int32) else a4), upd byy (nI N).toNatClampNeg (if nI kd = 2 then a5 else (1 : Int32))) else none) = some (r, 0, nI N', kind', first', second', times', byy') ∧ WR N' wk' w1' w2' wq' wm' flows' kind' first' second' times' byy' := by
        intro t u tr htu hm htr et eu
        unfold fX3_size
        simp only [Option.bind_some]
        by_cases c : N = 12
        · subst c
          rw [if_neg (show ¬ nI 12 < 12 by decide), if_pos (show nI 12 = 12 by decide)]
          exact ⟨_, 12, _, _, _, _, _, _, _, _, _, _, _, _, _, rfl, rfl, h⟩
        · have hkk : nI kd = 0 ∨ nI kd = 1 ∨ nI kd = 2 := by
            rcases (show kd = 0 ∨ kd = 1 ∨ kd = 2 by omega) with rfl | rfl | rfl
            · exact Or.inl rfl
            · exact Or.inr (Or.inl rfl)
            · exact Or.inr (Or.inr rfl)
          have f6 := flow64 ⟨u, by omega⟩ ⟨t, by omega⟩ (by show t ≠ 0; omega)
          have hfl : fX3_flowOf (nI kd) a4 a5 = some (Zl ((12 * u / t : Nat) : Int), Zl t, Zl u) := by
            unfold fX3_flowOf
            rw [hm]
            simp only [Option.bind_some]
            rw [if_neg f6.1, if_pos f6.1]
            exact congrArg (fun z => some (z, Zl (t : Int), Zl (u : Int))) f6.2
          rw [if_pos (show nI N < 12 from nI_lt (b := 12) (by omega) (by omega)), if_pos hkk, if_neg (show ¬ nI N = 12 from fun z => c ((nI_inj (b := 12) (by omega) (by omega)).mp z))]
          simp only [if_pos (show jok (nI N) 12 from jok_nI (by omega) (by omega))]
          rw [← nI_succ, s1, nI_clamp (show N < 2 ^ 31 by omega), if_pos rfl, hfl, ← et, ← eu]
          exact ⟨_, N + 1, _, _, _, _, _, _, _, _, _, _, _, _, _, rfl, rfl, h.add (by omega) hkd ha hb hab htu hm htr⟩
      rcases (show kd = 0 ∨ kd = 1 ∨ kd = 2 by omega) with rfl | rfl | rfl
      · rw [if_pos (show nI 0 < 1 by decide), if_pos (show nI 0 ≤ 0 by decide), if_pos (show nI 0 < 2 by decide), if_neg (show ¬ nI 0 = 2 by decide)]
        simp only [Option.bind_some, jex, jlet]
        exact fin 1 1 1 (by decide) rfl rfl rfl rfl
      · rw [if_neg (show ¬ nI 1 < 1 by decide), if_neg (show ¬ nI 1 ≤ 0 by decide), if_pos (show nI 1 < 2 by decide), if_neg (show ¬ nI 1 = 2 by decide)]
        have hp := within_c a4 1 4 (by decide) (by decide)
        have hp : (fX9_isWithin a4 1 4 = some 0 ∧ fX10_in a4 1 4 = some 0) ∨ ∃ k, 1 ≤ k ∧ k ≤ 4 ∧ a4 = nI k ∧ fX9_isWithin a4 1 4 = some 1 ∧ fX10_in a4 1 4 = some 1 := hp
        rcases hp with ⟨q7, q8⟩ | ⟨t, ht1, ht2, et, q7, q8⟩
        · rw [q7, q8]
          exact ⟨_, N, _, _, _, _, _, _, _, _, _, _, _, _, _, rfl, rfl, h⟩
        · rw [q7, q8]
          simp only [Option.bind_some]
          rw [if_neg (show ¬ (1 : Int32) = 0 by decide), if_neg (show ¬ (1 : Int32) = 0 by decide)]
          simp only [Option.bind_some, jex, jlet]
          exact fin t 1 11 ⟨ht1, ht2, by decide, by decide⟩ (by rw [et]; exact meas1 ⟨t, by omega⟩) rfl et.symm rfl
      · rw [if_neg (show ¬ nI 2 < 1 by decide), if_neg (show ¬ nI 2 ≤ 0 by decide), if_neg (show ¬ nI 2 < 2 by decide), if_pos (show nI 2 = 2 by decide)]
        have hp := within_c a4 1 4 (by decide) (by decide)
        have hp : (fX9_isWithin a4 1 4 = some 0 ∧ fX10_in a4 1 4 = some 0) ∨ ∃ k, 1 ≤ k ∧ k ≤ 4 ∧ a4 = nI k ∧ fX9_isWithin a4 1 4 = some 1 ∧ fX10_in a4 1 4 = some 1 := hp
        rcases hp with ⟨q7, q8⟩ | ⟨t, ht1, ht2, et, q7, q8⟩
        · rw [q7, q8]
          exact ⟨_, N, _, _, _, _, _, _, _, _, _, _, _, _, _, rfl, rfl, h⟩
        · rw [q7, q8]
          simp only [Option.bind_some]
          rw [if_neg (show ¬ (1 : Int32) = 0 by decide), if_neg (show ¬ (1 : Int32) = 0 by decide)]
          simp only [Option.bind_some, jex]
          have hp := within_c a5 1 4 (by decide) (by decide)
          have hp : (fX9_isWithin a5 1 4 = some 0 ∧ fX10_in a5 1 4 = some 0) ∨ ∃ k, 1 ≤ k ∧ k ≤ 4 ∧ a5 = nI k ∧ fX9_isWithin a5 1 4 = some 1 ∧ fX10_in a5 1 4 = some 1 := hp
          rcases hp with ⟨q9, q10⟩ | ⟨u, hu1, hu2, eu, q9, q10⟩
          · rw [q9, q10]
            exact ⟨_, N, _, _, _, _, _, _, _, _, _, _, _, _, _, rfl, rfl, h⟩
          · rw [q9, q10]
            simp only [Option.bind_some]
            rw [if_neg (show ¬ (1 : Int32) = 0 by decide), if_neg (show ¬ (1 : Int32) = 0 by decide)]
            simp only [jlet]
            exact fin t u 111 ⟨ht1, ht2, hu1, hu2⟩ (by rw [et, eu]; exact meas2 ⟨t, by omega⟩ ⟨u, by omega⟩) rfl et.symm eu.symm
end WRS
