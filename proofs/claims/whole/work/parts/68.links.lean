section LINKS
variable {N : Nat} {F T : Nat → Nat} {Al : Nat → Bool} {frm too isThere : Nat → Int32} {a b : Nat}
theorem lk_skip {k w : Nat} {one : Int32} {fr to is : Nat → Int32} (h12 : N ≤ 12) (hw : w < N) (h : is w = 0 ∨ (¬ fr w = nI k ∧ ¬ to w = nI k)) (f : Nat) : LX10_links_5 (nI N) (nI k) (f + 1) one (nI w) fr to is = LX10_links_5 (nI N) (nI k) f one (nI (w + 1)) fr to is := by
  conv => lhs; unfold LX10_links_5
  rw [if_neg (nI_ge (by omega) (by omega)), if_pos (jok_nI (by omega) (by omega)), nI_clamp (show w < 2 ^ 31 by omega), ← nI_succ]
  simp only [jlet]
  rcases h with h | ⟨h1, h2⟩
  · rw [if_pos h]
    simp only [Option.bind_some]
  · by_cases c : is w = 0
    · rw [if_pos c]
      simp only [Option.bind_some]
    · rw [if_neg c, if_neg h1, if_neg h2]
      simp only [Option.bind_some]
theorem lk_skips {k : Nat} {one : Int32} {fr to is : Nat → Int32} (h12 : N ≤ 12) : ∀ (m w f : Nat), w + m ≤ N → (∀ x, w ≤ x → x < w + m → (is x = 0 ∨ (¬ fr x = nI k ∧ ¬ to x = nI k))) → LX10_links_5 (nI N) (nI k) (f + m) one (nI w) fr to is = LX10_links_5 (nI N) (nI k) f one (nI (w + m)) fr to is
  | 0, _, _, _, _ => rfl
  | m + 1, w, f, h1, h2 => by
    rw [show f + (m + 1) = f + m + 1 by omega, lk_skip h12 (by omega) (h2 w (Nat.le_refl w) (by omega)), lk_skips h12 m (w + 1) f (by omega) (fun x a1 a2 => h2 x (by omega) (by omega)), show w + 1 + m = w + (m + 1) by omega]
/-- the other end -/
def oth (F T : Nat → Nat) (k w : Nat) : Nat := if F w = k then T w else F w
theorem lk_first {k w : Nat} {fr to is : Nat → Int32} (h12 : N ≤ 12) (hw : w < N) (hk : k < 6) (h1 : fr w = nI (F w)) (h2 : to w = nI (T w)) (h3 : F w < 6) (h4 : T w < 6) (hi : ¬ is w = 0) (ht : F w = k ∨ T w = k) (f : Nat) : LX10_links_5 (nI N) (nI k) (f + 1) (-9) (nI w) fr to is = LX10_links_5 (nI N) (nI k) f (nI w) (nI (w + 1)) (upd fr w (nI (oth F T k w))) (upd to w (nI k)) is := by
  conv => lhs; unfold LX10_links_5
  rw [if_neg (nI_ge (by omega) (by omega)), if_pos (jok_nI (by omega) (by omega)), nI_clamp (show w < 2 ^ 31 by omega), ← nI_succ]
  simp only [jlet]
  rw [if_neg hi, h1, h2]
  unfold oth
  by_cases c : F w = k
  · simp only [if_pos (show nI (F w) = nI k by rw [c]), if_pos c, if_true, Option.bind_some]
  · have c2 : T w = k := ht.resolve_left c
    simp only [if_neg (show ¬ nI (F w) = nI k from fun z => c ((nI6 h3 hk).mp z)), if_pos (show nI (T w) = nI k by rw [c2]), if_neg c, if_true, Option.bind_some]
theorem lk_second {k w x : Nat} {fr to is : Nat → Int32} (h12 : N ≤ 12) (hw : w < N) (hx : x < N) (hk : k < 6) (h1 : fr w = nI (F w)) (h2 : to w = nI (T w)) (h3 : F w < 6) (h4 : T w < 6) (hi : ¬ is w = 0) (ht : F w = k ∨ T w = k) (f : Nat) : LX10_links_5 (nI N) (nI k) (f + 1) (nI x) (nI w) fr to is = LX10_links_5 (nI N) (nI k) f (nI x) (nI (w + 1)) fr (upd to x (nI (oth F T k w))) (upd is w 0) := by
  conv => lhs; unfold LX10_links_5
  rw [if_neg (nI_ge (by omega) (by omega)), if_pos (jok_nI (by omega) (by omega)), nI_clamp (show w < 2 ^ 31 by omega), ← nI_succ]
  simp only [jlet]
  rw [if_neg hi, h1, h2, nar0]
  have n9 : ¬ nI x = -9 := nI_ne9 (by omega)
  unfold oth
  by_cases c : F w = k
  · simp only [if_pos (show nI (F w) = nI k by rw [c]), if_pos c, if_neg n9, if_pos (show jok (nI x) 12 from jok_nI (by omega) (by omega)), Option.bind_some]
    rw [nI_clamp (show x < 2 ^ 31 by omega)]
  · have c2 : T w = k := ht.resolve_left c
    simp only [if_neg (show ¬ nI (F w) = nI k from fun z => c ((nI6 h3 hk).mp z)), if_pos (show nI (T w) = nI k by rw [c2]), if_neg c, if_neg n9, if_pos (show jok (nI x) 12 from jok_nI (by omega) (by omega)), Option.bind_some]
    rw [nI_clamp (show x < 2 ^ 31 by omega)]
theorem linksOk (h : Ms N frm too isThere F T Al) {k x y : Nat} (hk : k < 6) (hxy : x < y) (hy : y < N) (tx : tch F T Al k x) (ty : tch F T Al k y) (only : ∀ w, w < N → tch F T Al k w → w = x ∨ w = y) : fX10_links (nI k) (nI N) frm too isThere = some (upd frm x (nI (oth F T k x)), upd (upd too x (nI k)) x (nI (oth F T k y)), upd isThere y 0) := by
  have h12 := h.1
  have nt : ∀ w, w < N → w ≠ x → w ≠ y → (isThere w = 0 ∨ (¬ frm w = nI k ∧ ¬ too w = nI k)) := fun w hw n1 n2 => by
    obtain ⟨m1, m2, m3, m4, m5⟩ := h.2 w hw
    by_cases c : Al w = true
    · refine Or.inr ⟨fun z => ?_, fun z => ?_⟩
      · rw [m1] at z
        rcases only w hw ⟨c, Or.inl ((nI6 m3 hk).mp z)⟩ with q | q
        · exact n1 q
        · exact n2 q
      · rw [m2] at z
        rcases only w hw ⟨c, Or.inr ((nI6 m4 hk).mp z)⟩ with q | q
        · exact n1 q
        · exact n2 q
    · exact Or.inl ((h.al hw).mpr c)
  obtain ⟨x1, x2, x3, x4, x5⟩ := h.2 x (by omega)
  obtain ⟨y1, y2, y3, y4, y5⟩ := h.2 y hy
  have un : ∀ (g : Nat → Int32) (v : Int32) (w : Nat), w ≠ x → upd g x v w = g w := fun g v w e => by
    unfold upd
    rw [if_neg e]
  unfold fX10_links
  have s0 := lk_skips (k := k) (one := -9) (fr := frm) (to := too) (is := isThere) h12 x 0 (5000 - x) (by omega) (fun w _ a2 => nt w (by omega) (by omega) (by omega))
  rw [show 5000 - x + x = 5000 by omega, Nat.zero_add] at s0
  have s0 : LX10_links_5 (nI N) (nI k) 5000 (-9 : Int32) (0 : Int32) frm too isThere = LX10_links_5 (nI N) (nI k) (5000 - x) (-9) (nI x) frm too isThere := s0
  rw [s0, show 5000 - x = (5000 - x - 1) + 1 by omega, lk_first h12 (by omega) hk x1 x2 x3 x4 (fun z => (h.al (by omega)).mp z tx.1) tx.2]
  have s1 := lk_skips (k := k) (one := nI x) (fr := upd frm x (nI (oth F T k x))) (to := upd too x (nI k)) (is := isThere) h12 (y - (x + 1)) (x + 1) (5000 - x - 1 - (y - (x + 1))) (by omega) (fun w a1 a2 => by
    rw [un _ _ w (by omega), un _ _ w (by omega)]
    exact nt w (by omega) (by omega) (by omega))
  rw [show 5000 - x - 1 - (y - (x + 1)) + (y - (x + 1)) = 5000 - x - 1 by omega, show x + 1 + (y - (x + 1)) = y by omega] at s1
  rw [s1, show 5000 - x - 1 - (y - (x + 1)) = (5000 - x - 1 - (y - (x + 1)) - 1) + 1 by omega, lk_second (F := F) (T := T) h12 hy (by omega) hk (by rw [un _ _ y (by omega)]; exact y1) (by rw [un _ _ y (by omega)]; exact y2) y3 y4 (fun z => (h.al hy).mp z ty.1) ty.2]
  have s2 := lk_skips (k := k) (one := nI x) (fr := upd frm x (nI (oth F T k x))) (to := upd (upd too x (nI k)) x (nI (oth F T k y))) (is := upd isThere y 0) h12 (N - (y + 1)) (y + 1) (5000 - x - 1 - (y - (x + 1)) - 1 - (N - (y + 1))) (by omega) (fun w a1 a2 => by
    rw [un _ _ w (by omega), un _ _ w (by omega), un _ _ w (by omega)]
    unfold upd
    rw [if_neg (show w ≠ y by omega)]
    exact nt w (by omega) (by omega) (by omega))
  rw [show 5000 - x - 1 - (y - (x + 1)) - 1 - (N - (y + 1)) + (N - (y + 1)) = 5000 - x - 1 - (y - (x + 1)) - 1 by omega, show y + 1 + (N - (y + 1)) = N by omega] at s2
  rw [s2, show 5000 - x - 1 - (y - (x + 1)) - 1 - (N - (y + 1)) = (5000 - x - 1 - (y - (x + 1)) - 1 - (N - (y + 1)) - 1) + 1 by omega]
  unfold LX10_links_5
  rw [if_pos (nI_le (Nat.le_refl N) (by omega))]
  rfl
/-- no two wires between the same knots -/
def Nop (N : Nat) (F T : Nat → Nat) (Al : Nat → Bool) : Prop := ∀ w, w < N → Al w = true → ∀ v, v < w → ¬ prl F T Al w v
def setN (f : Nat → Nat) (x e : Nat) : Nat → Nat := fun w => if w = x then e else f w
theorem oth_p (F T : Nat → Nat) {k w : Nat} (hne : F w ≠ T w) (ht : F w = k ∨ T w = k) : oth F T k w ≠ k ∧ ((F w = k ∧ T w = oth F T k w) ∨ (T w = k ∧ F w = oth F T k w)) := by
  unfold oth
  by_cases c : F w = k
  · rw [if_pos c]
    exact ⟨fun z => hne (c.trans z.symm), Or.inl ⟨c, rfl⟩⟩
  · rw [if_neg c]
    exact ⟨c, Or.inr ⟨ht.resolve_left c, rfl⟩⟩
theorem links_R (h : Ms N frm too isThere F T Al) (hl : Nol N F T Al) (hp : Nop N F T Al) {k x y : Nat} (hk : k < 6) (hxy : x < y) (hy : y < N) (tx : tch F T Al k x) (ty : tch F T Al k y) (only : ∀ w, w < N → tch F T Al k w → w = x ∨ w = y) : Ms N (upd frm x (nI (oth F T k x))) (upd (upd too x (nI k)) x (nI (oth F T k y))) (upd isThere y 0) (setN F x (oth F T k x)) (setN T x (oth F T k y)) (kil Al y) ∧ D2 (RE N F T Al) k ∧ RE N (setN F x (oth F T k x)) (setN T x (oth F T k y)) (kil Al y) = elm (RE N F T Al) k := by
  have hx : x < N := by omega
  obtain ⟨x1, x2, x3, x4, x5⟩ := h.2 x hx
  obtain ⟨y1, y2, y3, y4, y5⟩ := h.2 y hy
  have lx := hl x hx tx.1
  have ly := hl y hy ty.1
  obtain ⟨nx, px⟩ := oth_p F T lx tx.2
  obtain ⟨ny, py⟩ := oth_p F T ly ty.2
  have bx : oth F T k x < 6 := by
    unfold oth
    split <;> assumption
  have by6 : oth F T k y < 6 := by
    unfold oth
    split <;> assumption
  generalize hex : oth F T k x = ex at *
  generalize hey : oth F T k y = ey at *
  have nxy : ex ≠ ey := fun z => by
    refine hp y hy ty.1 x hxy ⟨tx.1, ?_⟩
    rcases px with ⟨p1, p2⟩ | ⟨p1, p2⟩ <;> rcases py with ⟨q1, q2⟩ | ⟨q1, q2⟩
    · exact Or.inl ⟨p1.trans q1.symm, p2.trans (z.trans q2.symm)⟩
    · exact Or.inr ⟨p1.trans q1.symm, p2.trans (z.trans q2.symm)⟩
    · exact Or.inr ⟨p2.trans (z.trans q2.symm), p1.trans q1.symm⟩
    · exact Or.inl ⟨p2.trans (z.trans q2.symm), p1.trans q1.symm⟩
  have rk : ∀ u, RE N F T Al k u ↔ (u = ex ∨ u = ey) := fun u => by
    constructor
    · rintro ⟨w, h1, h2, h3, h4⟩
      have tw : tch F T Al k w := ⟨h2, h4.imp (fun q => q.1.symm) (fun q => q.1.symm)⟩
      rcases only w h1 tw with e | e
      · subst e
        rcases h4 with ⟨q1, q2⟩ | ⟨q1, q2⟩ <;> rcases px with ⟨p1, p2⟩ | ⟨p1, p2⟩
        · exact Or.inl (q2.trans p2)
        · exact absurd (q1.symm.trans p1.symm) h3
        · exact absurd (p1.trans q1) h3
        · exact Or.inl (q2.trans p2)
      · subst e
        rcases h4 with ⟨q1, q2⟩ | ⟨q1, q2⟩ <;> rcases py with ⟨p1, p2⟩ | ⟨p1, p2⟩
        · exact Or.inr (q2.trans p2)
        · exact absurd (q1.symm.trans p1.symm) h3
        · exact absurd (p1.trans q1) h3
        · exact Or.inr (q2.trans p2)
    · rintro (e | e)
      · rw [e]
        exact ⟨x, hx, tx.1, lx, px.imp (fun q => ⟨q.1.symm, q.2.symm⟩) (fun q => ⟨q.1.symm, q.2.symm⟩)⟩
      · rw [e]
        exact ⟨y, hy, ty.1, ly, py.imp (fun q => ⟨q.1.symm, q.2.symm⟩) (fun q => ⟨q.1.symm, q.2.symm⟩)⟩
  refine ⟨⟨h.1, fun w hw => ?_⟩, fun u v w hu hv hw => ?_, ?_⟩
  · obtain ⟨m1, m2, m3, m4, m5⟩ := h.2 w hw
    unfold upd setN
    by_cases e : w = x
    · simp only [if_pos e]
      refine ⟨trivial, trivial, bx, by6, ?_⟩
      rw [if_neg (show ¬ w = y by omega), m5]
      unfold kil
      rw [if_neg (show ¬ w = y by omega)]
    · simp only [if_neg e]
      refine ⟨m1, m2, m3, m4, ?_⟩
      unfold kil
      by_cases e2 : w = y
      · rw [if_pos e2, if_pos e2]; rfl
      · rw [if_neg e2, if_neg e2, m5]
  · have a1 := (rk u).mp hu
    have a2 := (rk v).mp hv
    have a3 := (rk w).mp hw
    omega
  · funext u v
    refine propext ⟨?_, ?_⟩
    · rintro ⟨w, h1, h2, h3, h4⟩
      have hw := kil_iff.mp h2
      by_cases e : w = x
      · subst e
        unfold setN at h4
        rw [if_pos rfl, if_pos rfl] at h4
        rcases h4 with ⟨q1, q2⟩ | ⟨q1, q2⟩
        · rw [q1, q2]; exact ⟨nx, ny, nxy, Or.inr ⟨(rk ex).mpr (Or.inl rfl), (rk ey).mpr (Or.inr rfl)⟩⟩
        · rw [q1, q2]; exact ⟨ny, nx, Ne.symm nxy, Or.inr ⟨(rk ey).mpr (Or.inr rfl), (rk ex).mpr (Or.inl rfl)⟩⟩
      · unfold setN at h3 h4
        rw [if_neg e, if_neg e] at h3 h4
        have nF : F w ≠ k := fun q => by
          rcases only w h1 ⟨hw.2, Or.inl q⟩ with z | z
          · exact e z
          · exact hw.1 z
        have nT : T w ≠ k := fun q => by
          rcases only w h1 ⟨hw.2, Or.inr q⟩ with z | z
          · exact e z
          · exact hw.1 z
        rcases h4 with ⟨q1, q2⟩ | ⟨q1, q2⟩
        · rw [q1, q2]; exact ⟨nF, nT, h3, Or.inl ⟨w, h1, hw.2, h3, Or.inl ⟨rfl, rfl⟩⟩⟩
        · rw [q1, q2]; exact ⟨nT, nF, Ne.symm h3, Or.inl ⟨w, h1, hw.2, h3, Or.inr ⟨rfl, rfl⟩⟩⟩
    · rintro ⟨z1, z2, z3, z4 | ⟨z4, z5⟩⟩
      · obtain ⟨w, h1, h2, h3, h4⟩ := z4
        have ne : ∀ t, tch F T Al k t → w ≠ t := fun t tt q => by
          rw [q] at h4
          rcases h4 with ⟨q1, q2⟩ | ⟨q1, q2⟩ <;> rcases tt.2 with tt | tt
          · exact z1 (q1.trans tt)
          · exact z2 (q2.trans tt)
          · exact z2 (q2.trans tt)
          · exact z1 (q1.trans tt)
        refine ⟨w, h1, kil_iff.mpr ⟨ne y ty, h2⟩, ?_, ?_⟩
        · unfold setN
          rw [if_neg (ne x tx), if_neg (ne x tx)]
          exact h3
        · unfold setN
          rw [if_neg (ne x tx), if_neg (ne x tx)]
          exact h4
      · refine ⟨x, hx, kil_iff.mpr ⟨by omega, tx.1⟩, ?_, ?_⟩
        · unfold setN
          rw [if_pos rfl, if_pos rfl]
          exact nxy
        · unfold setN
          rw [if_pos rfl, if_pos rfl]
          rcases (rk u).mp z4 with p | p <;> rcases (rk v).mp z5 with q | q
          · exact absurd (p.trans q.symm) z3
          · exact Or.inl ⟨p, q⟩
          · exact Or.inr ⟨p, q⟩
          · exact absurd (p.trans q.symm) z3
end LINKS
