section LESS
variable {N : Nat} {F T : Nat → Nat} {Al : Nat → Bool} {frm too isThere : Nat → Int32} {a b : Nat}
/-- nothing of the first kinds is left at x -/
def Fine (N a b : Nat) (F T : Nat → Nat) (Al : Nat → Bool) (x : Nat) : Prop := Al x = true → F x ≠ T x ∧ (∀ v, v < x → ¬ prl F T Al x v) ∧ (F x ≠ a → F x ≠ b → atc F T Al (F x) N ≠ 1) ∧ (T x ≠ a → T x ≠ b → atc F T Al (T x) N ≠ 1)
/-- x may go -/
def MayGo (N a b : Nat) (F T : Nat → Nat) (Al : Nat → Bool) (x : Nat) : Prop := Al x = true ∧ (F x = T x ∨ (F x ≠ T x ∧ ((∃ v, v < x ∧ prl F T Al x v) ∨ (F x ≠ a ∧ F x ≠ b ∧ atc F T Al (F x) N = 1) ∨ (T x ≠ a ∧ T x ≠ b ∧ atc F T Al (T x) N = 1))))
theorem nar0 : vp_nar .boolean (0 : Int32) = 0 := by decide
theorem nar1 : vp_nar .boolean (1 : Int32) = 1 := by decide
theorem le2 (h : Ms N frm too isThere F T Al) (ha : a < 6) (hb : b < 6) : ∀ (r w : Nat), w + r = N → ∀ fuel, r < fuel → (LX10_lessens_2 (nI N) frm too isThere (nI a) (nI b) fuel (nI w) = some (.inl ()) ∧ ∀ x, w ≤ x → x < N → Fine N a b F T Al x) ∨ ∃ x, x < N ∧ LX10_lessens_2 (nI N) frm too isThere (nI a) (nI b) fuel (nI w) = some (.inr (1, frm, too, upd isThere x 0)) ∧ MayGo N a b F T Al x := by
  have h12 := h.1
  intro r
  induction r with
  | zero =>
    intro w hw fuel hf
    obtain ⟨f, rfl⟩ : ∃ f, fuel = f + 1 := ⟨fuel - 1, by omega⟩
    refine Or.inl ⟨?_, fun x h1 h2 => by omega⟩
    unfold LX10_lessens_2
    rw [if_pos (nI_le (by omega) (by omega))]
  | succ r ih =>
    intro w hw fuel hf
    obtain ⟨f, rfl⟩ : ∃ f, fuel = f + 1 := ⟨fuel - 1, by omega⟩
    have hwN : w < N := by omega
    obtain ⟨m1, m2, m3, m4, m5⟩ := h.2 w hwN
    have al := h.al hwN
    obtain ⟨o, o1, o2, o3⟩ := le49 h hwN w 0 0 (by omega) (Or.inl rfl) 5000 (by omega)
    have o1 : LX10_lessens_49 frm too isThere (nI w) 5000 (0 : Int32) (0 : Int32) = some o := o1
    have ihh := ih (w + 1) (by omega) f (by omega)
    have next : ∀ (hF : Fine N a b F T Al w), (LX10_lessens_2 (nI N) frm too isThere (nI a) (nI b) f (nI (w + 1)) = some (.inl ()) ∧ ∀ x, w ≤ x → x < N → Fine N a b F T Al x) ∨ ∃ x, x < N ∧ LX10_lessens_2 (nI N) frm too isThere (nI a) (nI b) f (nI (w + 1)) = some (.inr (1, frm, too, upd isThere x 0)) ∧ MayGo N a b F T Al x := fun hF => by
      rcases ihh with ⟨q1, q2⟩ | q
      · refine Or.inl ⟨q1, fun x h1 h2 => ?_⟩
        by_cases e : x = w
        · rw [e]; exact hF
        · exact q2 x (by omega) h2
      · exact Or.inr q
    unfold LX10_lessens_2
    rw [if_neg (nI_ge (by omega) (by omega)), if_pos (jok_nI (by omega) (by omega)), nI_clamp (show w < 2 ^ 31 by omega), m1, m2, o1, nar0, ← nI_succ]
    by_cases c : Al w = true
    · have nz : ¬ isThere w = 0 := fun z => al.mp z c
      simp only [if_neg nz, jlet]
      by_cases c1 : F w = T w
      · rw [if_pos (by rw [c1])]
        exact Or.inr ⟨w, hwN, rfl, c, Or.inl c1⟩
      · rw [if_neg (fun z => c1 ((nI6 m3 m4).mp z))]
        simp only [Option.bind_some, jex]
        by_cases c2 : o = 0
        · rw [if_pos c2]
          have np := (o3.mp c2).2
          simp only [Option.bind_some, jex]
          rw [waOk h m3, waOk h m4]
          simp only [Option.bind_some]
          have b1 := atc_le (F := F) (T := T) (Al := Al) (F w) N
          have b2 := atc_le (F := F) (T := T) (Al := Al) (T w) N
          have e1 : (nI (F w) = nI a) ↔ F w = a := nI6 m3 ha
          have e2 : (nI (F w) = nI b) ↔ F w = b := nI6 m3 hb
          have e3 : (nI (T w) = nI a) ↔ T w = a := nI6 m4 ha
          have e4 : (nI (T w) = nI b) ↔ T w = b := nI6 m4 hb
          have e5 : (nI (atc F T Al (F w) N) = 1) ↔ atc F T Al (F w) N = 1 := nI_inj (b := 1) (by omega) (by omega)
          have e6 : (nI (atc F T Al (T w) N) = 1) ↔ atc F T Al (T w) N = 1 := nI_inj (b := 1) (by omega) (by omega)
          have npw : ∀ v, v < w → ¬ prl F T Al w v := fun v hv => np v (Nat.zero_le v) hv
          -- the second end
          have second : ∀ (E : Option (Unit ⊕ (Int32 × (Nat → Int32) × (Nat → Int32) × (Nat → Int32)))), E = (if nI (T w) = nI a then some (.inl ()) else if nI (T w) = nI b then some (.inl ()) else if nI (atc F T Al (T w) N) = 1 then some (.inr ((1 : Int32), frm, too, upd isThere w 0)) else some (.inl ())) → (F w ≠ a → F w ≠ b → atc F T Al (F w) N ≠ 1) → ((E.bind (fun o_45 => jex o_45 (fun _ => LX10_lessens_2 (nI N) frm too isThere (nI a) (nI b) f (nI (w + 1))) (fun r => some (.inr r)))) = some (.inl ()) ∧ ∀ x, w ≤ x → x < N → Fine N a b F T Al x) ∨ ∃ x, x < N ∧ (E.bind (fun o_45 => jex o_45 (fun _ => LX10_lessens_2 (nI N) frm too isThere (nI a) (nI b) f (nI (w + 1))) (fun r => some (.inr r)))) = some (.inr (1, frm, too, upd isThere x 0)) ∧ MayGo N a b F T Al x := fun E hE hF1 => by
            subst hE
            by_cases d1 : T w = a
            · rw [if_pos (e3.mpr d1)]
              exact next (fun _ => ⟨c1, npw, hF1, fun z => absurd d1 z⟩)
            · rw [if_neg (fun z => d1 (e3.mp z))]
              by_cases d2 : T w = b
              · rw [if_pos (e4.mpr d2)]
                exact next (fun _ => ⟨c1, npw, hF1, fun _ z => absurd d2 z⟩)
              · rw [if_neg (fun z => d2 (e4.mp z))]
                by_cases d3 : atc F T Al (T w) N = 1
                · rw [if_pos (e6.mpr d3)]
                  exact Or.inr ⟨w, hwN, rfl, c, Or.inr ⟨c1, Or.inr (Or.inr ⟨d1, d2, d3⟩)⟩⟩
                · rw [if_neg (fun z => d3 (e6.mp z))]
                  exact next (fun _ => ⟨c1, npw, hF1, fun _ _ => d3⟩)
          by_cases d1 : F w = a
          · rw [if_pos (e1.mpr d1)]
            simp only [Option.bind_some]
            exact second _ rfl (fun z => absurd d1 z)
          · rw [if_neg (fun z => d1 (e1.mp z))]
            by_cases d2 : F w = b
            · rw [if_pos (e2.mpr d2)]
              simp only [Option.bind_some]
              exact second _ rfl (fun _ z => absurd d2 z)
            · rw [if_neg (fun z => d2 (e2.mp z))]
              by_cases d3 : atc F T Al (F w) N = 1
              · rw [if_pos (e5.mpr d3)]
                simp only [Option.bind_some]
                exact Or.inr ⟨w, hwN, rfl, c, Or.inr ⟨c1, Or.inr (Or.inl ⟨d1, d2, d3⟩)⟩⟩
              · rw [if_neg (fun z => d3 (e5.mp z))]
                simp only [Option.bind_some]
                exact second _ rfl (fun _ _ => d3)
        · rw [if_neg c2]
          refine Or.inr ⟨w, hwN, rfl, c, Or.inr ⟨c1, Or.inl ?_⟩⟩
          by_cases z : ∃ v, v < w ∧ prl F T Al w v
          · exact z
          · exact absurd (o3.mpr ⟨rfl, fun x _ h2 q => z ⟨x, h2, q⟩⟩) c2
    · have nz : isThere w = 0 := al.mpr c
      simp only [if_pos nz, Option.bind_some, jex, jlet]
      exact next (fun z => absurd z c)
/-- wire x gone -/
def kil (Al : Nat → Bool) (x : Nat) : Nat → Bool := fun w => if w = x then false else Al w
theorem Ms.kill (h : Ms N frm too isThere F T Al) (x : Nat) : Ms N frm too (upd isThere x 0) F T (kil Al x) := by
  refine ⟨h.1, fun w hw => ?_⟩
  obtain ⟨m1, m2, m3, m4, m5⟩ := h.2 w hw
  refine ⟨m1, m2, m3, m4, ?_⟩
  unfold upd kil
  by_cases e : w = x
  · rw [if_pos e, if_pos e]; rfl
  · rw [if_neg e, if_neg e, m5]
theorem kil_iff {x w : Nat} : kil Al x w = true ↔ w ≠ x ∧ Al w = true := by
  unfold kil
  by_cases e : w = x
  · rw [if_pos e]
    exact ⟨fun z => absurd z (by decide), fun z => absurd e z.1⟩
  · rw [if_neg e]
    exact ⟨fun z => ⟨e, z⟩, fun z => z.2⟩
/-- a wire that goes takes at most a knot with one beside it -/
theorem goes_R (h : Ms N frm too isThere F T Al) {x : Nat} (hx : x < N) (hg : MayGo N a b F T Al x) : RE N F T (kil Al x) = RE N F T Al ∨ ∃ k, k < 6 ∧ k ≠ a ∧ k ≠ b ∧ D2 (RE N F T Al) k ∧ RE N F T (kil Al x) = elm (RE N F T Al) k := by
  obtain ⟨m1, m2, m3, m4, m5⟩ := h.2 x hx
  have sub : ∀ u v, RE N F T (kil Al x) u v → RE N F T Al u v := fun u v ⟨w, h1, h2, h3, h4⟩ => ⟨w, h1, (kil_iff.mp h2).2, h3, h4⟩
  have dang : ∀ k, k < 6 → k ≠ a → k ≠ b → F x ≠ T x → (F x = k ∨ T x = k) → atc F T Al k N = 1 → ∃ k, k < 6 ∧ k ≠ a ∧ k ≠ b ∧ D2 (RE N F T Al) k ∧ RE N F T (kil Al x) = elm (RE N F T Al) k := fun k hk ka kb hne ht hc => by
    have tx : tch F T Al k x := ⟨hg.1, ht⟩
    have uni : ∀ w, w < N → tch F T Al k w → w = x := fun w hw tw => by
      by_cases e : w = x
      · exact e
      · rcases Nat.lt_or_gt_of_ne e with q | q
        · have := atc_2 tw tx q hx; omega
        · have := atc_2 tx tw q hw; omega
    have only : ∀ u, RE N F T Al k u → ((F x = k ∧ u = T x) ∨ (T x = k ∧ u = F x)) := fun u ⟨w, h1, h2, h3, h4⟩ => by
      rcases h4 with ⟨q1, q2⟩ | ⟨q1, q2⟩
      · obtain rfl := uni w h1 ⟨h2, Or.inl q1.symm⟩
        exact Or.inl ⟨q1.symm, q2⟩
      · obtain rfl := uni w h1 ⟨h2, Or.inr q1.symm⟩
        exact Or.inr ⟨q1.symm, q2⟩
    have same : ∀ u v, RE N F T Al k u → RE N F T Al k v → u = v := fun u v hu hv => by
      rcases only u hu with ⟨p1, p2⟩ | ⟨p1, p2⟩ <;> rcases only v hv with ⟨q1, q2⟩ | ⟨q1, q2⟩
      · rw [p2, q2]
      · exact absurd (p1.trans q1.symm) hne
      · exact absurd (q1.trans p1.symm) hne
      · rw [p2, q2]
    refine ⟨k, hk, ka, kb, fun u v w hu hv _ => Or.inl (same u v hu hv), ?_⟩
    funext u v
    refine propext ⟨?_, ?_⟩
    · intro z
      obtain ⟨w, h1, h2, h3, h4⟩ := z
      have hw := kil_iff.mp h2
      have nF : F w ≠ k := fun q => hw.1 (uni w h1 ⟨hw.2, Or.inl q⟩)
      have nT : T w ≠ k := fun q => hw.1 (uni w h1 ⟨hw.2, Or.inr q⟩)
      rcases h4 with ⟨q1, q2⟩ | ⟨q1, q2⟩
      · rw [q1, q2]; exact ⟨nF, nT, h3, Or.inl ⟨w, h1, hw.2, h3, Or.inl ⟨rfl, rfl⟩⟩⟩
      · rw [q1, q2]; exact ⟨nT, nF, Ne.symm h3, Or.inl ⟨w, h1, hw.2, h3, Or.inr ⟨rfl, rfl⟩⟩⟩
    · rintro ⟨z1, z2, z3, z4 | z4⟩
      · obtain ⟨w, h1, h2, h3, h4⟩ := z4
        refine ⟨w, h1, kil_iff.mpr ⟨fun e => ?_, h2⟩, h3, h4⟩
        rw [e] at h4
        rcases h4 with ⟨q1, q2⟩ | ⟨q1, q2⟩ <;> rcases ht with ht | ht
        · exact z1 (q1.trans ht)
        · exact z2 (q2.trans ht)
        · exact z2 (q2.trans ht)
        · exact z1 (q1.trans ht)
      · exact absurd (same u v z4.1 z4.2) z3
  rcases hg.2 with hl | ⟨hne, ⟨v, hv, pv⟩ | ⟨p1, p2, p3⟩ | ⟨p1, p2, p3⟩⟩
  · refine Or.inl ?_
    funext u v
    refine propext ⟨sub u v, ?_⟩
    rintro ⟨w, h1, h2, h3, h4⟩
    exact ⟨w, h1, kil_iff.mpr ⟨fun e => h3 (by rw [e]; exact hl), h2⟩, h3, h4⟩
  · refine Or.inl ?_
    funext u w'
    refine propext ⟨sub u w', ?_⟩
    rintro ⟨w, h1, h2, h3, h4⟩
    by_cases e : w = x
    · rw [e] at h4
      have vx : v ≠ x := by omega
      rcases pv with ⟨pa, ⟨q1, q2⟩ | ⟨q1, q2⟩⟩
      · exact ⟨v, by omega, kil_iff.mpr ⟨vx, pa⟩, by rw [q1, q2]; exact hne, by rw [q1, q2]; exact h4⟩
      · exact ⟨v, by omega, kil_iff.mpr ⟨vx, pa⟩, by rw [q1, q2]; exact Ne.symm hne, by rw [q1, q2]; exact h4.symm⟩
    · exact ⟨w, h1, kil_iff.mpr ⟨e, h2⟩, h3, h4⟩
  · exact Or.inr (dang (F x) m3 p1 p2 hne (Or.inl rfl) p3)
  · exact Or.inr (dang (T x) m4 p1 p2 hne (Or.inr rfl) p3)
end LESS
