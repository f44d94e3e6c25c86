/-! what hangs together has a tree; between -/
section BETWEEN2
variable {N K gd : Nat} {A B : Nat → Nat} {c : Nat → Int} {T U : Nat → Nat} {first second times byy w1 w2 : Nat → Int32} {flows : Nat → Int64}
theorem conn2 (hN : Net N A B) (hK : Kok N K gd A B) {s : Nat} : ∀ (r w : Nat) (g P : Nat → Nat), w + r = N → Rel K (msk K gd) g P → (∀ x y, x < 6 → y < 6 → g x = g y → (K.testBit x = true ↔ K.testBit y = true)) → Rel K (msk K gd) (kfin A B r w g s) (finS ((List.range' w r).map (wr (msk K gd) A B c)) P (s / 2 ^ w)) := by
  intro r
  induction r with
  | zero =>
    intro w g P hw h hg
    exact h
  | succ r ih =>
    intro w g P hw h hg
    have hab := hN.2 w (by omega)
    have hc : K.testBit (A w) = true ↔ K.testBit (B w) = true := hK.2.2.2 w (by omega)
    rw [List.range'_succ, List.map_cons, finS_c, div2]
    unfold kfin
    rcases bit01 s w with c0 | c0
    · rw [c0, if_neg (show ¬ 0 = 1 by decide), if_neg (show ¬ 0 = 1 by decide)]
      exact ih (w + 1) g P (by omega) h hg
    · rw [c0, if_pos rfl, if_pos rfl]
      refine ih (w + 1) _ _ (by omega) ?_ (fun x y hx hy e => ?_)
      · by_cases kA : K.testBit (A w) = true
        · exact h.step hab.1 hab.2.1 kA (hc.mp kA) (c w)
        · have kB : ¬ K.testBit (B w) = true := fun z => kA (hc.mpr z)
          have e1 : (wr (msk K gd) A B c w).1 = 5 := lab_out hK hab.1 kA
          have e2 : (wr (msk K gd) A B c w).2.1 = 5 := lab_out hK hab.2.1 kB
          have es : stp P (wr (msk K gd) A B c w) = P := if_pos (by rw [e1, e2])
          rw [es]
          intro x y hx hy hKx hKy
          rw [kst_eq, ← h x y hx hy hKx hKy]
          constructor
          · rintro (z | z | z)
            · exact z
            · exact absurd ((hg x _ hx hab.1 z.1).mp hKx) kA
            · exact absurd ((hg x _ hx hab.2.1 z.1).mp hKx) kB
          · exact Or.inl
      · rcases (kst_eq g _ _ x y).mp e with e | e | e
        · exact hg x y hx hy e
        · rw [hg x _ hx hab.1 e.1, hg y _ hy hab.2.1 e.2, hc]
        · rw [hg x _ hx hab.2.1 e.1, hg y _ hy hab.1 e.2, hc]
theorem Gf_sumN (b : Nat) (P : Nat → Nat) (m : Nat) : Gf (wl b A B c N) P m = sumT (twS (wl b A B c N) P m) (2 ^ N) := by
  rw [Gf_sum, wl_len]
theorem clo_fin : ∀ (ws : List Wr) (P : Nat → Nat), clo ws P = finS ws P (2 ^ ws.length - 1)
  | [], _ => rfl
  | w :: ws, P => by
    have hp : 0 < 2 ^ ws.length := Nat.two_pow_pos _
    rw [List.length_cons, finS_c, Nat.pow_succ, if_pos (by omega), show (2 ^ ws.length * 2 - 1) / 2 = 2 ^ ws.length - 1 by omega, ← clo_fin ws]
    rfl
theorem lab_onto : ∀ (b : Fin 64) (k : Fin 6), k.1 < pcn b.1 6 → ∃ x : Fin 6, b.1.testBit x.1 = true ∧ pcn b.1 x.1 = k.1 := by decide +kernel
/-- what hangs together with a has a tree -/
theorem trees_pos (hN : Net N A B) (hc : ∀ w, w < N → 0 < c w ∧ c w ≤ 48) {a b : Nat} (ha : a < 6) (hb : b < 6) (hR : (rch N A B a).testBit b = true) : 0 < Gf (wl (msk (rch N A B a) b) A B c N) (PS (sn (pcn (msk (rch N A B a) b) 6))) (pcn (msk (rch N A B a) b) 6) := by
  have hN12 := hN.1
  have hK := Kok_rch hN ha hb hR
  have h5 := msk5 hK
  have hw := wl_ok (c := c) h5.1 hN
  have hrt := PS_rt (sn_ok h5.1)
  have hp := Gf_pos (wl (msk (rch N A B a) b) A B c N) hw (wl_c hc) _ hrt
  rw [liv_sn h5.1] at hp
  refine hp.mpr ?_
  have hq := clo_rt (wl (msk (rch N A B a) b) A B c N) hrt hw
  rw [liv0 hq]
  intro k hk
  have e0 : clo (wl (msk (rch N A B a) b) A B c N) (PS (sn (pcn (msk (rch N A B a) b) 6))) = finS ((List.range' 0 N).map (wr (msk (rch N A B a) b) A B c)) (PS (sn (pcn (msk (rch N A B a) b) 6))) (2 ^ N - 1) := by
    rw [clo_fin, wl_len, wl_wr]
  rw [← hq.1]
  by_cases kn : k < pcn (msk (rch N A B a) b) 6
  · obtain ⟨x, hx1, hx2⟩ := lab_onto ⟨msk (rch N A B a) b, (msk_n ⟨_, hK.1⟩ ⟨b, hb⟩).2.1⟩ ⟨k, by omega⟩ kn
    have hx1 : (msk (rch N A B a) b).testBit x.1 = true := hx1
    have hx2 : pcn (msk (rch N A B a) b) x.1 = k := hx2
    have hxK := (msk_t ⟨_, hK.1⟩ ⟨b, hb⟩ x).mp hx1
    have hlx : lab (msk (rch N A B a) b) x.1 = k := by
      unfold lab
      rw [if_pos hx1, hx2]
    have hr := conn2 (c := c) hN hK (s := 2 ^ N - 1) N 0 id _ (by omega) (Rel0 hK) (fun x y _ _ e => by
      have e : x = y := e
      rw [e]) x.1 b x.2 hb hxK.1 hR
    rw [Nat.pow_zero, Nat.div_one, lab_gd hK, hlx] at hr
    rw [e0]
    refine hr.mp ?_
    show gN N A B x.1 = gN N A B b
    rw [(gN_rch hN ha x.2).mpr hxK.1, (gN_rch hN ha hb).mpr hR]
  · rw [clo_fin]
    refine finS_fnr _ _ _ k 5 ?_
    rw [PS_out (sn_out kn), PS_out (sn_out (by omega))]
theorem cf_bd (hT : Wts N T U times byy) : ∀ w, w < N → 0 < cf T U w ∧ cf T U w ≤ 48 := fun w hw => by
  obtain ⟨-, -, t3, t4, t5, t6⟩ := hT w hw
  have key : ∀ (u t : Fin 5), t.1 ≠ 0 → u.1 ≠ 0 → 0 < 12 * u.1 / t.1 ∧ 12 * u.1 / t.1 ≤ 48 := by decide
  have := key ⟨U w, by omega⟩ ⟨T w, by omega⟩ (by show T w ≠ 0; omega) (by show U w ≠ 0; omega)
  have h1 : 0 < 12 * U w / T w := this.1
  have h2 : 12 * U w / T w ≤ 48 := this.2
  constructor
  · show (0 : Int) < ((12 * U w / T w : Nat) : Int)
    omega
  · show ((12 * U w / T w : Nat) : Int) ≤ 48
    omega
theorem part_c {a3 : Int32} {k : Nat} (h : a3 = nI k) (hk : k ≤ 1) : a3 = 0 ∨ a3 = 1 := by
  rcases (show k = 0 ∨ k = 1 by omega) with rfl | rfl
  · exact Or.inl h
  · exact Or.inr h
/-- the wires of both: their knots and how they flow -/
def Same (N : Nat) (A B T U : Nat → Nat) (w1 w2 : Nat → Int32) (flows : Nat → Int64) (first second times byy : Nat → Int32) : Prop := Net N A B ∧ (∀ w, w < N → w1 w = nI (A w) ∧ w2 w = nI (B w)) ∧ (∀ w, w < N → flows w = Zl (cf T U w)) ∧ (∀ w, w < N → first w = nI (A w) ∧ second w = nI (B w)) ∧ Wts N T U times byy
theorem btBig (hN : Net N A B) (hT : Wts N T U times byy) {a b : Nat} (ha : a < 6) (hb : b < 6) (hab : a ≠ b) (hR : (rch N A B a).testBit b = true) : ∃ t p : Nat, 0 < t ∧ t < 2 ^ 48 ∧ p < 2 ^ 48 ∧ Gf (wl (msk (rch N A B a) b) A B (cf T U) N) (PS (sn (pcn (msk (rch N A B a) b) 6))) (pcn (msk (rch N A B a) b) 6) = (t : Int) ∧ Gf (wl (msk (rch N A B a) b) A B (cf T U) N) (mvP (PS (sn (pcn (msk (rch N A B a) b) 6))) (lab (msk (rch N A B a) b) a) 5) (pcn (msk (rch N A B a) b) 6 - 1) = (p : Int) := by
  have hN12 := hN.1
  have hK := Kok_rch hN ha hb hR
  have h5 := msk5 hK
  have hpos := trees_pos (c := cf T U) hN (cf_bd hT) ha hb hR
  have hc : Wc (wl (msk (rch N A B a) b) A B (cf T U) N) := fun q hq => by
    have := wl_c (cf_bd hT) q hq
    exact ⟨Int.le_of_lt this.1, this.2⟩
  have b1 := Gf_bd _ hc (PS (sn (pcn (msk (rch N A B a) b) 6))) (pcn (msk (rch N A B a) b) 6)
  have b2 := Gf_bd _ hc (mvP (PS (sn (pcn (msk (rch N A B a) b) 6))) (lab (msk (rch N A B a) b) a) 5) (pcn (msk (rch N A B a) b) 6 - 1)
  rw [wl_len] at b1 b2
  have m1 := eb_mono hN12 (pcn (msk (rch N A B a) b) 6)
  have m2 := eb_mono hN12 (pcn (msk (rch N A B a) b) 6 - 1)
  have m3 : eb 12 (pcn (msk (rch N A B a) b) 6) ≤ eb 12 5 := eb_12 h5.1 (Nat.le_refl 5)
  have m4 : eb 12 (pcn (msk (rch N A B a) b) 6 - 1) ≤ eb 12 5 := eb_12 (by omega) (Nat.le_refl 5)
  have m5 : eb 12 5 = 201804742656 := by decide +kernel
  refine ⟨(Gf (wl (msk (rch N A B a) b) A B (cf T U) N) (PS (sn (pcn (msk (rch N A B a) b) 6))) (pcn (msk (rch N A B a) b) 6)).toNat, (Gf (wl (msk (rch N A B a) b) A B (cf T U) N) (mvP (PS (sn (pcn (msk (rch N A B a) b) 6))) (lab (msk (rch N A B a) b) a) 5) (pcn (msk (rch N A B a) b) 6 - 1)).toNat, by omega, by omega, by omega, by omega, by omega⟩
/-- between: both answer the same -/
theorem between_same (hS : Same N A B T U w1 w2 flows first second times byy) (a1 a2 a3 lc : Int32) (M : Nat → Nat → Int64) (lo G W : Nat → Int32) (au al ab bl : Int64) : ∃ (r : Int64) (M' : Nat → Nat → Int64) (lo' : Nat → Int32) (lc' : Int32) (au' al' : Int64) (G' W' : Nat → Int32) (ab' bl' : Int64), fX9_between a1 a2 a3 (nI N) w1 w2 flows M lo lc au al = some (r, M', lo', lc', au', al') ∧ fX10_between a1 a2 a3 (nI N) first second times byy G W ab bl = some (r, 0, G', W', ab', bl') := by
  obtain ⟨hN, h1, hf, h2, hT⟩ := hS
  have hN12 := hN.1
  unfold fX9_between fX10_between
  rcases knot_c a1 with ⟨q1, q2⟩ | ⟨a, ha, rfl, q1, q2⟩
  · rw [q1, q2]
    exact ⟨_, _, _, _, _, _, _, _, _, _, rfl, rfl⟩
  · rw [q1, q2]
    simp only [Option.bind_some]
    rw [if_neg (show ¬ (1 : Int32) = 0 by decide), if_neg (show ¬ (1 : Int32) = 0 by decide)]
    rcases knot_c a2 with ⟨q3, q4⟩ | ⟨b, hb, rfl, q3, q4⟩
    · rw [q3, q4]
      exact ⟨_, _, _, _, _, _, _, _, _, _, rfl, rfl⟩
    · rw [q3, q4]
      simp only [Option.bind_some]
      rw [if_neg (show ¬ (1 : Int32) = 0 by decide), if_neg (show ¬ (1 : Int32) = 0 by decide)]
      have hp := within_c a3 0 1 (by decide) (by decide)
      have hp : (fX9_isWithin a3 0 1 = some 0 ∧ fX10_in a3 0 1 = some 0) ∨ ∃ k, 0 ≤ k ∧ k ≤ 1 ∧ a3 = nI k ∧ fX9_isWithin a3 0 1 = some 1 ∧ fX10_in a3 0 1 = some 1 := hp
      rcases hp with ⟨q5, q6⟩ | ⟨k, -, hk, e3, q5, q6⟩
      · rw [q5, q6]
        exact ⟨_, _, _, _, _, _, _, _, _, _, rfl, rfl⟩
      · rw [q5, q6]
        simp only [Option.bind_some]
        rw [if_neg (show ¬ (1 : Int32) = 0 by decide), if_neg (show ¬ (1 : Int32) = 0 by decide), hangOk hN h1 ha hb]
        simp only [Option.bind_some]
        have ha3 := part_c e3 hk
        by_cases hab : a = b
        · subst hab
          rw [if_pos (rch_self hN ha), if_neg (show ¬ (1 : Int32) = 0 by decide), if_pos rfl]
          unfold fX3_solveBetween fX0_set
          rw [if_pos rfl]
          simp only [Option.bind_some]
          unfold fX0_part
          rcases ha3 with rfl | rfl
          · exact ⟨_, _, _, _, _, _, _, _, _, _, rfl, rfl⟩
          · exact ⟨_, _, _, _, _, _, _, _, _, _, rfl, rfl⟩
        · have hne : ¬ nI a = nI b := fun z => hab ((nI_inj (by omega) (by omega)).mp z)
          rw [if_neg hne]
          obtain ⟨G1, W1, g1, g2⟩ := hangRef hN h2 ha hb G W
          rw [g1]
          simp only [Option.bind_some]
          by_cases hR : (rch N A B a).testBit b = true
          · rw [if_pos hR, if_neg (show ¬ (1 : Int32) = 0 by decide), if_neg (show ¬ (1 : Int32) = 0 by decide)]
            rw [sizeRef hN g2 ha]
            simp only [Option.bind_some]
            have hK := Kok_rch hN ha hb hR
            have h5 := msk5 hK
            have hla := lab_lt hK ha (rch_self hN ha) hab
            obtain ⟨t, p, t0, t1, p1, et, ep⟩ := btBig hN hT ha hb hab hR
            have hp12 := pow12 ⟨N, by omega⟩
            have hp12 : 2 ^ N ≤ 4096 := hp12
            obtain ⟨G2, l1⟩ := btLoop hN h2 hT g2 ha hb hab hR G1 (1 : Int32) rfl (2 ^ N) 0 G1 (by omega) 5000 (by omega)
            rw [← Gf_sumN, ← Gf_sumN, et, ep] at l1
            have l1 : LX10_between_69 (nI N) first second times byy (nI a) (nI b) ((1 : Int32), G1, W1) (nI (pcn (rch N A B a) 6)) 5000 (0 : Int64) (0 : Int64) (0 : Int32) G1 = some (Zl t, Zl p, G2) := l1
            rw [l1]
            simp only [Option.bind_some]
            have e12 : (12 : Int64) * Zl p = Zl (12 * (p : Int)) := (Int64.ofInt_mul 12 p).symm
            rw [e12, leastOk (by omega) t0 t1]
            simp only [Option.bind_some]
            obtain ⟨M', lo', s1, s2, s3⟩ := solveOk (rch_lt hN ha) ha hb hab (rch_self hN ha) hN (cf_bd hT) h1 hf (reachOk hN h1 ha) (trees_pos hN (cf_bd hT) ha hb hR) M lo
            rw [et] at s1
            have hM : M' (lab (msk (rch N A B a) b) a) (pcn (msk (rch N A B a) b) 6) = Zl p := by
              rw [s3 _ hla]
              have hcd := cof_d (ws := wl (msk (rch N A B a) b) A B (cf T U) N) (PS_rt (sn_ok h5.1)) (wl_ok h5.1 hN) (show lab (msk (rch N A B a) b) a < 5 by omega) (PS_in (sn_in hla))
              rw [liv_sn h5.1, ep] at hcd
              rw [hcd]
            unfold fX3_solveBetween
            rw [if_neg hne, s1]
            simp only [Option.bind_some, jlet]
            unfold fX3_numberOf
            simp only [jlet]
            rw [if_pos (jok_nI ha (by omega)), nI_clamp (show a < 2 ^ 31 by omega), s2 a ha, lnI_lt (by omega), if_pos (nI_pos' (by omega)), if_pos (jok_nI (by omega) (by omega)), if_pos (jok_nI (by omega) (by omega)), nI_clamp (show lab (msk (rch N A B a) b) a < 2 ^ 31 by omega), nI_clamp (show pcn (msk (rch N A B a) b) 6 < 2 ^ 31 by omega), hM]
            simp only [Option.bind_some]
            unfold fX0_set
            simp only [Option.bind_some]
            rw [e12, reduceOk (by omega) t0 t1]
            simp only [Option.bind_some]
            unfold fX0_part
            rcases ha3 with rfl | rfl
            · exact ⟨_, _, _, _, _, _, _, _, _, _, rfl, rfl⟩
            · exact ⟨_, _, _, _, _, _, _, _, _, _, rfl, rfl⟩
          · rw [if_neg hR, if_pos rfl, if_pos rfl]
            exact ⟨_, _, _, _, _, _, _, _, _, _, rfl, rfl⟩
end BETWEEN2
