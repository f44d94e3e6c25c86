/-! the reference's sum over all sets: between -/
section BETWEEN
variable {N K gd : Nat} {A B : Nat → Nat} {T U : Nat → Nat} {first second times byy : Nat → Int32}
abbrev cf (T U : Nat → Nat) : Nat → Int := fun w => ((12 * U w / T w : Nat) : Int)
def Wts (N : Nat) (T U : Nat → Nat) (times byy : Nat → Int32) : Prop := ∀ w, w < N → times w = nI (T w) ∧ byy w = nI (U w) ∧ 1 ≤ T w ∧ T w ≤ 4 ∧ 1 ≤ U w ∧ U w ≤ 4
theorem Kok_rch (hN : Net N A B) {a b : Nat} (ha : a < 6) (hb : b < 6) (h : (rch N A B a).testBit b = true) : Kok N (rch N A B a) b A B := ⟨rch_lt hN ha, hb, h, rch_clo hN ha⟩
theorem pow12 : ∀ N : Fin 13, 2 ^ N.1 ≤ 4096 := by decide
/-- one set of the sum -/
theorem btStep (hN : Net N A B) (h1 : ∀ w, w < N → first w = nI (A w) ∧ second w = nI (B w)) (hT : Wts N T U times byy) {W : Nat → Int32} (hW : Whl N A B W) {a b s : Nat} (ha : a < 6) (hb : b < 6) (hab : a ≠ b) (hR : (rch N A B a).testBit b = true) (hs : s < 2 ^ N) (x y : Int) (G G0 : Nat → Int32) (i0 : Int32) {n : Nat} (hn : n = pcn (msk (rch N A B a) b) 6) :
    ∀ f, ∃ G', LX10_between_69 (nI N) first second times byy (nI a) (nI b) (i0, G0, W) (nI (pcn (rch N A B a) 6)) (f + 1) (Zl x) (Zl y) (nI s) G = LX10_between_69 (nI N) first second times byy (nI a) (nI b) (i0, G0, W) (nI (pcn (rch N A B a) 6)) f (Zl (x + twS (wl (msk (rch N A B a) b) A B (cf T U) N) (PS (sn n)) n s)) (Zl (y + twS (wl (msk (rch N A B a) b) A B (cf T U) N) (mvP (PS (sn n)) (lab (msk (rch N A B a) b) a) 5) (n - 1) s)) (nI (s + 1)) G' := by
  have hN12 := hN.1
  have hK := Kok_rch hN ha hb hR
  have h5 := msk5 hK
  have hp := pow12 ⟨N, by omega⟩
  have hp : 2 ^ N ≤ 4096 := hp
  have hs4 : s < 4096 := by omega
  have hla := lab_lt hK ha (rch_self hN ha) hab
  subst hn
  intro f
  have e1 : nI (pcn (rch N A B a) 6) - (1 : Int32) = nI (pcn (msk (rch N A B a) b) 6) := by
    rw [← h5.2, nI_succ]
    exact Int32.add_sub_cancel _ _
  have e2 : nI (pcn (rch N A B a) 6) - (2 : Int32) = nI (pcn (msk (rch N A B a) b) 6 - 1) := by
    rw [← h5.2, show pcn (msk (rch N A B a) b) 6 + 1 = pcn (msk (rch N A B a) b) 6 - 1 + 2 by omega, ← nI_plus]
    exact Int32.add_sub_cancel _ _
  obtain ⟨G1, j1, j2⟩ := joinsOk hN h1 hs4 G
  have tk := tw_k (c := cf T U) hN hK (pcn (msk (rch N A B a) b) 6) s
  have ta := tw_a (c := cf T U) hN hK ha (rch_self hN ha) hab (pcn (msk (rch N A B a) b) 6 - 1) s
  have hw := weightRef hN12 hs4 hT
  have bnd : cntS N s ≤ 12 := by
    rw [← kcnt_12 hN12 hs]
    exact kcnt_le s 12
  conv => enter [1, G']; lhs; unfold LX10_between_69
  rw [if_neg (show ¬ ((1 : Int32) <<< (nI N &&& 31)) ≤ nI s by
    rw [show (1 : Int32) <<< (nI N &&& 31) = nI (2 ^ N) from (ones ⟨N, by omega⟩).2.2.1]
    exact nI_ge hs (by omega)), bitsRef hs4, kcnt_12 hN12 hs]
  simp only [Option.bind_some, jlet]
  rw [e1, e2, isOfRef hN h1 hW ha hs4]
  simp only [Option.bind_some]
  rw [j1]
  simp only [Option.bind_some]
  rw [hw, ← nI_succ]
  simp only [Option.bind_some]
  rw [if_pos (jok_nI ha (by omega)), if_pos (jok_nI hb (by omega)), nI_clamp (show a < 2 ^ 31 by omega), nI_clamp (show b < 2 ^ 31 by omega), (j2 a ha).1, (j2 b hb).1]
  have b1 := (j2 a ha).2
  have b2 := (j2 b hb).2
  have za : ∀ v : Int, Zl v + Zl 0 = Zl v := fun v => Int64.add_zero _
  have zs : ∀ v u : Int, Zl v + Zl u = Zl (v + u) := fun v u => (Int64.ofInt_add v u).symm
  rw [tk, ta]
  by_cases c1 : cntS N s = pcn (msk (rch N A B a) b) 6
  · rw [if_pos (by rw [c1])]
    by_cases c2 : kin (rch N A B a) A N 0 s = true
    · rw [if_pos c2, if_neg (show ¬ (1 : Int32) = 0 by decide)]
      by_cases c3 : kopn A B N 0 id s = true
      · rw [if_pos c3, if_neg (show ¬ (1 : Int32) = 0 by decide), if_pos (by rw [c1]), if_pos ⟨c1, c2, c3⟩, if_neg (fun z => by omega), Int.add_zero, zs]
        exact ⟨G1, rfl⟩
      · rw [if_neg c3, if_pos rfl, if_neg (fun z => c3 z.2.2), if_neg (fun z => by omega), Int.add_zero, Int.add_zero]
        exact ⟨G1, rfl⟩
    · rw [if_neg c2, if_pos rfl, if_neg (fun z => c2 z.2.1), if_neg (fun z => by omega), Int.add_zero, Int.add_zero]
      exact ⟨G, rfl⟩
  · rw [if_neg (fun z => c1 ((nI_inj (by omega) (by omega)).mp z)), if_neg (show ¬ (cntS N s = pcn (msk (rch N A B a) b) 6 ∧ _) from fun z => c1 z.1), Int.add_zero]
    by_cases c4 : cntS N s = pcn (msk (rch N A B a) b) 6 - 1
    · rw [if_pos (by rw [c4])]
      by_cases c2 : kin (rch N A B a) A N 0 s = true
      · rw [if_pos c2, if_neg (show ¬ (1 : Int32) = 0 by decide)]
        by_cases c3 : kopn A B N 0 id s = true
        · rw [if_pos c3, if_neg (show ¬ (1 : Int32) = 0 by decide), if_neg (fun z => c1 ((nI_inj (by omega) (by omega)).mp z))]
          by_cases c5 : kfin A B N 0 id s a = kfin A B N 0 id s b
          · rw [if_pos (by rw [c5]), if_neg (fun z => z.2.2.2 c5), Int.add_zero]
            exact ⟨G1, rfl⟩
          · rw [if_neg (fun z => c5 ((nI_inj (by omega) (by omega)).mp z)), if_pos ⟨c4, c2, c3, c5⟩, zs]
            exact ⟨G1, rfl⟩
        · rw [if_neg c3, if_pos rfl, if_neg (fun z => c3 z.2.2.1), Int.add_zero]
          exact ⟨G1, rfl⟩
      · rw [if_neg c2, if_pos rfl, if_neg (fun z => c2 z.2.1), Int.add_zero]
        exact ⟨G, rfl⟩
    · rw [if_neg (fun z => c4 ((nI_inj (by omega) (by omega)).mp z)), if_neg (fun z => c4 z.1), Int.add_zero]
      exact ⟨G, rfl⟩
theorem btLoop (hN : Net N A B) (h1 : ∀ w, w < N → first w = nI (A w) ∧ second w = nI (B w)) (hT : Wts N T U times byy) {W : Nat → Int32} (hW : Whl N A B W) {a b : Nat} (ha : a < 6) (hb : b < 6) (hab : a ≠ b) (hR : (rch N A B a).testBit b = true) (G0 : Nat → Int32) (i0 : Int32) {n : Nat} (hn : n = pcn (msk (rch N A B a) b) 6) :
    ∀ (r s : Nat) (G : Nat → Int32), s + r = 2 ^ N → ∀ fuel, r < fuel → ∃ G', LX10_between_69 (nI N) first second times byy (nI a) (nI b) (i0, G0, W) (nI (pcn (rch N A B a) 6)) fuel (Zl (sumT (twS (wl (msk (rch N A B a) b) A B (cf T U) N) (PS (sn n)) n) s)) (Zl (sumT (twS (wl (msk (rch N A B a) b) A B (cf T U) N) (mvP (PS (sn n)) (lab (msk (rch N A B a) b) a) 5) (n - 1)) s)) (nI s) G = some (Zl (sumT (twS (wl (msk (rch N A B a) b) A B (cf T U) N) (PS (sn n)) n) (2 ^ N)), Zl (sumT (twS (wl (msk (rch N A B a) b) A B (cf T U) N) (mvP (PS (sn n)) (lab (msk (rch N A B a) b) a) 5) (n - 1)) (2 ^ N)), G') := by
  have hN12 := hN.1
  have hp := pow12 ⟨N, by omega⟩
  have hp : 2 ^ N ≤ 4096 := hp
  intro r
  induction r with
  | zero =>
    intro s G hs fuel hf
    obtain ⟨f, rfl⟩ : ∃ f, fuel = f + 1 := ⟨fuel - 1, by omega⟩
    obtain rfl : s = 2 ^ N := by omega
    refine ⟨G, ?_⟩
    unfold LX10_between_69
    rw [if_pos]
    rw [show (1 : Int32) <<< (nI N &&& 31) = nI (2 ^ N) from (ones ⟨N, by omega⟩).2.2.1]
    exact nI_le (Nat.le_refl _) (by omega)
  | succ r ih =>
    intro s G hs fuel hf
    obtain ⟨f, rfl⟩ : ∃ f, fuel = f + 1 := ⟨fuel - 1, by omega⟩
    obtain ⟨G1, e⟩ := btStep hN h1 hT hW ha hb hab hR (show s < 2 ^ N by omega) (sumT (twS (wl (msk (rch N A B a) b) A B (cf T U) N) (PS (sn n)) n) s) (sumT (twS (wl (msk (rch N A B a) b) A B (cf T U) N) (mvP (PS (sn n)) (lab (msk (rch N A B a) b) a) 5) (n - 1)) s) G G0 i0 hn f
    rw [e, ← sumT_s, ← sumT_s]
    exact ih (s + 1) G1 (by omega) f (by omega)
end BETWEEN
