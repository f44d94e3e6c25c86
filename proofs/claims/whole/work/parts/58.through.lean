/-! through -/
theorem finS_join : ∀ (ws : List Wr) (P : Nat → Nat) (s v : Nat) (w0 : Wr), ws[v]? = some w0 → s / 2 ^ v % 2 = 1 → finS ws P s w0.1 = finS ws P s w0.2.1
  | [], _, _, _, _, h, _ => by simp at h
  | w :: ws, P, s, 0, w0, h, hb => by
    have h : some w = some w0 := h
    obtain rfl := Option.some.inj h
    rw [Nat.pow_zero, Nat.div_one] at hb
    rw [finS_c, if_pos hb]
    exact finS_fnr ws _ _ _ _ ((stp_eq _ _).mpr (Or.inr (Or.inl ⟨rfl, rfl⟩)))
  | w :: ws, P, s, v + 1, w0, h, hb => by
    have h : ws[v]? = some w0 := h
    have hb' : s / 2 / 2 ^ v % 2 = 1 := by
      rw [Nat.div_div_eq_div_mul, Nat.mul_comm, ← Nat.pow_succ]
      exact hb
    rw [finS_c]
    split
    · exact finS_join ws _ _ v w0 h hb'
    · exact finS_join ws _ _ v w0 h hb'
section THROUGH
variable {N K gd : Nat} {A B : Nat → Nat} {c : Nat → Int} {T U : Nat → Nat} {first second times byy w1 w2 : Nat → Int32} {flows : Nat → Int64}
/-- which way it goes through wire v -/
def gsK (N : Nat) (A B : Nat → Nat) (v a b s : Nat) : Int := if s / 2 ^ v % 2 = 0 then 0 else if kfin A B N 0 id (s - 2 ^ v) a = kfin A B N 0 id (s - 2 ^ v) b then 0 else if kfin A B N 0 id (s - 2 ^ v) a = kfin A B N 0 id (s - 2 ^ v) (A v) then 1 else -1
theorem wl_get (b : Nat) {v : Nat} (hv : v < N) : (wl b A B c N)[v]? = some (lab b (A v), lab b (B v), c v) := by
  unfold wl
  rw [List.getElem?_map, List.getElem?_range hv]
  rfl
theorem lab_le5 {b k : Nat} (hk : k < 6) (h6 : pcn b 6 ≤ 5) : lab b k ≤ 5 := by
  have := lab_cases (b := b) hk
  omega
theorem bit_up {s v : Nat} (h : s / 2 ^ v % 2 = 0) : (s + 2 ^ v) / 2 ^ v % 2 = 1 := by
  rw [Nat.add_div_right _ (Nat.two_pow_pos v)]
  omega
theorem gst (d t : Int) : 0 * (d * t) = d * (t * 0 - t * 0) ∧ 1 * (d * t) = d * (t * 1 - t * 0) ∧ -1 * (d * t) = d * (t * 0 - t * 1) := ⟨by grind, by grind, by grind⟩
/-- one set and the same with wire v -/
theorem pair_v (hN : Net N A B) (hK : Kok N K gd A B) {a v s : Nat} (ha : a < 6) (hKa : K.testBit a = true) (hag : a ≠ gd) (hv : v < N) (hs : s / 2 ^ v % 2 = 0) {n : Nat} (hn : n = pcn (msk K gd) 6) : gsK N A B v a gd (s + 2 ^ v) * twS (wl (msk K gd) A B c N) (PS (sn n)) n (s + 2 ^ v) = c v * (hS (wl (msk K gd) A B c N) n (lab (msk K gd) a) (lab (msk K gd) (A v)) s - hS (wl (msk K gd) A B c N) n (lab (msk K gd) a) (lab (msk K gd) (B v)) s) := by
  have h5 := msk5 hK
  have hla := lab_lt hK ha hKa hag
  have hab := hN.2 v hv
  have hw := wl_ok (b := msk K gd) (c := c) h5.1 hN
  have hrt := PS_rt (sn_ok h5.1)
  subst hn
  have hoa := opn_add (wl (msk K gd) A B c N) (PS (sn (pcn (msk K gd) 6))) s v _ (wl_get _ hv) hs
  have hwa := wgt_add (wl (msk K gd) A B c N) s v _ (wl_get _ hv) hs
  have hca := cnt_add (wl (msk K gd) A B c N).length s v (by rw [wl_len]; exact hv) hs
  unfold hS
  by_cases cc : cntS (wl (msk K gd) A B c N).length s = pcn (msk K gd) 6 - 1 ∧ opnS (wl (msk K gd) A B c N) (PS (sn (pcn (msk K gd) 6))) s = true
  · have tw0 : twS (wl (msk K gd) A B c N) (PS (sn (pcn (msk K gd) 6))) (pcn (msk K gd) 6 - 1) s = wgtS (wl (msk K gd) A B c N) s := if_pos cc
    rw [tw0]
    have f := finS_liv _ hw _ s hrt cc.2
    rw [liv_sn h5.1] at f
    have l1 : liv (finS (wl (msk K gd) A B c N) (PS (sn (pcn (msk K gd) 6))) s) = 1 := by omega
    by_cases z : finS (wl (msk K gd) A B c N) (PS (sn (pcn (msk K gd) 6))) s (lab (msk K gd) (A v)) = finS (wl (msk K gd) A B c N) (PS (sn (pcn (msk K gd) 6))) s (lab (msk K gd) (B v))
    · have t0 : twS (wl (msk K gd) A B c N) (PS (sn (pcn (msk K gd) 6))) (pcn (msk K gd) 6) (s + 2 ^ v) = 0 := if_neg (fun q => by
        have q2 := hoa.mp q.2
        exact ((opn_apart _ _ _ _ _ q2.1).mp q2.2).2 z)
      rw [t0]
      unfold dlt
      rw [z]
      omega
    · have zP : PS (sn (pcn (msk K gd) 6)) (lab (msk K gd) (A v)) ≠ PS (sn (pcn (msk K gd) 6)) (lab (msk K gd) (B v)) := fun q => z (finS_fnr _ _ _ _ _ q)
      have t1 : twS (wl (msk K gd) A B c N) (PS (sn (pcn (msk K gd) 6))) (pcn (msk K gd) 6) (s + 2 ^ v) = c v * wgtS (wl (msk K gd) A B c N) s := by
        unfold twS
        rw [if_pos ⟨by omega, hoa.mpr ⟨zP, (opn_apart _ _ _ _ _ zP).mpr ⟨cc.2, z⟩⟩⟩, hwa]
      rw [t1]
      have cn := conn (c := c) hN hK (s := s) N 0 id _ (by omega) (Rel0 hK)
      rw [Nat.pow_zero, Nat.div_one, ← wl_wr] at cn
      have ki : kin K A N 0 s = true := by
        have := cc.2
        rw [cn.1, Bool.and_eq_true] at this
        exact this.1
      have rel := cn.2 ki
      have kA : K.testBit (A v) = true := by
        by_cases q : K.testBit (A v) = true
        · exact q
        · have q2 : ¬ K.testBit (B v) = true := fun y => q ((hK.2.2.2 v hv).mpr y)
          exact absurd (by rw [lab_out hK hab.1 q, lab_out hK hab.2.1 q2]) z
      have r1 := rel a gd ha hK.2.1 hKa hK.2.2.1
      rw [lab_gd hK] at r1
      have r2 := rel a (A v) ha hab.1 hKa kA
      have eg : gsK N A B v a gd (s + 2 ^ v) = if kfin A B N 0 id s a = kfin A B N 0 id s gd then 0 else if kfin A B N 0 id s a = kfin A B N 0 id s (A v) then 1 else -1 := by
        unfold gsK
        rw [bit_up hs, if_neg (by decide), Nat.add_sub_cancel]
      rw [eg]
      generalize wgtS (wl (msk K gd) A B c N) s = t
      unfold dlt
      generalize finS (wl (msk K gd) A B c N) (PS (sn (pcn (msk K gd) 6))) s = Q at *
      have la5 : lab (msk K gd) a ≤ 5 := by omega
      by_cases y : Q (lab (msk K gd) a) = Q 5
      · rw [if_pos (r1.mpr y), if_neg (show ¬ (Q (lab (msk K gd) (A v)) = Q (lab (msk K gd) a) ∧ Q (lab (msk K gd) a) ≠ Q 5) from fun q => q.2 y), if_neg (show ¬ (Q (lab (msk K gd) (B v)) = Q (lab (msk K gd) a) ∧ Q (lab (msk K gd) a) ≠ Q 5) from fun q => q.2 y)]
        exact (gst _ _).1
      · rw [if_neg (fun q => y (r1.mp q))]
        by_cases x : Q (lab (msk K gd) a) = Q (lab (msk K gd) (A v))
        · rw [if_pos (r2.mpr x), if_pos ⟨x.symm, y⟩, if_neg (show ¬ (Q (lab (msk K gd) (B v)) = Q (lab (msk K gd) a) ∧ Q (lab (msk K gd) a) ≠ Q 5) from fun q => z (by rw [q.1, x]))]
          exact (gst _ _).2.1
        · have x2 : Q (lab (msk K gd) a) = Q (lab (msk K gd) (B v)) := by
            rcases two_labels f.1 l1 (lab_le5 hab.1 h5.1) (lab_le5 hab.2.1 h5.1) la5 z with q | q
            · exact absurd q x
            · exact q
          rw [if_neg (fun q => x (r2.mp q)), if_neg (show ¬ (Q (lab (msk K gd) (A v)) = Q (lab (msk K gd) a) ∧ Q (lab (msk K gd) a) ≠ Q 5) from fun q => x q.1.symm), if_pos ⟨x2.symm, y⟩]
          exact (gst _ _).2.2
  · have t0 : twS (wl (msk K gd) A B c N) (PS (sn (pcn (msk K gd) 6))) (pcn (msk K gd) 6) (s + 2 ^ v) = 0 := if_neg (fun q => by
      have q2 := hoa.mp q.2
      exact cc ⟨by omega, ((opn_apart _ _ _ _ _ q2.1).mp q2.2).1⟩)
    have t1 : twS (wl (msk K gd) A B c N) (PS (sn (pcn (msk K gd) 6))) (pcn (msk K gd) 6 - 1) s = 0 := if_neg cc
    rw [t0, t1]
    simp
/-- all that goes through wire v -/
theorem gone_sum (hN : Net N A B) (hK : Kok N K gd A B) {a v : Nat} (ha : a < 6) (hKa : K.testBit a = true) (hag : a ≠ gd) (hv : v < N) {n : Nat} (hn : n = pcn (msk K gd) 6) : sumT (fun s => gsK N A B v a gd s * twS (wl (msk K gd) A B c N) (PS (sn n)) n s) (2 ^ N) = c v * (sumT (hS (wl (msk K gd) A B c N) n (lab (msk K gd) a) (lab (msk K gd) (A v))) (2 ^ N) - sumT (hS (wl (msk K gd) A B c N) n (lab (msk K gd) a) (lab (msk K gd) (B v))) (2 ^ N)) := by
  have e1 : sumT (fun s => c v * (hS (wl (msk K gd) A B c N) n (lab (msk K gd) a) (lab (msk K gd) (A v)) s + -1 * hS (wl (msk K gd) A B c N) n (lab (msk K gd) a) (lab (msk K gd) (B v)) s)) (2 ^ N) = c v * (sumT (hS (wl (msk K gd) A B c N) n (lab (msk K gd) a) (lab (msk K gd) (A v))) (2 ^ N) - sumT (hS (wl (msk K gd) A B c N) n (lab (msk K gd) a) (lab (msk K gd) (B v))) (2 ^ N)) := by
    rw [sumT_mul, sumT_add, sumT_mul]
    congr 1
    omega
  rw [← e1, sumT_bit v N _ hv, sumT_bit v N (fun s => c v * (hS (wl (msk K gd) A B c N) n (lab (msk K gd) a) (lab (msk K gd) (A v)) s + -1 * hS (wl (msk K gd) A B c N) n (lab (msk K gd) a) (lab (msk K gd) (B v)) s)) hv]
  refine sumT_congr (fun s _ => ?_)
  rcases bit01 s v with q | q
  · rw [if_neg (by omega), if_neg (by omega), pair_v hN hK ha hKa hag hv q hn]
    have z0 : gsK N A B v a gd s = 0 := if_pos q
    have z1 : hS (wl (msk K gd) A B c N) n (lab (msk K gd) a) (lab (msk K gd) (A v)) (s + 2 ^ v) = hS (wl (msk K gd) A B c N) n (lab (msk K gd) a) (lab (msk K gd) (B v)) (s + 2 ^ v) := by
      unfold hS dlt
      rw [show finS (wl (msk K gd) A B c N) (PS (sn n)) (s + 2 ^ v) (lab (msk K gd) (A v)) = finS (wl (msk K gd) A B c N) (PS (sn n)) (s + 2 ^ v) (lab (msk K gd) (B v)) from finS_join _ _ _ v _ (wl_get _ hv) (bit_up q)]
    rw [z0, z1, Int.zero_mul, Int.zero_add, show hS (wl (msk K gd) A B c N) n (lab (msk K gd) a) (lab (msk K gd) (B v)) (s + 2 ^ v) + -1 * hS (wl (msk K gd) A B c N) n (lab (msk K gd) a) (lab (msk K gd) (B v)) (s + 2 ^ v) = 0 by omega, Int.mul_zero, Int.add_zero]
    congr 1
    omega
  · rw [if_pos q, if_pos q]
theorem goesRef (hN : Net N A B) (h1 : ∀ w, w < N → first w = nI (A w) ∧ second w = nI (B w)) {a b v s : Nat} (ha : a < 6) (hb : b < 6) (hv : v < N) (hs : s < 4096) (G : Nat → Int32) : ∃ (gi : Int32) (G' : Nat → Int32), fX10_goes (nI s) (nI v) (nI a) (nI b) (nI N) first second G = some (gi, G') ∧ gi.toInt64 = Zl (gsK N A B v a b s) := by
  have hN12 := hN.1
  have hab := hN.2 v hv
  unfold fX10_goes gsK
  rw [sh_b hs (show v < 12 by omega)]
  rcases bit01 s v with q | q
  · rw [q, if_pos (show nI 0 = 0 by decide), if_pos rfl]
    exact ⟨_, _, rfl, by decide⟩
  · rw [q, if_neg (show ¬ nI 1 = 0 by decide), if_neg (show ¬ 1 = 0 by decide)]
    have hge : 2 ^ v ≤ s := by
      by_cases z : 2 ^ v ≤ s
      · exact z
      · rw [Nat.div_eq_of_lt (by omega)] at q
        omega
    have e : nI s - ((1 : Int32) <<< (nI v &&& 31)) = nI (s - 2 ^ v) := by
      rw [show (1 : Int32) <<< (nI v &&& 31) = nI (2 ^ v) from (ones ⟨v, by omega⟩).2.2.1]
      have : nI s = nI (s - 2 ^ v) + nI (2 ^ v) := by rw [nI_plus, show s - 2 ^ v + 2 ^ v = s by omega]
      rw [this]
      exact Int32.add_sub_cancel _ _
    obtain ⟨G1, j1, j2⟩ := joinsOk hN h1 (Nat.lt_of_le_of_lt (Nat.sub_le s (2 ^ v)) hs) G
    rw [e, j1]
    simp only [Option.bind_some]
    rw [if_pos (jok_nI ha (by omega)), if_pos (jok_nI hb (by omega)), nI_clamp (show a < 2 ^ 31 by omega), nI_clamp (show b < 2 ^ 31 by omega), if_pos (jok_nI (show v < 12 by omega) (by omega)), nI_clamp (show v < 2 ^ 31 by omega), (h1 v hv).1, if_pos (jok_nI hab.1 (by omega)), nI_clamp (show A v < 2 ^ 31 by omega), (j2 a ha).1, (j2 b hb).1, (j2 _ hab.1).1]
    have b1 := (j2 a ha).2
    have b2 := (j2 b hb).2
    have b3 := (j2 _ hab.1).2
    by_cases z1 : kfin A B N 0 id (s - 2 ^ v) a = kfin A B N 0 id (s - 2 ^ v) b
    · rw [if_pos (by rw [z1]), if_pos z1]
      exact ⟨_, _, rfl, by decide⟩
    · rw [if_neg (fun z => z1 ((nI_inj (by omega) (by omega)).mp z)), if_neg z1]
      by_cases z2 : kfin A B N 0 id (s - 2 ^ v) a = kfin A B N 0 id (s - 2 ^ v) (A v)
      · rw [if_pos (by rw [z2]), if_pos z2]
        exact ⟨_, _, rfl, by decide⟩
      · rw [if_neg (fun z => z2 ((nI_inj (by omega) (by omega)).mp z)), if_neg z2]
        exact ⟨_, _, rfl, by decide⟩
theorem thLoop (hN : Net N A B) (h1 : ∀ w, w < N → first w = nI (A w) ∧ second w = nI (B w)) (hT : Wts N T U times byy) {W : Nat → Int32} (hW : Whl N A B W) {a b v : Nat} (ha : a < 6) (hb : b < 6) (hv : v < N) (hR : (rch N A B a).testBit b = true) (G0 : Nat → Int32) (i0 : Int32) {n : Nat} (hn : n = pcn (msk (rch N A B a) b) 6) :
    ∀ (r s : Nat) (G : Nat → Int32), s + r = 2 ^ N → ∀ fuel, r < fuel → ∃ G', LX10_through_71 (nI N) first second times byy (nI v) (nI a) (nI b) (i0, G0, W) (nI (pcn (rch N A B a) 6)) fuel (Zl (sumT (twS (wl (msk (rch N A B a) b) A B (cf T U) N) (PS (sn n)) n) s)) (Zl (sumT (fun s => gsK N A B v a b s * twS (wl (msk (rch N A B a) b) A B (cf T U) N) (PS (sn n)) n s) s)) (nI s) G = some (Zl (sumT (twS (wl (msk (rch N A B a) b) A B (cf T U) N) (PS (sn n)) n) (2 ^ N)), Zl (sumT (fun s => gsK N A B v a b s * twS (wl (msk (rch N A B a) b) A B (cf T U) N) (PS (sn n)) n s) (2 ^ N)), G') := by
  have hN12 := hN.1
  have hK := Kok_rch hN ha hb hR
  have h5 := msk5 hK
  subst hn
  have hp := pow12 ⟨N, by omega⟩
  have hp : 2 ^ N ≤ 4096 := hp
  have e1 : nI (pcn (rch N A B a) 6) - (1 : Int32) = nI (pcn (msk (rch N A B a) b) 6) := by
    rw [← h5.2, nI_succ]
    exact Int32.add_sub_cancel _ _
  intro r
  induction r with
  | zero =>
    intro s G hs fuel hf
    obtain ⟨f, rfl⟩ : ∃ f, fuel = f + 1 := ⟨fuel - 1, by omega⟩
    obtain rfl : s = 2 ^ N := by omega
    refine ⟨G, ?_⟩
    unfold LX10_through_71
    rw [if_pos]
    rw [show (1 : Int32) <<< (nI N &&& 31) = nI (2 ^ N) from (ones ⟨N, by omega⟩).2.2.1]
    exact nI_le (Nat.le_refl _) (by omega)
  | succ r ih =>
    intro s G hs fuel hf
    obtain ⟨f, rfl⟩ : ∃ f, fuel = f + 1 := ⟨fuel - 1, by omega⟩
    have hs4 : s < 4096 := by omega
    have tk := tw_k (c := cf T U) hN hK (pcn (msk (rch N A B a) b) 6) s
    have bnd : cntS N s ≤ 12 := by
      rw [← kcnt_12 hN12 (show s < 2 ^ N by omega)]
      exact kcnt_le s 12
    obtain ⟨G1, j1, -⟩ := joinsOk hN h1 hs4 G
    obtain ⟨gi, G2, g1, g2⟩ := goesRef hN h1 ha hb hv hs4 G1
    have hw := weightRef hN12 hs4 hT
    have za : ∀ u : Int, Zl u + Zl 0 = Zl u := fun u => Int64.add_zero _
    have zs : ∀ u x : Int, Zl u + Zl x = Zl (u + x) := fun u x => (Int64.ofInt_add u x).symm
    have zm : ∀ u x : Int, Zl u * Zl x = Zl (u * x) := fun u x => (Int64.ofInt_mul u x).symm
    have ih' := fun G => ih (s + 1) G (by omega) f (by omega)
    simp only [sumT_s] at ih'
    unfold LX10_through_71
    rw [if_neg (show ¬ ((1 : Int32) <<< (nI N &&& 31)) ≤ nI s by
      rw [show (1 : Int32) <<< (nI N &&& 31) = nI (2 ^ N) from (ones ⟨N, by omega⟩).2.2.1]
      exact nI_ge (by omega) (by omega)), bitsRef hs4, kcnt_12 hN12 (show s < 2 ^ N by omega)]
    simp only [Option.bind_some, jlet]
    rw [e1, isOfRef hN h1 hW ha hs4]
    simp only [Option.bind_some]
    rw [j1]
    simp only [Option.bind_some]
    rw [hw, ← nI_succ]
    simp only [Option.bind_some]
    rw [g1]
    simp only [Option.bind_some]
    rw [g2, zm]
    by_cases c1 : cntS N s = pcn (msk (rch N A B a) b) 6
    · rw [if_pos (by rw [c1])]
      by_cases c2 : kin (rch N A B a) A N 0 s = true
      · rw [if_pos c2, if_neg (show ¬ (1 : Int32) = 0 by decide)]
        by_cases c3 : kopn A B N 0 id s = true
        · rw [if_pos c3, if_neg (show ¬ (1 : Int32) = 0 by decide)]
          rw [if_pos ⟨c1, c2, c3⟩] at tk
          simp only [Option.bind_some]
          obtain ⟨G', q⟩ := ih' G2
          refine ⟨G', ?_⟩
          rw [tk] at q
          rw [zs, zs]
          exact q
        · rw [if_neg c3, if_pos rfl]
          rw [if_neg (fun z => c3 z.2.2)] at tk
          simp only [Option.bind_some]
          obtain ⟨G', q⟩ := ih' G1
          refine ⟨G', ?_⟩
          rw [tk, Int.mul_zero, Int.add_zero, Int.add_zero] at q
          exact q
      · rw [if_neg c2, if_pos rfl]
        rw [if_neg (fun z => c2 z.2.1)] at tk
        simp only [Option.bind_some]
        obtain ⟨G', q⟩ := ih' G
        refine ⟨G', ?_⟩
        rw [tk, Int.mul_zero, Int.add_zero, Int.add_zero] at q
        exact q
    · rw [if_neg (fun z => c1 ((nI_inj (by omega) (by omega)).mp z))]
      rw [if_neg (fun z => c1 z.1)] at tk
      simp only [Option.bind_some]
      obtain ⟨G', q⟩ := ih' G
      refine ⟨G', ?_⟩
      rw [tk, Int.mul_zero, Int.add_zero, Int.add_zero] at q
      exact q
end THROUGH
