/-! nearest -/
theorem lst_nat {m d : Nat} (hd : 0 < d) : ∃ g u e : Nat, 0 < g ∧ m = g * u ∧ d = g * e ∧ (lst (m : Int) d).1 = (u : Int) ∧ (lst (m : Int) d).2 = (e : Int) ∧ 0 < e := by
  have hg : 0 < Nat.gcd m d := Nat.gcd_pos_of_pos_right _ hd
  obtain ⟨u, hu⟩ := Nat.gcd_dvd_left m d
  obtain ⟨e, he⟩ := Nat.gcd_dvd_right m d
  have e1 : (m : Int).natAbs = m := rfl
  refine ⟨Nat.gcd m d, u, e, hg, hu, he, ?_, ?_, ?_⟩
  · show (m : Int).tdiv ((Nat.gcd (m : Int).natAbs d : Nat) : Int) = _
    rw [e1, ← Int.ofNat_tdiv]
    congr 1
    conv => lhs; lhs; rw [hu]
    exact Nat.mul_div_cancel_left u hg
  · show (d : Int).tdiv ((Nat.gcd (m : Int).natAbs d : Nat) : Int) = _
    rw [e1, ← Int.ofNat_tdiv]
    congr 1
    conv => lhs; lhs; rw [he]
    exact Nat.mul_div_cancel_left e hg
  · by_cases z : e = 0
    · rw [z, Nat.mul_zero] at he
      omega
    · omega
/-- how far U by D is off u by d, times both lower ones -/
def gpN (u d U D : Nat) : Nat := ((U : Int) * d - u * D).natAbs
theorem gpN_mul (u d g U D : Nat) : gpN u d (g * U) (g * D) = g * gpN u d U D := by
  unfold gpN
  rw [Int.natCast_mul, Int.natCast_mul, show ((g : Int) * U * d - u * (g * D)) = g * ((U : Int) * d - u * D) by grind, Int.natAbs_mul]
  rfl
theorem gpN_le {u d U D : Nat} (hu : u ≤ 1000) (hd : d ≤ 1000) (hU : U ≤ 10000) (hD : D ≤ 200) : gpN u d U D ≤ 10000000 := by
  unfold gpN
  have h1 : U * d ≤ 10000 * 1000 := Nat.mul_le_mul hU hd
  have h2 : u * D ≤ 1000 * 200 := Nat.mul_le_mul hu hD
  have e1 : ((U * d : Nat) : Int) = (U : Int) * d := Int.natCast_mul U d
  have e2 : ((u * D : Nat) : Int) = (u : Int) * D := Int.natCast_mul u D
  omega
theorem gapOk {u d U D : Nat} (hu : u ≤ 1000) (hd : d ≤ 1000) (hU : U ≤ 10000) (hD : D ≤ 200) : fX7_gap (nI u) (nI d) (Zl (U : Int)) (Zl (D : Int)) = some (Zl (gpN u d U D : Nat)) ∧ (if (0 : Int64) ≤ Zl (U : Int) * (nI d).toInt64 - (nI u).toInt64 * Zl (D : Int) then Zl (U : Int) * (nI d).toInt64 - (nI u).toInt64 * Zl (D : Int) else - (Zl (U : Int) * (nI d).toInt64 - (nI u).toInt64 * Zl (D : Int))) = Zl (gpN u d U D : Nat) := by
  have hg := gpN_le hu hd hU hD
  have e : Zl (U : Int) * (nI d).toInt64 - (nI u).toInt64 * Zl (D : Int) = Zl ((U : Int) * d - u * D) := by
    rw [nI_64 (by omega), nI_64 (by omega), Zl_mulsub]
  have hr : rg ((U : Int) * d - u * D) := by
    unfold gpN at hg
    constructor <;> omega
  have hz : rg 0 := ⟨by decide, by decide⟩
  unfold fX7_gap
  rw [e]
  unfold gpN
  constructor
  · by_cases c : 0 < (U : Int) * d - u * D
    · rw [if_pos (show (0 : Int64) < _ from (Zl_lt (x := 0) hz hr).mpr c), show (((U : Int) * d - u * D).natAbs : Int) = (U : Int) * d - u * D by omega]
    · rw [if_neg (show ¬ (0 : Int64) < _ from fun z => c ((Zl_lt (x := 0) hz hr).mp z)), show (((U : Int) * d - u * D).natAbs : Int) = -((U : Int) * d - u * D) by omega]
      exact congrArg some (Int64.ofInt_neg _).symm
  · by_cases c : 0 ≤ (U : Int) * d - u * D
    · rw [if_pos (show (0 : Int64) ≤ _ from (Zl_le (x := 0) hz hr).mpr c), show (((U : Int) * d - u * D).natAbs : Int) = (U : Int) * d - u * D by omega]
    · rw [if_neg (show ¬ (0 : Int64) ≤ _ from fun z => c ((Zl_le (x := 0) hz hr).mp z)), show (((U : Int) * d - u * D).natAbs : Int) = -((U : Int) * d - u * D) by omega]
      exact (Int64.ofInt_neg _).symm
/-- both ways of comparing say the same -/
theorem cmp_c {g h x y e f d : Nat} (hg : 0 < g) (hh : 0 < h) (hd : 0 < d) : (((x : Int) * (f * d) - y * (e * d) < 0) ↔ (g * x) * (h * f) < (h * y) * (g * e)) ∧ (((x : Int) * (f * d) - y * (e * d) = 0) ↔ (g * x) * (h * f) = (h * y) * (g * e)) := by
  have e1 : (g * x) * (h * f) = (g * h) * (x * f) := by grind
  have e2 : (h * y) * (g * e) = (g * h) * (y * e) := by grind
  have e3 : (x : Int) * (f * d) = ((x * f * d : Nat) : Int) := by rw [Int.natCast_mul, Int.natCast_mul, Int.mul_assoc]
  have e4 : (y : Int) * (e * d) = ((y * e * d : Nat) : Int) := by rw [Int.natCast_mul, Int.natCast_mul, Int.mul_assoc]
  have hgh : 0 < g * h := Nat.mul_pos hg hh
  rw [e1, e2, e3, e4]
  have k1 : x * f * d < y * e * d ↔ x * f < y * e := Nat.mul_lt_mul_right hd
  have k2 : g * h * (x * f) < g * h * (y * e) ↔ x * f < y * e := Nat.mul_lt_mul_left hgh
  have k3 : x * f * d = y * e * d ↔ x * f = y * e := ⟨fun z => Nat.eq_of_mul_eq_mul_right hd z, fun z => by rw [z]⟩
  have k4 : g * h * (x * f) = g * h * (y * e) ↔ x * f = y * e := ⟨fun z => Nat.eq_of_mul_eq_mul_left hgh z, fun z => by rw [z]⟩
  rw [k2, k4, ← k1, ← k3]
  omega
section NEAREST
variable {ns : Nat} {O Pr : Nat → Nat} {so sp ohms price : Nat → Int32} {u d : Nat}
/-- what both hold of the best so far -/
def Bst (O Pr : Nat → Nat) (ns u d : Nat) (best : Int32) (ku kl off offBy : Int64) (paid : Int32) : Prop := best = -9 ∨ ∃ cb, cb < 300 ∧ hasC cb ns = true ∧ best = nI cb ∧ ku = Zl (mU O cb : Nat) ∧ kl = Zl (mD O cb : Nat) ∧ paid = nI (prC Pr cb) ∧ ∃ h y f : Nat, 0 < h ∧ mU O cb = h * y ∧ mD O cb = h * f ∧ off = Zl (gpN u d y f : Nat) ∧ offBy = Zl ((f * d : Nat) : Int) ∧ 0 < f
theorem nI_ne9 {c : Nat} (h : c < 300) : ¬ nI c = -9 := fun z => by
  have := congrArg Int32.toInt z
  rw [nI_toInt (by omega)] at this
  have e : (-9 : Int32).toInt = -9 := by decide
  omega
theorem nearLoop (h : SR ns O Pr so sp ohms price) (hu : u ≤ 1000) (hd : d ≤ 1000) (hd0 : 0 < d) : ∀ (r c : Nat), c + r = 300 → ∀ (best paid : Int32) (tu tl ku kl off offBy ab bl : Int64), Bst O Pr ns u d best ku kl off offBy paid → ∀ fuel, r < fuel → ∃ (best' : Int32) (tu' tl' ku' kl' ab' bl' : Int64), LX7_nearestTo_6 (nI ns) so sp (nI u) (nI d) fuel best (nI c) tu tl ku kl = some (best', tu', tl', ku', kl') ∧ LX10_nearest_54 (nI ns) ohms price (nI u) (nI d) fuel best off offBy paid (nI c) ab bl = some (best', ab', bl') := by
  have hn := h.1
  intro r
  induction r with
  | zero =>
    intro c hc best paid tu tl ku kl off offBy ab bl hB fuel hf
    obtain ⟨f, rfl⟩ : ∃ f, fuel = f + 1 := ⟨fuel - 1, by omega⟩
    obtain rfl : c = 300 := by omega
    unfold LX7_nearestTo_6 LX10_nearest_54
    rw [if_pos (show (300 : Int32) ≤ nI 300 by decide), if_pos (show (300 : Int32) ≤ nI 300 by decide)]
    exact ⟨_, _, _, _, _, _, _, rfl, rfl⟩
  | succ r ih =>
    intro c hc best paid tu tl ku kl off offBy ab bl hB fuel hf
    obtain ⟨f, rfl⟩ : ∃ f, fuel = f + 1 := ⟨fuel - 1, by omega⟩
    have hc3 : c < 300 := by omega
    obtain ⟨k1, k2⟩ := has_c hc3 hn
    unfold LX7_nearestTo_6 LX10_nearest_54
    rw [if_neg (show ¬ (300 : Int32) ≤ nI c from nI_ge (b := 300) hc3 (by omega)), if_neg (show ¬ (300 : Int32) ≤ nI c from nI_ge (b := 300) hc3 (by omega)), k1, k2]
    simp only [Option.bind_some]
    by_cases hh : hasC c ns = true
    · rw [if_pos hh, if_neg (show ¬ (1 : Int32) = 0 by decide), if_neg (show ¬ (1 : Int32) = 0 by decide)]
      obtain ⟨m1, m2⟩ := measOk h hc3 hh
      have hm := mUD h hc3 hh
      obtain ⟨g, x, e, hg, hx1, hx2, hx3, hx4, he⟩ := lst_nat (m := mU O c) (d := mD O c) (by omega)
      have hgx : x ≤ mU O c := by rw [hx1]; exact Nat.le_mul_of_pos_left x hg
      have hge : e ≤ mD O c := by rw [hx2]; exact Nat.le_mul_of_pos_left e hg
      rw [m1, looksOk h hc3 hh, hx3, hx4]
      simp only [Option.bind_some, jlet]
      have gp1 := (gapOk hu hd (show x ≤ 10000 by omega) (show e ≤ 200 by omega)).2
      rw [gp1]
      have ey : Zl (e : Int) * (nI d).toInt64 = Zl ((e * d : Nat) : Int) := by
        rw [nI_64 (by omega), Int.natCast_mul]
        exact (Int64.ofInt_mul _ _).symm
      rw [ey, ← nI_succ]
      unfold fX0_set
      simp only [Option.bind_some]
      have hnew : Bst O Pr ns u d (nI c) (Zl (mU O c : Nat)) (Zl (mD O c : Nat)) (Zl (gpN u d x e : Nat)) (Zl ((e * d : Nat) : Int)) (nI (prC Pr c)) := Or.inr ⟨c, hc3, hh, rfl, rfl, rfl, rfl, g, x, e, hg, hx1, hx2, rfl, rfl, he⟩
      by_cases hb : best = -9
      · rw [if_pos hb, if_pos hb]
        simp only [Option.bind_some]
        exact ih (c + 1) (by omega) _ _ _ _ _ _ _ _ _ _ hnew f (by omega)
      · rw [if_neg hb, if_neg hb]
        rcases hB with hB | ⟨cb, hcb, hhb, eb, eku, ekl, epd, h', y, f', hh', hy1, hy2, eoff, eby, hf0⟩
        · exact absurd hB hb
        · have hB : Bst O Pr ns u d best ku kl off offBy paid := Or.inr ⟨cb, hcb, hhb, eb, eku, ekl, epd, h', y, f', hh', hy1, hy2, eoff, eby, hf0⟩
          have hmb := mUD h hcb hhb
          have hyy : y ≤ mU O cb := by rw [hy1]; exact Nat.le_mul_of_pos_left y hh'
          have hff : f' ≤ mD O cb := by rw [hy2]; exact Nat.le_mul_of_pos_left f' hh'
          have pb := (measOk h hcb hhb).2
          have g1 := (gapOk hu hd hm.2.1 hm.2.2.2.1).1
          have g2 := (gapOk hu hd hmb.2.1 hmb.2.2.2.1).1
          have gG : gpN u d (mU O c) (mD O c) = g * gpN u d x e := by rw [hx1, hx2, gpN_mul]
          have gH : gpN u d (mU O cb) (mD O cb) = h' * gpN u d y f' := by rw [hy1, hy2, gpN_mul]
          have cm := cmp_c (g := g) (h := h') (x := gpN u d x e) (y := gpN u d y f') (e := e) (f := f') hg hh' hd0
          rw [← gG, ← gH, ← hx2, ← hy2] at cm
          have l1 := gpN_le hu hd hm.2.1 hm.2.2.2.1
          have l2 := gpN_le hu hd hmb.2.1 hmb.2.2.2.1
          have l3 := gpN_le hu hd (show x ≤ 10000 by omega) (show e ≤ 200 by omega)
          have l4 := gpN_le hu hd (show y ≤ 10000 by omega) (show f' ≤ 200 by omega)
          have n1 : gpN u d (mU O c) (mD O c) * mD O cb ≤ 10000000 * 200 := Nat.mul_le_mul l1 hmb.2.2.2.1
          have n2 : gpN u d (mU O cb) (mD O cb) * mD O c ≤ 10000000 * 200 := Nat.mul_le_mul l2 hm.2.2.2.1
          have n3 : gpN u d x e * (f' * d) ≤ 10000000 * (200 * 1000) := Nat.mul_le_mul l3 (Nat.mul_le_mul (by omega) hd)
          have n4 : gpN u d y f' * (e * d) ≤ 10000000 * (200 * 1000) := Nat.mul_le_mul l4 (Nat.mul_le_mul (by omega) hd)
          have zz : ∀ a b : Nat, Zl (a : Int) * Zl (b : Int) = Zl ((a * b : Nat) : Int) := fun a b => by
            rw [Int.natCast_mul]
            exact (Int64.ofInt_mul _ _).symm
          have eless : Zl ((gpN u d x e : Nat) : Int) * offBy - off * Zl ((e * d : Nat) : Int) = Zl (((gpN u d x e : Nat) : Int) * ((f' : Int) * d) - ((gpN u d y f' : Nat) : Int) * ((e : Int) * d)) := by
            rw [eoff, eby, Zl_mulsub, Int.natCast_mul, Int.natCast_mul]
          have rl : rg (((gpN u d x e : Nat) : Int) * ((f' : Int) * d) - ((gpN u d y f' : Nat) : Int) * ((e : Int) * d)) := by
            have t1 : ((gpN u d x e : Nat) : Int) * ((f' : Int) * d) = ((gpN u d x e * (f' * d) : Nat) : Int) := by rw [Int.natCast_mul, Int.natCast_mul]
            have t2 : ((gpN u d y f' : Nat) : Int) * ((e : Int) * d) = ((gpN u d y f' * (e * d) : Nat) : Int) := by rw [Int.natCast_mul, Int.natCast_mul]
            rw [t1, t2]
            constructor <;> omega
          have rz : rg 0 := ⟨by decide, by decide⟩
          have ebet : fX7_isTriedBetter (nI c) best (nI u) (nI d) sp (Zl (mU O c : Nat)) (Zl (mD O c : Nat)) ku kl = some (if gpN u d (mU O c) (mD O c) * mD O cb = gpN u d (mU O cb) (mD O cb) * mD O c then (if prC Pr cb ≤ prC Pr c then 0 else 1) else if gpN u d (mU O cb) (mD O cb) * mD O c ≤ gpN u d (mU O c) (mD O c) * mD O cb then 0 else 1) := by
            unfold fX7_isTriedBetter
            rw [g1]
            simp only [Option.bind_some, jlet]
            rw [eku, ekl, g2]
            simp only [Option.bind_some]
            rw [m2, eb, pb]
            simp only [Option.bind_some]
            rw [zz, zz]
            have r1 : rg ((gpN u d (mU O c) (mD O c) * mD O cb : Nat) : Int) := rgN (by omega)
            have r2 : rg ((gpN u d (mU O cb) (mD O cb) * mD O c : Nat) : Int) := rgN (by omega)
            by_cases q1 : gpN u d (mU O c) (mD O c) * mD O cb = gpN u d (mU O cb) (mD O cb) * mD O c
            · rw [if_pos (by rw [q1]), if_pos q1]
              by_cases q2 : prC Pr cb ≤ prC Pr c
              · rw [if_pos (nI_le q2 (by omega)), if_pos q2]
              · rw [if_neg (nI_ge (by omega) (by omega)), if_neg q2]
            · rw [if_neg (fun z => q1 (by have := (Zl_inj r1 r2).mp z; omega)), if_neg q1]
              by_cases q2 : gpN u d (mU O cb) (mD O cb) * mD O c ≤ gpN u d (mU O c) (mD O c) * mD O cb
              · rw [if_pos ((Zl_le r2 r1).mpr (by omega)), if_pos q2]
              · rw [if_neg (fun z => q2 (by have := (Zl_le r2 r1).mp z; omega)), if_neg q2]
          rw [ebet, eless]
          simp only [Option.bind_some]
          by_cases q1 : gpN u d (mU O c) (mD O c) * mD O cb = gpN u d (mU O cb) (mD O cb) * mD O c
          · have q1' := cm.2.mpr q1
            rw [if_pos q1, q1', if_neg (show ¬ Zl 0 < (0 : Int64) by decide), if_pos (show Zl 0 = (0 : Int64) from rfl), epd]
            by_cases q2 : prC Pr cb ≤ prC Pr c
            · rw [if_pos q2, if_pos rfl, if_pos (nI_le q2 (by omega))]
              simp only [Option.bind_some]
              rw [epd] at hB
              exact ih (c + 1) (by omega) _ _ _ _ _ _ _ _ _ _ hB f (by omega)
            · rw [if_neg q2, if_neg (show ¬ (1 : Int32) = 0 by decide), if_neg (nI_ge (by omega) (by omega))]
              simp only [Option.bind_some]
              exact ih (c + 1) (by omega) _ _ _ _ _ _ _ _ _ _ hnew f (by omega)
          · rw [if_neg q1]
            have q1n : ¬ (((gpN u d x e : Nat) : Int) * ((f' : Int) * d) - ((gpN u d y f' : Nat) : Int) * ((e : Int) * d)) = 0 := fun z => q1 (cm.2.mp z)
            by_cases q2 : gpN u d (mU O cb) (mD O cb) * mD O c ≤ gpN u d (mU O c) (mD O c) * mD O cb
            · have q3 : ¬ (((gpN u d x e : Nat) : Int) * ((f' : Int) * d) - ((gpN u d y f' : Nat) : Int) * ((e : Int) * d)) < 0 := fun z => by
                have := cm.1.mp z
                omega
              rw [if_pos q2, if_pos rfl, if_neg (show ¬ _ < (0 : Int64) from fun z => q3 ((Zl_lt rl (y := 0) rz).mp z)), if_neg (Zl_ne0 rl q1n)]
              simp only [Option.bind_some]
              exact ih (c + 1) (by omega) _ _ _ _ _ _ _ _ _ _ hB f (by omega)
            · have q3 : (((gpN u d x e : Nat) : Int) * ((f' : Int) * d) - ((gpN u d y f' : Nat) : Int) * ((e : Int) * d)) < 0 := cm.1.mpr (by omega)
              rw [if_neg q2, if_neg (show ¬ (1 : Int32) = 0 by decide), if_pos (show _ < (0 : Int64) from (Zl_lt rl (y := 0) rz).mpr q3)]
              simp only [Option.bind_some]
              exact ih (c + 1) (by omega) _ _ _ _ _ _ _ _ _ _ hnew f (by omega)
    · rw [if_neg hh, if_pos rfl, if_pos rfl]
      simp only [Option.bind_some, jlet]
      rw [← nI_succ]
      exact ih (c + 1) (by omega) _ _ _ _ _ _ _ _ _ _ hB f (by omega)
theorem nearest_same (h : SR ns O Pr so sp ohms price) (a1 a2 : Int32) (tu tl ku kl ab bl : Int64) : ∃ (r : Int32) (tu' tl' ku' kl' ab' bl' : Int64), fX9_nearest a1 a2 (nI ns) so sp tu tl ku kl = some (r, tu', tl', ku', kl') ∧ fX10_nearest a1 a2 (nI ns) ohms price ab bl = some (r, 0, ab', bl') := by
  have hn := h.1
  unfold fX9_nearest fX10_nearest fX9_isTold fX7_size
  have hp := within_c a1 1 1000 (by decide) (by decide)
  have hp : (fX9_isWithin a1 1 1000 = some 0 ∧ fX10_in a1 1 1000 = some 0) ∨ ∃ k, 1 ≤ k ∧ k ≤ 1000 ∧ a1 = nI k ∧ fX9_isWithin a1 1 1000 = some 1 ∧ fX10_in a1 1 1000 = some 1 := hp
  rcases hp with ⟨q1, q2⟩ | ⟨u, hu1, hu2, rfl, q1, q2⟩
  · rw [q1, q2]
    exact ⟨_, _, _, _, _, _, _, rfl, rfl⟩
  · rw [q1, q2]
    simp only [Option.bind_some]
    rw [if_neg (show ¬ (1 : Int32) = 0 by decide), if_neg (show ¬ (1 : Int32) = 0 by decide)]
    have hp := within_c a2 1 1000 (by decide) (by decide)
    have hp : (fX9_isWithin a2 1 1000 = some 0 ∧ fX10_in a2 1 1000 = some 0) ∨ ∃ k, 1 ≤ k ∧ k ≤ 1000 ∧ a2 = nI k ∧ fX9_isWithin a2 1 1000 = some 1 ∧ fX10_in a2 1 1000 = some 1 := hp
    rcases hp with ⟨q1, q2⟩ | ⟨d, hd1, hd2, rfl, q1, q2⟩
    · rw [q1, q2]
      exact ⟨_, _, _, _, _, _, _, rfl, rfl⟩
    · rw [q1, q2]
      simp only [Option.bind_some]
      rw [if_neg (show ¬ (1 : Int32) = 0 by decide), if_neg (show ¬ (1 : Int32) = 0 by decide)]
      simp only [Option.bind_some]
      rw [if_neg (show ¬ (1 : Int32) = 0 by decide)]
      by_cases c : ns = 0
      · subst c
        rw [if_pos (show nI 0 = 0 by decide), if_pos (show nI 0 = 0 by decide)]
        exact ⟨_, _, _, _, _, _, _, rfl, rfl⟩
      · rw [if_neg (nI_ne0 (by omega) (by omega)), if_neg (nI_ne0 (by omega) (by omega))]
        obtain ⟨b', x1, x2, x3, x4, x5, x6, e1, e2⟩ := nearLoop h hu2 hd2 hd1 300 0 rfl (-9) 0 tu tl ku kl 0 1 ab bl (Or.inl rfl) 5000 (by omega)
        have e1 : LX7_nearestTo_6 (nI ns) so sp (nI u) (nI d) 5000 (-9 : Int32) (0 : Int32) tu tl ku kl = some (b', x1, x2, x3, x4) := e1
        have e2 : LX10_nearest_54 (nI ns) ohms price (nI u) (nI d) 5000 (-9 : Int32) (0 : Int64) (1 : Int64) (0 : Int32) (0 : Int32) ab bl = some (b', x5, x6) := e2
        unfold fX7_nearestTo
        rw [e1, e2]
        exact ⟨_, _, _, _, _, _, _, rfl, rfl⟩
end NEAREST
