/-! a wire more in a set; forests of two that part a from the ground -/
theorem add_bit0 {s : Nat} (h : s / 2 ^ 0 % 2 = 0) : (s + 2 ^ 0) % 2 = 1 ∧ (s + 2 ^ 0) / 2 = s / 2 ∧ s % 2 = 0 := by
  rw [Nat.pow_zero, Nat.div_one] at h
  rw [Nat.pow_zero]
  omega
theorem add_bit1 (s v : Nat) : (s + 2 ^ (v + 1)) % 2 = s % 2 ∧ (s + 2 ^ (v + 1)) / 2 = s / 2 + 2 ^ v := by
  rw [Nat.pow_succ]
  omega
theorem opn_add : ∀ (ws : List Wr) (P : Nat → Nat) (s v : Nat) (w0 : Wr), ws[v]? = some w0 → s / 2 ^ v % 2 = 0 → (opnS ws P (s + 2 ^ v) = true ↔ P w0.1 ≠ P w0.2.1 ∧ opnS ws (mrg P w0.1 w0.2.1) s = true)
  | [], _, _, _, _, h, _ => by simp at h
  | w :: ws, P, s, 0, w0, h, hb => by
    obtain ⟨e1, e2, e3⟩ := add_bit0 hb
    have h : some w = some w0 := h
    obtain rfl := Option.some.inj h
    rw [opnS_c, opnS_c, e1, e2, if_pos rfl, if_neg (show ¬ s % 2 = 1 by omega), Bool.and_eq_true]
    simp
  | w :: ws, P, s, v + 1, w0, h, hb => by
    obtain ⟨e1, e2⟩ := add_bit1 s v
    have h : ws[v]? = some w0 := h
    have hb' : s / 2 / 2 ^ v % 2 = 0 := by
      rw [Nat.div_div_eq_div_mul, Nat.mul_comm, ← Nat.pow_succ]
      exact hb
    rw [opnS_c, opnS_c, e1, e2]
    by_cases c : s % 2 = 1
    · rw [if_pos c, if_pos c, Bool.and_eq_true, Bool.and_eq_true, opn_add ws _ (s / 2) v w0 h hb']
      simp only [decide_eq_true_eq]
      by_cases z : P w.1 = P w.2.1
      · constructor
        · rintro ⟨q, -⟩; exact absurd z q
        · rintro ⟨q1, q2, -⟩; exact absurd ((mrg_eq q1 _ _).mpr (Or.inl z)) q2
      · by_cases y : P w0.1 = P w0.2.1
        · constructor
          · rintro ⟨-, q, -⟩; exact absurd ((mrg_eq z _ _).mpr (Or.inl y)) q
          · rintro ⟨q, -⟩; exact absurd y q
        · have e : (mrg P w.1 w.2.1 w0.1 ≠ mrg P w.1 w.2.1 w0.2.1) ↔ (mrg P w0.1 w0.2.1 w.1 ≠ mrg P w0.1 w0.2.1 w.2.1) := by
            rw [Ne, mrg_eq z, Ne, mrg_eq y]
            grind
          by_cases x : mrg P w.1 w.2.1 w0.1 = mrg P w.1 w.2.1 w0.2.1
          · constructor
            · rintro ⟨-, q, -⟩; exact absurd x q
            · rintro ⟨-, q, -⟩; exact absurd x (e.mpr q)
          · have x2 := e.mp x
            have ev : Eqv (mrg (mrg P w.1 w.2.1) w0.1 w0.2.1) (mrg (mrg P w0.1 w0.2.1) w.1 w.2.1) := fun a b => by
              rw [mrg_eq x, mrg_eq x2]
              simp only [mrg_eq z, mrg_eq y]
              grind
            rw [opnS_eqv ws _ ev]
            constructor
            · rintro ⟨q1, q2, q3⟩; exact ⟨y, x2, q3⟩
            · rintro ⟨q1, q2, q3⟩; exact ⟨z, x, q3⟩
    · rw [if_neg c, if_neg c]
      exact opn_add ws P (s / 2) v w0 h hb'
theorem wgt_add : ∀ (ws : List Wr) (s v : Nat) (w0 : Wr), ws[v]? = some w0 → s / 2 ^ v % 2 = 0 → wgtS ws (s + 2 ^ v) = w0.2.2 * wgtS ws s
  | [], _, _, _, h, _ => by simp at h
  | w :: ws, s, 0, w0, h, hb => by
    obtain ⟨e1, e2, e3⟩ := add_bit0 hb
    have h : some w = some w0 := h
    obtain rfl := Option.some.inj h
    rw [wgtS_c, wgtS_c, e1, e2, if_pos rfl, if_neg (show ¬ s % 2 = 1 by omega), Int.one_mul]
  | w :: ws, s, v + 1, w0, h, hb => by
    obtain ⟨e1, e2⟩ := add_bit1 s v
    have h : ws[v]? = some w0 := h
    have hb' : s / 2 / 2 ^ v % 2 = 0 := by
      rw [Nat.div_div_eq_div_mul, Nat.mul_comm, ← Nat.pow_succ]
      exact hb
    rw [wgtS_c, wgtS_c, e1, e2, wgt_add ws (s / 2) v w0 h hb', ← Int.mul_assoc, ← Int.mul_assoc, Int.mul_comm w0.2.2]
theorem cnt_add : ∀ (n s v : Nat), v < n → s / 2 ^ v % 2 = 0 → cntS n (s + 2 ^ v) = cntS n s + 1
  | 0, _, _, h, _ => by omega
  | n + 1, s, 0, _, hb => by
    obtain ⟨e1, e2, e3⟩ := add_bit0 hb
    rw [cntS_s, cntS_s, e1, e2, e3]
    omega
  | n + 1, s, v + 1, h, hb => by
    obtain ⟨e1, e2⟩ := add_bit1 s v
    have hb' : s / 2 / 2 ^ v % 2 = 0 := by
      rw [Nat.div_div_eq_div_mul, Nat.mul_comm, ← Nat.pow_succ]
      exact hb
    rw [cntS_s, cntS_s, e1, e2, cnt_add n (s / 2) v (by omega) hb']
    omega
/-- sets with and without wire v, by twos -/
theorem sumT_bit : ∀ (v n : Nat) (F : Nat → Int), v < n → sumT F (2 ^ n) = sumT (fun s => if s / 2 ^ v % 2 = 1 then 0 else F s + F (s + 2 ^ v)) (2 ^ n)
  | _, 0, _, h => by omega
  | 0, n + 1, F, _ => by
    rw [Nat.pow_succ, Nat.mul_comm, sumT_two, sumT_two]
    refine sumT_congr (fun s _ => ?_)
    rw [Nat.pow_zero, Nat.div_one, Nat.div_one, if_neg (show ¬ 2 * s % 2 = 1 by omega), if_pos (show (2 * s + 1) % 2 = 1 by omega), Int.add_zero]
  | v + 1, n + 1, F, h => by
    rw [Nat.pow_succ 2 n, Nat.mul_comm (2 ^ n), sumT_two, sumT_two, sumT_add, sumT_add, sumT_bit v n (fun s => F (2 * s)) (by omega), sumT_bit v n (fun s => F (2 * s + 1)) (by omega)]
    congr 1
    · refine sumT_congr (fun s _ => ?_)
      rw [show 2 * s / 2 ^ (v + 1) = s / 2 ^ v by rw [Nat.pow_succ, Nat.mul_comm (2 ^ v), ← Nat.div_div_eq_div_mul]; congr 1; omega, show 2 * (s + 2 ^ v) = 2 * s + 2 ^ (v + 1) by rw [Nat.pow_succ]; omega]
    · refine sumT_congr (fun s _ => ?_)
      rw [show (2 * s + 1) / 2 ^ (v + 1) = s / 2 ^ v by rw [Nat.pow_succ, Nat.mul_comm (2 ^ v), ← Nat.div_div_eq_div_mul]; congr 1; omega, show 2 * (s + 2 ^ v) + 1 = 2 * s + 1 + 2 ^ (v + 1) by rw [Nat.pow_succ]; omega]
/-- behind a forest of two, labels are but two -/
theorem two_labels {P : Nat → Nat} (h : Rt P) (h1 : liv P = 1) {x y z : Nat} (hx : x ≤ 5) (hy : y ≤ 5) (hz : z ≤ 5) (hxy : P x ≠ P y) : P z = P x ∨ P z = P y := by
  have key : ∀ x, x ≤ 5 → P x = 5 ∨ (P x < 5 ∧ P (P x) = P x) := fun x hx => by
    have := h.2 x hx
    rcases Nat.lt_or_eq_of_le this.1 with q | q
    · exact Or.inr ⟨q, this.2⟩
    · exact Or.inl q
  have uni : ∀ r t, r < 5 → t < 5 → P r = r → P t = t → r = t := fun r t hr ht er et => by
    by_cases e : r = t
    · exact e
    · have m := liv_mvP h hr er (show r ≠ 5 by omega) (Nat.le_refl 5) h.1
      have z : liv (mvP P r 5) = 0 := by omega
      have rt := mvP_rt h (show r ≠ 5 by omega) (show r ≠ 5 by omega) (Nat.le_refl 5) h.1
      have := (liv0 rt).mp z t ht
      unfold mvP at this
      rw [if_neg (by rw [et]; exact Ne.symm e), et] at this
      omega
  rcases key x hx with a | a <;> rcases key y hy with b | b <;> rcases key z hz with c | c
  · omega
  · omega
  · exact Or.inl (by omega)
  · exact Or.inr (uni _ _ c.1 b.1 c.2 b.2)
  · exact Or.inr (by omega)
  · exact Or.inl (uni _ _ c.1 a.1 c.2 a.2)
  · exact absurd (uni _ _ a.1 b.1 a.2 b.2) hxy
  · exact absurd (uni _ _ a.1 b.1 a.2 b.2) hxy
section TWO
variable {ws : List Wr} {n : Nat}
/-- the weight of a forest of two, with x beside a and apart from the ground -/
def dlt (Q : Nat → Nat) (x a : Nat) : Int := if Q x = Q a ∧ Q a ≠ Q 5 then 1 else 0
def hS (ws : List Wr) (n a x s : Nat) : Int := twS ws (PS (sn n)) (n - 1) s * dlt (finS ws (PS (sn n)) s) x a
theorem tw_ap {P : Nat → Nat} {i j m s : Nat} (h : P i ≠ P j) : twS ws (mrg P i j) m s = twS ws P m s * (if finS ws P s i = finS ws P s j then 0 else 1) := by
  unfold twS
  have ho := opn_apart ws P s i j h
  by_cases c : cntS ws.length s = m ∧ opnS ws P s = true
  · rw [if_pos c]
    by_cases z : finS ws P s i = finS ws P s j
    · rw [if_pos z, Int.mul_zero, if_neg (fun q => (ho.mp q.2).2 z)]
    · rw [if_neg z, Int.mul_one, if_pos ⟨c.1, ho.mpr ⟨c.2, z⟩⟩]
  · rw [if_neg c, Int.zero_mul, if_neg (fun q => c ⟨q.1, (ho.mp q.2).1⟩)]
theorem mv_mrg (hn : n ≤ 5) {x y : Nat} (hx : x < n) (hy : y < n ∨ y = 5) : mvP (PS (sn n)) x y = mrg (PS (sn n)) x y := by
  unfold mrg
  rw [PS_sn (Or.inl hx) hn, PS_sn hy hn, if_neg (show ¬ x = 5 by omega)]
/-- a cofactor as a sum over sets -/
theorem cof_sum (hw : Wok ws) (hn : n ≤ 5) (h1 : 1 ≤ n) {x a : Nat} (hx : x < n) (ha : a < n) : det5 (repc (An ws n) x (una a)) = sumT (hS ws n a x) (2 ^ ws.length) := by
  have hrt := PS_rt (sn_ok hn)
  have px : PS (sn n) x = x := PS_in (sn_in hx)
  have pa : PS (sn n) a = a := PS_in (sn_in ha)
  have p5 : PS (sn n) 5 = 5 := hrt.1
  have gx := Gf_sum ws (mvP (PS (sn n)) x 5) (n - 1)
  have ga := Gf_sum ws (mvP (PS (sn n)) a 5) (n - 1)
  rw [mv_mrg hn hx (Or.inr rfl)] at gx
  rw [mv_mrg hn ha (Or.inr rfl)] at ga
  by_cases e : x = a
  · subst e
    rw [cof_d hrt hw (by omega) px, liv_sn hn, mv_mrg hn hx (Or.inr rfl), gx]
    refine sumT_congr (fun s _ => ?_)
    rw [tw_ap (by rw [px, p5]; omega)]
    unfold hS dlt
    by_cases z : finS ws (PS (sn n)) s x = finS ws (PS (sn n)) s 5
    · rw [if_pos z, if_neg (fun q => q.2 z)]
    · rw [if_neg z, if_pos ⟨rfl, z⟩]
  · have gxa := Gf_sum ws (mvP (PS (sn n)) x a) (n - 1)
    rw [mv_mrg hn hx (Or.inl ha)] at gxa
    have h2 := cof_o hrt hw (show x < 5 by omega) px (show a < 5 by omega) pa e
    rw [liv_sn hn, mv_mrg hn hx (Or.inr rfl), mv_mrg hn ha (Or.inr rfl), mv_mrg hn hx (Or.inl ha), gx, ga, gxa] at h2
    have h3 : sumT (twS ws (mrg (PS (sn n)) x 5) (n - 1)) (2 ^ ws.length) + sumT (twS ws (mrg (PS (sn n)) a 5) (n - 1)) (2 ^ ws.length) - sumT (twS ws (mrg (PS (sn n)) x a) (n - 1)) (2 ^ ws.length) = 2 * sumT (hS ws n a x) (2 ^ ws.length) := by
      have e0 : sumT (fun s => twS ws (mrg (PS (sn n)) x 5) (n - 1) s + twS ws (mrg (PS (sn n)) a 5) (n - 1) s + -1 * twS ws (mrg (PS (sn n)) x a) (n - 1) s) (2 ^ ws.length) = sumT (fun s => 2 * hS ws n a x s) (2 ^ ws.length) := by
        refine sumT_congr (fun s _ => ?_)
        rw [tw_ap (by rw [px, p5]; omega), tw_ap (by rw [pa, p5]; omega), tw_ap (by rw [px, pa]; exact e)]
        unfold hS
        by_cases c : cntS ws.length s = n - 1 ∧ opnS ws (PS (sn n)) s = true
        · have f := finS_liv ws hw _ s hrt c.2
          rw [liv_sn hn] at f
          have l1 : liv (finS ws (PS (sn n)) s) = 1 := by omega
          generalize twS ws (PS (sn n)) (n - 1) s = t
          unfold dlt
          by_cases z1 : finS ws (PS (sn n)) s a = finS ws (PS (sn n)) s 5
          · rw [if_pos z1, if_neg (show ¬ (_ ∧ finS ws (PS (sn n)) s a ≠ finS ws (PS (sn n)) s 5) from fun q => q.2 z1), ← z1]
            split <;> omega
          · rw [if_neg z1]
            rcases two_labels f.1 l1 (show a ≤ 5 by omega) (Nat.le_refl 5) (show x ≤ 5 by omega) z1 with q | q
            · rw [if_neg (show ¬ finS ws (PS (sn n)) s x = finS ws (PS (sn n)) s 5 by rw [q]; exact z1), if_pos q, if_pos ⟨q, z1⟩]
              omega
            · rw [if_pos q, if_neg (show ¬ finS ws (PS (sn n)) s x = finS ws (PS (sn n)) s a by rw [q]; exact Ne.symm z1), if_neg (show ¬ (finS ws (PS (sn n)) s x = finS ws (PS (sn n)) s a ∧ _) from fun z => z1 (z.1.symm.trans q))]
              omega
        · have t0 : twS ws (PS (sn n)) (n - 1) s = 0 := if_neg c
          rw [t0]
          simp
      rw [sumT_add, sumT_add, sumT_mul, sumT_mul] at e0
      omega
    rw [h3] at h2
    have h2 : 2 * det5 (repc (An ws n) x (una a)) = 2 * sumT (hS ws n a x) (2 ^ ws.length) := h2
    omega
theorem hS_gd (a s : Nat) : hS ws n a 5 s = 0 := by
  unfold hS dlt
  rw [if_neg (fun q => q.2 q.1.symm), Int.mul_zero]
end TWO
