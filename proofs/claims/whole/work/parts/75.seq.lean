theorem outSim {Ls : Nat → List En} {t i1 i2 h p : Nat} (ht : t < 9) (h1 : i1 < 9) (h2 : i2 < 9) (n1 : i1 ≠ t) (n2 : i2 ≠ t) (s1 : Sml (Ls i1)) (s2 : Sml (Ls i2)) (hh : h = 1 ∨ h = 2) : ∀ (l : List En) (i : Nat) (tl : List En) (σ : LkS), RS σ (upL Ls t tl) → (∀ r, (Ls i1)[i + r]? = l[r]?) → (outL h p (Ls i2) l i tl).length ≤ 900 → ∃ σ', pairOut t i1 i2 (nI h) (nI p) (Ls i2).length l.length i σ = some σ' ∧ RS σ' (upL Ls t (outL h p (Ls i2) l i tl))
  | [], i, tl, σ, hS, _, _ => ⟨σ, rfl, hS⟩
  | x :: l, i, tl, σ, hS, hk, hlen => by
    have hx : (Ls i1)[i]? = some x := by
      have := hk 0
      rw [Nat.add_zero] at this
      exact this
    unfold outL at hlen ⊢
    have l1 := outL_len h p (Ls i2) l (i + 1) (inL h p i x (Ls i2) 0 tl)
    obtain ⟨σ1, o1, o2⟩ := inSim (p := p) ht h1 h2 n1 n2 hx s1 s2 hh (Ls i2) 0 tl σ hS (fun r => by rw [Nat.zero_add]) (by omega)
    obtain ⟨σ2, q1, q2⟩ := outSim ht h1 h2 n1 n2 s1 s2 hh l (i + 1) _ σ1 o2 (fun r => by
      have := hk (r + 1)
      rw [show i + (r + 1) = i + 1 + r by omega] at this
      exact this) hlen
    refine ⟨σ2, ?_, q2⟩
    rw [List.length_cons, pairOut, o1]
    exact q1
theorem aSim {Ls : Nat → List En} {n h : Nat} (hn : n ≤ 9) (hs : ∀ j, j < n - 1 → Sml (Ls j)) (hh : h = 1 ∨ h = 2) : ∀ (r a : Nat) (tl : List En) (σ : LkS), 1 ≤ a → a + r ≤ n → RS σ (upL Ls (n - 1) tl) → (aL n h Ls r a tl).length ≤ 900 → ∃ σ', fillA n (nI h) r a σ = some σ' ∧ RS σ' (upL Ls (n - 1) (aL n h Ls r a tl))
  | 0, a, tl, σ, _, _, hS, _ => ⟨σ, rfl, hS⟩
  | r + 1, a, tl, σ, ha, har, hS, hlen => by
    unfold aL at hlen ⊢
    have l1 := aL_len n h Ls r (a + 1) (outL h a (Ls (n - a - 1)) (Ls (a - 1)) 0 tl)
    obtain ⟨σ1, o1, o2⟩ := outSim (t := n - 1) (i1 := a - 1) (i2 := n - a - 1) (p := a) (by omega) (by omega) (by omega) (by omega) (by omega) (hs _ (by omega)) (hs _ (by omega)) hh (Ls (a - 1)) 0 tl σ hS (fun r => by rw [Nat.zero_add]) (by omega)
    obtain ⟨σ2, q1, q2⟩ := aSim hn hs hh r (a + 1) _ σ1 (by omega) (by omega) o2 hlen
    have e1 : σ.1 (n - a - 1) = (Ls (n - a - 1)).length := by
      have := (hS (n - a - 1) (by omega)).1.1
      rw [upL_ne _ _ (by omega)] at this
      exact this
    have e2 : σ.1 (a - 1) = (Ls (a - 1)).length := by
      have := (hS (a - 1) (by omega)).1.1
      rw [upL_ne _ _ (by omega)] at this
      exact this
    refine ⟨σ2, ?_, q2⟩
    rw [fillA, e1, e2, o1]
    exact q1
theorem aL_congr {n h : Nat} {L1 L2 : Nat → List En} (he : ∀ j, j < n - 1 → L1 j = L2 j) : ∀ (r a : Nat) (t : List En), 1 ≤ a → a + r ≤ n → aL n h L1 r a t = aL n h L2 r a t
  | 0, _, _, _, _ => rfl
  | r + 1, a, t, h1, h2 => by
    unfold aL
    rw [he (n - a - 1) (by omega), he (a - 1) (by omega)]
    exact aL_congr he r (a + 1) _ (by omega) (by omega)
/-- the lists known when k are filled -/
def curL (k : Nat) : Nat → List En := fun j => if j < k then shL j else []
theorem shl_sml : ∀ j : Fin 9, ∀ e, e ∈ shL j.1 → 0 < e.1 ∧ e.1 ≤ 100 ∧ 0 < e.2.1 ∧ e.2.1 ≤ 100 := by decide +kernel
theorem shl_len : ∀ j : Fin 9, (shL j.1).length = [1, 2, 4, 9, 22, 53, 131, 337, 869].getD j.1 0 := by decide +kernel
theorem shl_900 : ∀ j : Fin 9, (shL j.1).length ≤ 900 := by decide +kernel
theorem cur_sml (k j : Nat) (hk : k ≤ 9) : Sml (curL k j) := by
  unfold curL
  by_cases c : j < k
  · rw [if_pos c]
    exact shl_sml ⟨j, by omega⟩
  · rw [if_neg c]
    intro e he
    simp at he
theorem cur_up {k : Nat} (hk : k < 9) : upL (curL k) k (shL k) = curL (k + 1) := by
  funext j
  unfold upL curL
  by_cases c : j = k
  · rw [if_pos c, if_pos (by omega), c]
  · rw [if_neg c]
    by_cases c2 : j < k
    · rw [if_pos c2, if_pos (by omega)]
    · rw [if_neg c2, if_neg (by omega)]
theorem cur_self {k : Nat} : upL (curL k) k [] = curL k := by
  funext j
  unfold upL curL
  by_cases c : j = k
  · rw [if_pos c, if_neg (by omega)]
  · rw [if_neg c]
theorem fillSim {k : Nat} (h1 : 1 ≤ k) (hk : k < 9) {σ : LkS} (hS : RS σ (curL k)) : ∃ σ', fFill (k + 1) σ = some σ' ∧ RS σ' (curL (k + 1)) := by
  have e : nxtL (k + 1) shL = shL k := nxt_all (n := k + 1) (by omega) (by omega)
  have l9 := shl_900 ⟨k, hk⟩
  have l9 : (shL k).length ≤ 900 := l9
  have cg : ∀ h r a t, 1 ≤ a → a + r ≤ k + 1 → aL (k + 1) h (curL k) r a t = aL (k + 1) h shL r a t := fun h r a t ha hr => aL_congr (fun j hj => by unfold curL; rw [if_pos (by omega)]) r a t ha hr
  have hd : 1 + (k + 1) / 2 ≤ k + 1 := by omega
  unfold nxtL at e
  have lA := aL_len (k + 1) 2 shL ((k + 1) / 2) 1 (aL (k + 1) 1 shL ((k + 1) / 2) 1 [])
  rw [e] at lA
  have hS0 : RS σ (upL (curL k) (k + 1 - 1) []) := by
    rw [Nat.add_sub_cancel, cur_self]
    exact hS
  obtain ⟨σ1, o1, o2⟩ := aSim (n := k + 1) (h := 1) (Ls := curL k) (by omega) (fun j _ => cur_sml k j (by omega)) (Or.inl rfl) ((k + 1) / 2) 1 [] σ (by omega) hd hS0 (by rw [cg 1 _ 1 _ (by omega) hd]; omega)
  rw [cg 1 _ 1 _ (by omega) hd] at o2
  obtain ⟨σ2, q1, q2⟩ := aSim (n := k + 1) (h := 2) (Ls := curL k) (by omega) (fun j _ => cur_sml k j (by omega)) (Or.inr rfl) ((k + 1) / 2) 1 _ σ1 (by omega) hd o2 (by rw [cg 2 _ 1 _ (by omega) hd, e]; exact l9)
  rw [cg 2 _ 1 _ (by omega) hd, e, Nat.add_sub_cancel, cur_up hk] at q2
  refine ⟨σ2, ?_, q2⟩
  unfold fFill
  rw [if_neg (by omega), show (1 : Int32) = nI 1 from rfl, o1]
  exact q1
theorem fill1 {σ : LkS} (hS : RS σ (curL 0)) : ∃ σ', fFill 1 σ = some σ' ∧ RS σ' (curL 1) := by
  have r0 := (hS 0 (by decide)).1
  have n0 : σ.1 0 = 0 := r0.1
  have hr : fX0_reduce (1 : Int64) (1 : Int64) = some (1, 1) := by decide +kernel
  have ho : fOffer (1 : Int64) (1 : Int64) 0 (σ.2.1 0) = some (1, 1, some (nI 0, 1, 1)) := by
    have hp : fX6_placeOf (1 : Int64).toInt32 (1 : Int64).toInt32 (nI 0) (fun r => (σ.2.1 0 r).1) (fun r => (σ.2.1 0 r).2.1) = some (nI 0) := by
      unfold fX6_placeOf LX6_placeOf_14
      rw [if_neg (show ¬ (32 : Int32) ≤ 0 by decide), if_pos (show nI 0 ≤ 0 by decide)]
      rfl
    have ha : fX6_isAt (nI 0) (1 : Int64).toInt32 (1 : Int64).toInt32 (nI 0) (fun r => (σ.2.1 0 r).1) (fun r => (σ.2.1 0 r).2.1) = some 0 := by
      unfold fX6_isAt
      rw [if_pos (show nI 0 ≤ nI 0 by decide)]
    unfold fOffer
    rw [hp]
    simp only [Option.bind_some]
    rw [ha]
    simp only [Option.bind_some]
    rw [if_pos trivial, hr]
    rfl
  unfold fFill oneOffer
  rw [if_pos rfl]
  dsimp only
  rw [n0, if_pos (by omega), ho]
  simp only [Option.bind_some]
  rw [if_pos (show (0 : Int32) ≤ nI 0 ∧ (nI 0).toNatClampNeg ≤ 0 by decide)]
  refine ⟨_, rfl, fun j hj => ?_⟩
  dsimp only
  by_cases e : j = 0
  · subst e
    rw [va_up_self, va_up_self]
    refine ⟨⟨rfl, fun r e he => ?_⟩, by decide, by decide, fun r s e f hrs he hf => ?_⟩
    · have he : [((1, 1, 0, 0, 0, 0) : En)][r]? = some e := he
      cases r with
      | zero =>
        have : e = (1, 1, 0, 0, 0, 0) := (Option.some.inj he).symm
        rw [this]
        rfl
      | succ r => simp at he
    · have hf : [((1, 1, 0, 0, 0, 0) : En)][s]? = some f := hf
      cases s with
      | zero => omega
      | succ s => simp at hf
  · rw [va_up_ne _ _ e, va_up_ne _ _ e]
    have := hS j hj
    have ec : curL 1 j = curL 0 j := by
      unfold curL
      rw [if_neg (by omega), if_neg (by omega)]
    rw [ec]
    exact this
/-- the lists of the class, one after the other -/
def Sq (sv0 : Nat → Nat → SV) : Nat → LkS
  | 0 => (fun _ => 0, sv0, 0, 1)
  | k + 1 => (fFill (k + 1) (Sq sv0 k)).getD (Sq sv0 k)
theorem Sq_ok (sv0 : Nat → Nat → SV) : ∀ k, k ≤ 9 → RS (Sq sv0 k) (curL k)
  | 0, _ => fun i _ => ⟨⟨rfl, fun r e he => by simp [curL] at he⟩, Nat.zero_le _, fun e he => by simp [curL] at he, fun r s e f _ he => by simp [curL] at he⟩
  | k + 1, hk => by
    have ih := Sq_ok sv0 k (by omega)
    have step : ∃ σ', fFill (k + 1) (Sq sv0 k) = some σ' ∧ RS σ' (curL (k + 1)) := by
      by_cases c : k = 0
      · subst c
        exact fill1 ih
      · exact fillSim (by omega) (by omega) ih
    obtain ⟨σ', e1, e2⟩ := step
    show RS ((fFill (k + 1) (Sq sv0 k)).getD (Sq sv0 k)) _
    rw [e1]
    exact e2
theorem Sq_seq (sv0 : Nat → Nat → SV) : jSeq (Sq sv0) := fun k hk => by
  have ih := Sq_ok sv0 k (by omega)
  have step : ∃ σ', fFill (k + 1) (Sq sv0 k) = some σ' ∧ RS σ' (curL (k + 1)) := by
    by_cases c : k = 0
    · subst c
      exact fill1 ih
    · exact fillSim (by omega) hk ih
  obtain ⟨σ', e1, e2⟩ := step
  show _ = some ((fFill (k + 1) (Sq sv0 k)).getD (Sq sv0 k))
  rw [e1]
  rfl
