/-! the law: what holds between two calls -/
abbrev svz : Nat → Nat → SV := fun _ _ => (0, 0, 0, 0, 0, 0)
def lnN (j : Nat) : Nat := [1, 2, 4, 9, 22, 53, 131, 337, 869].getD j 0
def accN : Nat → Nat
  | 0 => 0
  | k + 1 => accN k + pnF lnN (k + 1)
theorem pnA_cg {c1 c2 : Nat → Nat} {n : Nat} (h : ∀ j, j < n - 1 → c1 j = c2 j) : ∀ (r a : Nat), 1 ≤ a → a + r ≤ n → pnA c1 n r a = pnA c2 n r a
  | 0, a, _, _ => rfl
  | r + 1, a, h1, h2 => by
    rw [pnA, pnA, h (a - 1) (by omega), h (n - a - 1) (by omega), pnA_cg h r (a + 1) (by omega) (by omega)]
theorem acc_eq : ∀ k, k ≤ 9 → accO (Sq svz) k = accN k
  | 0, _ => rfl
  | k + 1, hk => by
    have hc : ∀ j, j < k + 1 - 1 → (Sq svz k).1 j = lnN j := fun j hj => by
      have hj : j < k := hj
      have := (Sq_ok svz k (by omega) j (by omega)).1.1
      rw [this, show curL k j = shL j from if_pos hj]
      exact shl_len ⟨j, by omega⟩
    have e : pnF (Sq svz k).1 (k + 1) = pnF lnN (k + 1) := by
      unfold pnF
      by_cases c : k + 1 = 1
      · rw [if_pos c, if_pos c]
      · rw [if_neg c, if_neg c, pnA_cg hc _ 1 (by omega) (by omega)]
    rw [accO, accN, acc_eq k (by omega), e]
theorem acc_le {k : Nat} (hk : k ≤ 9) : accO (Sq svz) k ≤ 3265 := by
  rw [acc_eq k hk]
  have : ∀ k : Fin 10, accN k.1 ≤ 3265 := by decide
  exact this ⟨k, by omega⟩
theorem kR_le {k : Nat} {a u d : Int32} : k ≤ kR k a u d := by
  unfold kR
  split
  · omega
  · omega
theorem kR_nine {k : Nat} {a u d : Int32} (hk : k ≤ 9) : kR k a u d ≤ 9 := by
  unfold kR
  split
  · rename_i h
    obtain ⟨n, h1, h2, rfl⟩ := one9 h.1
    rw [nI_clamp (by omega)]
    omega
  · omega
theorem fFewest_le {S : Nat → LkS} {k : Nat} {u d : Int32} {o : Int32 × Nat} (h : fFewest S k u d = some o) : k ≤ o.2 := by
  unfold fFewest at h
  split at h
  · exact fFew_le _ _ _ _ h
  · obtain rfl := jsm h
    exact Nat.le_refl k
abbrev lwA (s : State) : Nat → Prop := fun q => s.heap.size ≤ q
def LCx (p : Program) (s : State) (m : MethodId) (meth : Method) (c : Code) (b L : Nat) (xs : Nat → Int32) (D : va_G) (cI cJ cZ cW cS cO cG : ClassId) (dd mi : Nat) : Prop := jC p s m meth c cL_law 4 #[Value.ref b] wsL_law ⟨RL, meth.name, ""⟩ ret ∧ va_K D vwCl (TY cI cJ cZ cW cS cO cG) s ∧ jX dd mi (lwA s) s ∧ va_X b L xs s s.heap ∧ b < s.heap.size
/-- the class's world and the reference's, what they have to do with one another -/
def lawJ (D : va_G) (cI cJ cZ cW cS cO cG : ClassId) (dd x0 m0 k : Nat) (s : State) (H : Heap) (locs : List Loc) : Prop :=
  ∃ (lp an s0 s1 s2 s3 s4 n0 n1 n2 n3 n4 n5 n6 b0 v0 N ns : Nat) (wk w1 w2 wq wm : Nat → Int32) (flows : Nat → Int64) (mu ml : Int64) (nb : Nat → Int32) (lines : Nat → Nat → Int64) (lineOf : Nat → Int32) (lc : Int32) (tr au al : Int64) (so sp : Nat → Int32) (tu tl ku kl : Int64) (ba : Nat → Option Nat) (Lp : List Nat) (f : Nat → va_E) (wN : va_W) (ad : Nat → Nat) (thrown : Int32) (upper lower begins : Nat → Int32) (size hs : Int32) (kind first second times byy group whole frm too isThere way ohms price : Nat → Int32) (above belo : Int64) (O Pr : Nat → Nat), (ad 0 = m0 ∧ k ≤ 9) ∧ NP n0 n1 n2 n3 n4 n5 n6 cI cJ cW cG (nI N) wk w1 w2 wq wm flows mu ml nb lines lineOf lc wN ∧ jLL cO dd Lp f ba (Sq svz k).1 (Sq svz k).2.1 ∧ WR N wk w1 w2 wq wm flows kind first second times byy ∧ SR ns O Pr so sp ohms price ∧ RSh hs upper lower begins ∧ jS D vwCl (lwA s) (([(x0, .inr (10, [.ref lp, .ref n0, .ref s0, .ref an, .long tr]))] ++ (wN ++ [(an, .inr (1, [.long au, .long al])), (s0, .inr (8, [.ref s1, .ref s2, .int (nI ns), .ref s3, .ref s4])), (s1, .inl (cI, 6, .inl so)), (s2, .inl (cI, 6, .inl sp)), (s3, .inr (1, [.long tu, .long tl])), (s4, .inr (1, [.long ku, .long kl]))])) ++ ((LX lp b0 v0 cS ba (nI k) (Sq svz k).2.2.1 (Sq svz k).2.2.2 ++ va_pl Lp f) ++ MW ad cI cZ thrown tr upper lower begins size hs (nI N) kind first second times byy group whole frm too isThere way (nI ns) ohms price above belo)) s.heap H locs
/-- the loop's end, behind a call -/
def lwN (p : Program) (l : Launch) (e : Env) (s : State) (m : MethodId) (below : List Frame) (meth : Method) (c : Code) (Q : State → Prop) (b : Nat) (D : va_G) (cI cJ cZ cW cS cO cG : ClassId) (dd x0 m0 i t k : Nat) : Prop := ∀ (k' : Nat) (H : Heap) (locs : List Loc) (ls : Array Slot), k ≤ k' → lawJ D cI cJ cZ cW cS cO cG dd x0 m0 k' s H locs → lv_has ls 4 [(0, .ref b), (1, .ref x0), (2, .ref m0), (3, .int (nI i))] → W p l e room_1 s m #[Value.ref b] below meth c H locs (60 + 2 * accO (Sq svz) k' + (t + 1)) (3600 + 1406 * accO (Sq svz) k' + 5 * (t + 1)) Q (F0 m 764 ls [])
theorem lwpA {X N P M : va_W} : ((X ++ N) ++ (P ++ M)).Perm ((X ++ P) ++ (N ++ M)) := by
  rw [List.append_assoc, List.append_assoc]
  refine List.Perm.append_left X ?_
  rw [← List.append_assoc, ← List.append_assoc]
  exact List.Perm.append_right M List.perm_append_comm
theorem lwpB {X P M : va_W} : (X ++ (P ++ M)).Perm (M ++ (X ++ P)) := by
  rw [← List.append_assoc]
  exact List.perm_append_comm
theorem lw_in {i L : Nat} (jn : Nat) {j : Int32} (ej : j = nI jn) (h : i + jn < L) (hL : L ≤ 3072) : vp_in (nI i + j) L := by
  rw [ej, nI_add]
  exact vp_in_nI h (by omega)
section LAWLD
variable {p : Program} {l : Launch} {e : Env} {R : Room} {s : State} {m : MethodId} {args : Array Value} {below : List Frame} {meth : Method} {c : Code} {H : Heap} {locs : List Loc} {cells slots : Nat} {Q : State → Prop} {b L : Nat} {xs : Nat → Int32} {pc : Nat} {ls : Array Slot} {rest : List Value} {x0 m0 i : Nat}
/-- an int of the script onto the stack -/
theorem law_ld {j v : Int32} {n : Int} (hx : p.tables.exec = Jvm.exec) (hb : c.code = cL_law) (hX : va_X b L xs s s.heap) (hbl : b < s.heap.size) (hS : va_S (lwA s) s.heap H locs) (hl : lv_has ls 4 [(0, .ref b), (1, .ref x0), (2, .ref m0), (3, .int (nI i))]) (hj : vp_in (nI i + j) L) (hn : Int32.ofInt n = j) (hv : v = xs (nI i + j).toNatClampNeg) (d0 : decode cL_law pc = .ok (.aload_n 0, 1)) (d1 : decode cL_law (pc + 1) = .ok (.iload_n 3, 1)) (d2 : decode cL_law (pc + 2) = .ok (.iconst n, 1)) (d3 : decode cL_law (pc + 3) = .ok (.iadd, 1)) (d4 : decode cL_law (pc + 4) = .ok (.iaload, 1)) (kk : W p l e R s m args below meth c H locs cells slots Q (F0 m (pc + 5) ls (.int v :: rest))) : W p l e R s m args below meth c H locs cells slots Q (F0 m pc ls rest) := by
  subst hv
  refine lv_aload_n hx hb d0 rfl (lv_at hl 0 rfl) ?_
  refine lv_iload_n hx hb d1 rfl (lv_at hl 3 rfl) ?_
  refine lv_iconst hx hb d2 hn ?_
  refine lv_iadd hx hb d3 ?_
  exact va_sld hx hb hX hbl (Nat.not_le.mpr hbl) hS hj d4 kk
end LAWLD
