/-! the law's loop -/
theorem lw_cmp {L i : Nat} (hL : L ≤ 3072) (hi : i ≤ L + 6) : (nI L - (6 : Int32) < nI i) ↔ L < i + 6 := by
  rw [Int32.lt_iff_toInt_lt, nI_toInt (by omega), Int32.toInt_sub, nI_toInt (by omega), show (6 : Int32).toInt = 6 by decide, Int.bmod_eq_of_le (by omega) (by omega)]
  omega
theorem lawJ.S {D : va_G} {cI cJ cZ cW cS cO cG : ClassId} {dd x0 m0 k : Nat} {s : State} {H : Heap} {locs : List Loc} (h : lawJ D cI cJ cZ cW cS cO cG dd x0 m0 k s H locs) : va_S (lwA s) s.heap H locs ∧ k ≤ 9 := by
  obtain ⟨_, _, _, _, _, _, _, _, _, _, _, _, _, _, _, _, _, _, _, _, _, _, _, _, _, _, _, _, _, _, _, _, _, _, _, _, _, _, _, _, _, _, _, _, _, _, _, _, _, _, _, _, _, _, _, _, _, _, _, _, _, _, _, _, _, _, _, ⟨-, hk⟩, -, -, -, -, -, hS⟩ := h
  exact ⟨hS.2.2, hk⟩
section LAWLOOP
variable {p : Program} {l : Launch} {e : Env} {s : State} {m : MethodId} {below : List Frame} {meth : Method} {c : Code} {Q : State → Prop} {b L : Nat} {xs : Nat → Int32} {D : va_G} {cI cJ cZ cW cS cO cG : ClassId} {dd mi x0 m0 : Nat}
set_option maxHeartbeats 4000000 in
set_option maxRecDepth 100000 in
theorem law_loop (K : LCx p s m meth c b L xs D cI cJ cZ cW cS cO cG dd mi) (hL : L ≤ 3072) (fin : ∀ (H : Heap) (locs : List Loc) (ls : Array Slot) (cells slots : Nat), va_S (lwA s) s.heap H locs → cells ≤ 600000 → slots ≤ 7302250 → W p l e room_1 s m #[Value.ref b] below meth c H locs cells slots Q (F0 m 770 ls [])) : ∀ (n t i k : Nat) (H : Heap) (locs : List Loc) (ls : Array Slot), i = 6 * t → i ≤ L → L < i + n → lawJ D cI cJ cZ cW cS cO cG dd x0 m0 k s H locs → lv_has ls 4 [(0, .ref b), (1, .ref x0), (2, .ref m0), (3, .int (nI i))] → W p l e room_1 s m #[Value.ref b] below meth c H locs (60 + 2 * accO (Sq svz) k + t) (3600 + 1406 * accO (Sq svz) k + 5 * t) Q (F0 m 18 ls []) := by
  obtain ⟨C, -, -, hXs, hbl⟩ := id K
  obtain ⟨⟨hx, hb, hml, hown, hts⟩, -⟩ := id C
  intro n
  induction n with
  | zero =>
    intro t i k H locs ls ht hi hn
    omega
  | succ n ih =>
    intro t i k H locs ls ht hi hn hJ hl
    obtain ⟨hS, hk9⟩ := hJ.S
    have hacc := acc_le hk9
    refine lv_iload_n hx hb dL_law_18 rfl (lv_at hl 3 rfl) ?_
    refine lv_aload_n hx hb dL_law_19 rfl (lv_at hl 0 rfl) ?_
    refine va_slen hx hb hXs hbl (Nat.not_le.mpr hbl) hS dL_law_20 ?_
    refine lv_bipush (v := (6 : Int32)) hx hb dL_law_21 (by decide) ?_
    refine lv_isub hx hb dL_law_23 ?_
    refine lv_icmp_gt (tgt := 770) hx hb dL_law_24 (by decide) (fun _ => fin H locs ls _ _ hS (by omega) (by omega)) (fun c1 => ?_)
    have hi6 : i + 6 ≤ L := by
      rcases Nat.lt_or_ge L (i + 6) with q | q
      · exact absurd ((lw_cmp hL (by omega)).mpr q) c1
      · exact q
    refine lv_aload_n hx hb dL_law_27 rfl (lv_at hl 0 rfl) ?_
    refine lv_iload_n hx hb dL_law_28 rfl (lv_at hl 3 rfl) ?_
    refine va_sld hx hb hXs hbl (Nat.not_le.mpr hbl) hS (vp_in_nI (show i < L by omega) (by omega)) dL_law_29 ?_
    refine lv_bipush (v := (31 : Int32)) hx hb dL_law_30 (by decide) ?_
    refine lv_iand hx hb dL_law_32 ?_
    generalize xs (nI i).toNatClampNeg &&& (31 : Int32) = x
    have next : lwN p l e s m below meth c Q b D cI cJ cZ cW cS cO cG dd x0 m0 i t k := by
      intro k' H locs ls hk hJ hl
      refine lv_iinc (k := 3) (v := nI (i + 6)) (lv' := [(3, .int (nI (i + 6))), (0, .ref b), (1, .ref x0), (2, .ref m0)]) hx hb dL_law_764 hl rfl (by rw [show Int32.ofInt 6 = nI 6 by decide]; exact nI_add i 6) (by decide) rfl (fun ls hl => ?_)
      refine lv_goto (tgt := 18) hx hb dL_law_767 (by decide) ?_
      exact ih (t + 1) (i + 6) k' H locs ls (by omega) (by omega) (by omega) hJ (lv_sub hl [1, 2, 3, 0] rfl)
    by_cases cs : x.toInt < 0 ∨ 18 < x.toInt
    · refine lv_tableOut (tgt := 764) hx hb dL_law_33 cs (by decide) ?_
      refine W.widen (k := 60 + 2 * accO (Sq svz) k + (t + 1)) (n := 3600 + 1406 * accO (Sq svz) k + 5 * (t + 1)) (by omega) (by omega) ?_
      exact next k H locs ls (Nat.le_refl k) hJ hl
    · obtain ⟨j, hj, ej⟩ : ∃ j : Nat, j ≤ 18 ∧ x = nI j := by
        refine ⟨x.toInt.toNat, by omega, Int32.toInt_inj.mp ?_⟩
        rw [nI_toInt (by omega)]
        omega
      subst ej
      obtain ⟨lp, an, s0, s1, s2, s3, s4, n0, n1, n2, n3, n4, n5, n6, b0, v0, N, ns, wk, w1, w2, wq, wm, flows, mu, ml, nb, lines, lineOf, lc, tr, au, al, so, sp, tu, tl, ku, kl, ba, Lp, f, wN, ad, thrown, upper, lower, begins, size, hs, kind, first, second, times, byy, group, whole, frm, too, isThere, way, ohms, price, above, belo, O, Pr, ⟨em, -⟩, hNP, hLL, hW, hSR, hR, hS2⟩ := hJ
      subst em
      rcases (show j = 0 ∨ j = 1 ∨ j = 2 ∨ j = 3 ∨ j = 4 ∨ j = 5 ∨ j = 6 ∨ j = 7 ∨ j = 8 ∨ j = 9 ∨ j = 10 ∨ j = 11 ∨ j = 12 ∨ j = 13 ∨ j = 14 ∨ j = 15 ∨ j = 16 ∨ j = 17 ∨ j = 18 by omega) with rfl | rfl | rfl | rfl | rfl | rfl | rfl | rfl | rfl | rfl | rfl | rfl | rfl | rfl | rfl | rfl | rfl | rfl | rfl
      · exact lv_tableIn (tgt := 124) (off := 91) hx hb dL_law_33 (by decide) (by decide) (by decide) (by decide) (law_many K hi6 hL (by omega) hk9 hNP hLL hW hSR hR hS2 hl next)
      · exact lv_tableIn (tgt := 147) (off := 114) hx hb dL_law_33 (by decide) (by decide) (by decide) (by decide) (law_share K hi6 hL (by omega) hk9 hNP hLL hW hSR hR hS2 hl next)
      · exact lv_tableIn (tgt := 190) (off := 157) hx hb dL_law_33 (by decide) (by decide) (by decide) (by decide) (law_rank K hi6 hL (by omega) hk9 hNP hLL hW hSR hR hS2 hl next)
      · exact lv_tableIn (tgt := 233) (off := 200) hx hb dL_law_33 (by decide) (by decide) (by decide) (by decide) (law_fewest K hi6 hL (by omega) hk9 hNP hLL hW hSR hR hS2 hl next)
      · exact lv_tableIn (tgt := 266) (off := 233) hx hb dL_law_33 (by decide) (by decide) (by decide) (by decide) (law_made K hi6 hL (by omega) hk9 hNP hLL hW hSR hR hS2 hl next)
      · exact lv_tableIn (tgt := 309) (off := 276) hx hb dL_law_33 (by decide) (by decide) (by decide) (by decide) (law_turned K hi6 hL (by omega) hk9 hNP hLL hW hSR hR hS2 hl next)
      · exact lv_tableIn (tgt := 342) (off := 309) hx hb dL_law_33 (by decide) (by decide) (by decide) (by decide) (law_wire K hi6 hL (by omega) hk9 hNP hLL hW hSR hR hS2 hl next)
      · exact lv_tableIn (tgt := 405) (off := 372) hx hb dL_law_33 (by decide) (by decide) (by decide) (by decide) (law_cut K hi6 hL (by omega) hk9 hNP hLL hW hSR hR hS2 hl next)
      · exact lv_tableIn (tgt := 418) (off := 385) hx hb dL_law_33 (by decide) (by decide) (by decide) (by decide) (law_ohms K hi6 hL (by omega) hk9 hNP hLL hW hSR hR hS2 hl next)
      · exact lv_tableIn (tgt := 451) (off := 418) hx hb dL_law_33 (by decide) (by decide) (by decide) (by decide) (law_about K hi6 hL (by omega) hk9 hNP hLL hW hSR hR hS2 hl next)
      · exact lv_tableIn (tgt := 484) (off := 451) hx hb dL_law_33 (by decide) (by decide) (by decide) (by decide) (law_between K hi6 hL (by omega) hk9 hNP hLL hW hSR hR hS2 hl next)
      · exact lv_tableIn (tgt := 528) (off := 495) hx hb dL_law_33 (by decide) (by decide) (by decide) (by decide) (law_through K hi6 hL (by omega) hk9 hNP hLL hW hSR hR hS2 hl next)
      · exact lv_tableIn (tgt := 582) (off := 549) hx hb dL_law_33 (by decide) (by decide) (by decide) (by decide) (law_trees K hi6 hL (by omega) hk9 hNP hLL hW hSR hR hS2 hl next)
      · exact lv_tableIn (tgt := 595) (off := 562) hx hb dL_law_33 (by decide) (by decide) (by decide) (by decide) (law_falls K hi6 hL (by omega) hk9 hNP hLL hW hSR hR hS2 hl next)
      · exact lv_tableIn (tgt := 628) (off := 595) hx hb dL_law_33 (by decide) (by decide) (by decide) (by decide) (law_sort K hi6 hL (by omega) hk9 hNP hLL hW hSR hR hS2 hl next)
      · exact lv_tableIn (tgt := 661) (off := 628) hx hb dL_law_33 (by decide) (by decide) (by decide) (by decide) (law_nearest K hi6 hL (by omega) hk9 hNP hLL hW hSR hR hS2 hl next)
      · exact lv_tableIn (tgt := 694) (off := 661) hx hb dL_law_33 (by decide) (by decide) (by decide) (by decide) (law_choice K hi6 hL (by omega) hk9 hNP hLL hW hSR hR hS2 hl next)
      · exact lv_tableIn (tgt := 727) (off := 694) hx hb dL_law_33 (by decide) (by decide) (by decide) (by decide) (law_count K hi6 hL (by omega) hk9 hNP hLL hW hSR hR hS2 hl next)
      · exact lv_tableIn (tgt := 750) (off := 717) hx hb dL_law_33 (by decide) (by decide) (by decide) (by decide) (law_trace K hi6 hL (by omega) hk9 hNP hLL hW hSR hR hS2 hl next)
end LAWLOOP
