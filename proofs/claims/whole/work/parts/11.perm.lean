theorem va_P_iff {D : va_G} {cl : List vw_C} {w : va_W} {H : Heap} : va_P D cl w H ↔ ∀ q ∈ w, va_at D cl q H := by
  constructor
  · intro h q hq
    obtain ⟨k, hk⟩ := List.getElem?_of_mem hq
    exact h k q hk
  · intro h k q hk
    exact h q (List.mem_of_getElem? hk)
theorem va_D_iff {A : Nat → Prop} {w : va_W} : va_D A w ↔ (w.map Prod.fst).Nodup ∧ ∀ q ∈ w, A q.1 := by
  constructor
  · intro h
    refine ⟨?_, fun q hq => ?_⟩
    · unfold List.Nodup
      rw [List.pairwise_iff_getElem]
      intro i j hi hj hlt e
      rw [List.length_map] at hi hj
      rw [List.getElem_map, List.getElem_map] at e
      have := h.1 i j w[i] w[j] (List.getElem?_eq_getElem hi) (List.getElem?_eq_getElem hj) e
      omega
    · obtain ⟨k, hk⟩ := List.getElem?_of_mem hq
      exact h.2 k q hk
  · intro h
    refine ⟨fun i j p q hi hj e => ?_, fun k q hk => h.2 q (List.mem_of_getElem? hk)⟩
    obtain ⟨li, ei⟩ := List.getElem?_eq_some_iff.mp hi
    obtain ⟨lj, ej⟩ := List.getElem?_eq_some_iff.mp hj
    have hn := h.1
    unfold List.Nodup at hn
    rw [List.pairwise_iff_getElem] at hn
    rcases Nat.lt_trichotomy i j with q1 | q1 | q1
    · exact absurd (by rw [List.getElem_map, List.getElem_map, ei, ej]; exact e) (hn i j (by rw [List.length_map]; exact li) (by rw [List.length_map]; exact lj) q1)
    · exact q1
    · exact absurd (by rw [List.getElem_map, List.getElem_map, ei, ej]; exact e.symm) (hn j i (by rw [List.length_map]; exact lj) (by rw [List.length_map]; exact li) q1)
theorem va_A_iff {w : va_W} {sz q : Nat} : va_A w sz q ↔ (∃ x ∈ w, x.1 = q) ∨ sz ≤ q := by
  refine or_congr_left ⟨?_, ?_⟩
  · rintro ⟨k, e, h⟩
    exact ⟨(q, e), List.mem_of_getElem? h, rfl⟩
  · rintro ⟨x, hx, rfl⟩
    obtain ⟨k, hk⟩ := List.getElem?_of_mem hx
    exact ⟨k, x.2, hk⟩
theorem jS_perm {D : va_G} {cl : List vw_C} {A : Nat → Prop} {w w' : va_W} {H0 H : Heap} {locs : List Loc} (hp : w.Perm w') (h : jS D cl A w H0 H locs) : jS D cl A w' H0 H locs := by
  obtain ⟨h1, h2, h3⟩ := h
  rw [va_P_iff] at h1
  rw [va_D_iff] at h2
  exact ⟨va_P_iff.mpr (fun q hq => h1 q (hp.mem_iff.mpr hq)), va_D_iff.mpr ⟨(hp.map Prod.fst).nodup_iff.mp h2.1, fun q hq => h2.2 q (hp.mem_iff.mpr hq)⟩, h3⟩
/-- the callee has a part of the world, whatever its order -/
theorem jcut_perm {D : va_G} {cl : List vw_C} {A : Nat → Prop} {w wc wr w1 : va_W} {H0 H : Heap} {locs : List Loc} (hA : ∀ q, H0.size ≤ q → A q) (hS : jS D cl A w H0 H locs) (hp : w.Perm (wc ++ wr)) : jCut D cl A w (w1 ++ wr) H0 H locs wc w1 := by
  obtain ⟨h1, h2, h3⟩ := jS_perm hp hS
  rw [va_P_iff] at h1
  rw [va_D_iff, List.map_append, List.nodup_append] at h2
  obtain ⟨⟨n1, n2, n3⟩, hin⟩ := h2
  have hF : ∀ q, va_A wc H.size q → A q := fun q h => by
    rcases va_A_iff.mp h with ⟨x, hx, rfl⟩ | h
    · exact hin x (List.mem_append_left _ hx)
    · exact hA q (Nat.le_trans h3.1 h)
  refine ⟨⟨va_P_iff.mpr (fun q hq => h1 q (List.mem_append_left _ hq)), va_D_iff.mpr ⟨n1, fun _ _ => trivial⟩⟩, hF, fun H1 locs1 hk hP1 hD1 hS1 => ?_⟩
  have hout : ∀ q ∈ wr, ¬ va_A wc H.size q.1 := fun q hq h => by
    rcases va_A_iff.mp h with ⟨x, hx, e⟩ | h
    · exact n3 x.1 (List.mem_map_of_mem hx) q.1 (List.mem_map_of_mem hq) e
    · exact absurd (h1 q (List.mem_append_right _ hq)).lt (Nat.not_lt.mpr h)
  rw [va_P_iff] at hP1
  rw [va_D_iff] at hD1
  refine ⟨va_P_iff.mpr (fun q hq => ?_), va_D_iff.mpr ⟨?_, fun q hq => ?_⟩, hS1⟩
  · rcases List.mem_append.mp hq with h | h
    · exact hP1 q h
    · exact (h1 q (List.mem_append_right _ h)).kept (hk q.1 (h1 q (List.mem_append_right _ h)).lt (hout q h))
  · rw [List.map_append, List.nodup_append]
    refine ⟨hD1.1, n2, fun a ha b hb e => ?_⟩
    obtain ⟨x, hx, rfl⟩ := List.mem_map.mp ha
    obtain ⟨y, hy, rfl⟩ := List.mem_map.mp hb
    exact hout y hy (by rw [← e]; exact hD1.2 x hx)
  · rcases List.mem_append.mp hq with h | h
    · exact hF _ (hD1.2 q h)
    · exact hin q (List.mem_append_right _ h)
theorem jb0 : narrow .boolean (.int 0) = .int 0 := by decide
theorem jb1 : narrow .boolean (.int 1) = .int 1 := by decide
