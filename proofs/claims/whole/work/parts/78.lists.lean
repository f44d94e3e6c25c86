/-! what the lists are, by the kernel -/
theorem shl_turn : ∀ j : Fin 9, (shL j.1).reverse.map (fun e => (e.1, e.2.1)) = (shL j.1).map (fun e => (e.2.1, e.1)) := by decide +kernel
theorem shl_cop : ∀ j : Fin 9, ∀ e, e ∈ shL j.1 → Nat.gcd e.1 e.2.1 = 1 := by decide +kernel
/-- turned about: the share of rank r has lower by upper at the rank from the other end -/
theorem shl_flip {j r : Nat} (hj : j < 9) {e : En} (h : (shL j)[r]? = some e) : ∃ f, (shL j)[(shL j).length - 1 - r]? = some f ∧ f.1 = e.2.1 ∧ f.2.1 = e.1 := by
  have hr := (List.getElem?_eq_some_iff.mp h).1
  have t := shl_turn ⟨j, hj⟩
  have t : (shL j).reverse.map (fun e => (e.1, e.2.1)) = (shL j).map (fun e => (e.2.1, e.1)) := t
  have t1 := congrArg (fun l => l[r]?) t
  have t1 : ((shL j).reverse.map (fun e => (e.1, e.2.1)))[r]? = ((shL j).map (fun e => (e.2.1, e.1)))[r]? := t1
  rw [List.getElem?_map, List.getElem?_map, h, List.getElem?_reverse hr] at t1
  cases hf : (shL j)[(shL j).length - 1 - r]? with
  | none => rw [hf] at t1; cases t1
  | some f =>
    rw [hf] at t1
    have q := Option.some.inj t1
    exact ⟨f, rfl, congrArg Prod.fst q, congrArg Prod.snd q⟩
