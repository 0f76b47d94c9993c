theorem kn1 {args : Array Value} {s : State} (hts : ∀ w ∈ lw_tbl, w.before args s = true) {C : String} {T : u_T} {N : Nat} (hin : ∀ w ∈ u_ws C T N, w ∈ lw_tbl) (hi : Cond.instantiable C N ∈ lw_tbl) : ∃ (cC : ClassId) (iS : Nat → Nat), u_Kn s C T N cC iS := u_known hts hin (hts _ hi)
set_option maxRecDepth 100000 in
theorem kn_start {args : Array Value} {s : State} (hts : ∀ w ∈ lw_tbl, w.before args s = true) : ∀ (c : Nat) (q : vw_C), vwCl[c]? = some q → ∃ (cC : ClassId) (iS : Nat → Nat), u_Kn s q.1 q.2.1 q.2.2 cC iS := by
  intro c q h
  have hm : q ∈ vwCl := List.mem_of_getElem? h
  rcases List.mem_cons.1 hm with rfl | hm
  · exact kn1 hts (by decide +kernel) (by decide +kernel)
  rcases List.mem_cons.1 hm with rfl | hm
  · exact kn1 hts (by decide +kernel) (by decide +kernel)
  rcases List.mem_cons.1 hm with rfl | hm
  · exact kn1 hts (by decide +kernel) (by decide +kernel)
  rcases List.mem_cons.1 hm with rfl | hm
  · exact kn1 hts (by decide +kernel) (by decide +kernel)
  rcases List.mem_cons.1 hm with rfl | hm
  · exact kn1 hts (by decide +kernel) (by decide +kernel)
  rcases List.mem_cons.1 hm with rfl | hm
  · exact kn1 hts (by decide +kernel) (by decide +kernel)
  rcases List.mem_cons.1 hm with rfl | hm
  · exact kn1 hts (by decide +kernel) (by decide +kernel)
  rcases List.mem_cons.1 hm with rfl | hm
  · exact kn1 hts (by decide +kernel) (by decide +kernel)
  rcases List.mem_cons.1 hm with rfl | hm
  · exact kn1 hts (by decide +kernel) (by decide +kernel)
  rcases List.mem_cons.1 hm with rfl | hm
  · exact kn1 hts (by decide +kernel) (by decide +kernel)
  rcases List.mem_cons.1 hm with rfl | hm
  · exact kn1 hts (by decide +kernel) (by decide +kernel)
  rcases List.mem_cons.1 hm with rfl | hm
  · exact kn1 hts (by decide +kernel) (by decide +kernel)
  exact absurd hm List.not_mem_nil

theorem kD_start {args : Array Value} {s : State} (hts : ∀ w ∈ lw_tbl, w.before args s = true) : ∃ D : va_G, ∀ (c : Nat) (q : vw_C), vwCl[c]? = some q → u_Kn s q.1 q.2.1 q.2.2 (D.1 c) (D.2 c) := by
  obtain ⟨c0, i0, -⟩ := kn_start hts 0 _ rfl
  have h : ∀ c : Nat, ∃ p : ClassId × (Nat → Nat), ∀ q : vw_C, vwCl[c]? = some q → u_Kn s q.1 q.2.1 q.2.2 p.1 p.2 := by
    intro c
    cases e : vwCl[c]? with
    | none => exact ⟨(c0, i0), fun q h => absurd h (by simp)⟩
    | some q =>
      obtain ⟨a, b, h⟩ := kn_start hts c q e
      exact ⟨(a, b), fun q' h' => by injection h' with h'; subst h'; exact h⟩
  obtain ⟨f, hf⟩ := Classical.skolem.1 h
  exact ⟨(fun c => (f c).1, fun c => (f c).2), hf⟩
