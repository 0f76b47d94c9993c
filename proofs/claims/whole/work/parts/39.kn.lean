theorem kn1 {args : Array Value} {s : State} (hts : ∀ w ∈ lw_tbl, w.before args s = true) {C : String} {T : u_T} {N : Nat} (hin : ∀ w ∈ u_ws C T N, w ∈ lw_tbl) (hi : Cond.instantiable C N ∈ lw_tbl) : ∃ (cC : ClassId) (iS : Nat → Nat), u_Kn s C T N cC iS := u_known hts hin (hts _ hi)
set_option maxRecDepth 100000 in
theorem kn_start {args : Array Value} {s : State} (hts : ∀ w ∈ lw_tbl, w.before args s = true) : ∀ (c : Nat) (q : vw_C), vwCl[c]? = some q → ∃ (cC : ClassId) (iS : Nat → Nat), u_Kn s q.1 q.2.1 q.2.2 cC iS := by
  intro c q h
  have hm : q ∈ vwCl := List.mem_of_getElem? h
  rcases List.mem_cons.1 hm with rfl | hm
  · exact kn1 hts (by decide +kernel) (by decide +kernel)
  rcases List.mem_cons.1 hm with rfl | hm
  · exact kn1 hts (by decide +kernel) (by decide +kernel)
  rcases List.mem_cons.1 hm with rfl | hm
  · exact kn1 hts (by decide +kernel) (by decide +kernel)
  rcases List.mem_cons.1 hm with rfl | hm
  · exact kn1 hts (by decide +kernel) (by decide +kernel)
  rcases List.mem_cons.1 hm with rfl | hm
  · exact kn1 hts (by decide +kernel) (by decide +kernel)
  rcases List.mem_cons.1 hm with rfl | hm
  · exact kn1 hts (by decide +kernel) (by decide +kernel)
  rcases List.mem_cons.1 hm with rfl | hm
  · exact kn1 hts (by decide +kernel) (by decide +kernel)
  rcases List.mem_cons.1 hm with rfl | hm
  · exact kn1 hts (by decide +kernel) (by decide +kernel)
  rcases List.mem_cons.1 hm with rfl | hm
  · exact kn1 hts (by decide +kernel) (by decide +kernel)
  rcases List.mem_cons.1 hm with rfl | hm
  · exact kn1 hts (by decide +kernel) (by decide +kernel)
  rcases List.mem_cons.1 hm with rfl | hm
  · exact kn1 hts (by decide +kernel) (by decide +kernel)
  rcases List.mem_cons.1 hm with rfl | hm
  · exact kn1 hts (by decide +kernel) (by decide +kernel)
  rcases List.mem_cons.1 hm with rfl | hm
  · exact kn1 hts (by decide +kernel) (by decide +kernel)
  exact absurd hm List.not_mem_nil
