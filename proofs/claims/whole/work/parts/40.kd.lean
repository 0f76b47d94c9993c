theorem kD_start {args : Array Value} {s : State} (hts : ∀ w ∈ lw_tbl, w.before args s = true) : ∃ D : va_G, ∀ (c : Nat) (q : vw_C), vwCl[c]? = some q → u_Kn s q.1 q.2.1 q.2.2 (D.1 c) (D.2 c) := by
  obtain ⟨c0, i0, -⟩ := kn_start hts 0 _ rfl
  have h : ∀ c : Nat, ∃ p : ClassId × (Nat → Nat), ∀ q : vw_C, vwCl[c]? = some q → u_Kn s q.1 q.2.1 q.2.2 p.1 p.2 := by
    intro c
    cases e : vwCl[c]? with
    | none => exact ⟨(c0, i0), fun q h => absurd h (by simp)⟩
    | some q =>
      obtain ⟨a, b, h⟩ := kn_start hts c q e
      exact ⟨(a, b), fun q' h' => by injection h' with h'; subst h'; exact h⟩
  obtain ⟨f, hf⟩ := Classical.skolem.1 h
  exact ⟨(fun c => (f c).1, fun c => (f c).2), hf⟩
