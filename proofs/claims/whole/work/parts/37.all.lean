set_option maxRecDepth 100000 in
theorem all_start {args : Array Value} {s : State} {A : Nat → Prop} {a b v : Nat → Nat} (hA : ∀ a : Nat, a < s.heap.size → ¬ A a) (hts : ∀ w ∈ lw_tbl, w.before args s = true) (hg : ∀ w ∈ flatC (Cond.and given_1 narrow_1), w.before args s = true) (h : ∀ k, k < 15 → pWd args s A k (a k) (b k) (v k)) : ∃ q : Nat, va_Z "Streamloom$Word" "ALL" "[LStreamloom$Word;" (.ref q) A s s.heap ∧ va_T (.object "Streamloom$Word") q 15 (fun j => .ref (a j)) A s s.heap := by
  have hel : ∀ j : Nat, j < 15 → (Term.elem (.static "Streamloom$Word" "ALL" "[LStreamloom$Word;") (.int (Int32.ofNat j))).eval args s none [] s = some (.ref (a j)) := by
    intro j hj
    have e : ∀ k : Nat, k < 15 → (Cond.eq (.elem (.static "Streamloom$Word" "ALL" "[LStreamloom$Word;") (.int (Int32.ofNat k))) (.static "Streamloom$Word" (wName k) "LStreamloom$Word;")).before args s = true := by
      intro k hk
      have h : k = 0 ∨ k = 1 ∨ k = 2 ∨ k = 3 ∨ k = 4 ∨ k = 5 ∨ k = 6 ∨ k = 7 ∨ k = 8 ∨ k = 9 ∨ k = 10 ∨ k = 11 ∨ k = 12 ∨ k = 13 ∨ k = 14 := by omega
      rcases h with rfl | rfl | rfl | rfl | rfl | rfl | rfl | rfl | rfl | rfl | rfl | rfl | rfl | rfl | rfl <;> exact hg _ (by decide +kernel)
    exact sEqT (e j hj) (h j hj).1
  obtain ⟨q, ht, hT⟩ := va_Tof (f := fun j => .ref (a j)) (A := A) (N := 15) (by decide) (hg (Cond.arrayOf (.static "Streamloom$Word" "ALL" "[LStreamloom$Word;") (.object "Streamloom$Word")) (by decide +kernel)) (va_eqt (hg _ (by decide +kernel))) hel hA
  exact ⟨q, va_Zref (hts _ (by decide +kernel)) (hts _ (List.mem_of_getElem? (i := 72) (by decide +kernel))) ht hA, hT⟩
