def skOf (b v : Nat → Nat) (q k : Nat) : Nat := if k < 100 then b k else if k < 200 then v (k - 100) else q
theorem cX_start {args : Array Value} {s : State} (hts : ∀ w ∈ lw_tbl, w.before args s = true) (hg : ∀ w ∈ flatC (Cond.and given_1 narrow_1), w.before args s = true) : ∃ wd sk : Nat → Nat, cX wd sk (fun q => s.heap.size ≤ q) s s.heap := by
  have hA : ∀ a : Nat, a < s.heap.size → ¬ s.heap.size ≤ a := fun a h => by omega
  have h0 := words_at (A := fun q => s.heap.size ≤ q) hA hts hg
  obtain ⟨a, h1⟩ := Classical.skolem.1 h0
  obtain ⟨b, h2⟩ := Classical.skolem.1 h1
  obtain ⟨v, h3⟩ := Classical.skolem.1 h2
  have hw : ∀ k, k < 15 → pWd args s (fun q => s.heap.size ≤ q) k (wdOf a k) (b k) (v k) := fun k hk => by
    have := h3 k hk
    unfold wdOf
    rwa [if_pos hk]
  obtain ⟨q, q1, q2⟩ := all_start (a := wdOf a) (b := b) (v := v) (A := fun q => s.heap.size ≤ q) hA hts hg hw
  refine ⟨wdOf a, skOf b v q, nest_start hts, wdOf_inj h3, fun k hk => (hw k hk).2.2.1, cast_start hts, ust_start hA hts hg, sup_start hA hts hg, ⟨q1, q2, fun k hk => ?_⟩, comp_start hA hts hg, siob_start hA hts hg⟩
  obtain ⟨-, -, -, w1, w2, w3, w4, w5, w6, w7, w8⟩ := hw k hk
  have e1 : skOf b v q k = b k := by unfold skOf; rw [if_pos (by omega)]
  have e2 : skOf b v q (100 + k) = v k := by
    unfold skOf
    rw [if_neg (by omega), if_pos (by omega), show 100 + k - 100 = k by omega]
  unfold cXk
  rw [e1, e2]
  exact ⟨w1, w2, w3, w4, w5, w6, w7, w8⟩
