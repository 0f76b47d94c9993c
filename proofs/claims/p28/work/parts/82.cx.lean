def pWd (args : Array Value) (s : State) (A : Nat → Prop) (k a b v : Nat) : Prop := (Term.static "Streamloom$Word" (wName k) "LStreamloom$Word;").eval args s none [] s = some (.ref a) ∧ s.fieldOf? a "java/lang/Enum" "ordinal" "I" = some (.int (nI k)) ∧ va_Z "Streamloom$Word" (wName k) "LStreamloom$Word;" (.ref a) A s s.heap ∧ va_O "Streamloom$Word" a A s s.heap ∧ va_OF "Streamloom$Word" "stages" "I" (.int (wStages k)) a A s s.heap ∧ va_OF "Streamloom$Word" "nextStage" "I" (.int (wNext k)) a A s s.heap ∧ va_OF "Streamloom$Word" "spelling" "Ljava/lang/String;" (.ref b) a A s s.heap ∧ va_O "java/lang/String" b A s s.heap ∧ va_OF "java/lang/String" "coder" "B" (.int 0) b A s s.heap ∧ va_OF "java/lang/String" "value" "[B" (.ref v) b A s s.heap ∧ va_T .byte v (wLen k) (fun j => .int ((wSpell k).getD j 0)) A s s.heap
theorem words_at {args : Array Value} {s : State} {A : Nat → Prop} (hA : ∀ a : Nat, a < s.heap.size → ¬ A a) (hts : ∀ w ∈ lw_tbl, w.before args s = true) (hg : ∀ w ∈ flatC (Cond.and given_1 narrow_1), w.before args s = true) : ∀ k : Nat, ∃ a b v : Nat, k < 15 → pWd args s A k a b v := by
  intro k
  by_cases hk : k < 15
  · have h : k = 0 ∨ k = 1 ∨ k = 2 ∨ k = 3 ∨ k = 4 ∨ k = 5 ∨ k = 6 ∨ k = 7 ∨ k = 8 ∨ k = 9 ∨ k = 10 ∨ k = 11 ∨ k = 12 ∨ k = 13 ∨ k = 14 := by omega
    rcases h with rfl | rfl | rfl | rfl | rfl | rfl | rfl | rfl | rfl | rfl | rfl | rfl | rfl | rfl | rfl
    · obtain ⟨a, b, v, h⟩ := sWord0 hA hts hg; exact ⟨a, b, v, fun _ => h⟩
    · obtain ⟨a, b, v, h⟩ := sWord1 hA hts hg; exact ⟨a, b, v, fun _ => h⟩
    · obtain ⟨a, b, v, h⟩ := sWord2 hA hts hg; exact ⟨a, b, v, fun _ => h⟩
    · obtain ⟨a, b, v, h⟩ := sWord3 hA hts hg; exact ⟨a, b, v, fun _ => h⟩
    · obtain ⟨a, b, v, h⟩ := sWord4 hA hts hg; exact ⟨a, b, v, fun _ => h⟩
    · obtain ⟨a, b, v, h⟩ := sWord5 hA hts hg; exact ⟨a, b, v, fun _ => h⟩
    · obtain ⟨a, b, v, h⟩ := sWord6 hA hts hg; exact ⟨a, b, v, fun _ => h⟩
    · obtain ⟨a, b, v, h⟩ := sWord7 hA hts hg; exact ⟨a, b, v, fun _ => h⟩
    · obtain ⟨a, b, v, h⟩ := sWord8 hA hts hg; exact ⟨a, b, v, fun _ => h⟩
    · obtain ⟨a, b, v, h⟩ := sWord9 hA hts hg; exact ⟨a, b, v, fun _ => h⟩
    · obtain ⟨a, b, v, h⟩ := sWord10 hA hts hg; exact ⟨a, b, v, fun _ => h⟩
    · obtain ⟨a, b, v, h⟩ := sWord11 hA hts hg; exact ⟨a, b, v, fun _ => h⟩
    · obtain ⟨a, b, v, h⟩ := sWord12 hA hts hg; exact ⟨a, b, v, fun _ => h⟩
    · obtain ⟨a, b, v, h⟩ := sWord13 hA hts hg; exact ⟨a, b, v, fun _ => h⟩
    · obtain ⟨a, b, v, h⟩ := sWord14 hA hts hg; exact ⟨a, b, v, fun _ => h⟩
  · exact ⟨0, 0, 0, fun h => absurd h hk⟩
def wdOf (a : Nat → Nat) (k : Nat) : Nat := if k < 15 then a k else 1 + (a 0 + a 1 + a 2 + a 3 + a 4 + a 5 + a 6 + a 7 + a 8 + a 9 + a 10 + a 11 + a 12 + a 13 + a 14) + k
theorem wdOf_inj {args : Array Value} {s : State} {A : Nat → Prop} {a b v : Nat → Nat} (h : ∀ k, k < 15 → pWd args s A k (a k) (b k) (v k)) : ∀ i j : Nat, wdOf a i = wdOf a j → i = j := by
  have hle : ∀ k, k < 15 → a k ≤ a 0 + a 1 + a 2 + a 3 + a 4 + a 5 + a 6 + a 7 + a 8 + a 9 + a 10 + a 11 + a 12 + a 13 + a 14 := by
    intro k hk
    have h : k = 0 ∨ k = 1 ∨ k = 2 ∨ k = 3 ∨ k = 4 ∨ k = 5 ∨ k = 6 ∨ k = 7 ∨ k = 8 ∨ k = 9 ∨ k = 10 ∨ k = 11 ∨ k = 12 ∨ k = 13 ∨ k = 14 := by omega
    rcases h with rfl | rfl | rfl | rfl | rfl | rfl | rfl | rfl | rfl | rfl | rfl | rfl | rfl | rfl | rfl <;> omega
  intro i j e
  unfold wdOf at e
  by_cases hi : i < 15
  · by_cases hj : j < 15
    · rw [if_pos hi, if_pos hj] at e
      have h1 := (h i hi).2.1
      have h2 := (h j hj).2.1
      rw [e, h2] at h1
      injection h1 with h1
      injection h1 with h1
      exact ((nI_eq (by omega) (by omega)).1 h1).symm
    · rw [if_pos hi, if_neg hj] at e
      have := hle i hi
      omega
  · by_cases hj : j < 15
    · rw [if_neg hi, if_pos hj] at e
      have := hle j hj
      omega
    · rw [if_neg hi, if_neg hj] at e
      omega

set_option maxRecDepth 100000 in
theorem all_start {args : Array Value} {s : State} {A : Nat → Prop} {a b v : Nat → Nat} (hA : ∀ a : Nat, a < s.heap.size → ¬ A a) (hts : ∀ w ∈ lw_tbl, w.before args s = true) (hg : ∀ w ∈ flatC (Cond.and given_1 narrow_1), w.before args s = true) (h : ∀ k, k < 15 → pWd args s A k (a k) (b k) (v k)) : ∃ q : Nat, va_Z "Streamloom$Word" "ALL" "[LStreamloom$Word;" (.ref q) A s s.heap ∧ va_T (.object "Streamloom$Word") q 15 (fun j => .ref (a j)) A s s.heap := by
  have hel : ∀ j : Nat, j < 15 → (Term.elem (.static "Streamloom$Word" "ALL" "[LStreamloom$Word;") (.int (Int32.ofNat j))).eval args s none [] s = some (.ref (a j)) := by
    intro j hj
    have e : ∀ k : Nat, k < 15 → (Cond.eq (.elem (.static "Streamloom$Word" "ALL" "[LStreamloom$Word;") (.int (Int32.ofNat k))) (.static "Streamloom$Word" (wName k) "LStreamloom$Word;")).before args s = true := by
      intro k hk
      have h : k = 0 ∨ k = 1 ∨ k = 2 ∨ k = 3 ∨ k = 4 ∨ k = 5 ∨ k = 6 ∨ k = 7 ∨ k = 8 ∨ k = 9 ∨ k = 10 ∨ k = 11 ∨ k = 12 ∨ k = 13 ∨ k = 14 := by omega
      rcases h with rfl | rfl | rfl | rfl | rfl | rfl | rfl | rfl | rfl | rfl | rfl | rfl | rfl | rfl | rfl <;> exact hg _ (by decide +kernel)
    exact sEqT (e j hj) (h j hj).1
  obtain ⟨q, ht, hT⟩ := va_Tof (f := fun j => .ref (a j)) (A := A) (N := 15) (by decide) (hg (Cond.arrayOf (.static "Streamloom$Word" "ALL" "[LStreamloom$Word;") (.object "Streamloom$Word")) (by decide +kernel)) (va_eqt (hg _ (by decide +kernel))) hel hA
  exact ⟨q, va_Zref (hts _ (by decide +kernel)) (hts _ (by decide +kernel)) ht hA, hT⟩

def skOf (b v : Nat → Nat) (q k : Nat) : Nat := if k < 100 then b k else if k < 200 then v (k - 100) else q
theorem cX_start {args : Array Value} {s : State} (hts : ∀ w ∈ lw_tbl, w.before args s = true) (hg : ∀ w ∈ flatC (Cond.and given_1 narrow_1), w.before args s = true) : ∃ wd sk : Nat → Nat, cX wd sk (fun q => s.heap.size ≤ q) s s.heap := by
  have hA : ∀ a : Nat, a < s.heap.size → ¬ s.heap.size ≤ a := fun a h => by omega
  have h0 := words_at (A := fun q => s.heap.size ≤ q) hA hts hg
  obtain ⟨a, h1⟩ := Classical.skolem.1 h0
  obtain ⟨b, h2⟩ := Classical.skolem.1 h1
  obtain ⟨v, h3⟩ := Classical.skolem.1 h2
  have hw : ∀ k, k < 15 → pWd args s (fun q => s.heap.size ≤ q) k (wdOf a k) (b k) (v k) := fun k hk => by
    have := h3 k hk
    unfold wdOf
    rwa [if_pos hk]
  obtain ⟨q, q1, q2⟩ := all_start (a := wdOf a) (b := b) (v := v) (A := fun q => s.heap.size ≤ q) hA hts hg hw
  refine ⟨wdOf a, skOf b v q, nest_start hts, wdOf_inj h3, fun k hk => (hw k hk).2.2.1, cast_start hts, ust_start hA hts hg, sup_start hA hts hg, ⟨q1, q2, fun k hk => ?_⟩, comp_start hA hts hg, siob_start hA hts hg⟩
  obtain ⟨-, -, -, w1, w2, w3, w4, w5, w6, w7, w8⟩ := hw k hk
  have e1 : skOf b v q k = b k := by unfold skOf; rw [if_pos (by omega)]
  have e2 : skOf b v q (100 + k) = v k := by
    unfold skOf
    rw [if_neg (by omega), if_pos (by omega), show 100 + k - 100 = k by omega]
  unfold cXk
  rw [e1, e2]
  exact ⟨w1, w2, w3, w4, w5, w6, w7, w8⟩
