/-! ===== array classes and known classes at the law's entry ===== -/
theorem tyArr {args : Array Value} {s : State} {ty : FieldType} (h : (Cond.arrayClass ty).before args s = true) : ∃ cA : ClassId, ArrOfT s cA ty ∧ s.vm.findClass ("[" ++ ty.toString) = some cA := by
  obtain ⟨cA, k, comp, h1, h2, h3⟩ := Cond.arrayClass_spec h
  exact ⟨cA, fun n z => ⟨fun k h => (by cases h), k, h2, comp, h3⟩, h1⟩
theorem tyObj {s : State} {C : String} (h : va_AO C s) : ∃ cA : ClassId, ArrOfT s cA (.object C) ∧ va_RA s cA (.object C) := by
  obtain ⟨comp, cA, k, h1, -, h3, h4, h5⟩ := Cond.arrayOver_spec h
  exact ⟨cA, fun n z => ⟨fun k h => (by cases h), k, h3, comp, h4⟩, k, comp, h3, h4, h1, h5⟩
theorem w_tbl {w : Cond} (h : w ∈ wAll) : w ∈ lw_tbl := (List.mem_filter.mp h).1
theorem kAll_start {args : Array Value} {s : State} (hts : ∀ w ∈ lw_tbl, w.before args s = true) : ∃ (D : va_G) (cI cB cP cT : ClassId), va_K D vwCl (cTy cI cB cP cT) s := by
  obtain ⟨D, hD⟩ := kD_start hts
  obtain ⟨cI, i1, i2⟩ := tyArr (hts _ (w_tbl arrI))
  obtain ⟨cB, b1, b2⟩ := tyArr (hts _ (w_tbl arrB))
  obtain ⟨cP, p1, p2⟩ := tyObj (aoP_start hts)
  obtain ⟨cT, t1, t2⟩ := tyObj (aoT_start hts)
  refine ⟨D, cI, cB, cP, cT, ⟨hD, fun k q hq => ?_⟩⟩
  have hm : q ∈ [(cI, FieldType.int), (cB, .byte), (cP, .object RX1), (cT, .object RX6)] := List.mem_of_getElem? hq
  rcases List.mem_cons.1 hm with rfl | hm
  · exact ⟨i1, i2⟩
  rcases List.mem_cons.1 hm with rfl | hm
  · exact ⟨b1, b2⟩
  rcases List.mem_cons.1 hm with rfl | hm
  · exact ⟨p1, p2⟩
  rcases List.mem_cons.1 hm with rfl | hm
  · exact ⟨t1, t2⟩
  exact absurd hm List.not_mem_nil
/-! ===== worlds: their parts in another order ===== -/
theorem wsmemP {D : va_G} {cl : List vw_C} {ws w2 : va_W} {H : Heap} (hP : va_P D cl ws H) (h : ∀ q, q ∈ w2 → q ∈ ws) : va_P D cl w2 H := fun k q hq => by
  obtain ⟨j, hj⟩ := List.getElem?_of_mem (h q (List.mem_of_getElem? hq))
  exact hP j q hj
theorem wsleftD {A : Nat → Prop} {L w : va_W} (hD : va_D A (L ++ w)) : va_D A L :=
  ⟨fun i j p q hi hj e => hD.1 i j p q (by rw [List.getElem?_append_left (List.getElem?_eq_some_iff.mp hi).1]; exact hi) (by rw [List.getElem?_append_left (List.getElem?_eq_some_iff.mp hj).1]; exact hj) e, fun k q hq => hD.2 k q (by rw [List.getElem?_append_left (List.getElem?_eq_some_iff.mp hq).1]; exact hq)⟩
theorem wsapart {A : Nat → Prop} {L w : va_W} (hD : va_D A (L ++ w)) : ∀ (i j : Nat) (p q : Nat × va_E), L[i]? = some p → w[j]? = some q → p.1 ≠ q.1 := fun i j p q hi hj e => by
  have hil := (List.getElem?_eq_some_iff.mp hi).1
  have := hD.1 i (L.length + j) p q (by rw [List.getElem?_append_left hil]; exact hi) (by rw [List.getElem?_append_right (by omega)]; simpa using hj) e
  omega
theorem wsswapP {D : va_G} {cl : List vw_C} {a b c : va_W} {H : Heap} (hP : va_P D cl ((a ++ b) ++ c) H) : va_P D cl (b ++ (a ++ c)) H := wsmemP hP fun q hq => by
  rcases List.mem_append.mp hq with h | h
  · exact List.mem_append.mpr (.inl (List.mem_append.mpr (.inr h)))
  · rcases List.mem_append.mp h with h | h
    · exact List.mem_append.mpr (.inl (List.mem_append.mpr (.inl h)))
    · exact List.mem_append.mpr (.inr h)
theorem wsswapD {A : Nat → Prop} {a b c : va_W} (hD : va_D A ((a ++ b) ++ c)) : va_D A (b ++ (a ++ c)) := by
  have hab := wsleftD hD
  have x1 := wsapart hab
  have x2 := wsapart hD
  refine (zrightD hab).app ((wsleftD hab).app (zrightD hD) fun i j p q hi hj => ?_) fun i j p q hi hj => ?_
  · exact x2 i j p q (by rw [List.getElem?_append_left (List.getElem?_eq_some_iff.mp hi).1]; exact hi) hj
  · by_cases hl : j < a.length
    · rw [List.getElem?_append_left hl] at hj
      exact fun e => x1 j i q p hj hi e.symm
    · rw [List.getElem?_append_right (by omega)] at hj
      exact x2 (a.length + i) (j - a.length) p q (by rw [List.getElem?_append_right (by omega)]; simpa using hi) hj
