/-! ===== the queries that the law types ===== -/
abbrev PM (a c : Nat) (lm : Int32) (j sh z y lt md : Nat) : PQ := PQ.mk a c lm j sh z y lt md
def VQ (a c j sh z y lt md : Nat) : Prop := a ≤ 2 ∧ 3 ≤ c ∧ c ≤ 6 ∧ j ≤ 1 ∧ 8 ≤ sh ∧ sh ≤ 10 ∧ 1 ≤ z ∧ z ≤ 99 ∧ 1 ≤ y ∧ y ≤ 99 ∧ (sh ≠ 9 → y = z) ∧ lt ≤ 99 ∧ 12 ≤ md ∧ md ≤ 14
theorem VQ.qm {a c : Nat} {lm : Int32} {j sh z y lt md : Nat} (h : VQ a c j sh z y lt md) : ∃ q, QM (PM a c lm j sh z y lt md) q := by
  obtain ⟨h1, h2, h3, h4, h5, h6, h7, h8, h9, h10, h11, h12, h13, h14⟩ := h
  refine ⟨fun k => ([nI a, nI (c - 3), lm, nI j, nI (sh - 8), nI z, if sh = 9 then nI y else 0, nI lt, nI (md - 12)] : List Int32).getD k 0, ⟨rfl, h1⟩, ⟨rfl, h2, h3, rfl⟩, ⟨rfl, h4⟩, ⟨rfl, h5, h6, rfl, h7, h8, h9, h10, fun e => ?_, fun e => ⟨?_, h11 e⟩⟩, ⟨rfl, h12⟩, ⟨rfl, h13, h14⟩⟩
  · show (if sh = 9 then nI y else 0) = nI y
    exact if_pos e
  · show (if sh = 9 then nI y else 0) = 0
    exact if_neg e
def mdN (m : Nat) : Nat := if m = 0 then 12 else 11 + m
def ltN : Option Nat → Nat
  | none => 0
  | some v => v
def tB (b : Bool) : List Nat := if b then [32] else []
def tM (m : Nat) (b : Bool) : List Nat := if m = 0 then [] else 32 :: (spN (11 + m) ++ tB b)
def tL : Option Nat → List Nat
  | none => []
  | some v => 32 :: (spN 11 ++ 32 :: figs v)
theorem tB_32 (b : Bool) : (tB b).getD 0 32 = 32 := by cases b <;> rfl
theorem bl_tB (b : Bool) : bl (tB b) = [] := by cases b <;> rfl
theorem tM_32 (m : Nat) (b : Bool) : (tM m b).getD 0 32 = 32 := by
  unfold tM
  split
  · rfl
  · rfl
theorem tL_32 (L : Option Nat) (m : Nat) (b : Bool) : (tL L ++ tM m b).getD 0 32 = 32 := by
  cases L with
  | none => exact tM_32 m b
  | some v => rfl
theorem bl_figs (v : Nat) (t : List Nat) : bl (figs v ++ t) = figs v ++ t := by
  unfold figs bl
  split
  · rw [List.cons_append, List.dropWhile_cons, if_neg]
    have : (48 + v == 32) = false := by simpa using by omega
    rw [this]; decide
  · rw [List.cons_append, List.dropWhile_cons, if_neg]
    have : (48 + v / 10 == 32) = false := by simpa using by omega
    rw [this]; decide
theorem bl_32 (t : List Nat) : bl (32 :: t) = bl t := rfl
section READ
variable {l : List Nat} {a c : Nat} {lm : Int32} {j sh z y lt : Nat} {m : Nat} {b : Bool} {L : Option Nat}
theorem R_M {s : Nat} (hs : s = 8 ∨ s = 10) (hm : m ≤ 3) (hV : VQ a c j sh z y lt (mdN m)) : RD l s (bl (tM m b)) (PM a c lm j sh z y lt 12) (PM a c lm j sh z y lt (mdN m)) := by
  have hq := hV.qm (lm := lm)
  have h : m = 0 ∨ m = 1 ∨ m = 2 ∨ m = 3 := by omega
  rcases h with rfl | rfl | rfl | rfl
  · exact RD.fin (by omega) (by rcases hs with rfl | rfl <;> decide) hq
  · have e : bl (tM 1 b) = spN 12 ++ tB b := rfl
    rw [e]
    rcases hs with rfl | rfl
    · exact RD.word (by omega) (by omega) (by decide) (by decide) (tB_32 b) (by rw [bl_tB]; exact RD.fin (by decide) (by decide) hq)
    · exact RD.word (by omega) (by omega) (by decide) (by decide) (tB_32 b) (by rw [bl_tB]; exact RD.fin (by decide) (by decide) hq)
  · have e : bl (tM 2 b) = spN 13 ++ tB b := rfl
    rw [e]
    rcases hs with rfl | rfl
    · exact RD.word (by omega) (by omega) (by decide) (by decide) (tB_32 b) (by rw [bl_tB]; exact RD.fin (by decide) (by decide) hq)
    · exact RD.word (by omega) (by omega) (by decide) (by decide) (tB_32 b) (by rw [bl_tB]; exact RD.fin (by decide) (by decide) hq)
  · have e : bl (tM 3 b) = spN 14 ++ tB b := rfl
    rw [e]
    rcases hs with rfl | rfl
    · exact RD.word (by omega) (by omega) (by decide) (by decide) (tB_32 b) (by rw [bl_tB]; exact RD.fin (by decide) (by decide) hq)
    · exact RD.word (by omega) (by omega) (by decide) (by decide) (tB_32 b) (by rw [bl_tB]; exact RD.fin (by decide) (by decide) hq)
theorem R_L (hm : m ≤ 3) (hL : ltN L < 100) (hV : VQ a c j sh z y (ltN L) (mdN m)) : RD l 8 (bl (tL L ++ tM m b)) (PM a c lm j sh z y 0 12) (PM a c lm j sh z y (ltN L) (mdN m)) := by
  cases L with
  | none => exact R_M (.inl rfl) hm hV
  | some v =>
    have e : bl (tL (some v) ++ tM m b) = spN 11 ++ (32 :: (figs v ++ tM m b)) := rfl
    rw [e]
    refine RD.word (by omega) (by omega) (by decide) (by decide) rfl ?_
    rw [bl_32, bl_figs]
    exact RD.num (s := 9) (neg := false) (by omega) (by decide) (fun q => absurd q (by decide)) hL (.inl (by decide)) (tM_32 m b) (R_M (.inr rfl) hm hV)
def tY (sh y : Nat) : List Nat := if sh = 9 then 32 :: figs y else []
def slN (sh z y : Nat) : Nat := if sh = 9 then y else z
theorem R_S {z0 y0 : Nat} (hsh : 8 ≤ sh ∧ sh ≤ 10) (hz : 1 ≤ z ∧ z ≤ 99) (hy : 1 ≤ y ∧ y ≤ 99) (hm : m ≤ 3) (hL : ltN L < 100) (hV : VQ a c j sh z (slN sh z y) (ltN L) (mdN m)) : RD l 6 (figs z ++ (tY sh y ++ (tL L ++ tM m b))) (PM a c lm j sh z0 y0 0 12) (PM a c lm j sh z (slN sh z y) (ltN L) (mdN m)) := by
  by_cases e : sh = 9
  · subst e
    have e1 : tY 9 y ++ (tL L ++ tM m b) = 32 :: (figs y ++ (tL L ++ tM m b)) := rfl
    rw [e1]
    refine RD.num (s := 6) (neg := false) (by omega) (by decide) (fun q => absurd q (by decide)) (by omega) (.inr hz.1) rfl ?_
    rw [bl_32, bl_figs]
    exact RD.num (s := 7) (neg := false) (by omega) (by decide) (fun q => absurd q (by decide)) (by omega) (.inr hy.1) (tL_32 L m b) (R_L hm hL hV)
  · have e1 : tY sh y = [] := if_neg e
    have e2 : slN sh z y = z := if_neg e
    rw [e1, List.nil_append]
    rw [e2] at hV ⊢
    refine RD.num (s := 6) (neg := false) (by omega) (by decide) (fun q => absurd q (by decide)) (by omega) (.inr hz.1) (tL_32 L m b) ?_
    have et : tnS 6 (PM a c lm j sh z0 y0 0 12) = 8 := by
      unfold tnS
      rw [if_neg (by decide), if_neg (by decide), if_neg (by decide)]
      exact if_neg e
    rw [et]
    exact R_L hm hL hV
theorem R_H {s z0 y0 : Nat} (hs : s = 1 ∨ s = 4 ∨ s = 5) (hsh : 8 ≤ sh ∧ sh ≤ 10) (hz : 1 ≤ z ∧ z ≤ 99) (hy : 1 ≤ y ∧ y ≤ 99) (hm : m ≤ 3) (hL : ltN L < 100) (hV : VQ a c j sh z (slN sh z y) (ltN L) (mdN m)) : RD l s (spN sh ++ (32 :: (figs z ++ (tY sh y ++ (tL L ++ tM m b))))) (PM a c lm j 8 z0 y0 0 12) (PM a c lm j sh z (slN sh z y) (ltN L) (mdN m)) := by
  have key := fun z0 y0 => R_S (l := l) (lm := lm) (b := b) (z0 := z0) (y0 := y0) hsh hz hy hm hL hV
  have h : sh = 8 ∨ sh = 9 ∨ sh = 10 := by omega
  rcases h with rfl | rfl | rfl
  · rcases hs with rfl | rfl | rfl
    all_goals exact RD.word (by omega) (by omega) (by decide) (by decide) rfl (by rw [bl_32, bl_figs]; exact key z0 y0)
  · rcases hs with rfl | rfl | rfl
    all_goals exact RD.word (by omega) (by omega) (by decide) (by decide) rfl (by rw [bl_32, bl_figs]; exact key z0 y0)
  · rcases hs with rfl | rfl | rfl
    all_goals exact RD.word (by omega) (by omega) (by decide) (by decide) rfl (by rw [bl_32, bl_figs]; exact key z0 y0)
def tJ (J : Bool) : List Nat := if J then spN 7 ++ [32] else []
def jnN (J : Bool) : Nat := if J then 1 else 0
theorem bl_sp (k : Nat) (hk : k < 15) (t : List Nat) : bl (spN k ++ t) = spN k ++ t := by
  have : ∃ u w, spN k = u :: w ∧ u ≠ 32 := by
    have : ∀ k, k < 15 → ∃ u w, spN k = u :: w ∧ u ≠ 32 := by
      intro k hk
      rcases (show k = 0 ∨ k = 1 ∨ k = 2 ∨ k = 3 ∨ k = 4 ∨ k = 5 ∨ k = 6 ∨ k = 7 ∨ k = 8 ∨ k = 9 ∨ k = 10 ∨ k = 11 ∨ k = 12 ∨ k = 13 ∨ k = 14 by omega) with rfl | rfl | rfl | rfl | rfl | rfl | rfl | rfl | rfl | rfl | rfl | rfl | rfl | rfl | rfl
      all_goals exact ⟨_, _, rfl, by decide⟩
    exact this k hk
  obtain ⟨u, w, e, h⟩ := this
  rw [e]
  unfold bl
  rw [List.cons_append, List.dropWhile_cons, if_neg (by simp [h])]
theorem R_J {s z0 y0 : Nat} {J : Bool} (hs : s = 1 ∨ s = 4) (hsh : 8 ≤ sh ∧ sh ≤ 10) (hz : 1 ≤ z ∧ z ≤ 99) (hy : 1 ≤ y ∧ y ≤ 99) (hm : m ≤ 3) (hL : ltN L < 100) (hV : VQ a c (jnN J) sh z (slN sh z y) (ltN L) (mdN m)) : RD l s (tJ J ++ (spN sh ++ (32 :: (figs z ++ (tY sh y ++ (tL L ++ tM m b)))))) (PM a c lm 0 8 z0 y0 0 12) (PM a c lm (jnN J) sh z (slN sh z y) (ltN L) (mdN m)) := by
  cases J with
  | false =>
    exact R_H (by omega) hsh hz hy hm hL hV
  | true =>
    have e : tJ true ++ (spN sh ++ (32 :: (figs z ++ (tY sh y ++ (tL L ++ tM m b))))) = spN 7 ++ (32 :: (spN sh ++ (32 :: (figs z ++ (tY sh y ++ (tL L ++ tM m b)))))) := rfl
    rw [e]
    have key := R_H (l := l) (lm := lm) (b := b) (z0 := z0) (y0 := y0) (s := 5) (by omega) hsh hz hy hm hL hV
    rcases hs with rfl | rfl
    all_goals exact RD.word (by omega) (by omega) (by decide) (by decide) rfl (by rw [bl_32, bl_sp _ (by omega)]; exact key)
end READ
