/-! ===== reading a text that is a list ===== -/
def cl (l : List Nat) (i : Nat) : Nat := l.getD i 0
def bl (r : List Nat) : List Nat := r.dropWhile fun u => u == 32
def RD (l : List Nat) (s : Nat) (r : List Nat) (Q Q' : PQ) : Prop := ∀ p, p + r.length = l.length → l.drop p = r → OC l.length (cl l) s p Q none Q'
theorem cl_at {l r : List Nat} {p : Nat} (h : l.drop p = r) (i : Nat) : cl l (p + i) = r.getD i 0 := by
  unfold cl
  rw [← h]
  simp only [List.getD, List.getElem?_drop]
theorem sg_at {l r : List Nat} {p : Nat} (h1 : p + r.length = l.length) (h : l.drop p = r) (i : Nat) : sg l.length (cl l) (p + i) = r.getD i 32 := by
  unfold sg
  rw [cl_at h]
  by_cases c : p + i < l.length
  · rw [if_pos c]
    have : i < r.length := by omega
    simp only [List.getD, List.getElem?_eq_getElem this, Option.getD_some]
  · rw [if_neg c]
    have : r.length ≤ i := by omega
    simp only [List.getD, List.getElem?_eq_none this, Option.getD_none]
theorem drop_more {l r : List Nat} {p : Nat} (h : l.drop p = r) (k : Nat) : l.drop (p + k) = r.drop k := by
  rw [← h, List.drop_drop]
theorem skip_at {l : List Nat} : ∀ (r : List Nat) (p : Nat), p + r.length = l.length → l.drop p = r → skip l.length (cl l) p + (bl r).length = l.length ∧ l.drop (skip l.length (cl l) p) = bl r := by
  intro r
  induction r with
  | nil =>
    intro p h1 h2
    have : p = l.length := h1
    rw [skip_stop (by omega)]
    exact ⟨h1, h2⟩
  | cons u t ih =>
    intro p h1 h2
    have h3 := cl_at h2 0
    rw [Nat.add_zero] at h3
    have h3 : cl l p = u := h3
    rw [List.length_cons] at h1
    by_cases e : u = 32
    · rw [skip_step (by omega) (by rw [h3, e])]
      have := ih (p + 1) (by omega) (by rw [drop_more h2 1]; rfl)
      have eb : bl (u :: t) = bl t := by
        unfold bl
        rw [List.dropWhile_cons, if_pos (by rw [e]; rfl)]
      rw [eb]
      exact this
    · rw [skip_stop (by rw [h3]; exact fun q => e q.2)]
      have eb : bl (u :: t) = u :: t := by
        unfold bl
        rw [List.dropWhile_cons, if_neg (by simp [e])]
      rw [eb]
      exact ⟨by rw [List.length_cons]; omega, h2⟩
theorem lcp_full {f : Nat → Nat} : ∀ (w : List Nat) (p : Nat), (∀ i, i < w.length → f (p + i) = w.getD i 0) → lcp f w p = w.length := by
  intro w
  induction w with
  | nil => exact fun _ _ => rfl
  | cons a w ih =>
    intro p h
    have h0 := h 0 (by rw [List.length_cons]; omega)
    rw [Nat.add_zero] at h0
    have h0 : f p = a := h0
    unfold lcp
    rw [if_pos h0, ih (p + 1) fun i hi => ?_, List.length_cons]
    have := h (i + 1) (by rw [List.length_cons]; omega)
    rw [show p + 1 + i = p + (i + 1) by omega, this]
    rfl
theorem lcp_get {f : Nat → Nat} : ∀ (w : List Nat) (p : Nat), lcp f w p = w.length → ∀ i, i < w.length → f (p + i) = w.getD i 0 := by
  intro w
  induction w with
  | nil => exact fun _ _ i hi => absurd hi (Nat.not_lt_zero i)
  | cons a w ih =>
    intro p h i hi
    unfold lcp at h
    by_cases e : f p = a
    · rw [if_pos e, List.length_cons] at h
      cases i with
      | zero => exact e
      | succ i =>
        have := ih (p + 1) (by omega) i (by rw [List.length_cons] at hi; omega)
        rw [show p + (i + 1) = p + 1 + i by omega, this]
        rfl
    · rw [if_neg e, List.length_cons] at h
      omega
theorem full_two {f : Nat → Nat} {p k : Nat} (hk : k < 15) (h : wFull f p k) : f p = (spN k ++ [32]).getD 0 0 ∧ f (p + 1) = (spN k ++ [32]).getD 1 0 := by
  have hl := (spN_len k hk).1
  have g := lcp_get _ _ h.1
  have g0 := g 0 (by omega)
  rw [Nat.add_zero] at g0
  refine ⟨?_, ?_⟩
  · rw [g0]
    simp only [List.getD, List.getElem?_append_left (show 0 < (spN k).length by omega)]
  · by_cases e : (spN k).length = 1
    · have h2 := h.2
      rw [e] at h2
      rw [h2]
      simp only [List.getD, List.getElem?_append_right (show (spN k).length ≤ 1 by omega), e]
      rfl
    · rw [g 1 (by omega)]
      simp only [List.getD, List.getElem?_append_left (show 1 < (spN k).length by omega)]
theorem two_one : ∀ k, k < 15 → ∀ j, j < 15 → (spN k ++ [32]).getD 0 0 = (spN j ++ [32]).getD 0 0 → (spN k ++ [32]).getD 1 0 = (spN j ++ [32]).getD 1 0 → k = j := by decide +kernel
theorem rw_full {f : Nat → Nat} {s p k0 : Nat} (hk : k0 < 15) (h0 : may s k0) (hf : wFull f p k0) : rw0 f s p = .inl k0 := by
  refine rwF_a h0 hf (fun k h1 _ h3 h4 => h3 ?_) 15 0 0 (by omega) (Nat.zero_le _) hk
  obtain ⟨a, b⟩ := full_two hk hf
  obtain ⟨c, d⟩ := full_two h1 h4
  exact two_one k h1 k0 hk (c.symm.trans a) (d.symm.trans b)
theorem getD_l {A B : List Nat} {i d : Nat} (h : i < A.length) : (A ++ B).getD i d = A.getD i 0 := by
  simp only [List.getD, List.getElem?_append_left h, List.getElem?_eq_getElem h, Option.getD_some]
theorem getD_r {A B : List Nat} {d : Nat} : (A ++ B).getD A.length d = B.getD 0 d := by
  simp only [List.getD, List.getElem?_append_right (Nat.le_refl _), Nat.sub_self]
theorem RD.word {l s t Q Q'} {k : Nat} (hk : k < 15) (hs : s ≤ 11) (hns : ¬ isNum s) (hm : may s k) (ht : t.getD 0 32 = 32) (ih : RD l (wN k) (bl t) (twQ s k Q) Q') : RD l s (spN k ++ t) Q Q' := by
  intro p h1 h2
  have hf : wFull (sg l.length (cl l)) p k := by
    refine ⟨lcp_full _ _ fun i hi => ?_, ?_⟩
    · rw [sg_at h1 h2, getD_l hi]
    · rw [sg_at h1 h2, getD_r]; exact ht
  refine OC.word (by omega) hs hns (rw_full hk hm hf) ?_
  rw [List.length_append] at h1
  have e : l.drop (p + (spN k).length) = t := by rw [drop_more h2, List.drop_left]
  obtain ⟨a, b⟩ := skip_at t (p + (spN k).length) (by omega) e
  exact ih _ a b
def figs (v : Nat) : List Nat := if v ≤ 9 then [48 + v] else [48 + v / 10, 48 + v % 10]
theorem nm_figs {f : Nat → Nat} {z : Bool} {a v : Nat} (hv : v < 100) (hz : z = true ∨ 1 ≤ v) (h : ∀ i, i < (figs v).length → f (a + i) = (figs v).getD i 0) (he : f (a + (figs v).length) = 32) : nmF f z a = .inr (v, a + (figs v).length) := by
  unfold figs at h he ⊢
  unfold nmF
  by_cases c : v ≤ 9
  · rw [if_pos c] at h he ⊢
    have h0 := h 0 (Nat.succ_pos _)
    rw [Nat.add_zero] at h0
    have h0 : f a = 48 + v := h0
    have he : f (a + 1) = 32 := he
    rw [h0, he, if_neg (by
      rintro (q | q | ⟨q, q2⟩)
      · omega
      · omega
      · rcases hz with z1 | z1
        · rw [z1] at q2; exact absurd q2 (by decide)
        · omega), if_neg (by omega)]
    rw [show 48 + v - 48 = v by omega]
    rfl
  · rw [if_neg c] at h he ⊢
    have h0 := h 0 (Nat.succ_pos _)
    rw [Nat.add_zero] at h0
    have h0 : f a = 48 + v / 10 := h0
    have h1 : f (a + 1) = 48 + v % 10 := h 1 (Nat.lt_succ_self _)
    rw [h0, h1, if_neg (by omega), if_pos (by omega)]
    rw [show 10 * (48 + v / 10 - 48) + (48 + v % 10 - 48) = v by omega]
    rfl
theorem RD.num {l s t Q Q'} {v : Nat} {neg : Bool} (hs : s ≤ 11) (hns : isNum s) (hneg : neg = true → s = 3) (hv : v < 100) (hz : zOK s = true ∨ 1 ≤ v) (ht : t.getD 0 32 = 32) (ih : RD l (tnS s Q) (bl t) (tnQ s v neg Q) Q') : RD l s ((if neg then [45] else []) ++ (figs v ++ t)) Q Q' := by
  intro p h1 h2
  have hfl : (figs v).length = 1 ∨ (figs v).length = 2 := by
    unfold figs
    split
    · exact .inl rfl
    · exact .inr rfl
  have hf0 : (figs v).getD 0 0 ≠ 45 := by
    unfold figs
    split
    · show 48 + v ≠ 45; omega
    · show 48 + v / 10 ≠ 45; omega
  have s0 := sg_at h1 h2 0
  rw [Nat.add_zero] at s0
  have eng : ngF (sg l.length (cl l)) s p = neg := by
    unfold ngF
    cases neg with
    | true =>
      have : sg l.length (cl l) p = 45 := s0
      rw [this, hneg rfl]; rfl
    | false =>
      have : sg l.length (cl l) p = (figs v).getD 0 0 := by
        rw [s0]
        show (figs v ++ t).getD 0 32 = _
        exact getD_l (by omega)
      rw [this]
      have : ((figs v).getD 0 0 == 45) = false := by simpa using hf0
      rw [this, Bool.and_false]
  have ea : l.drop (dgA l.length (cl l) s p) = figs v ++ t ∧ dgA l.length (cl l) s p + (figs v ++ t).length = l.length := by
    unfold dgA
    rw [eng]
    cases neg with
    | true =>
      rw [if_pos rfl]
      refine ⟨by rw [drop_more h2 1]; rfl, ?_⟩
      have : ((if true = true then [45] else []) ++ (figs v ++ t)).length = (figs v ++ t).length + 1 := rfl
      omega
    | false => exact ⟨h2, h1⟩
  obtain ⟨d1, d2⟩ := ea
  have hnm : nmF (sg l.length (cl l)) (zOK s) (dgA l.length (cl l) s p) = .inr (v, dgA l.length (cl l) s p + (figs v).length) := by
    refine nm_figs hv hz (fun i hi => ?_) ?_
    · rw [sg_at d2 d1, getD_l hi]
    · rw [sg_at d2 d1, getD_r]; exact ht
  have he : sg l.length (cl l) (dgA l.length (cl l) s p + (figs v).length) = 32 := by
    rw [sg_at d2 d1, getD_r]; exact ht
  refine OC.num (by omega) hs hns hnm he ?_
  rw [eng]
  rw [List.length_append] at d2
  have e : l.drop (dgA l.length (cl l) s p + (figs v).length) = t := by rw [drop_more d1, List.drop_left]
  obtain ⟨a, b⟩ := skip_at t _ (by omega) e
  exact ih _ a b
theorem RD.fin {l s Q} (hs : s ≤ 11) (he : isEnd s) (hq : ∃ q, QM Q q) : RD l s [] Q Q := by
  intro p h1 _
  have : p = l.length := h1
  subst this
  exact OC.endOk hs he hq
