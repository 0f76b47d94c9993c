/-! ===== a step: what counts, and its windows ===== -/
theorem put_tsf {S M sz sl lt} (h : NR S M sz sl lt) {p r k t : Nat} {v : Int32} (hk : k < 8) (ht : t < 1000) (r0 : ((S.R p).getD r pz) 0 = nI k) (r1 : ((S.R p).getD r pz) 1 = nI t) (r4 : ((S.R p).getD r pz) 4 = mIts M v) (hl : (M.V 6).length + 4 ≤ 1200) (hTT : pW (M.V 6) + M.T.length ≤ 2400) (r3 : ((S.R p).getD r pz) 3 = 1) (r5 : ((S.R p).getD r pz) 5 = S.x 2 0 - S.x 12 0) {F : Int32 → Int32 → Option Int32} (hT : TSF (S.y 5 0) sz sl (S.R 5) (S.x 2 0) (S.x 2 0 - S.x 12 0) F (S.R 4)) :
    ∃ rs, (cPut S p r).R 4 = S.R 4 ++ rs ∧ (∀ r, r ∈ rs → RNp (S.y 6 0) (S.x 2 0) r) ∧ TSF (S.y 5 0) sz sl ((cPut S p r).R 5) (S.x 2 0) (S.x 2 0 - S.x 12 0) (fun k' b' => oad (S.y 3 0) (F k' b') (tv (S.x 10 0) k' b' ((S.R p).getD r pz))) (S.R 4 ++ rs) := by
  have hz1 := h.q.z1
  have hz2 := h.q.z2
  have hs1 := h.q.s1
  have hs2 := h.q.s2
  obtain ⟨-, b1, b2, -, -, -⟩ := put_rel h hk ht r0 r1 r4 hl hTT
  by_cases hs : S.y 5 0 = 10
  · have e : cPut S p r = cSes S (nI k) (nI t) (((S.R p).getD r pz) 4) := by
      unfold cPut; simp only [if_pos hs, r0, r1]
    rw [e] at b1 ⊢
    exact TSF.ses h hs hk ht b1 hT
  · have e : cPut S p r = cSl (nI k) (((S.R p).getD r pz) 4) S ((jsB (t / sl) (sz / sl)).map fun j => nI (j * sl)) := by
      unfold cPut
      simp only [if_neg hs, r0, r1]
      rw [h.q.sc, h.q.zc, nI_back (by omega), nI_back (by omega), nI_back (by omega), jsB_map (by omega)]
    have hbd : ∀ j, j ∈ jsB (t / sl) (sz / sl) → j * sl < 1000 := fun j hj => by
      have := ((jsB_mem _).1 hj).1
      have := (Nat.le_div_iff_mul_le (by omega)).1 this
      omega
    have hdiv : sz / sl * sl = sz := by
      by_cases h9 : S.y 5 0 = 9
      · have := (h.q.s9 h9).2.1
        have := Nat.div_add_mod sz sl
        rw [Nat.mul_comm]; omega
      · have := (h.q.s8 h9).2
        rw [this, Nat.div_self (by omega), Nat.one_mul]
    obtain ⟨rs, a1, a2, a3⟩ := TSF.sl (a := ((S.R p).getD r pz) 4) hk (jsB (t / sl) (sz / sl)) S M F h hs r4 hbd hT
    rw [e] at b1 ⊢
    refine ⟨rs, a1, a2, a3.congr (fun w hw => ?_) fun _ k' j' hk' hj' => ?_⟩
    · obtain ⟨k0, b0, e0, c0, -, -, d0, -⟩ := b1.fit w hw
      exact ⟨k0, d0, c0⟩
    · rw [upL_at hk (by omega) _ F (jsB_nodup _) hbd k' j' hk' hj']
      have iff : (k' = k ∧ j' ∈ jsB (t / sl) (sz / sl) ∧ ¬ nI (j' * sl + sz) ≤ S.x 2 0 - S.x 12 0) ↔ pIn (S.x 10 0) (nI k') (nI (j' * sl)) ((S.R p).getD r pz) := by
        unfold pIn
        rw [r3, r0, r1, r5, h.q.zc, nI_add, jsB_mem, Nat.le_div_iff_mul_le (by omega), Nat.div_lt_iff_lt_mul (by omega), Nat.add_mul, hdiv]
        constructor
        · rintro ⟨rfl, ⟨q1, q2⟩, q3⟩
          exact ⟨rfl, rfl, nI_nlt q1 (by omega), fun q => by have := (nI_leI (by omega) (by omega)).1 q; omega, q3⟩
        · rintro ⟨-, q0, q1, q2, q3⟩
          refine ⟨(nI_inj (by omega) (by omega) q0).symm, ⟨?_, ?_⟩, q3⟩
          · refine Nat.not_lt.1 fun q => q1 ((nI_ltI (by omega) (by omega)).2 q)
          · refine Nat.not_le.1 fun q => q2 ((nI_leI (by omega) (by omega)).2 q)
      unfold tv
      by_cases c : pIn (S.x 10 0) (nI k') (nI (j' * sl)) ((S.R p).getD r pz)
      · rw [if_pos c, if_pos (iff.2 c)]
      · rw [if_neg c, if_neg (fun q => c (iff.1 q)), oad_none]
/-- the events of a state, as far as it has read -/
def EV (S : CS) (rd : Nat → Nat) : List pRow := (S.R 0).take (rd 0) ++ ((S.R 1).take (rd 1) ++ (S.R 2).take (rd 2))
theorem EV_flat (S : CS) (rd : Nat → Nat) : ((List.range' 0 3).flatMap fun p => (S.R p).take (rd p)) = EV S rd := by
  unfold EV
  simp [List.range', List.flatMap_cons]
theorem EV_congr {S S' : CS} {rd rd' : Nat → Nat} (h : ∀ p, p < 3 → (S'.R p).take (rd' p) = (S.R p).take (rd p)) : EV S' rd' = EV S rd := by
  unfold EV
  rw [h 0 (by omega), h 1 (by omega), h 2 (by omega)]
theorem take_set {W : List pRow} {i n : Nat} {a : pRow} (h : n ≤ i) : (W.set i a).take n = W.take n := by
  apply List.ext_getElem?
  intro j
  rw [List.getElem?_take, List.getElem?_take]
  split
  · rw [List.getElem?_set, if_neg (by omega)]
  · rfl
theorem take_set1 {W : List pRow} {i : Nat} {a : pRow} (h : i < W.length) : (W.set i a).take (i + 1) = W.take i ++ [a] := by
  rw [p_setSplit h, List.take_append, List.length_take, Nat.min_eq_left (by omega), show i + 1 - i = 1 by omega, List.take_take, Nat.min_eq_right (by omega)]
  rfl
theorem cRead_R (S : CS) (p r : Nat) : (cRead S p r).R p = (S.R p).set r (upd (upd (upd ((S.R p).getD r pz) 3 (cLets S (((S.R p).getD r pz) 2))) 4 (cAmt S ((S.R p).getD r pz))) 5 (S.x 2 0 - S.x 12 0)) ∧ (∀ q, q ≠ p → (cRead S p r).R q = S.R q) ∧ (cRead S p r).x = S.x ∧ (cRead S p r).y = S.y := by
  unfold cRead
  exact ⟨cRw_R _ _ _ _, fun q hq => cRw_Rn _ _ _ hq, rfl, rfl⟩
theorem EV_read {S S' : CS} {rd : Nat → Nat} {p : Nat} {row : pRow} (hp : p < 3) (hr : rd p < (S.R p).length) (e1 : S'.R p = (S.R p).set (rd p) row) (e2 : ∀ q, q < 3 → q ≠ p → S'.R q = S.R q) : ∃ A B, EV S rd = A ++ B ∧ EV S' (va_up rd p (rd p + 1)) = A ++ row :: B := by
  have h : p = 0 ∨ p = 1 ∨ p = 2 := by omega
  unfold EV
  rcases h with rfl | rfl | rfl
  · rw [e1, e2 1 (by omega) (by omega), e2 2 (by omega) (by omega), p_ug, p_un _ _ (by decide), p_un _ _ (by decide), take_set1 hr]
    exact ⟨(S.R 0).take (rd 0), (S.R 1).take (rd 1) ++ (S.R 2).take (rd 2), rfl, by simp⟩
  · rw [e1, e2 0 (by omega) (by omega), e2 2 (by omega) (by omega), p_ug, p_un _ _ (by decide), p_un _ _ (by decide), take_set1 hr]
    exact ⟨(S.R 0).take (rd 0) ++ (S.R 1).take (rd 1), (S.R 2).take (rd 2), by simp, by simp⟩
  · rw [e1, e2 0 (by omega) (by omega), e2 1 (by omega) (by omega), p_ug, p_un _ _ (by decide), p_un _ _ (by decide), take_set1 hr]
    exact ⟨(S.R 0).take (rd 0) ++ ((S.R 1).take (rd 1) ++ (S.R 2).take (rd 2)), [], by simp, by simp⟩
