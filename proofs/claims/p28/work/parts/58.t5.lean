/-! ===== an event comes into a session ===== -/
theorem fB_le : ∀ (W : List pRow) (t : Int32), W.foldl fB t ≤ t := by
  intro W
  induction W with
  | nil => exact fun t => Int32.le_refl t
  | cons r W ih =>
    intro t
    refine Int32.le_trans (ih (fB t r)) ?_
    unfold fB
    split
    · next h => exact Int32.le_of_lt h
    · exact Int32.le_refl t
theorem fE_le : ∀ (W : List pRow) (t : Int32), t ≤ W.foldl fE t := by
  intro W
  induction W with
  | nil => exact fun t => Int32.le_refl t
  | cons r W ih =>
    intro t
    refine Int32.le_trans ?_ (ih (fE t r))
    unfold fE
    split
    · next h => exact Int32.le_of_lt h
    · exact Int32.le_refl t
theorem cEnd_R (S : CS) (k t : Int32) : (cEnd S k t).R 4 = S.R 4 ++ pBacks (S.x 10 0) k t (S.R 5) ∧ (cEnd S k t).R 5 = pRest (S.x 10 0) k t (S.R 5) ∧ (cEnd S k t).x = S.x ∧ (cEnd S k t).y = S.y := by
  unfold cEnd cWin
  refine ⟨by rw [cRw_Rn _ _ _ (by omega), cApp_R4], cRw_R _ _ _ _, ?_, ?_⟩
  · rw [cRw_x]; exact (cApp_same _ _).2.1
  · rw [cRw_y]; exact (cApp_same _ _).2.2.1
theorem cAdd_R (S : CS) (k b e t : Int32) : (cAdd S k b e t).R 4 = S.R 4 ∧ (cAdd S k b e t).R 5 = (S.R 5).insertIdx (pPos (S.R 5) k b e) (mkw k b e t) ∧ (cAdd S k b e t).x = S.x ∧ (cAdd S k b e t).y = S.y := by
  unfold cAdd
  exact ⟨cRw_Rn _ _ _ (by omega), cRw_R _ _ _ _, cRw_x _ _ _ _, cRw_y _ _ _ _⟩
theorem TSF.ses {S M M' sz sl lt} (h : NR S M sz sl lt) (hs : S.y 5 0 = 10) {k t : Nat} {a : Int32} (hk : k < 8) (ht : t < 1000) (h' : NR (cSes S (nI k) (nI t) a) M' sz sl lt) {F G : Int32 → Int32 → Option Int32} {hz : Int32} (hT : TSF (S.y 5 0) sz sl (S.R 5) (S.x 2 0) hz F (S.R 4)) :
    ∃ rs, (cSes S (nI k) (nI t) a).R 4 = S.R 4 ++ rs ∧ (∀ r, r ∈ rs → RNp (S.y 6 0) (S.x 2 0) r) ∧ TSF (S.y 5 0) sz sl ((cSes S (nI k) (nI t) a).R 5) (S.x 2 0) hz G (S.R 4 ++ rs) := by
  have hz2 := h.q.z2
  have hfit := h.fit
  obtain ⟨t1, t2, -⟩ := hT
  have t2 := t2 hs
  -- a row that is put
  have key : ∀ (S1 : CS) (i : Nat) (T0 V0 : List pRow), i < (S1.R 5).length → pOk ((S1.R 5).getD i pz) → (((S1.R 5).getD i pz) 4 = 1 → ((S1.R 5).getD i pz) 2 ≤ S.x 2 0) → S1.x 2 0 = S.x 2 0 → S1.y 6 0 = S.y 6 0 → S1.R 4 = S.R 4 ++ T0 → (∀ r, r ∈ T0 → RNp (S.y 6 0) (S.x 2 0) r) →
      (∀ w r, r ∈ (S1.R 5).set i w → r = w ∨ r ∈ S.R 5) → (∀ w, w ∈ (cRipe S1 i).R 5 → pFit sz (decide (S.y 5 0 = 10)) w) → (∀ b e : Nat, b < 1000 → e < 1100 → ((S1.R 5).getD i pz) 1 = nI b → ((S1.R 5).getD i pz) 2 = nI e → b + sz ≤ e) →
      ∃ rs, (cRipe S1 i).R 4 = S.R 4 ++ rs ∧ (∀ r, r ∈ rs → RNp (S.y 6 0) (S.x 2 0) r) ∧ TSF (S.y 5 0) sz sl ((cRipe S1 i).R 5) (S.x 2 0) hz G (S.R 4 ++ rs) := by
    intro S1 i T0 V0 hi ok h1 sx sy e4 hT0 hV hfit1 hbe
    obtain ⟨w, rs, v5, v4, a0, a1, a2, a3, a4, a5, a6, a7⟩ := ripe_one (S := S1) hi ok (by rw [sx]; exact h1)
    rw [sx] at a4 a6 a7
    rw [sy] at a5 a6
    have hwf := hfit1 w (by rw [v5]; exact p_set_me hi)
    obtain ⟨k0, b0, e0, c0, c1, c2, d0, d1, d2, d3, -, -⟩ := hwf
    refine ⟨T0 ++ rs, by rw [v4, e4, List.append_assoc], fun r hr => ?_, ⟨fun r hr => ?_, fun _ r hr => ?_, fun e => absurd hs e⟩⟩
    · rcases List.mem_append.1 hr with q | q
      · exact hT0 r q
      · rcases Classical.em (((S1.R 5).getD i pz) 2 ≤ S.x 2 0) with q2 | q2
        · exact rnp_res d0 d2 d3 (a0 ▸ c0) (a1 ▸ c1) (a2 ▸ c2) q2 (a5 r q)
        · rw [(a7 q2).1] at q; exact absurd q List.not_mem_nil
    · rw [v5] at hr
      rcases hV w r hr with rfl | q
      · exact a4
      · exact t1 r q
    · rw [v5] at hr
      rcases hV w r hr with rfl | q
      · exact ⟨b0, e0, c1, c2, hbe b0 e0 d1 d3 (a1 ▸ c1) (a2 ▸ c2), d3⟩
      · exact t2 r q
  have grow : ∀ (b e tot : Int32), b ≤ nI t → nI (t + sz) ≤ e → cSes S (nI k) (nI t) a = cGrow S (nI k) (nI t) b e tot → ∃ rs, (cSes S (nI k) (nI t) a).R 4 = S.R 4 ++ rs ∧ (∀ r, r ∈ rs → RNp (S.y 6 0) (S.x 2 0) r) ∧ TSF (S.y 5 0) sz sl ((cSes S (nI k) (nI t) a).R 5) (S.x 2 0) hz G (S.R 4 ++ rs) := by
    intro b e tot hb he hc
    have hf' := h'.fit
    have ey5 : (cSes S (nI k) (nI t) a).y 5 0 = S.y 5 0 := by
      rw [hc]; unfold cGrow
      rw [(cRipe_same _ _).2.1, (cAdd_R _ _ _ _ _).2.2.2, (cEnd_R S (nI k) (nI t)).2.2.2]
    rw [ey5] at hf'
    rw [hc] at hf' ⊢
    unfold cGrow at hf' ⊢
    obtain ⟨e4, e5, ex, ey⟩ := cEnd_R S (nI k) (nI t)
    obtain ⟨g4, g5, gx, gy⟩ := cAdd_R (cEnd S (nI k) (nI t)) (nI k) b e tot
    have hpp := pPos_le ((cEnd S (nI k) (nI t)).R 5) (nI k) b e
    generalize pPos ((cEnd S (nI k) (nI t)).R 5) (nI k) b e = p at *
    generalize cAdd (cEnd S (nI k) (nI t)) (nI k) b e tot = S1 at *
    have eg : (S1.R 5).getD p pz = mkw (nI k) b e tot := by rw [g5, p_insget hpp]
    refine key S1 p (pBacks (S.x 10 0) (nI k) (nI t) (S.R 5)) [] (by rw [g5, List.length_insertIdx_of_le_length hpp]; omega) (by rw [eg]; exact .inl ⟨rfl, rfl⟩) (by rw [eg]; exact fun q => absurd q (by show ¬ (0 : Int32) = 1; decide)) (by rw [gx, ex]) (by rw [gy, ey]) (by rw [g4, e4]) (fun r hr => ?_) (fun w r hr => ?_) hf' (fun b0 e0 hb0 he0 c1 c2 => ?_)
    · obtain ⟨s, hs1, rfl⟩ := List.mem_map.1 hr
      have hs2 := (List.mem_filter.1 hs1).1
      obtain ⟨k0, b0, e0, c0, c1, c2, d0, -, d2, d3, -, -⟩ := hfit s hs2
      exact ⟨⟨k0, b0, e0, d0, d2, d3, c0, c1, c2⟩, .inr rfl, .inl rfl⟩
    · rw [g5, p_insset hpp] at hr
      rcases (p_insMem hpp).1 hr with q | q
      · exact .inl q
      · rw [e5] at q
        exact .inr (List.mem_filter.1 q).1
    · rw [eg] at c1 c2
      have c1 : b = nI b0 := c1
      have c2 : e = nI e0 := c2
      rw [c1] at hb
      rw [c2] at he
      have := (nI_leI (by omega) (by omega)).1 hb
      have := (nI_leI (by omega) (by omega)).1 he
      omega
  have same : ∃ rs, S.R 4 = S.R 4 ++ rs ∧ (∀ r, r ∈ rs → RNp (S.y 6 0) (S.x 2 0) r) ∧ TSF (S.y 5 0) sz sl (S.R 5) (S.x 2 0) hz G (S.R 4 ++ rs) := ⟨[], (List.append_nil _).symm, fun r hr => absurd hr List.not_mem_nil, ⟨t1, fun _ => t2, fun e => absurd hs e⟩⟩
  have hb := fB_le ((S.R 5).filter (pMet (S.x 10 0) (nI k) (nI t))) (nI t)
  have he := fE_le ((S.R 5).filter (pMet (S.x 10 0) (nI k) (nI t))) (nI t + S.x 10 0)
  rw [show nI t + S.x 10 0 = nI (t + sz) by rw [h.q.zc, nI_add]] at he
  cases hl : pLastM (pMet (S.x 10 0) (nI k) (nI t)) 0 (S.R 5) none with
  | none =>
    by_cases c : S.x 2 0 - S.x 12 0 < ((S.R 5).filter (pMet (S.x 10 0) (nI k) (nI t))).foldl fE (nI t + S.x 10 0)
    · refine grow _ _ (((S.R 5).filter (pMet (S.x 10 0) (nI k) (nI t))).foldl (fun u r => cFold S u (r 3)) a) hb he ?_
      rw [show nI (t + sz) = nI t + S.x 10 0 by rw [h.q.zc, nI_add]]
      unfold cSes
      simp only [hl, if_pos c]
    · have e : cSes S (nI k) (nI t) a = uX S 3 0 (S.x 3 0 + 1) := by
        unfold cSes
        simp only [hl, if_neg c]
      rw [e]
      exact same
  | some i =>
    by_cases c : ((S.R 5).getD i pz) 1 = ((S.R 5).filter (pMet (S.x 10 0) (nI k) (nI t))).foldl fB (nI t) ∧ ((S.R 5).getD i pz) 2 = ((S.R 5).filter (pMet (S.x 10 0) (nI k) (nI t))).foldl fE (nI t + S.x 10 0)
    · have e : cSes S (nI k) (nI t) a = cRipe (cKeep S i (((S.R 5).filter (pMet (S.x 10 0) (nI k) (nI t))).foldl (fun u r => cFold S u (r 3)) a)) i := by
        unfold cSes
        simp only [hl, if_pos c]
      have hi : i < (S.R 5).length := by
        rcases pLastM_lt _ _ _ _ hl with q | q
        · exact absurd q (by simp)
        · omega
      have hf' := h'.fit
      rw [e] at hf' ⊢
      generalize ((S.R 5).filter (pMet (S.x 10 0) (nI k) (nI t))).foldl (fun u r => cFold S u (r 3)) a = tot at *
      have ey5 : (cRipe (cKeep S i tot) i).y 5 0 = S.y 5 0 := by rw [(cRipe_same _ _).2.1]; rfl
      rw [ey5] at hf'
      obtain ⟨w, hw⟩ : ∃ w, w = (S.R 5).getD i pz := ⟨_, rfl⟩
      have hwm : w ∈ S.R 5 := hw ▸ p_at_mem hi
      have e5 : (cKeep S i tot).R 5 = (S.R 5).set i (upd w 3 tot) := by rw [hw]; exact cRw_R _ _ _ _
      have e4 : (cKeep S i tot).R 4 = S.R 4 := cRw_Rn _ _ _ (by omega)
      have eg : ((cKeep S i tot).R 5).getD i pz = upd w 3 tot := by rw [e5, p_getset hi]
      refine key (cKeep S i tot) i [] [] (by rw [e5, List.length_set]; exact hi) ?_ ?_ rfl rfl (by rw [e4, List.append_nil]) (fun r hr => absurd hr List.not_mem_nil) (fun w r hr => ?_) hf' (fun b0 e0 hb0 he0 c1 c2 => ?_)
      · rw [eg]
        have := (hfit w hwm).ok
        unfold pOk at this ⊢
        exact this
      · rw [eg]
        exact (t1 w hwm).1
      · rw [e5, List.set_set] at hr
        rcases p_set_mem hr with q | q
        · exact .inl q
        · exact .inr q
      · rw [eg] at c1 c2
        have c1 : w 1 = nI b0 := c1
        have c2 : w 2 = nI e0 := c2
        obtain ⟨b1, e1, q1, q2, q3, q4⟩ := t2 w hwm
        have : b0 = b1 := nI_inj (by omega) (by omega) (c1.symm.trans q1)
        have : e0 = e1 := nI_inj (by omega) (by omega) (c2.symm.trans q2)
        omega
    · refine grow _ _ (((S.R 5).filter (pMet (S.x 10 0) (nI k) (nI t))).foldl (fun u r => cFold S u (r 3)) a) hb he ?_
      rw [show nI (t + sz) = nI t + S.x 10 0 by rw [h.q.zc, nI_add]]
      unfold cSes
      simp only [hl, if_neg c]
