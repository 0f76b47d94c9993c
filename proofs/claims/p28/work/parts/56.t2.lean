theorem TSF.into {S M sz sl lt} (h : NR S M sz sl lt) (hs : S.y 5 0 ≠ 10) {k j : Nat} {a : Int32} {F : Int32 → Int32 → Option Int32} (hk : k < 8) (hj : j * sl < 1000) (hT : TSF (S.y 5 0) sz sl (S.R 5) (S.x 2 0) (S.x 2 0 - S.x 12 0) F (S.R 4)) :
    ∃ rs, (cInto S (nI k) (nI (j * sl)) a).R 4 = S.R 4 ++ rs ∧ (∀ r, r ∈ rs → RNp (S.y 6 0) (S.x 2 0) r) ∧ TSF (S.y 5 0) sz sl ((cInto S (nI k) (nI (j * sl)) a).R 5) (S.x 2 0) (S.x 2 0 - S.x 12 0) (upF (S.y 3 0) F (nI k) (nI (j * sl)) (nI (j * sl + sz) ≤ S.x 2 0 - S.x 12 0) a) (S.R 4 ++ rs) := by
  have hz1 := h.q.z1
  have hz2 := h.q.z2
  have hes : decide (S.y 5 0 = 10) = false := decide_eq_false hs
  have hrow : ∀ r, r ∈ S.R 5 → pFit sz false r := fun r hr => by
    have := h.wr.rows r (h.wr.perm.mem_iff.1 hr)
    rwa [hes] at this
  have huw := h.wr.uw
  have hT0 := hT
  obtain ⟨t1, -, t3⟩ := hT
  obtain ⟨t3, t4⟩ := t3 hs
  obtain ⟨q1, q2⟩ := t4 k j hk hj
  unfold cInto
  rw [h.q.zc, nI_add]
  by_cases hl : S.x 2 0 - S.x 12 0 < nI (j * sl + sz)
  · rw [if_pos hl]
    have late : ¬ (nI (j * sl + sz) ≤ S.x 2 0 - S.x 12 0) := Int32.not_le.2 hl
    have hF2 : ∀ k' b', ¬ (k' = nI k ∧ b' = nI (j * sl)) → upF (S.y 3 0) F (nI k) (nI (j * sl)) (nI (j * sl + sz) ≤ S.x 2 0 - S.x 12 0) a k' b' = F k' b' := fun k' b' e => if_neg fun q => e ⟨q.1, q.2.1⟩
    have hF1 : upF (S.y 3 0) F (nI k) (nI (j * sl)) (nI (j * sl + sz) ≤ S.x 2 0 - S.x 12 0) a (nI k) (nI (j * sl)) = oad (S.y 3 0) (F (nI k) (nI (j * sl))) (some a) := if_pos ⟨rfl, rfl, late⟩
    by_cases hf : pFW (S.R 5) (nI k) (nI (j * sl)) < (S.R 5).length
    · rw [if_pos hf]
      have hsp := pIs_iff.1 (p_findSpec.2 hf)
      change ((S.R 5).getD (pFW (S.R 5) (nI k) (nI (j * sl))) pz) 0 = nI k ∧ ((S.R 5).getD (pFW (S.R 5) (nI k) (nI (j * sl))) pz) 1 = nI (j * sl) at hsp
      generalize pFW (S.R 5) (nI k) (nI (j * sl)) = i at *
      obtain ⟨w, hw⟩ : ∃ w, w = (S.R 5).getD i pz := ⟨_, rfl⟩
      rw [← hw] at hsp ⊢
      have hwm : w ∈ S.R 5 := hw ▸ p_at_mem hf
      obtain ⟨k0, b0, e0, c0, c1, c2, -, d1, -, -, c3, c4⟩ := hrow w hwm
      have hb0 : b0 = j * sl := nI_inj (by omega) (by omega) (c1.symm.trans hsp.2)
      have w2 : w 2 = nI (j * sl + sz) := by rw [c2, c3 rfl, hb0]
      obtain ⟨u, hu⟩ : ∃ u, u = upd w 3 (cFold S (w 3) a) := ⟨_, rfl⟩
      rw [← hu]
      have u0 : u 0 = nI k := by rw [hu]; exact hsp.1
      have u1 : u 1 = nI (j * sl) := by rw [hu]; exact hsp.2
      have u2 : u 2 = nI (j * sl + sz) := by rw [hu]; exact w2
      have u3 : u 3 = fo (S.y 3 0) (w 3) a := by rw [hu]; rfl
      have u4 : u 4 = w 4 := by rw [hu]; rfl
      have u5 : u 5 = w 5 := by rw [hu]; rfl
      have e5 : (cWin S ((S.R 5).set i u)).R 5 = (S.R 5).set i u := cRw_R _ _ _ _
      have e4 : (cWin S ((S.R 5).set i u)).R 4 = S.R 4 := cRw_Rn _ _ _ (by omega)
      have eg : ((cWin S ((S.R 5).set i u)).R 5).getD i pz = u := by rw [e5, p_getset hf]
      have ok : pOk u := by unfold pOk at c4 ⊢; rw [u4, u5]; exact c4
      obtain ⟨w', rs, v5, v4, a0, a1, a2, a3, a4, a5, a6, a7⟩ := ripe_one (S := cWin S ((S.R 5).set i u)) (i := i) (by rw [e5, List.length_set]; exact hf) (by rw [eg]; exact ok) (by rw [eg, u4, u2, ← w2]; exact (t1 w hwm).1)
      rw [eg] at a0 a1 a2 a3 a5 a6 a7
      rw [e5, List.set_set] at v5
      rw [e4] at v4
      have sx : (cWin S ((S.R 5).set i u)).x 2 0 = S.x 2 0 := rfl
      have sy : (cWin S ((S.R 5).set i u)).y 6 0 = S.y 6 0 := rfl
      rw [sx] at a4 a6 a7
      rw [sy] at a5 a6
      obtain ⟨b1, b2, b3⟩ := t3 w hwm
      rw [hsp.1, hsp.2] at b3
      refine ⟨rs, v4, fun r hr => ?_, ?_⟩
      · rcases Classical.em (u 2 ≤ S.x 2 0) with q | q
        · exact rnp_res hk (by omega : j * sl < j * sl + sz) (by omega) u0 u1 u2 q (a5 r hr)
        · rw [(a7 q).1] at hr
          exact absurd hr List.not_mem_nil
      · rw [v5]
        refine TSF.put (w := w') (v := fo (S.y 3 0) (w 3) a) hs hk hj hz1 hz2 hT0 (fun r hr => ?_) (fun r hr => ?_) (p_set_me hf) (a0.trans u0) (a1.trans u1) (a2.trans u2) (a3.trans u3) a4 (fun q => ?_) (by rw [hF1, b3]; rfl) hF2 (fun r hr => ?_) ?_
        · rcases p_set_mem2 hr with q | ⟨j', hj', q, e⟩
          · exact .inl q
          · right
            refine ⟨e ▸ p_at_mem hj', fun q2 => q (huw.at hj' hf ?_ ?_)⟩
            · rw [e, q2.1, ← hw, hsp.1]
            · rw [e, q2.2, ← hw, hsp.2]
        · obtain ⟨j', hj', e⟩ := p_mem_at hr
          by_cases q : j' = i
          · right; rw [← e, q, ← hw]; exact hsp
          · left; rw [← e]; exact p_set_in hj' q
        · exact (a6 (by rw [← a2]; exact a4.1 q)).2
        · obtain ⟨d0, d1, -⟩ := tRes_01 (a5 r hr)
          exact ⟨d0.trans u0, d1.trans u1⟩
        · rcases Classical.em (u 2 ≤ S.x 2 0) with q | q
          · rw [(a6 q).1, if_pos (by rw [← u2]; exact q), ← u3, ← u0, ← u1]
            refine TR_tell ok (fun e => ?_) (fun e => ?_)
            · rw [u0, u1, q1, if_pos (by rw [← u2]; exact q), b3, u5, b2 (by rw [← u4]; exact e)]; rfl
            · exfalso
              rw [u4] at e
              have := (t1 w hwm).2 (by rw [w2, ← u2]; exact q)
              rw [this] at e
              exact absurd e (by decide)
          · rw [(a7 q).1, List.append_nil, if_neg (by rw [← u2]; exact q), q1, if_neg (by rw [← u2]; exact q)]
    · rw [if_neg hf]
      have hno : ∀ r, r ∈ S.R 5 → ¬ (r 0 = nI k ∧ r 1 = nI (j * sl)) := fun r hr q => by
        obtain ⟨j', hj', e⟩ := p_mem_at hr
        have := (p_findSpec (p := pIs (nI k) (nI (j * sl))) (W := S.R 5)).1 j' (by
          have : pFW (S.R 5) (nI k) (nI (j * sl)) = (S.R 5).findIdx (pIs (nI k) (nI (j * sl))) := rfl
          omega)
        rw [e, pIs_iff.2 q] at this
        exact absurd this (by decide)
      have hF0 : F (nI k) (nI (j * sl)) = none := (q2 hno).resolve_right late
      have hpp := pPos_le (S.R 5) (nI k) (nI (j * sl)) (nI (j * sl + sz))
      obtain ⟨u, hu⟩ : ∃ u, u = mkw (nI k) (nI (j * sl)) (nI (j * sl + sz)) a := ⟨_, rfl⟩
      have u0 : u 0 = nI k := by rw [hu]; rfl
      have u1 : u 1 = nI (j * sl) := by rw [hu]; rfl
      have u2 : u 2 = nI (j * sl + sz) := by rw [hu]; rfl
      have u3 : u 3 = a := by rw [hu]; rfl
      have u4 : u 4 = 0 := by rw [hu]; rfl
      have u5 : u 5 = 0 := by rw [hu]; rfl
      have e5 : (cAdd S (nI k) (nI (j * sl)) (nI (j * sl + sz)) a).R 5 = (S.R 5).insertIdx (pPos (S.R 5) (nI k) (nI (j * sl)) (nI (j * sl + sz))) u := by rw [hu]; exact cRw_R _ _ _ _
      have e4 : (cAdd S (nI k) (nI (j * sl)) (nI (j * sl + sz)) a).R 4 = S.R 4 := cRw_Rn _ _ _ (by omega)
      have sx : (cAdd S (nI k) (nI (j * sl)) (nI (j * sl + sz)) a).x 2 0 = S.x 2 0 := rfl
      have sy : (cAdd S (nI k) (nI (j * sl)) (nI (j * sl + sz)) a).y 6 0 = S.y 6 0 := rfl
      generalize pPos (S.R 5) (nI k) (nI (j * sl)) (nI (j * sl + sz)) = p at *
      generalize cAdd S (nI k) (nI (j * sl)) (nI (j * sl + sz)) a = S1 at *
      have eg : (S1.R 5).getD p pz = u := by rw [e5, p_insget hpp]
      have ok : pOk u := .inl ⟨u4, u5⟩
      obtain ⟨w', rs, v5, v4, a0, a1, a2, a3, a4, a5, a6, a7⟩ := ripe_one (S := S1) (i := p) (by rw [e5, List.length_insertIdx_of_le_length hpp]; omega) (by rw [eg]; exact ok) (by rw [eg, u4]; intro e; exact absurd e (by decide))
      rw [eg] at a0 a1 a2 a3 a5 a6 a7
      rw [e5, p_insset hpp] at v5
      rw [e4] at v4
      rw [sx] at a4 a6 a7
      rw [sy] at a5 a6
      refine ⟨rs, v4, fun r hr => ?_, ?_⟩
      · rcases Classical.em (u 2 ≤ S.x 2 0) with q | q
        · exact rnp_res hk (by omega : j * sl < j * sl + sz) (by omega) u0 u1 u2 q (a5 r hr)
        · rw [(a7 q).1] at hr
          exact absurd hr List.not_mem_nil
      · rw [v5]
        refine TSF.put (w := w') (v := a) hs hk hj hz1 hz2 hT0 (fun r hr => ?_) (fun r hr => ?_) ((p_insMem hpp).2 (.inl rfl)) (a0.trans u0) (a1.trans u1) (a2.trans u2) (a3.trans u3) a4 (fun q => ?_) (by rw [hF1, hF0]; rfl) hF2 (fun r hr => ?_) ?_
        · rcases (p_insMem hpp).1 hr with q | q
          · exact .inl q
          · exact .inr ⟨q, hno r q⟩
        · exact .inl ((p_insMem hpp).2 (.inr hr))
        · exact (a6 (by rw [← a2]; exact a4.1 q)).2
        · obtain ⟨d0, d1, -⟩ := tRes_01 (a5 r hr)
          exact ⟨d0.trans u0, d1.trans u1⟩
        · rcases Classical.em (u 2 ≤ S.x 2 0) with q | q
          · rw [(a6 q).1, if_pos (by rw [← u2]; exact q), ← u3, ← u0, ← u1]
            refine TR_tell ok (fun e => ?_) (fun e => ?_)
            · rw [u4] at e; exact absurd e (by decide)
            · rw [u0, u1, q1, if_pos (by rw [← u2]; exact q), hF0]; rfl
          · rw [(a7 q).1, List.append_nil, if_neg (by rw [← u2]; exact q), q1, if_neg (by rw [← u2]; exact q)]
  · rw [if_neg hl]
    have late : nI (j * sl + sz) ≤ S.x 2 0 - S.x 12 0 := Int32.not_lt.1 hl
    refine ⟨[], (List.append_nil _).symm, fun r hr => absurd hr List.not_mem_nil, ?_⟩
    have : upF (S.y 3 0) F (nI k) (nI (j * sl)) (nI (j * sl + sz) ≤ S.x 2 0 - S.x 12 0) a = F := funext fun k' => funext fun b' => if_neg fun q => q.2.2 late
    rw [this, List.append_nil]
    exact hT0
