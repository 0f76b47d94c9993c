/-! ===== the class's calls, told: room ===== -/
def cB (q : Nat) : Nat := if q < 3 then 3600 else if q = 3 then 360 else if q = 4 then 40960 else 16800
def CapB (S : CS) : Prop := ∀ q, q < 12 → S.cap q ≤ cB q
theorem CapB.sum {S : CS} (f : CapB S) : pSum S.cap ≤ 169720 := by
  have h0 := f 0 (by omega); have h1 := f 1 (by omega); have h2 := f 2 (by omega); have h3 := f 3 (by omega)
  have h4 := f 4 (by omega); have h5 := f 5 (by omega); have h6 := f 6 (by omega); have h7 := f 7 (by omega)
  have h8 := f 8 (by omega); have h9 := f 9 (by omega); have h10 := f 10 (by omega); have h11 := f 11 (by omega)
  unfold cB at h0 h1 h2 h3 h4 h5 h6 h7 h8 h9 h10 h11
  simp at h0 h1 h2 h3 h4 h5 h6 h7 h8 h9 h10 h11
  unfold pSum
  omega
theorem CapB.rw {S q W c} (h : CapB S) (hc : c ≤ cB q) : CapB (cRw S q W c) := fun j hj => by
  by_cases e : j = q
  · subst e; rw [cRw_c]; exact hc
  · rw [cRw_cn _ _ _ e]; exact h j hj
theorem CapB.app {S} (h : CapB S) (rs : List pRow) (hn : (S.R 4).length + rs.length ≤ 4096) : CapB (cApp S rs) := by
  induction rs generalizing S with
  | nil => exact h
  | cons r rs ih =>
    simp only [CS.mk_R, CS.mk_cap, CS.mk_x, CS.mk_y, CS.mk_g, CS.mk_eta, MS.mk_x, MS.mk_g, MS.mk_V, MS.mk_T, MS.mk_eta, GD.mk_n, GD.mk_rd, GD.mk_c, GD.mk_tk, GD.mk_sz, GD.mk_sl, GD.mk_lt, GD.mk_eta, List.length_cons] at hn
    refine ih (h.rw (pgrow_le (h 4 (by omega)) (by show _ ≤ 40960; omega) (by show _ ≤ 40960; omega))) ?_
    show ((cApp1 S r).R 4).length + _ ≤ _
    rw [cApp1, cRw_R, List.length_append, List.length_singleton]; omega
theorem CapB.win {S} (h : CapB S) (W : List pRow) : CapB (cWin S W) := h.rw (h 5 (by omega))
theorem CapB.tell {S} (h : CapB S) (i : Nat) (hn : (S.R 4).length + 2 ≤ 4096) : CapB (cTell S i) := (h.app _ (by have := tRes_le2 (m := S.y 6 0) (w := (S.R 5).getD i pz); omega)).win _
theorem CapB.ripe {S} (h : CapB S) (i : Nat) (hn : (S.R 4).length + 2 ≤ 4096) : CapB (cRipe S i) := by
  unfold cRipe; split
  · exact h.tell i hn
  · exact h
theorem CapB.add {S} (h : CapB S) (k b e t : Int32) (hn : (S.R 5).length < 1400) : CapB (cAdd S k b e t) := h.rw (pgrow_le (h 5 (by omega)) (by show _ ≤ 16800; omega) (by show _ ≤ 16800; omega))
theorem CapB.into {S} (h : CapB S) (k b a : Int32) (h4 : (S.R 4).length + 2 ≤ 4096) (h5 : (S.R 5).length < 1400) : CapB (cInto S k b a) := by
  unfold cInto
  split
  · split
    · exact (h.win _).ripe _ (by rw [cWin, cRw_Rn _ _ _ (by decide)]; exact h4)
    · exact (h.add _ _ _ _ h5).ripe _ (by rw [cAdd, cRw_Rn _ _ _ (by decide)]; exact h4)
  · exact h
theorem CapB.sl {S} (h : CapB S) (k a : Int32) (bs : List Int32) (h4 : (S.R 4).length + 2 * bs.length ≤ 4096) (h5 : (S.R 5).length + bs.length ≤ 1400) : CapB (cSl k a S bs) := by
  induction bs generalizing S with
  | nil => exact h
  | cons b bs ih =>
    simp only [CS.mk_R, CS.mk_cap, CS.mk_x, CS.mk_y, CS.mk_g, CS.mk_eta, MS.mk_x, MS.mk_g, MS.mk_V, MS.mk_T, MS.mk_eta, GD.mk_n, GD.mk_rd, GD.mk_c, GD.mk_tk, GD.mk_sz, GD.mk_sl, GD.mk_lt, GD.mk_eta, List.length_cons] at h4 h5
    obtain ⟨_, _, _, s4, s5⟩ := cInto_same S k b a
    exact ih (h.into k b a (by omega) (by omega)) (by omega) (by omega)
theorem CapB.ses {S} (h : CapB S) (k t a : Int32) (h4 : (S.R 4).length + (S.R 5).length + 2 ≤ 4096) (h5 : (S.R 5).length < 1400) : CapB (cSes S k t a) := by
  have hg : ∀ b e tot, CapB (cGrow S k t b e tot) := fun b e tot => by
    have l1 : (pBacks (S.x 10 0) k t (S.R 5)).length ≤ (S.R 5).length := by
      rw [pBacks, List.length_map]; exact List.length_filter_le _ _
    have l2 : (pRest (S.x 10 0) k t (S.R 5)).length ≤ (S.R 5).length := List.length_filter_le _ _
    have c1 : CapB (cEnd S k t) := (h.app _ (by omega)).win _
    have r5 : (cEnd S k t).R 5 = pRest (S.x 10 0) k t (S.R 5) := by rw [cEnd, cWin, cRw_R]
    have r4 : (cEnd S k t).R 4 = S.R 4 ++ pBacks (S.x 10 0) k t (S.R 5) := by rw [cEnd, cWin, cRw_Rn _ _ _ (by decide), cApp_R4]
    by_cases hlt : ((cEnd S k t).R 5).length < 1400
    · refine (c1.add k b e tot hlt).ripe _ ?_
      rw [cAdd, cRw_Rn _ _ _ (by decide), r4, List.length_append]
      have : (pBacks (S.x 10 0) k t (S.R 5)).length ≤ (S.R 5).length := l1
      omega
    · rw [r5] at hlt; omega
  unfold cSes
  try dsimp only [CS.mk_R, CS.mk_cap, CS.mk_x, CS.mk_y, CS.mk_g, CS.mk_eta, MS.mk_x, MS.mk_g, MS.mk_V, MS.mk_T, MS.mk_eta, GD.mk_n, GD.mk_rd, GD.mk_c, GD.mk_tk, GD.mk_sz, GD.mk_sl, GD.mk_lt, GD.mk_eta]
  split
  · split
    · exact hg _ _ _
    · exact h
  · split
    · exact (h.win _).ripe _ (by show ((cRw S 5 _ (S.cap 5)).R 4).length + 2 ≤ 4096; rw [cRw_Rn _ _ _ (by decide)]; omega)
    · exact hg _ _ _
theorem CapB.drop {S} (h : CapB S) (h4 : (S.R 4).length + (S.R 5).length ≤ 4096) : CapB (cDrop S) := by
  refine (h.app _ ?_).win _
  unfold tResL
  rw [flat_len (fun r hr => (of_decide_eq_true (List.mem_filter.1 hr).2).2)]
  have := List.length_filter_le (fun r => decide (r 2 ≤ S.x 2 0 ∧ r 4 = 0)) (S.R 5)
  omega
theorem CapB.find {S} (h : CapB S) (h4 : (S.R 4).length + (S.R 5).length ≤ 4096) : CapB (cFind S) := by
  unfold cFind cFindT
  split
  · split
    · exact h
    · exact CapB.drop (S := uX S 2 0 _) h h4
  · exact h
theorem cB_w {q : Nat} (h : 5 ≤ q) : cB q = 16800 := by unfold cB; rw [if_neg (by omega), if_neg (by omega), if_neg (by omega)]
theorem CapB.cps {S : CS} {i j : Nat} (h : CapB S) (hi : i < 7) (hn : (S.R (5 + j)).length ≤ 1400) : CapB (cCpS S i j) := by
  have hw : pwq (5 + i) = 6 := by unfold pwq; rw [if_neg (by omega), if_neg (by omega)]
  intro q hq
  have : (cCpS S i j).cap q = (cCopy S (5 + i) (5 + j)).cap q := rfl
  rw [this]
  unfold cCopy
  refine CapB.rw h (pgrow_le (h _ (by omega)) ?_ ?_) q hq
  · rw [hw, cB_w (by omega)]; omega
  · rw [hw, cB_w (by omega)]; omega
theorem CapB.told {S : CS} {q : Nat} (h : CapB S) (hq : q < 3) (hn : (S.R q).length < 300) (k t v : Int32) : CapB (cTold S q k t v) := by
  have hw : pwq q = 6 := by unfold pwq; rw [if_neg (by omega), if_neg (by omega)]
  have hb : cB q = 3600 := if_pos hq
  refine h.rw (pgrow_le (h q (by omega)) ?_ ?_)
  · rw [hw, hb]; omega
  · rw [hw, hb]; omega
theorem CapB.tab {S : CS} (h : CapB S) (hn : (S.R 3).length < 60) (k t v : Int32) : CapB (cTold S 3 k t v) := by
  have hw : pwq 3 = 3 := by decide
  refine h.rw (pgrow_le (h 3 (by omega)) ?_ ?_)
  · rw [hw]; show _ ≤ 360; omega
  · rw [hw]; show _ ≤ 360; omega
theorem CapB.same {S T : CS} (h : CapB S) (e : T.cap = S.cap) : CapB T := fun q hq => by rw [e]; exact h q hq
theorem cOK.of {S T : CS} (h : pSum S.cap ≤ pSum T.cap) {bc bs : Nat} (h1 : pSum T.cap - pSum S.cap ≤ bc) (h2 : 2 * (pSum T.cap - pSum S.cap) ≤ bs) : cOK S T bc bs := ⟨by omega, by omega⟩
