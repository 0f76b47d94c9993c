/-! ===== the watermark grows: windows are told and dropped ===== -/
theorem TR_flatno {mode : Nat} {k b : Int32} {U : List pRow} (h : ∀ w, w ∈ U → ¬ (w 0 = k ∧ w 1 = b)) (v : Int32) : (U.flatMap (tRes mode)).foldl (trStep k b) v = v := by
  refine tr_nos _ _ fun r hr q => ?_
  obtain ⟨w, hw, hr⟩ := List.mem_flatMap.1 hr
  obtain ⟨a0, a1, -⟩ := tRes_01 hr
  exact h w hw ⟨a0.symm.trans q.1, a1.symm.trans q.2⟩
theorem TR_flat {mode : Nat} {U : List pRow} (hu : uW U) {w : pRow} (hw : w ∈ U) (v : Int32) : (U.flatMap (tRes mode)).foldl (trStep (w 0) (w 1)) v = (tRes mode w).foldl (trStep (w 0) (w 1)) v := by
  induction U generalizing v with
  | nil => exact absurd hw List.not_mem_nil
  | cons u U ih =>
    obtain ⟨h1, h2⟩ := List.pairwise_cons.1 hu
    rw [List.flatMap_cons, List.foldl_append]
    by_cases e : w = u
    · subst e
      exact TR_flatno (fun s hs q => h1 s hs ⟨q.1.symm, q.2.symm⟩) _
    · have hw2 := (List.mem_cons.1 hw).resolve_left e
      rw [tr_nos (tRes mode u) v fun r hr q => ?_]
      · exact ih h2 hw2 v
      · obtain ⟨a0, a1, -⟩ := tRes_01 hr
        exact h1 w hw2 ⟨a0.symm.trans q.1, a1.symm.trans q.2⟩
theorem tIf_1 {mk : Int32} {r : pRow} (h : r 2 ≤ mk ∧ r 4 = 0) : tIf mk r = tWin r := if_pos h
theorem tIf_0 {mk : Int32} {r : pRow} (h : ¬ (r 2 ≤ mk ∧ r 4 = 0)) : tIf mk r = r := if_neg h
theorem tIf_3 (mk : Int32) (r : pRow) : (tIf mk r) 3 = r 3 := by unfold tIf; split <;> rfl
theorem pFit.k {sz ses r} (h : pFit sz ses r) : ∃ k, k < 8 ∧ r 0 = nI k := by obtain ⟨k, b, e, h0, -, -, hk, -⟩ := h; exact ⟨k, hk, h0⟩
theorem pFit.ok {sz ses r} (h : pFit sz ses r) : pOk r := by obtain ⟨k, b, e, -, -, -, -, -, -, -, -, ok⟩ := h; exact ok
theorem pFit.rnp {sz ses w} (h : pFit sz ses w) {mode : Nat} {mk : Int32} (hm : w 2 ≤ mk) {r : pRow} (hr : r ∈ tRes mode w) : RNp mode mk r := by
  obtain ⟨k, b, e, h0, h1, h2, hk, -, hbe, he, -⟩ := h
  exact rnp_res hk hbe he h0 h1 h2 hm hr
theorem TSF.drop {shape sz sl mode : Nat} {V T : List pRow} {mk mk' hz hz' : Int32} {F : Int32 → Int32 → Option Int32} (hT : TSF shape sz sl V mk hz F T) (hu : uW V) (hrow : ∀ r, r ∈ V → pFit sz (decide (shape = 10)) r) (hm : mk < mk') (h1 : hz ≤ hz') (h2 : hz ≤ mk) :
    TSF shape sz sl ((V.map (tIf mk')).filter fun r => decide (hz' < r 2)) mk' hz' F (T ++ tResL mode mk' V) ∧ ∀ r, r ∈ tResL mode mk' V → RNp mode mk' r := by
  obtain ⟨t1, t2, t3⟩ := hT
  have mem : ∀ r', r' ∈ ((V.map (tIf mk')).filter fun r => decide (hz' < r 2)) ↔ ∃ r, r ∈ V ∧ tIf mk' r = r' ∧ hz' < r 2 := fun r' => by
    rw [List.mem_filter, List.mem_map, decide_eq_true_eq]
    constructor
    · rintro ⟨⟨r, a, b⟩, c⟩
      exact ⟨r, a, b, by rw [← b, tIf_2] at c; exact c⟩
    · rintro ⟨r, a, b, c⟩
      exact ⟨⟨r, a, b⟩, by rw [← b, tIf_2]; exact c⟩
  have hlt : ∀ r : pRow, r 2 ≤ mk → r 2 ≤ mk' := fun r h => Int32.le_trans h (Int32.le_of_lt hm)
  refine ⟨⟨fun r' hr' => ?_, fun e r' hr' => ?_, fun hs => ⟨fun r' hr' => ?_, fun k j hk hj => ?_⟩⟩, fun r hr => ?_⟩
  · obtain ⟨r, hr, rfl, -⟩ := (mem _).1 hr'
    by_cases c : r 2 ≤ mk' ∧ r 4 = 0
    · rw [tIf_1 c]
      exact ⟨fun _ => c.1, fun _ => rfl⟩
    · rw [tIf_0 c]
      refine ⟨fun q => hlt r ((t1 r hr).1 q), fun q => ?_⟩
      rcases (hrow r hr).ok with ⟨a, -⟩ | a
      · exact absurd ⟨q, a⟩ c
      · exact a
  · obtain ⟨r, hr, rfl, -⟩ := (mem _).1 hr'
    obtain ⟨b, e2, h3, h4, h5⟩ := t2 e r hr
    exact ⟨b, e2, by rw [(tIf_c mk' r).2.1]; exact h3, by rw [tIf_2]; exact h4, h5⟩
  · obtain ⟨r, hr, rfl, -⟩ := (mem _).1 hr'
    obtain ⟨a1, a2, a3⟩ := (t3 hs).1 r hr
    refine ⟨by rw [(tIf_c mk' r).2.1]; exact a1, fun q => ?_, by rw [(tIf_c mk' r).1, (tIf_c mk' r).2.1, tIf_3]; exact a3⟩
    by_cases c : r 2 ≤ mk' ∧ r 4 = 0
    · rw [tIf_1 c]; rfl
    · rw [tIf_0 c] at q ⊢; exact a2 q
  · obtain ⟨t3, t4⟩ := t3 hs
    obtain ⟨q1, q2⟩ := t4 k j hk hj
    have hes : decide (shape = 10) = false := decide_eq_false hs
    have hU : uW (V.filter fun r => decide (r 2 ≤ mk' ∧ r 4 = 0)) := hu.filter _
    rcases Classical.em (∃ w, w ∈ V ∧ w 0 = nI k ∧ w 1 = nI (j * sl)) with ⟨w, hw, w0, w1⟩ | hno
    · have w2 : w 2 = nI (j * sl + sz) := by
        have := hrow w hw
        rw [hes] at this
        obtain ⟨k0, b0, e0, c0, c1, c2, -, d1, -, -, c3, -⟩ := this
        have : b0 = j * sl := nI_inj (by omega) (by omega) (c1.symm.trans w1)
        rw [c2, c3 rfl, this]
      obtain ⟨a1, a2, a3⟩ := t3 w hw
      rw [w0, w1] at a3
      refine ⟨?_, fun hn => ?_⟩
      · rw [TR_app, a3]
        unfold tResL
        by_cases c : w 2 ≤ mk' ∧ w 4 = 0
        · have hwU : w ∈ V.filter fun r => decide (r 2 ≤ mk' ∧ r 4 = 0) := List.mem_filter.2 ⟨hw, decide_eq_true c⟩
          have := TR_flat (mode := mode) hU hwU (TR T (w 0) (w 1))
          rw [w0, w1] at this
          rw [this, ← w0, ← w1, ← TR_app, ← w2, if_pos c.1]
          have n4 : ¬ w 2 ≤ mk := fun q => by
            have := (t1 w hw).2 q
            rw [c.2] at this; exact absurd this (by decide)
          refine TR_tell (hrow w hw).ok (fun q => ?_) (fun _ => ?_)
          · rw [c.2] at q; exact absurd q (by decide)
          · rw [w0, w1, q1, if_neg (by rw [← w2]; exact n4)]
        · rw [TR_flatno fun u hu2 q => ?_]
          · rw [q1, a3]
            by_cases m1 : w 2 ≤ mk
            · rw [if_pos (by rw [← w2]; exact m1), if_pos (by rw [← w2]; exact hlt w m1)]
            · rw [if_neg (by rw [← w2]; exact m1), if_neg fun m2 => ?_]
              rw [← w2] at m2
              rcases (hrow w hw).ok with ⟨a, -⟩ | a
              · exact c ⟨m2, a⟩
              · exact m1 ((t1 w hw).1 a)
          · obtain ⟨u1, u2⟩ := List.mem_filter.1 hu2
            obtain ⟨i, hi, ei⟩ := p_mem_at u1
            obtain ⟨i2, hi2, ei2⟩ := p_mem_at hw
            have : i = i2 := hu.at hi hi2 (by rw [ei, ei2, q.1, w0]) (by rw [ei, ei2, q.2, w1])
            subst this
            rw [← ei, ei2] at u2
            exact c (of_decide_eq_true u2)
      · right
        rw [← w2]
        refine Int32.not_lt.1 fun q => ?_
        exact hn _ ((mem _).2 ⟨w, hw, rfl, q⟩) ⟨by rw [(tIf_c mk' w).1]; exact w0, by rw [(tIf_c mk' w).2.1]; exact w1⟩
    · have hno' : ∀ r, r ∈ V → ¬ (r 0 = nI k ∧ r 1 = nI (j * sl)) := fun r hr q => hno ⟨r, hr, q.1, q.2⟩
      have old := q2 hno'
      refine ⟨?_, fun _ => old.imp_right fun q => Int32.le_trans q h1⟩
      rw [TR_app]
      unfold tResL
      rw [TR_flatno fun u hu2 q => hno' u (List.mem_filter.1 hu2).1 q, q1]
      rcases old with q | q
      · rw [q]
        split <;> split <;> rfl
      · have m1 := Int32.le_trans q h2
        rw [if_pos m1, if_pos (Int32.le_trans m1 (Int32.le_of_lt hm))]
  · unfold tResL at hr
    obtain ⟨w, hw, hr⟩ := List.mem_flatMap.1 hr
    obtain ⟨a, b⟩ := List.mem_filter.1 hw
    exact (hrow w a).rnp (of_decide_eq_true b).1 hr
theorem cDrop_R (S : CS) : (cDrop S).R 4 = S.R 4 ++ tResL (S.y 6 0) (S.x 2 0) (S.R 5) ∧ (cDrop S).R 5 = ((S.R 5).map (tIf (S.x 2 0))).filter fun r => decide (S.x 2 0 - S.x 12 0 < r 2) := by
  unfold cDrop cWin
  exact ⟨by rw [cRw_Rn _ _ _ (by omega), cApp_R4], cRw_R _ _ _ _⟩
theorem NR.fit {S M sz sl lt} (h : NR S M sz sl lt) : ∀ r, r ∈ S.R 5 → pFit sz (decide (S.y 5 0 = 10)) r := fun r hr => h.wr.rows r (h.wr.perm.mem_iff.1 hr)
theorem mkRange {m : Int32} (h : -100 ≤ m.toInt ∧ m.toInt ≤ 999) {lt : Nat} (hl : lt ≤ 99) : (m - nI lt).toInt = m.toInt - lt := by
  have e := nI_toInt (n := lt) (by omega)
  rw [i_sub (by rw [e]; omega) (by rw [e]; omega), e]
theorem TSF.find {S M sz sl lt} (h : NR S M sz sl lt) (hp : PR S M) {F : Int32 → Int32 → Option Int32} (hT : TSF (S.y 5 0) sz sl (S.R 5) (S.x 2 0) (S.x 2 0 - S.x 12 0) F (S.R 4)) :
    ∃ rs, (cFind S).R 4 = S.R 4 ++ rs ∧ (∀ r, r ∈ rs → RNp (S.y 6 0) ((cFind S).x 2 0) r) ∧ S.x 2 0 ≤ (cFind S).x 2 0 ∧ TSF (S.y 5 0) sz sl ((cFind S).R 5) ((cFind S).x 2 0) ((cFind S).x 2 0 - S.x 12 0) F (S.R 4 ++ rs) := by
  have triv : ∃ rs, S.R 4 = S.R 4 ++ rs ∧ (∀ r, r ∈ rs → RNp (S.y 6 0) (S.x 2 0) r) ∧ S.x 2 0 ≤ S.x 2 0 ∧ TSF (S.y 5 0) sz sl (S.R 5) (S.x 2 0) (S.x 2 0 - S.x 12 0) F (S.R 4 ++ rs) := ⟨[], (List.append_nil _).symm, fun r hr => absurd hr List.not_mem_nil, Int32.le_refl _, by rw [List.append_nil]; exact hT⟩
  unfold cFind
  match hf : fwmS S with
  | none => exact triv
  | some none => exact triv
  | some (some l) =>
    unfold cFindT
    by_cases c : l ≤ S.x 2 0
    · simp only [if_pos c]; exact triv
    · simp only [if_neg c]
      have hl := hp.rng hf
      have hlt : S.x 2 0 < l := Int32.not_le.1 c
      have e0 := mkRange h.mr h.q.l2
      have e1 := mkRange hl h.q.l2
      have lc := h.q.lc
      have hlt' := (i_lt.1 hlt)
      obtain ⟨a1, a2⟩ := TSF.drop (mode := S.y 6 0) (mk' := l) (hz' := l - S.x 12 0) hT h.wr.uw h.fit hlt (by rw [lc, i_le, e0, e1]; omega) (by rw [lc, i_le, e0]; omega)
      obtain ⟨r4, r5⟩ := cDrop_R (uX S 2 0 l)
      have x20 : (uX S 2 0 l).x 2 0 = l := cX_s S 2 0 l
      have x120 : (uX S 2 0 l).x 12 0 = S.x 12 0 := cX_x S l (by omega)
      have xd : (cDrop (uX S 2 0 l)).x 2 0 = l := by
        rw [show (cDrop (uX S 2 0 l)).x = (uX S 2 0 l).x from ?_, x20]
        unfold cDrop cWin
        rw [cRw_x]
        exact (cApp_same _ _).2.1
      rw [x20] at r4 r5
      rw [x120] at r5
      refine ⟨tResL (S.y 6 0) l (S.R 5), r4, ?_, ?_, ?_⟩
      · rw [xd]; exact a2
      · rw [xd]; exact Int32.le_of_lt hlt
      · rw [xd, r5]; exact a1
