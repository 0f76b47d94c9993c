/-! ===== an event comes into a window, and into its windows ===== -/
def RNp (mode : Nat) (mk : Int32) (r : pRow) : Prop := (∃ k b e : Nat, k < 8 ∧ b < e ∧ e < 1100 ∧ r 0 = nI k ∧ r 1 = nI b ∧ r 2 = nI e) ∧ (r 2 ≤ mk ∨ r 4 = 2) ∧ (r 4 = 2 ∨ r 4 = (if mode = 12 then 0 else 1))
def uW (W : List pRow) : Prop := W.Pairwise (fun r s => ¬ (r 0 = s 0 ∧ r 1 = s 1))
theorem WR.uw {sz ses W V} (h : WR sz ses W V) : uW W := by
  refine (h.perm.pairwise_iff (fun a b => a ⟨b.1.symm, b.2.symm⟩)).2 (h.sV.imp fun {r s} a b => ?_)
  exact kLt_irr a b.1 b.2
theorem uW.at {W : List pRow} (h : uW W) {i j : Nat} (hi : i < W.length) (hj : j < W.length) (h0 : (W.getD i pz) 0 = (W.getD j pz) 0) (h1 : (W.getD i pz) 1 = (W.getD j pz) 1) : i = j := by
  rcases Nat.lt_trichotomy i j with q | q | q
  · exact absurd ⟨h0, h1⟩ (p_pw.1 h i j q hj)
  · exact q
  · exact absurd ⟨h0.symm, h1.symm⟩ (p_pw.1 h j i q hi)
theorem p_mem_at {W : List pRow} {r : pRow} (h : r ∈ W) : ∃ j, j < W.length ∧ W.getD j pz = r := by
  obtain ⟨j, hj, e⟩ := List.getElem_of_mem h
  exact ⟨j, hj, by simp [List.getD, hj, e]⟩
theorem p_at_mem {W : List pRow} {j : Nat} (h : j < W.length) : W.getD j pz ∈ W := by
  have : W.getD j pz = W[j] := by simp [List.getD, h]
  rw [this]; exact List.getElem_mem h
theorem p_set_mem2 {W : List pRow} {i : Nat} {a r : pRow} (h : r ∈ W.set i a) : r = a ∨ ∃ j, j < W.length ∧ j ≠ i ∧ W.getD j pz = r := by
  obtain ⟨j, hj, e⟩ := p_mem_at h
  rw [List.length_set] at hj
  by_cases q : j = i
  · subst q
    left
    rw [← e]; simp [List.getD, hj]
  · right
    refine ⟨j, hj, q, ?_⟩
    rw [← e]; simp [List.getD, List.getElem?_set, Ne.symm q]
theorem p_set_in {W : List pRow} {i j : Nat} {a : pRow} (hj : j < W.length) (q : j ≠ i) : W.getD j pz ∈ W.set i a := by
  have : W.getD j pz = (W.set i a).getD j pz := by simp [List.getD, List.getElem?_set, Ne.symm q]
  rw [this]; exact p_at_mem (by rw [List.length_set]; exact hj)
theorem p_set_me {W : List pRow} {i : Nat} {a : pRow} (hi : i < W.length) : a ∈ W.set i a := by
  have h := p_at_mem (W := W.set i a) (j := i) (by rw [List.length_set]; exact hi)
  rwa [p_getset hi] at h
theorem nI_inj {a b : Nat} (ha : a < 2 ^ 31) (hb : b < 2 ^ 31) (h : nI a = nI b) : a = b := (nI_eq ha hb).1 h
theorem cTell_R4 (S : CS) (i : Nat) : (cTell S i).R 4 = S.R 4 ++ tRes (S.y 6 0) ((S.R 5).getD i pz) := by
  unfold cTell cWin; rw [cRw_Rn _ _ _ (by omega), cApp_R4]
theorem cTell_R5 (S : CS) (i : Nat) : (cTell S i).R 5 = (S.R 5).set i (tWin ((S.R 5).getD i pz)) := by
  unfold cTell cWin; rw [cRw_R]
/-- a row at which all is as it should be but that it may have to be told -/
def rowOK (mk : Int32) (T : List pRow) (w : pRow) : Prop := pOk w ∧ (w 4 = 1 → w 2 ≤ mk) ∧ (w 4 = 1 → TR T (w 0) (w 1) = w 5) ∧ (w 4 = 0 → TR T (w 0) (w 1) = 0)
theorem ripe_one {S : CS} {i : Nat} (hi : i < (S.R 5).length) (ok : pOk ((S.R 5).getD i pz)) (h1 : ((S.R 5).getD i pz) 4 = 1 → ((S.R 5).getD i pz) 2 ≤ S.x 2 0) :
    ∃ (w : pRow) (rs : List pRow), (cRipe S i).R 5 = (S.R 5).set i w ∧ (cRipe S i).R 4 = S.R 4 ++ rs ∧ w 0 = ((S.R 5).getD i pz) 0 ∧ w 1 = ((S.R 5).getD i pz) 1 ∧ w 2 = ((S.R 5).getD i pz) 2 ∧ w 3 = ((S.R 5).getD i pz) 3 ∧ (w 4 = 1 ↔ w 2 ≤ S.x 2 0) ∧ (∀ r, r ∈ rs → r ∈ tRes (S.y 6 0) ((S.R 5).getD i pz)) ∧ (((S.R 5).getD i pz) 2 ≤ S.x 2 0 → rs = tRes (S.y 6 0) ((S.R 5).getD i pz) ∧ w 5 = w 3) ∧ (¬ ((S.R 5).getD i pz) 2 ≤ S.x 2 0 → rs = [] ∧ w 4 ≠ 1) := by
  unfold cRipe
  by_cases h : pRipe S ((S.R 5).getD i pz) = true
  · rw [if_pos h]
    have hle : ((S.R 5).getD i pz) 2 ≤ S.x 2 0 := by
      rcases pRipe_iff.1 h with q | q
      · exact h1 q
      · exact q
    exact ⟨tWin ((S.R 5).getD i pz), _, cTell_R5 S i, cTell_R4 S i, rfl, rfl, rfl, rfl, ⟨fun _ => hle, fun _ => rfl⟩, fun r hr => hr, fun _ => ⟨rfl, rfl⟩, fun q => absurd hle q⟩
  · rw [if_neg h]
    have h2 : ¬ ((S.R 5).getD i pz) 4 = 1 ∧ ¬ ((S.R 5).getD i pz) 2 ≤ S.x 2 0 := ⟨fun q => h (pRipe_iff.2 (.inl q)), fun q => h (pRipe_iff.2 (.inr q))⟩
    refine ⟨(S.R 5).getD i pz, [], (set_self hi).symm, (List.append_nil _).symm, rfl, rfl, rfl, rfl, ⟨fun q => absurd q h2.1, fun q => absurd q h2.2⟩, fun r hr => absurd hr List.not_mem_nil, fun q => absurd q h2.2, fun _ => ⟨rfl, h2.1⟩⟩
theorem cFold_fo (S : CS) (a b : Int32) : cFold S a b = fo (S.y 3 0) a b := rfl
theorem rnp_res {mode : Nat} {mk : Int32} {w : pRow} {k b e : Nat} (hk : k < 8) (hbe : b < e) (he : e < 1100) (w0 : w 0 = nI k) (w1 : w 1 = nI b) (w2 : w 2 = nI e) (hm : w 2 ≤ mk) {r : pRow} (hr : r ∈ tRes mode w) : RNp mode mk r := by
  obtain ⟨a0, a1, a2⟩ := tRes_01 hr
  exact ⟨⟨k, b, e, hk, hbe, he, by rw [a0, w0], by rw [a1, w1], by rw [a2, w2]⟩, .inl (by rw [a2]; exact hm), tRes_4 hr⟩
def upF (f : Nat) (F : Int32 → Int32 → Option Int32) (k b : Int32) (late : Prop) [Decidable late] (a : Int32) (k' b' : Int32) : Option Int32 := if k' = k ∧ b' = b ∧ ¬ late then oad f (F k' b') (some a) else F k' b'
/-- the step of a row that has been put at a place of the windows, told if it is ripe -/
theorem TSF.put {shape sz sl : Nat} {V V2 T rs : List pRow} {mk hz : Int32} {F : Int32 → Int32 → Option Int32} {k j : Nat} {w : pRow} {v : Int32} (hs : shape ≠ 10) (hk : k < 8) (hj : j * sl < 1000) (hsz : 1 ≤ sz) (hsz2 : sz ≤ 99) (hT : TSF shape sz sl V mk hz F T)
    (hV : ∀ r, r ∈ V2 → r = w ∨ (r ∈ V ∧ ¬ (r 0 = nI k ∧ r 1 = nI (j * sl)))) (hV2 : ∀ r, r ∈ V → r ∈ V2 ∨ (r 0 = nI k ∧ r 1 = nI (j * sl))) (hw : w ∈ V2) (w0 : w 0 = nI k) (w1 : w 1 = nI (j * sl)) (w2 : w 2 = nI (j * sl + sz)) (w3 : w 3 = v) (w4 : w 4 = 1 ↔ w 2 ≤ mk) (w5 : w 4 = 1 → w 5 = w 3)
    {F' : Int32 → Int32 → Option Int32} (hF1 : F' (nI k) (nI (j * sl)) = some v) (hF2 : ∀ k' b', ¬ (k' = nI k ∧ b' = nI (j * sl)) → F' k' b' = F k' b')
    (hrs : ∀ r, r ∈ rs → r 0 = nI k ∧ r 1 = nI (j * sl)) (htr : TR (T ++ rs) (nI k) (nI (j * sl)) = if nI (j * sl + sz) ≤ mk then v else 0) : TSF shape sz sl V2 mk hz F' (T ++ rs) := by
  obtain ⟨t1, -, t3⟩ := hT
  obtain ⟨t3, t4⟩ := t3 hs
  refine ⟨fun r hr => ?_, fun e => absurd e hs, fun _ => ⟨fun r hr => ?_, fun k' j' hk' hj' => ?_⟩⟩
  · rcases hV r hr with rfl | ⟨q, _⟩
    · exact w4
    · exact t1 r q
  · rcases hV r hr with rfl | ⟨q, q2⟩
    · exact ⟨⟨j, hj, w1⟩, w5, by rw [w0, w1, hF1, w3]⟩
    · obtain ⟨a1, a2, a3⟩ := t3 r q
      exact ⟨a1, a2, by rw [hF2 _ _ q2]; exact a3⟩
  · by_cases e : nI k' = nI k ∧ nI (j' * sl) = nI (j * sl)
    · obtain ⟨e0, e1⟩ := e
      have e1' : j' * sl = j * sl := nI_inj (by omega) (by omega) e1
      rw [e0, e1', hF1]
      refine ⟨htr, fun hno => absurd ⟨w0, w1⟩ (hno w hw)⟩
    · rw [hF2 _ _ e]
      obtain ⟨a1, a2⟩ := t4 k' j' hk' hj'
      refine ⟨?_, fun hno => a2 fun r hr => ?_⟩
      · rw [TR_app, tr_nos rs _ fun r hr q => e ?_]
        · exact a1
        · obtain ⟨b0, b1⟩ := hrs r hr
          exact ⟨q.1.symm.trans b0, q.2.symm.trans b1⟩
      · rcases hV2 r hr with q | q
        · exact hno r q
        · intro q2
          exact e ⟨q2.1.symm.trans q.1, q2.2.symm.trans q.2⟩
