def tIf (mk : Int32) (r : pRow) : pRow := if r 2 ≤ mk ∧ r 4 = 0 then tWin r else r
def tResL (mode : Nat) (mk : Int32) (W : List pRow) : List pRow := (W.filter fun r => decide (r 2 ≤ mk ∧ r 4 = 0)).flatMap (tRes mode)
theorem tWin_2 (r : pRow) : (tWin r) 2 = r 2 := rfl
theorem tIf_2 (mk : Int32) (r : pRow) : (tIf mk r) 2 = r 2 := by unfold tIf; split <;> rfl
def cDrop (S : CS) : CS := cWin (cApp S (tResL (S.y 6 0) (S.x 2 0) (S.R 5))) (((S.R 5).map (tIf (S.x 2 0))).filter fun r => decide (S.x 2 0 - S.x 12 0 < r 2))
theorem cDrop_mon (S : CS) : pSum S.cap ≤ pSum (cDrop S).cap := by rw [cDrop, cWin_sum]; exact cApp_mon _ _
theorem tRes_len0 {m : Nat} {r : pRow} (h : r 4 = 0) : (tRes m r).length = 1 := by
  unfold tRes
  rw [h]
  split
  · rfl
  · split
    · rfl
    · rfl
theorem p_filt {p : pRow → Bool} {A B : List pRow} (hA : ∀ r ∈ A, p r = false) (hB : ∀ r ∈ B, p r = true) : (A ++ B).filter p = (A ++ B).drop A.length := by
  rw [List.filter_append, List.filter_eq_nil_iff.2 (fun r hr => by rw [hA r hr]; decide), List.filter_eq_self.2 hB]
  simp
theorem cApp_cWin (S : CS) (W rs : List pRow) : cApp (cWin S W) rs = cWin (cApp S rs) W := cApp_win S W rs
theorem c_dropEnd {S x y g} (h : RC S x y g) {past : Nat} (hp : past ≤ (S.R 5).length) {Φ : pK} (hΦ : ∀ x y g, RC (cWin S ((S.R 5).drop past)) x y g → Φ x y g) : wX4_remove x y g 5 0 (nI past) Φ := by
  refine c_remove h (q := 5) (r := 0) (m := past) (by omega) (by omega) fun x y g hS => hΦ x y g ?_
  rw [List.take_zero, List.nil_append, Nat.zero_add] at hS
  exact hS
theorem c_tdL {mk hz : Int32} (hzm : hz ≤ mk) {Φ : pK} : ∀ (B : List pRow) (n : Nat) (A1 A2 : List pRow) (S : CS) (x : Nat → Nat → Int32) (y : Nat → Nat → Nat) (g : Nat → Nat → Nat → Int32) (bc bs : Nat), RC S x y g → S.x 2 0 = mk → S.x 2 0 - S.x 12 0 = hz → S.R 5 = (A1 ++ A2).map (tIf mk) ++ B → B.length < n → (S.R 4).length + B.length + 2 ≤ 4096 → (∀ r ∈ A1, r 2 ≤ hz) → (∀ r ∈ A2, hz < r 2) → (A2 ++ B).Pairwise (fun r s => r 2 ≤ s 2) → cOK S (cApp S (tResL (S.y 6 0) mk B)) bc bs → (∀ x y g, RC (cWin (cApp S (tResL (S.y 6 0) mk B)) ((A2 ++ B.filter (fun r => decide (hz < r 2))).map (tIf mk))) x y g → Φ x y g) → lX0_tellAndDrop_4 Φ n x y g (nI A1.length) (nI (A1.length + A2.length)) bc bs := by
  intro B
  induction B with
  | nil =>
    intro n A1 A2 S x y g bc bs h hmk hhz hR hn _ hA1 hA2 hs hc hΦ
    obtain ⟨n, rfl⟩ : ∃ n', n = n' + 1 := ⟨n - 1, by omega⟩
    have hl : (S.R 5).length = A1.length + A2.length := by rw [hR]; simp
    have hle := h.n (q := 5) (by omega)
    simp only [CS.mk_R, CS.mk_cap, CS.mk_x, CS.mk_y, CS.mk_g, CS.mk_eta, lX0_tellAndDrop_4, h.len (q := 5) (by omega), hl]
    refine ⟨fun _ => c_dropEnd h (by omega) fun x y g hS => hΦ x y g ?_, fun c => absurd (nI_le (Nat.le_refl _) (by omega)) c⟩
    rw [hR] at hS
    simpa [tResL, cApp] using hS
  | cons r B ih =>
    intro n A1 A2 S x y g bc bs h hmk hhz hR hn h4 hA1 hA2 hs hc hΦ
    simp only [CS.mk_R, CS.mk_cap, CS.mk_x, CS.mk_y, CS.mk_g, CS.mk_eta, List.length_cons] at hn h4
    obtain ⟨n, rfl⟩ : ∃ n', n = n' + 1 := ⟨n - 1, by omega⟩
    have hl : (S.R 5).length = A1.length + A2.length + (B.length + 1) := by rw [hR]; simp; omega
    have hle := h.n (q := 5) (by omega)
    have hi : A1.length + A2.length < (S.R 5).length := by omega
    have hmap : ((A1 ++ A2).map (tIf mk)).length = A1.length + A2.length := by simp
    have hg : (S.R 5).getD (A1.length + A2.length) pz = r := by rw [hR, ← hmap]; exact p_app_getD
    have hsB : ∀ s ∈ B, r 2 ≤ s 2 := fun s hs2 => by
      have := (List.pairwise_append.1 hs).2.1
      exact List.rel_of_pairwise_cons this hs2
    simp only [CS.mk_R, CS.mk_cap, CS.mk_x, CS.mk_y, CS.mk_g, CS.mk_eta, lX0_tellAndDrop_4, h.len (q := 5) (by omega), h.hx 2 (by omega), hmk]
    refine ⟨fun c => absurd c (nI_ge hi (by omega)), fun _ => c_get h (k := 2) (by omega) hi (by decide) ?_⟩
    rw [hg]
    refine ⟨fun l => ?_, fun l => ?_⟩
    · have hall : ∀ s ∈ r :: B, mk < s 2 := fun s hs2 => by
        rcases List.mem_cons.1 hs2 with e | e
        · rw [e]; exact l
        · have := hsB s e
          rw [i_lt] at l ⊢
          rw [i_le] at this
          omega
      have e1 : tResL (S.y 6 0) mk (r :: B) = [] := by
        unfold tResL
        rw [List.filter_eq_nil_iff.2 fun s hs2 => ?_]
        · rfl
        · have := hall s hs2
          rw [i_lt] at this
          simp only [CS.mk_R, CS.mk_cap, CS.mk_x, CS.mk_y, CS.mk_g, CS.mk_eta, decide_eq_true_eq, i_le]
          omega
      have e2 : (r :: B).filter (fun r => decide (hz < r 2)) = r :: B := List.filter_eq_self.2 fun s hs2 => by
        have := hall s hs2
        rw [i_lt] at this
        rw [i_le] at hzm
        simp only [CS.mk_R, CS.mk_cap, CS.mk_x, CS.mk_y, CS.mk_g, CS.mk_eta, decide_eq_true_eq, i_lt]
        omega
      have e3 : (r :: B).map (tIf mk) = r :: B := by
        conv => rhs; rw [← List.map_id (r :: B)]
        refine List.map_congr_left fun s hs2 => ?_
        have := hall s hs2
        rw [i_lt] at this
        unfold tIf
        rw [if_neg (fun e => by have := i_le.1 e.1; omega)]
        rfl
      rw [e1, e2, List.map_append, e3] at hΦ
      refine c_dropEnd h (by omega) fun x y g hS => hΦ x y g ?_
      have e4 : (S.R 5).drop A1.length = A2.map (tIf mk) ++ r :: B := by
        rw [hR, List.map_append, List.append_assoc]
        rw [show A1.length = (A1.map (tIf mk)).length by simp, List.drop_left]
      rwa [e4] at hS
    · have hr2 : r 2 ≤ mk := Int32.not_lt.1 l
      have tail : ∀ (S' : CS) (x : Nat → Nat → Int32) (y : Nat → Nat → Nat) (g : Nat → Nat → Nat → Int32) (bc bs : Nat), RC S' x y g → S'.x = S.x → S'.y = S.y → S'.R 5 = (A1 ++ A2).map (tIf mk) ++ tIf mk r :: B → (S'.R 4).length + B.length + 2 ≤ 4096 → cOK S' (cApp S' (tResL (S.y 6 0) mk B)) bc bs → (∀ x y g, RC (cWin (cApp S' (tResL (S.y 6 0) mk B)) ((A2 ++ (r :: B).filter (fun r => decide (hz < r 2))).map (tIf mk))) x y g → Φ x y g) → jX0_tellAndDrop_60 (lX0_tellAndDrop_4 Φ n) Φ x y g (nI A1.length) (nI (A1.length + A2.length)) bc bs := by
        intro S' x y g bc bs h ex ey hR' h4' hc' hΦ'
        have hl' : (S'.R 5).length = A1.length + A2.length + (B.length + 1) := by rw [hR']; simp; omega
        have hg' : (S'.R 5).getD (A1.length + A2.length) pz = tIf mk r := by rw [hR', ← hmap]; exact p_app_getD
        unfold jX0_tellAndDrop_60
        refine c_get h (k := 2) (by omega) (by omega) (by decide) ?_
        unfold wX0_horizon
        rw [h.hx 2 (by omega), h.hx 12 (by omega), ex, hhz, hg', tIf_2]
        have heq : (A1 ++ A2).map (tIf mk) ++ tIf mk r :: B = (A1 ++ A2 ++ [r]).map (tIf mk) ++ B := by simp
        refine ⟨fun c => ?_, fun c => ?_⟩
        · rintro _ rfl
          rw [nI_1]
          have ef : (r :: B).filter (fun r => decide (hz < r 2)) = r :: B.filter (fun r => decide (hz < r 2)) := by rw [List.filter_cons, if_pos (by simp [CS.mk_R, CS.mk_cap, CS.mk_x, CS.mk_y, CS.mk_g, CS.mk_eta, c])]
          have := ih n A1 (A2 ++ [r]) S' x y g bc bs h (by rw [ex]; exact hmk) (by rw [ex]; exact hhz) (by rw [hR', heq, List.append_assoc]) (by omega) (by omega) hA1 (fun s hs2 => by
            rcases List.mem_append.1 hs2 with e | e
            · exact hA2 s e
            · rw [List.mem_singleton.1 e]; exact c) (by rw [List.append_assoc]; exact hs) (by rw [ey]; exact hc') (fun x y g hS => hΦ' x y g (by rw [ef]; rw [List.append_assoc, ey] at hS; exact hS))
          rwa [List.length_append, List.length_singleton, ← Nat.add_assoc] at this
        · have hr : r 2 ≤ hz := Int32.not_lt.1 c
          have hA2n : A2 = [] := by
            cases A2 with
            | nil => rfl
            | cons a A2 =>
              have h1 := hA2 a (List.mem_cons_self)
              have h2 : a 2 ≤ r 2 := (List.pairwise_append.1 hs).2.2 a List.mem_cons_self r List.mem_cons_self
              rw [i_lt] at h1
              rw [i_le] at h2 hr
              omega
          subst hA2n
          rintro _ rfl
          rintro _ rfl
          rw [nI_1]
          have ef : (r :: B).filter (fun r => decide (hz < r 2)) = B.filter (fun r => decide (hz < r 2)) := by rw [List.filter_cons, if_neg (by simp [CS.mk_R, CS.mk_cap, CS.mk_x, CS.mk_y, CS.mk_g, CS.mk_eta, c])]
          have := ih n (A1 ++ [r]) [] S' x y g bc bs h (by rw [ex]; exact hmk) (by rw [ex]; exact hhz) (by rw [hR', heq]; simp) (by omega) (by omega) (fun s hs2 => by
            rcases List.mem_append.1 hs2 with e | e
            · exact hA1 s e
            · rw [List.mem_singleton.1 e]; exact hr) (fun s hs2 => absurd hs2 (by simp)) (by simpa using (List.pairwise_cons.1 hs).2) (by rw [ey]; exact hc') (fun x y g hS => hΦ' x y g (by rw [ef]; rw [ey] at hS; exact hS))
          simpa using this
      refine c_get h (k := 4) (by omega) hi (by decide) ?_
      rw [hg]
      refine ⟨fun t0 => ?_, fun t0 => ?_⟩
      · have e1 : tResL (S.y 6 0) mk (r :: B) = tRes (S.y 6 0) r ++ tResL (S.y 6 0) mk B := by
          unfold tResL
          rw [List.filter_cons, if_pos (by simp [CS.mk_R, CS.mk_cap, CS.mk_x, CS.mk_y, CS.mk_g, CS.mk_eta, hr2, t0]), List.flatMap_cons]
        have etw : tIf mk r = tWin r := by unfold tIf; rw [if_pos ⟨hr2, t0⟩]
        have ect : cTell S (A1.length + A2.length) = cWin (cApp S (tRes (S.y 6 0) r)) ((A1 ++ A2).map (tIf mk) ++ tIf mk r :: B) := by
          unfold cTell
          rw [hg, etw]
          congr 1
          rw [hR, ← hmap]
          simp
        rw [e1, cApp_app] at hc hΦ
        have hc1 : cOK S (cApp (cTell S (A1.length + A2.length)) (tResL (S.y 6 0) mk B)) bc bs := by
          rw [ect]
          exact hc.rebase (by rw [cApp_cWin, cWin_sum])
        obtain ⟨kc, ks, b2, s2, h1, h2, h3, h5⟩ := hc1.split (cTell S (A1.length + A2.length)) (cTell_mon _ _) (cApp_mon _ _)
        refine ⟨kc, ks, b2, s2, h1, h2, c_tell h hi (by omega) h3 fun x y g hS => ?_⟩
        obtain ⟨q1, q2, q3, q4⟩ := cApp_same S (tRes (S.y 6 0) r)
        refine tail _ x y g b2 s2 hS ?_ ?_ ?_ ?_ h5 ?_
        · rw [ect]; exact q2
        · rw [ect]; exact q3
        · rw [ect, cWin, cRw_R]
        · rw [ect, cWin, cRw_Rn _ _ _ (by omega), cApp_R4, List.length_append, tRes_len0 t0]; omega
        · intro x y g hS
          refine hΦ x y g ?_
          rw [ect, cApp_cWin, cWin_win] at hS
          exact hS
      · have e1 : tResL (S.y 6 0) mk (r :: B) = tResL (S.y 6 0) mk B := by
          unfold tResL
          rw [List.filter_cons, if_neg (by simp [CS.mk_R, CS.mk_cap, CS.mk_x, CS.mk_y, CS.mk_g, CS.mk_eta, t0])]
        have etw : tIf mk r = r := by unfold tIf; rw [if_neg (fun e => t0 e.2)]
        rw [e1] at hc hΦ
        exact tail S x y g bc bs h rfl rfl (by rw [etw]; exact hR) (by omega) hc hΦ
theorem c_tellAndDrop {S x y g} (h : RC S x y g) {bc bs : Nat} (hzm : S.x 2 0 - S.x 12 0 ≤ S.x 2 0) (hs : (S.R 5).Pairwise (fun r s => r 2 ≤ s 2)) (h4 : (S.R 4).length + (S.R 5).length + 2 ≤ 4096) (hc : cOK S (cDrop S) bc bs) {Φ : pK} (hΦ : ∀ x y g, RC (cDrop S) x y g → Φ x y g) : wX0_tellAndDrop x y g bc bs Φ := by
  refine ⟨(S.R 5).length + 1, ?_⟩
  refine c_tdL hzm (S.R 5) _ [] [] S x y g bc bs h rfl rfl rfl (by omega) h4 (fun r hr => absurd hr (by simp)) (fun r hr => absurd hr (by simp)) hs (hc.rebase (cWin_sum _ _)) fun x y g hS => hΦ x y g ?_
  unfold cDrop
  have e : ((S.R 5).map (tIf (S.x 2 0))).filter (fun r => decide (S.x 2 0 - S.x 12 0 < r 2)) = ((S.R 5).filter (fun r => decide (S.x 2 0 - S.x 12 0 < r 2))).map (tIf (S.x 2 0)) := by
    rw [List.filter_map]
    congr 2
    funext r
    simp only [CS.mk_R, CS.mk_cap, CS.mk_x, CS.mk_y, CS.mk_g, CS.mk_eta, Function.comp_def, tIf_2]
  rw [e]
  exact hS
def fwm (idle rd its : Nat → Int32) : List Nat → Option Int32 → Option (Option Int32)
  | [], acc => some acc
  | i :: is, acc => if idle i = 0 then (if rd i = 0 then none else fwm idle rd its is (some (match acc with | none => its i | some l => if its i < l then its i else l))) else fwm idle rd its is acc
def cFindT (S : CS) : Option (Option Int32) → CS
  | some (some l) => if l ≤ S.x 2 0 then S else cDrop (uX S 2 0 l)
  | _ => S
def fwmS (S : CS) : Option (Option Int32) := fwm (S.x 7) (S.g 1 0) (fun i => S.g 2 0 i - S.x 6 i) [0, 1, 2] none
def cFind (S : CS) : CS := cFindT S (fwmS S)
theorem cFindT_mon (S : CS) (r : Option (Option Int32)) : pSum S.cap ≤ pSum (cFindT S r).cap := by
  unfold cFindT
  split
  · split
    · exact Nat.le_refl _
    · exact cDrop_mon (uX S 2 0 _)
  · exact Nat.le_refl _
theorem c_fwL2 {S x y g} (h : RC S x y g) {bc bs : Nat} (hs : (S.R 5).Pairwise (fun r s => r 2 ≤ s 2)) (h4 : (S.R 4).length + (S.R 5).length + 2 ≤ 4096) {Φ : pK} : ∀ (j n i : Nat) (acc : Option Int32) (v1 v2 : Int32), i + j = 3 → j < n → (acc = none ∧ v1 = 0 ∨ v1 = 1 ∧ acc = some v2) → (∀ l, fwm (S.x 7) (S.g 1 0) (fun i => S.g 2 0 i - S.x 6 i) (List.range' i j) acc = some (some l) → l - S.x 12 0 ≤ l) → cOK S (cFindT S (fwm (S.x 7) (S.g 1 0) (fun i => S.g 2 0 i - S.x 6 i) (List.range' i j) acc)) bc bs → (∀ x y g, RC (cFindT S (fwm (S.x 7) (S.g 1 0) (fun i => S.g 2 0 i - S.x 6 i) (List.range' i j) acc)) x y g → Φ x y g) → lX0_findWatermark_6 Φ n x y g v1 v2 (nI i) bc bs := by
  intro j
  induction j with
  | zero =>
    intro n i acc v1 v2 hij hjn ha hz hc hΦ
    obtain ⟨n, rfl⟩ : ∃ n', n = n' + 1 := ⟨n - 1, by omega⟩
    have hi : i = 3 := by omega
    subst hi
    simp only [CS.mk_R, CS.mk_cap, CS.mk_x, CS.mk_y, CS.mk_g, CS.mk_eta, List.range'_zero, fwm] at hz hc hΦ
    refine ⟨fun _ => ?_, fun c => absurd (show (3 : Int32) ≤ nI 3 from by decide) c⟩
    rcases ha with ⟨rfl, rfl⟩ | ⟨rfl, rfl⟩
    · exact ⟨fun _ => hΦ x y g h, fun c => absurd rfl c⟩
    · refine ⟨fun c => absurd c (by decide), fun _ => ?_⟩
      rw [h.hx 2 (by omega)]
      simp only [CS.mk_R, CS.mk_cap, CS.mk_x, CS.mk_y, CS.mk_g, CS.mk_eta, cFindT] at hc hΦ
      refine ⟨fun c => ?_, fun c => ⟨bc, bs, 0, 0, by omega, by omega, ?_⟩⟩
      · rw [if_pos c] at hΦ
        exact hΦ x y g h
      · rw [if_neg c] at hc hΦ
        have h1 := h.X (k := 2) (i := 0) (v := v2) (by omega)
        rw [h.hx 2 (by omega)] at h1
        refine c_tellAndDrop h1 ?_ hs h4 ?_ hΦ
        · simp only [CS.mk_R, CS.mk_cap, CS.mk_x, CS.mk_y, CS.mk_g, CS.mk_eta, uX, p_ug, p_un _ _ (show (12 : Nat) ≠ 2 by decide)]
          exact hz v2 rfl
        · exact hc.trans0 rfl
  | succ j ih =>
    intro n i acc v1 v2 hij hjn ha hz hc hΦ
    obtain ⟨n, rfl⟩ : ∃ n', n = n' + 1 := ⟨n - 1, by omega⟩
    simp only [CS.mk_R, CS.mk_cap, CS.mk_x, CS.mk_y, CS.mk_g, CS.mk_eta, List.range'_succ, fwm] at hz hc hΦ
    refine ⟨fun c => absurd (show nI 3 ≤ nI i from c) (nI_ge (by omega) (by omega)), fun _ => ⟨vp_in_nI (by omega) (by omega), ?_⟩⟩
    rw [p_cl (by omega), h.hx 7 (by omega), h.hx 6 (by omega), h.hg 1 (by omega), h.hg 2 (by omega)]
    refine ⟨fun d => ⟨vp_in_nI (by omega) (by omega), fun r0 => ?_, fun r0 => ⟨vp_in_nI (by omega) (by omega), vp_in_nI (by omega) (by omega), ?_⟩⟩, fun d => ?_⟩
    · rw [if_pos d, if_pos r0] at hΦ
      exact hΦ x y g h
    · rw [if_pos d, if_neg r0] at hz hc hΦ
      rintro _ rfl
      rcases ha with ⟨rfl, rfl⟩ | ⟨rfl, rfl⟩
      · refine ⟨fun _ => ?_, fun c => absurd rfl c⟩
        rintro _ rfl
        rw [nI_1]
        exact ih n (i + 1) _ 1 _ (by omega) (by omega) (.inr ⟨rfl, rfl⟩) hz hc hΦ
      · refine ⟨fun c => absurd c (by decide), fun _ => ?_⟩
        rintro _ rfl
        rintro _ rfl
        rw [nI_1]
        exact ih n (i + 1) _ 1 _ (by omega) (by omega) (.inr ⟨rfl, rfl⟩) hz hc hΦ
    · rw [if_neg d] at hz hc hΦ
      rintro _ rfl
      rw [nI_1]
      exact ih n (i + 1) acc v1 v2 (by omega) (by omega) ha hz hc hΦ
theorem c_find {S x y g} (h : RC S x y g) {bc bs : Nat} (hs : (S.R 5).Pairwise (fun r s => r 2 ≤ s 2)) (h4 : (S.R 4).length + (S.R 5).length + 2 ≤ 4096) (hz : ∀ l, fwmS S = some (some l) → l - S.x 12 0 ≤ l) (hc : cOK S (cFind S) bc bs) {Φ : pK} (hΦ : ∀ x y g, RC (cFind S) x y g → Φ x y g) : wX0_findWatermark x y g bc bs Φ :=
  ⟨4, c_fwL2 h hs h4 3 4 0 none 0 0 (by omega) (by omega) (.inl ⟨rfl, rfl⟩) hz hc hΦ⟩
def jvStep (k t : Int32) (acc : Int32 × Int32) (r : pRow) : Int32 × Int32 := if r 0 = k ∧ ¬ t < r 1 ∧ ¬ r 1 < acc.2 then (r 2, r 1) else acc
def cJoin (S : CS) (k t : Int32) : Int32 := ((S.R 3).foldl (jvStep k t) (0, -1)).1
theorem p_dropS {W : List pRow} {i : Nat} {r : pRow} {B : List pRow} (hd : W.drop i = r :: B) : W.getD i pz = r ∧ W.drop (i + 1) = B ∧ i < W.length := by
  refine ⟨?_, ?_, ?_⟩
  · have : W[i]? = some r := by
      have := congrArg (fun l => l[0]?) hd
      simpa [List.getElem?_drop] using this
    simp [CS.mk_R, CS.mk_cap, CS.mk_x, CS.mk_y, CS.mk_g, CS.mk_eta, List.getD, this]
  · have := congrArg List.tail hd
    simpa using this
  · have := congrArg List.length hd
    rw [List.length_drop, List.length_cons] at this
    omega
theorem c_jvL {S x y g} (h : RC S x y g) {k t : Int32} {Φ : Int32 → Prop} : ∀ (B : List pRow) (n i : Nat) (v l : Int32), (S.R 3).drop i = B → i + B.length = (S.R 3).length → B.length < n → Φ ((B.foldl (jvStep k t) (v, l)).1) → lX0_joinedValue_8 Φ n x y g k t v l (nI i) := by
  have hle := h.n (q := 3) (by omega)
  intro B
  induction B with
  | nil =>
    intro n i v l hd hi hn hΦ
    obtain ⟨n, rfl⟩ : ∃ n', n = n' + 1 := ⟨n - 1, by omega⟩
    simp only [CS.mk_R, CS.mk_cap, CS.mk_x, CS.mk_y, CS.mk_g, CS.mk_eta, List.length_nil, Nat.add_zero] at hi
    simp only [CS.mk_R, CS.mk_cap, CS.mk_x, CS.mk_y, CS.mk_g, CS.mk_eta, lX0_joinedValue_8, h.len (q := 3) (by omega), hi]
    exact ⟨fun _ => hΦ, fun c => absurd (nI_le (Nat.le_refl _) (by omega)) c⟩
  | cons r B ih =>
    intro n i v l hd hi hn hΦ
    simp only [CS.mk_R, CS.mk_cap, CS.mk_x, CS.mk_y, CS.mk_g, CS.mk_eta, List.length_cons] at hi hn
    obtain ⟨n, rfl⟩ : ∃ n', n = n' + 1 := ⟨n - 1, by omega⟩
    obtain ⟨hg, hd2, hlt⟩ := p_dropS hd
    simp only [CS.mk_R, CS.mk_cap, CS.mk_x, CS.mk_y, CS.mk_g, CS.mk_eta, List.foldl_cons] at hΦ
    simp only [CS.mk_R, CS.mk_cap, CS.mk_x, CS.mk_y, CS.mk_g, CS.mk_eta, lX0_joinedValue_8, h.len (q := 3) (by omega)]
    refine ⟨fun c => absurd c (nI_ge hlt (by omega)), fun _ => c_get h (k := 1) (by omega) hlt (by decide) (c_get h (k := 0) (by omega) hlt (by decide) ?_)⟩
    rw [hg]
    have skip : (jvStep k t (v, l) r = (v, l)) → ∀ w : Int32, w = nI i + 1 → lX0_joinedValue_8 Φ n x y g k t v l w := by
      rintro e _ rfl
      rw [e] at hΦ
      rw [nI_1]
      exact ih n (i + 1) v l hd2 (by omega) (by omega) hΦ
    refine ⟨fun a => ⟨fun b => skip ?_, fun b => ⟨fun c => skip ?_, fun c => c_get h (k := 2) (by omega) hlt (by decide) ?_⟩⟩, fun a => skip ?_⟩
    · unfold jvStep; rw [if_neg (fun e => e.2.1 b)]
    · unfold jvStep; rw [if_neg (fun e => e.2.2 c)]
    · rintro _ rfl
      rw [hg, nI_1]
      have e : jvStep k t (v, l) r = (r 2, r 1) := by unfold jvStep; rw [if_pos ⟨a, b, c⟩]
      rw [e] at hΦ
      exact ih n (i + 1) _ _ hd2 (by omega) (by omega) hΦ
    · unfold jvStep; rw [if_neg (fun e => a e.1)]
theorem c_join {S x y g} (h : RC S x y g) {k t : Int32} {Φ : Int32 → Prop} (hΦ : Φ (cJoin S k t)) : wX0_joinedValue x y g k t Φ :=
  ⟨(S.R 3).length + 1, c_jvL h (S.R 3) _ 0 0 (-1) rfl (by omega) (by omega) hΦ⟩
def cLets (S : CS) (v : Int32) : Int32 := if S.y 4 0 = 4 then (if S.x 8 0 ≤ v then 0 else 1) else if S.y 4 0 = 5 then (if v = S.x 8 0 then 1 else 0) else if S.y 4 0 = 6 then (if v ≤ S.x 8 0 then 0 else 1) else 1
theorem p_ite {c : Prop} [Decidable c] {a b : Int32} {Φ : Int32 → Prop} (h : Φ (if c then a else b)) : (c → Φ a) ∧ (¬ c → Φ b) := ⟨fun e => by rwa [if_pos e] at h, fun e => by rwa [if_neg e] at h⟩
theorem c_lets {S x y g} (h : RC S x y g) {v : Int32} {Φ : Int32 → Prop} (hΦ : Φ (cLets S v)) : wX2_lets x y g v Φ := by
  unfold wX2_lets
  unfold cLets at hΦ
  rw [h.hx 8 (by omega), h.hy 4 (by omega)]
  refine ⟨fun a => ?_, fun a => ⟨fun b => ?_, fun b => ⟨fun c => ?_, fun c => ?_⟩⟩⟩
  · rw [if_pos a] at hΦ; exact p_ite hΦ
  · rw [if_neg a, if_pos b] at hΦ; exact p_ite hΦ
  · rw [if_neg a, if_neg b, if_pos c] at hΦ; exact p_ite hΦ
  · rw [if_neg a, if_neg b, if_neg c] at hΦ; exact hΦ
def cAmt (S : CS) (row : pRow) : Int32 := if S.y 3 0 = 1 then 1 else if S.x 9 0 = 0 then row 2 else row 2 + cJoin S (row 0) (row 1)
def cGr (S : CS) (p r : Nat) (t : Int32) : Int32 := if r = 0 then t else if S.g 2 0 p < t then t else S.g 2 0 p
def cRead (S : CS) (p r : Nat) : CS :=
  let row := (S.R p).getD r pz
  cRw (cG (cG S 2 0 (upd (S.g 2 0) p (cGr S p r (row 1)))) 1 0 (upd (S.g 1 0) p (nI (r + 1)))) p ((S.R p).set r (upd (upd (upd row 3 (cLets S (row 2))) 4 (cAmt S row)) 5 (S.x 2 0 - S.x 12 0))) (S.cap p)
theorem c_read {S x y g} (h : RC S x y g) {p r : Nat} (hp : p < 3) (hr : r < (S.R p).length) (hg : S.g 1 0 p = nI r) {Φ : Int32 → pK} (hΦ : ∀ x y g, RC (cRead S p r) x y g → Φ (cLets S (((S.R p).getD r pz) 2)) x y g) : wX0_readNext x y g (nI p) Φ := by
  have hle := h.n (q := p) (by omega)
  have hw : pwq p = 6 := by unfold pwq; rw [if_neg (by omega), if_neg (by omega)]
  unfold wX0_readNext
  rw [p_cl (by omega), h.hg 1 (by omega), h.hg 2 (by omega), hg]
  refine ⟨vp_in_nI (by omega) (by omega), vp_in_nI (by omega) (by omega), ?_⟩
  rintro _ rfl
  refine c_get h (k := 1) (by omega) hr (by omega) (c_get h (k := 2) (by omega) hr (by omega) ?_)
  generalize hrow : (S.R p).getD r pz = row at *
  have key : ∀ s2 : Int32, s2 = cGr S p r (row 1) → jX0_readNext_67 Φ x y g (nI p) p (nI r) (row 1) (row 2) (nI p) s2 := by
    rintro _ rfl
    unfold jX0_readNext_67
    rw [p_cl (by omega), nI_1, h.hg 1 (by omega), h.hg 2 (by omega)]
    have h1 := (h.G (k := 2) (i := 0) (f := upd (S.g 2 0) p (cGr S p r (row 1))) (by omega)).G (k := 1) (i := 0) (f := upd (S.g 1 0) p (nI (r + 1))) (by omega)
    rw [p_un _ _ (show (1 : Nat) ≠ 2 by decide), h.hg 1 (by omega), h.hg 2 (by omega)] at h1
    generalize hS1 : cG (cG S 2 0 (upd (S.g 2 0) p (cGr S p r (row 1)))) 1 0 (upd (S.g 1 0) p (nI (r + 1))) = S1 at h1
    generalize va_up (va_up g 2 (va_up (S.g 2) 0 (upd (S.g 2 0) p (cGr S p r (row 1))))) 1 (va_up (S.g 1) 0 (upd (S.g 1 0) p (nI (r + 1)))) = g' at h1 ⊢
    have ex : S1.x = S.x := by rw [← hS1]; rfl
    have ey : S1.y = S.y := by rw [← hS1]; rfl
    have eR : S1.R = S.R := by rw [← hS1]; rfl
    have ec : S1.cap = S.cap := by rw [← hS1]; rfl
    refine ⟨vp_in_nI (by omega) (by omega), vp_in_nI (by omega) (by omega), c_lets h1 ?_⟩
    have elets : cLets S1 (row 2) = cLets S (row 2) := by unfold cLets; rw [ex, ey]
    rw [elets]
    have fin : ∀ am : Int32, am = cAmt S row → jX0_readNext_139 Φ x y g' p (nI r) (cLets S (row 2)) am := by
      rintro _ rfl
      unfold jX0_readNext_139
      have fin2 : ∀ cc : Int32, cc = cLets S (row 2) → jX0_readNext_152 Φ x y g' p (nI r) (cLets S (row 2)) (cAmt S row) p (nI r) 3 cc := by
        rintro _ rfl
        unfold jX0_readNext_152
        refine c_set h1 (k := 3) (by omega) (by rw [eR]; exact hr) (by omega) fun x y g h2 => ?_
        refine c_set h2 (k := 4) (by omega) (by rw [cRw_R, List.length_set, eR]; exact hr) (by omega) fun x y g h3 => ?_
        unfold wX0_horizon
        rw [h3.hx 2 (by omega), h3.hx 12 (by omega)]
        refine c_set h3 (k := 5) (by omega) (by rw [cRw_R, List.length_set, cRw_R, List.length_set, eR]; exact hr) (by omega) fun x y g h4 => hΦ x y g ?_
        simp only [CS.mk_R, CS.mk_cap, CS.mk_x, CS.mk_y, CS.mk_g, CS.mk_eta, cRw_R, cRw_c, cRw_cRw, cRw_x, eR, ec, ex, List.set_set] at h4
        simp only [CS.mk_R, CS.mk_cap, CS.mk_x, CS.mk_y, CS.mk_g, CS.mk_eta, p_getset hr, hrow] at h4
        unfold cRead
        simp only [CS.mk_R, CS.mk_cap, CS.mk_x, CS.mk_y, CS.mk_g, CS.mk_eta, hrow]
        rw [hS1]
        exact h4
      have hcl : cLets S (row 2) = 0 ∨ cLets S (row 2) = 1 := by
        unfold cLets
        split
        · split <;> simp
        · split
          · split <;> simp
          · split
            · split <;> simp
            · simp
      refine ⟨fun e => fin2 0 e.symm, fun e => fin2 1 ?_⟩
      rcases hcl with e2 | e2
      · exact absurd e2 e
      · exact e2.symm
    rw [h1.hy 3 (by omega), h1.hx 9 (by omega), ex, ey]
    unfold cAmt at fin
    refine ⟨fun a => fin 1 (by rw [if_pos a]), fun a => ⟨fun b => fin _ (by rw [if_neg a, if_pos b]), fun b => c_get h1 (k := 0) (by omega) (by rw [eR]; exact hr) (by omega) (c_join h1 ?_)⟩⟩
    refine fin _ ?_
    rw [if_neg a, if_neg b, eR, hrow]
    unfold cJoin
    rw [eR]
  refine ⟨fun e => key _ ?_, fun e => ⟨vp_in_nI (by omega) (by omega), key _ ?_⟩⟩
  · have : r = 0 := by
      have := (nI_eq (a := r) (b := 0) (by omega) (by omega)).1 e
      omega
    unfold cGr; rw [if_pos this]
  · have : r ≠ 0 := fun e2 => e (by rw [e2]; rfl)
    unfold cGr; rw [if_neg this]
theorem p_div {a d : Nat} (ha : a < 2 ^ 31) (h0 : 0 < d) (hd : d < 2 ^ 31) : nI a / nI d = nI (a / d) := by
  have h1 : a / d ≤ a := Nat.div_le_self _ _
  apply Int32.toInt_inj.1
  rw [Int32.toInt_div, nI_toInt ha, nI_toInt hd, nI_toInt (by omega), Int.tdiv_eq_ediv_of_nonneg (by omega)]
  have : (a : Int) / (d : Int) = ((a / d : Nat) : Int) := by omega
  rw [this]
  generalize a / d = z at *
  exact p_bm (by omega) (by omega)
theorem p_rem {a d : Nat} (ha : a < 2 ^ 31) (h0 : 0 < d) (hd : d < 2 ^ 31) : nI a - nI a / nI d * nI d = nI (a % d) := by
  rw [p_div ha h0 hd, p_mul, p_sub (Nat.div_mul_le_self a d)]
  congr 1
  have := Nat.div_add_mod a d
  rw [Nat.mul_comm] at this
  omega
def cPut (S : CS) (p r : Nat) : CS :=
  let row := (S.R p).getD r pz
  if S.y 5 0 = 10 then cSes S (row 0) (row 1) (row 4)
  else cSl (row 0) (row 4) S (pBegins ((row 1).toInt.toNat / (S.x 11 0).toInt.toNat * (S.x 11 0).toInt.toNat) (S.x 11 0).toInt.toNat ((S.x 10 0).toInt.toNat / (S.x 11 0).toInt.toNat))
theorem cRipe_sesmon {S : CS} {k t a : Int32} : pSum S.cap ≤ pSum (cSes S k t a).cap := by
  unfold cSes
  try dsimp only [CS.mk_R, CS.mk_cap, CS.mk_x, CS.mk_y, CS.mk_g, CS.mk_eta]
  have hg : ∀ b e tot, pSum S.cap ≤ pSum (cGrow S k t b e tot).cap := fun b e tot => Nat.le_trans (cEnd_mon S k t) (Nat.le_trans (cAdd_mon _ k b e tot) (cRipe_mon _ _))
  split
  · split
    · exact hg _ _ _
    · exact Nat.le_refl _
  · split
    · exact Nat.le_trans (Nat.le_of_eq (cWin_sum S _).symm) (cRipe_mon _ _)
    · exact hg _ _ _
theorem cPut_mon (S : CS) (p r : Nat) : pSum S.cap ≤ pSum (cPut S p r).cap := by
  unfold cPut
  try dsimp only [CS.mk_R, CS.mk_cap, CS.mk_x, CS.mk_y, CS.mk_g, CS.mk_eta]
  split
  · exact cRipe_sesmon
  · exact cSl_mon _ _ _ _
theorem nI_back {n : Nat} (h : n < 2 ^ 31) : (nI n).toInt.toNat = n := by rw [nI_toInt h]; rfl
theorem c_put {S x y g} (h : RC S x y g) {p r t sz sl bc bs : Nat} (hp : p < 3) (hr : r < (S.R p).length) (hg : S.g 1 0 p = nI (r + 1)) (ht : ((S.R p).getD r pz) 1 = nI t) (ht2 : t < 1000) (hsz : S.x 10 0 = nI sz) (hsl : S.x 11 0 = nI sl) (hsl0 : 0 < sl) (hsz2 : sz < 100) (hsl2 : sl < 100) (h4 : (S.R 4).length + (S.R 5).length + 200 ≤ 4096) (hc : cOK S (cPut S p r) bc bs) {Φ : pK} (hΦ : ∀ x y g, RC (cPut S p r) x y g → Φ x y g) : wX0_putIntoWindows x y g (nI p) bc bs Φ := by
  have hle := h.n (q := p) (by omega)
  have hw : pwq p = 6 := by unfold pwq; rw [if_neg (by omega), if_neg (by omega)]
  unfold cPut at hc hΦ
  try dsimp only [CS.mk_R, CS.mk_cap, CS.mk_x, CS.mk_y, CS.mk_g, CS.mk_eta] at hc hΦ
  unfold wX0_putIntoWindows
  rw [p_cl (by omega), h.hg 1 (by omega), hg, show nI (r + 1) - 1 = nI r from nI_pred r]
  refine ⟨vp_in_nI (by omega) (by omega), vp_in_nI (by omega) (by omega), ?_⟩
  rintro _ rfl
  refine c_get h (k := 0) (by omega) hr (by omega) (c_get h (k := 1) (by omega) hr (by omega) (c_get h (k := 4) (by omega) hr (by omega) ?_))
  rw [h.hy 5 (by omega), h.hx 11 (by omega), h.hx 10 (by omega)]
  refine ⟨fun e => ⟨bc, bs, 0, 0, by omega, by omega, ?_⟩, fun e => ?_⟩
  · rw [if_pos e] at hc hΦ
    exact c_session h (by omega) hc hΦ
  · rw [if_neg e] at hc hΦ
    rw [hsl, hsz, ht, nI_back (by omega), nI_back (by omega), nI_back (by omega)] at hc hΦ
    rw [hsl, hsz, ht]
    refine ⟨fun c => absurd c (nI_nle hsl0 (by omega)), fun _ => ⟨nI_ne0 hsl0 (by omega), ?_⟩⟩
    have hd := Nat.div_add_mod t sl
    rw [Nat.mul_comm] at hd
    rw [p_rem (by omega) hsl0 (by omega), p_sub (by omega)]
    rintro _ rfl
    refine ⟨nI_ne0 hsl0 (by omega), ?_⟩
    rw [p_div (by omega) hsl0 (by omega)]
    rintro _ rfl
    have hdl : sz / sl ≤ sz := Nat.div_le_self _ _
    refine ⟨sz / sl + 1, ?_⟩
    have e2 : t - t % sl = t / sl * sl := by omega
    have e3 : nI (sz / sl) - 1 = pBck (sz / sl) := by rw [← pBack_m, Int32.sub_eq_add_neg]
    rw [e2, e3]
    exact c_slL (by omega) (by omega) (sz / sl) _ S x y g bc bs h (by omega) (by omega) hsl (by omega) (by omega) hc hΦ
def cTold (S : CS) (q : Nat) (k t v : Int32) : CS := cRw S q (S.R q ++ [upd (upd (upd pz 0 k) 1 t) 2 v]) (pgrow (S.cap q) (((S.R q).length + 1) * pwq q))
theorem c_putTold {S x y g} (h : RC S x y g) {q bc bs : Nat} {k t v : Int32} (hq : q < 4) (hn : (S.R q).length < 4096) (hc : cOK S (cTold S q k t v) bc bs) {Φ : pK} (hΦ : ∀ x y g, RC (cTold S q k t v) x y g → Φ x y g) : wX8_putTold x y g q k t v bc bs Φ := by
  have hw : 3 ≤ pwq q := by unfold pwq; split <;> (try split) <;> omega
  have hc2 : cOK S (cIns S q (S.R q).length) bc bs := ⟨hc.c, hc.s⟩
  unfold wX8_putTold
  rw [h.len (by omega)]
  rintro _ rfl
  refine ⟨bc, bs, 0, 0, by omega, by omega, c_insert h (by omega) (Nat.le_refl _) hn hc2 fun x y g h1 => ?_⟩
  refine c_setIns h1 (k := 0) (by omega) (Nat.le_refl _) (by omega) fun x y g h1 => ?_
  refine c_setIns h1 (k := 1) (by omega) (Nat.le_refl _) (by omega) fun x y g h1 => ?_
  refine c_setIns h1 (k := 2) (by omega) (Nat.le_refl _) (by omega) fun x y g h1 => hΦ x y g ?_
  rw [p_insLen] at h1
  exact h1
def cCut (S : CS) (q m : Nat) : CS := cRw S q ((S.R q).take m) (S.cap q)
def cBeg (S : CS) (i : Nat) : CS := uX (uX (uX (uX (cCut (cG (cG S 1 i (upd (upd (upd (S.g 1 i) 0 0) 1 0) 2 0)) 2 i (upd (upd (upd (S.g 2 i) 0 0) 1 0) 2 0)) (5 + i) 0) 2 i (-1)) 3 i 0) 4 i 0) 5 i (-1)
theorem cG_cG (S : CS) (k i : Nat) (f f' : Nat → Int32) : cG (cG S k i f) k i f' = cG S k i f' := by simp only [CS.mk_R, CS.mk_cap, CS.mk_x, CS.mk_y, CS.mk_g, CS.mk_eta, cG, p_ug, p_uu]
theorem cG_comm (S : CS) {k k' : Nat} (i i' : Nat) (f f' : Nat → Int32) (h : k ≠ k') : cG (cG S k i f) k' i' f' = cG (cG S k' i' f') k i f := by
  simp only [CS.mk_R, CS.mk_cap, CS.mk_x, CS.mk_y, CS.mk_g, CS.mk_eta, cG, p_un _ _ h, p_un _ _ (Ne.symm h)]
  rw [p_comm _ h]
theorem cG_g (S : CS) (k i : Nat) (f : Nat → Int32) : (cG S k i f).g k i = f := by simp only [CS.mk_R, CS.mk_cap, CS.mk_x, CS.mk_y, CS.mk_g, CS.mk_eta, cG, p_ug]
theorem cG_gn (S : CS) {k k' : Nat} (i i' : Nat) (f : Nat → Int32) (h : k' ≠ k) : (cG S k i f).g k' i' = S.g k' i' := by simp only [CS.mk_R, CS.mk_cap, CS.mk_x, CS.mk_y, CS.mk_g, CS.mk_eta, cG, p_un _ _ h]
theorem c_begL {i : Nat} (hi : i < 7) {Φ : pK} : ∀ (j n a : Nat) (S : CS) (x : Nat → Nat → Int32) (y : Nat → Nat → Nat) (g : Nat → Nat → Nat → Int32), RC S x y g → a + j = 3 → j < n → (∀ x y g, RC (uX (uX (uX (uX (cCut (cG (cG S 1 i ((List.range' a j).foldl (fun f m => upd f m 0) (S.g 1 i))) 2 i ((List.range' a j).foldl (fun f m => upd f m 0) (S.g 2 i))) (5 + i) 0) 2 i (-1)) 3 i 0) 4 i 0) 5 i (-1)) x y g → Φ x y g) → lX6_beginAnew_2 Φ n x y g i (nI a) := by
  intro j
  induction j with
  | zero =>
    intro n a S x y g h haj hjn hΦ
    obtain ⟨n, rfl⟩ : ∃ n', n = n' + 1 := ⟨n - 1, by omega⟩
    have ha : a = 3 := by omega
    subst ha
    refine ⟨fun _ => c_cutTo h (q := 5 + i) (m := 0) (by omega) (by omega) fun x y g h1 => ?_, fun c => absurd (show (3 : Int32) ≤ nI 3 from by decide) c⟩
    have h2 := (((h1.X (k := 2) (i := i) (v := -1) (by omega)).X (k := 3) (i := i) (v := 0) (by omega)).X (k := 4) (i := i) (v := 0) (by omega)).X (k := 5) (i := i) (v := -1) (by omega)
    simp only [CS.mk_R, CS.mk_cap, CS.mk_x, CS.mk_y, CS.mk_g, CS.mk_eta, p_un _ _ (show (3 : Nat) ≠ 2 by decide), p_un _ _ (show (4 : Nat) ≠ 2 by decide), p_un _ _ (show (4 : Nat) ≠ 3 by decide), p_un _ _ (show (5 : Nat) ≠ 2 by decide), p_un _ _ (show (5 : Nat) ≠ 3 by decide), p_un _ _ (show (5 : Nat) ≠ 4 by decide)] at h2
    refine hΦ _ _ _ ?_
    simp only [CS.mk_R, CS.mk_cap, CS.mk_x, CS.mk_y, CS.mk_g, CS.mk_eta, List.range'_zero, List.foldl_nil]
    have e1 : cG (cG S 1 i (S.g 1 i)) 2 i (S.g 2 i) = S := by simp only [CS.mk_R, CS.mk_cap, CS.mk_x, CS.mk_y, CS.mk_g, CS.mk_eta, cG, p_us, p_un _ _ (show (2 : Nat) ≠ 1 by decide)]
    rw [e1]
    exact h2
  | succ j ih =>
    intro n a S x y g h haj hjn hΦ
    obtain ⟨n, rfl⟩ : ∃ n', n = n' + 1 := ⟨n - 1, by omega⟩
    refine ⟨fun c => absurd (show nI 3 ≤ nI a from c) (nI_ge (by omega) (by omega)), fun _ => ⟨vp_in_nI (by omega) (by omega), vp_in_nI (by omega) (by omega), ?_⟩⟩
    rintro _ rfl
    rw [nI_1, p_cl (by omega)]
    have h2 := (h.G (k := 1) (i := i) (f := upd (g 1 i) a 0) (by omega)).G (k := 2) (i := i) (f := upd (g 2 i) a 0) (by omega)
    rw [p_un _ _ (show (2 : Nat) ≠ 1 by decide)] at h2
    refine ih n (a + 1) _ _ _ _ h2 (by omega) (by omega) fun x y g h3 => hΦ x y g ?_
    rw [cG_g, cG_gn _ _ _ _ (show (1 : Nat) ≠ 2 by decide), cG_g, h.hg 1 (by omega), h.hg 2 (by omega), cG_comm _ _ _ _ _ (show (2 : Nat) ≠ 1 by decide), cG_cG, cG_cG] at h3
    simp only [CS.mk_R, CS.mk_cap, CS.mk_x, CS.mk_y, CS.mk_g, CS.mk_eta, List.range'_succ, List.foldl_cons]
    exact h3
theorem c_beginAnew {S x y g} (h : RC S x y g) {i : Nat} (hi : i < 7) {Φ : pK} (hΦ : ∀ x y g, RC (cBeg S i) x y g → Φ x y g) : wX6_beginAnew x y g i Φ :=
  ⟨4, c_begL hi 3 4 0 S x y g h (by omega) (by omega) hΦ⟩
def cpy3 (f h : Nat → Int32) : Nat → Int32 := upd (upd (upd f 0 (h 0)) 1 (h 1)) 2 (h 2)
def cCpS (S : CS) (i j : Nat) : CS := uX (uX (uX (uX (cCopy (cG (cG S 1 i (cpy3 (S.g 1 i) (S.g 1 j))) 2 i (cpy3 (S.g 2 i) (S.g 2 j))) (5 + i) (5 + j)) 2 i (S.x 2 j)) 3 i (S.x 3 j)) 4 i (S.x 4 j)) 5 i (S.x 5 j)
theorem c_cpL {i j : Nat} (hi : i < 7) (hj : j < 7) (hij : j ≠ i) {bc bs : Nat} (h1f h2f : Nat → Int32) {Φ : pK} : ∀ (m n a : Nat) (S : CS) (x : Nat → Nat → Int32) (y : Nat → Nat → Nat) (g : Nat → Nat → Nat → Int32), RC S x y g → S.g 1 j = h1f → S.g 2 j = h2f → a + m = 3 → m < n → cOK S (cCopy S (5 + i) (5 + j)) bc bs → (∀ x y g, RC (uX (uX (uX (uX (cCopy (cG (cG S 1 i ((List.range' a m).foldl (fun f m => upd f m (h1f m)) (S.g 1 i))) 2 i ((List.range' a m).foldl (fun f m => upd f m (h2f m)) (S.g 2 i))) (5 + i) (5 + j)) 2 i (S.x 2 j)) 3 i (S.x 3 j)) 4 i (S.x 4 j)) 5 i (S.x 5 j)) x y g → Φ x y g) → lX6_copyFrom_2 Φ n x y g i j (nI a) bc bs := by
  intro m
  induction m with
  | zero =>
    intro n a S x y g h e1 e2 ham hmn hc hΦ
    obtain ⟨n, rfl⟩ : ∃ n', n = n' + 1 := ⟨n - 1, by omega⟩
    have ha : a = 3 := by omega
    subst ha
    have hw : ∀ k, pwq (5 + k) = 6 := fun k => by unfold pwq; rw [if_neg (by omega), if_neg (by omega)]
    refine ⟨fun _ => ⟨bc, bs, 0, 0, by omega, by omega, c_copyFrom h (q := 5 + i) (q' := 5 + j) (by omega) (by omega) (by rw [hw, hw]) (by omega) hc fun x y g h1 => ?_⟩, fun c => absurd (show (3 : Int32) ≤ nI 3 from by decide) c⟩
    have h2 := (((h1.X (k := 2) (i := i) (v := x 2 j) (by omega)).X (k := 3) (i := i) (v := x 3 j) (by omega)).X (k := 4) (i := i) (v := x 4 j) (by omega)).X (k := 5) (i := i) (v := x 5 j) (by omega)
    simp only [CS.mk_R, CS.mk_cap, CS.mk_x, CS.mk_y, CS.mk_g, CS.mk_eta, p_un _ _ (show (3 : Nat) ≠ 2 by decide), p_un _ _ (show (4 : Nat) ≠ 2 by decide), p_un _ _ (show (4 : Nat) ≠ 3 by decide), p_un _ _ (show (5 : Nat) ≠ 2 by decide), p_un _ _ (show (5 : Nat) ≠ 3 by decide), p_un _ _ (show (5 : Nat) ≠ 4 by decide)] at h2
    refine hΦ _ _ _ ?_
    simp only [CS.mk_R, CS.mk_cap, CS.mk_x, CS.mk_y, CS.mk_g, CS.mk_eta, List.range'_zero, List.foldl_nil]
    have e3 : cG (cG S 1 i (S.g 1 i)) 2 i (S.g 2 i) = S := by simp only [CS.mk_R, CS.mk_cap, CS.mk_x, CS.mk_y, CS.mk_g, CS.mk_eta, cG, p_us, p_un _ _ (show (2 : Nat) ≠ 1 by decide)]
    rw [e3]
    have ex : ∀ k, 2 ≤ k → x k j = S.x k j := fun k hk => by rw [h1.hx k hk]; rfl
    rw [ex 2 (by omega), ex 3 (by omega), ex 4 (by omega), ex 5 (by omega)] at h2
    rw [ex 2 (by omega), ex 3 (by omega), ex 4 (by omega), ex 5 (by omega)]
    exact h2
  | succ m ih =>
    intro n a S x y g h e1 e2 ham hmn hc hΦ
    obtain ⟨n, rfl⟩ : ∃ n', n = n' + 1 := ⟨n - 1, by omega⟩
    refine ⟨fun c => absurd (show nI 3 ≤ nI a from c) (nI_ge (by omega) (by omega)), fun _ => ⟨vp_in_nI (by omega) (by omega), vp_in_nI (by omega) (by omega), vp_in_nI (by omega) (by omega), vp_in_nI (by omega) (by omega), ?_⟩⟩
    rintro _ rfl
    rw [nI_1, p_cl (by omega)]
    have h2 := (h.G (k := 1) (i := i) (f := upd (g 1 i) a (h1f a)) (by omega)).G (k := 2) (i := i) (f := upd (g 2 i) a (h2f a)) (by omega)
    rw [p_un _ _ (show (2 : Nat) ≠ 1 by decide)] at h2
    rw [show g 1 j a = h1f a by rw [h.hg 1 (by omega), e1], show g 2 j a = h2f a by rw [h.hg 2 (by omega), e2]]
    refine ih n (a + 1) _ _ _ _ h2 ?_ ?_ (by omega) (by omega) ?_ fun x y g h3 => hΦ x y g ?_
    · rw [cG_gn _ _ _ _ (show (1 : Nat) ≠ 2 by decide), cG]
      simp only [CS.mk_R, CS.mk_cap, CS.mk_x, CS.mk_y, CS.mk_g, CS.mk_eta, p_ug, p_un _ _ hij]
      exact e1
    · rw [cG]
      simp only [CS.mk_R, CS.mk_cap, CS.mk_x, CS.mk_y, CS.mk_g, CS.mk_eta, p_ug, p_un _ _ hij, cG_gn _ _ _ _ (show (2 : Nat) ≠ 1 by decide)]
      exact e2
    · exact ⟨hc.c, hc.s⟩
    · rw [cG_g, cG_gn _ _ _ _ (show (1 : Nat) ≠ 2 by decide), cG_g, h.hg 1 (by omega), h.hg 2 (by omega), cG_comm _ _ _ _ _ (show (2 : Nat) ≠ 1 by decide), cG_cG, cG_cG] at h3
      simp only [CS.mk_R, CS.mk_cap, CS.mk_x, CS.mk_y, CS.mk_g, CS.mk_eta, List.range'_succ, List.foldl_cons]
      exact h3
theorem c_copyS {S x y g} (h : RC S x y g) {i j bc bs : Nat} (hi : i < 7) (hj : j < 7) (hij : j ≠ i) (hc : cOK S (cCpS S i j) bc bs) {Φ : pK} (hΦ : ∀ x y g, RC (cCpS S i j) x y g → Φ x y g) : wX6_copyFrom x y g i j bc bs Φ :=
  ⟨4, c_cpL hi hj hij (S.g 1 j) (S.g 2 j) 3 4 0 S x y g h rfl rfl (by omega) (by omega) (hc.rebase rfl) hΦ⟩
theorem cCpS_mon (S : CS) {i j : Nat} (hi : i < 7) : pSum S.cap ≤ pSum (cCpS S i j).cap := cMon_rw (S := S) (q := 5 + i) (S.R (5 + j)) (by omega) (pgrow_ge _ _)
def cTake (S : CS) (k m : Nat) : CS :=
  uX (uX (uX (uX (cCpS S (S.y 7 k) 0) 4 (S.y 7 k) (nI m)) 5 (S.y 7 k) (S.x 14 0)) 13 0 (nI (k + 1))) 14 0 (S.x 14 0 + 1)
theorem c_take {S x y g} (h : RC S x y g) {k m bc bs : Nat} (hk : k < 5) (hx : S.x 13 0 = nI k) (hy : S.y 7 k < 7) (hy0 : S.y 7 k ≠ 0) (hc : cOK S (cTake S k m) bc bs) {Φ : Int32 → pK} (hΦ : ∀ x y g, RC (cTake S k m) x y g → Φ (S.x 14 0) x y g) : wX5_take x y g 0 (nI m) bc bs Φ := by
  unfold wX5_take
  rw [h.hx 13 (by omega), hx, p_cl (by omega), h.hy 7 (by omega)]
  refine ⟨fun _ => ⟨vp_in_nI (by omega) (by omega), hy, bc, bs, 0, 0, by omega, by omega, c_copyS h hy (by omega) (Ne.symm hy0) (hc.rebase rfl) fun x y g h1 => ?_⟩, fun c => absurd (show nI k < nI 5 from nI_lt hk (by omega)) c⟩
  have e14 : x 14 0 = S.x 14 0 := by rw [h1.hx 14 (by omega)]; rfl
  have e13 : x 13 0 = nI k := by rw [h1.hx 13 (by omega)]; exact hx
  have h2 := (((h1.X (k := 4) (i := S.y 7 k) (v := nI m) (by omega)).X (k := 5) (i := S.y 7 k) (v := S.x 14 0) (by omega)).X (k := 13) (i := 0) (v := nI (k + 1)) (by omega)).X (k := 14) (i := 0) (v := S.x 14 0 + 1) (by omega)
  simp only [CS.mk_R, CS.mk_cap, CS.mk_x, CS.mk_y, CS.mk_g, CS.mk_eta, p_un _ _ (show (5 : Nat) ≠ 4 by decide), p_un _ _ (show (13 : Nat) ≠ 4 by decide), p_un _ _ (show (13 : Nat) ≠ 5 by decide), p_un _ _ (show (14 : Nat) ≠ 4 by decide), p_un _ _ (show (14 : Nat) ≠ 5 by decide), p_un _ _ (show (14 : Nat) ≠ 13 by decide)] at h2
  rw [e13, e14, p_ug, nI_1]
  exact hΦ _ _ _ h2
def cPlace (S : CS) (v : Int32) : Nat → Nat → Option Nat
  | 0, _ => none
  | m + 1, i => if S.x 5 (S.y 7 i) = v then some i else cPlace S v m (i + 1)
theorem c_plL {S x y g} (h : RC S x y g) {v : Int32} {c : Nat} (hc : c ≤ 5) (hx : S.x 13 0 = nI c) (hy : ∀ i, i < 5 → S.y 7 i < 7) {Φ : Int32 → Prop} : ∀ (m n i : Nat), i + m = c → m < n → Φ (oI (cPlace S v m i)) → lX5_placeOf_2 Φ n x y g v (nI i) := by
  intro m
  induction m with
  | zero =>
    intro n i him hmn hΦ
    obtain ⟨n, rfl⟩ : ∃ n', n = n' + 1 := ⟨n - 1, by omega⟩
    simp only [CS.mk_R, CS.mk_cap, CS.mk_x, CS.mk_y, CS.mk_g, CS.mk_eta, lX5_placeOf_2, h.hx 13 (by omega), hx]
    exact ⟨fun _ => hΦ, fun e => absurd (nI_le (by omega) (by omega)) e⟩
  | succ m ih =>
    intro n i him hmn hΦ
    obtain ⟨n, rfl⟩ : ∃ n', n = n' + 1 := ⟨n - 1, by omega⟩
    simp only [CS.mk_R, CS.mk_cap, CS.mk_x, CS.mk_y, CS.mk_g, CS.mk_eta, lX5_placeOf_2, h.hx 13 (by omega), hx, p_cl (show i < 2 ^ 31 by omega), h.hy 7 (by omega), h.hx 5 (by omega)]
    simp only [CS.mk_R, CS.mk_cap, CS.mk_x, CS.mk_y, CS.mk_g, CS.mk_eta, cPlace] at hΦ
    refine ⟨fun e => absurd e (nI_ge (by omega) (by omega)), fun _ => ⟨vp_in_nI (by omega) (by omega), hy i (by omega), fun e => ?_, fun e => ?_⟩⟩
    · rw [if_pos e] at hΦ; exact hΦ
    · rw [if_neg e] at hΦ
      rintro _ rfl
      rw [nI_1]
      exact ih n (i + 1) (by omega) (by omega) hΦ
theorem c_placeOf {S x y g} (h : RC S x y g) {v : Int32} {c : Nat} (hc : c ≤ 5) (hx : S.x 13 0 = nI c) (hy : ∀ i, i < 5 → S.y 7 i < 7) {Φ : Int32 → Prop} (hΦ : Φ (oI (cPlace S v c 0))) : wX5_placeOf x y g v Φ :=
  ⟨c + 1, c_plL h hc hx hy c _ 0 (by omega) (by omega) hΦ⟩
def cSwap (S : CS) (i j : Nat) : CS := cY (cY S 7 i (S.y 7 j)) 7 j (S.y 7 i)
def cRot (d : Nat) : CS → Nat → Nat → CS
  | S, 0, _ => S
  | S, m + 1, i => cRot d (cSwap S i (i + d)) m (i + 1)
theorem cRot_same (d : Nat) (S : CS) (m i : Nat) : (cRot d S m i).x = S.x ∧ (cRot d S m i).g = S.g ∧ (cRot d S m i).R = S.R ∧ (cRot d S m i).cap = S.cap ∧ (∀ k, k ≠ 7 → (cRot d S m i).y k = S.y k) := by
  induction m generalizing S i with
  | zero => exact ⟨rfl, rfl, rfl, rfl, fun _ _ => rfl⟩
  | succ m ih =>
    obtain ⟨h1, h2, h3, h4, h5⟩ := ih (cSwap S i (i + d)) (i + 1)
    refine ⟨h1, h2, h3, h4, fun k hk => ?_⟩
    rw [cRot, h5 k hk]
    simp only [CS.mk_R, CS.mk_cap, CS.mk_x, CS.mk_y, CS.mk_g, CS.mk_eta, cSwap, cY, p_un _ _ hk]
theorem c_rotL {c d : Nat} (hc : c ≤ 5) {bc bs : Nat} {Φ : pK} : ∀ (m n i : Nat) (S : CS) (x : Nat → Nat → Int32) (y : Nat → Nat → Nat) (g : Nat → Nat → Nat → Int32), RC S x y g → S.x 13 0 = nI c → (∀ i, i < 5 → S.y 7 i < 7) → d ≤ c → i + m = c - d → m < n → (∀ x y g, RC (uX (cRot d S m i) 13 0 (nI (c - d))) x y g → Φ x y g) → lX5_completeAt_32 Φ n x y g (nI d) (nI i) bc bs := by
  intro m
  induction m with
  | zero =>
    intro n i S x y g h hx hy hd him hmn hΦ
    obtain ⟨n, rfl⟩ : ∃ n', n = n' + 1 := ⟨n - 1, by omega⟩
    simp only [CS.mk_R, CS.mk_cap, CS.mk_x, CS.mk_y, CS.mk_g, CS.mk_eta, lX5_completeAt_32, h.hx 13 (by omega), hx, nI_add]
    refine ⟨fun _ => ?_, fun e => absurd (nI_le (by omega) (by omega)) e⟩
    rw [p_sub hd]
    have h1 := h.X (k := 13) (i := 0) (v := nI (c - d)) (by omega)
    rw [h.hx 13 (by omega)] at h1
    exact hΦ _ _ _ h1
  | succ m ih =>
    intro n i S x y g h hx hy hd him hmn hΦ
    obtain ⟨n, rfl⟩ : ∃ n', n = n' + 1 := ⟨n - 1, by omega⟩
    simp only [CS.mk_R, CS.mk_cap, CS.mk_x, CS.mk_y, CS.mk_g, CS.mk_eta, lX5_completeAt_32, h.hx 13 (by omega), hx, nI_add, p_cl (show i < 2 ^ 31 by omega), p_cl (show i + d < 2 ^ 31 by omega), h.hy 7 (by omega)]
    refine ⟨fun e => absurd e (nI_ge (by omega) (by omega)), fun _ => ⟨vp_in_nI (by omega) (by omega), hy i (by omega), vp_in_nI (by omega) (by omega), hy (i + d) (by omega), vp_in_nI (by omega) (by omega), vp_in_nI (by omega) (by omega), ?_⟩⟩
    rintro _ rfl
    rw [nI_1]
    have h1 := (h.Y (k := 7) (i := i) (v := S.y 7 (i + d)) (by omega)).Y (k := 7) (i := i + d) (v := S.y 7 i) (by omega)
    rw [p_ug, h.hy 7 (by omega)] at h1
    refine ih n (i + 1) (cSwap S i (i + d)) _ _ _ h1 hx ?_ hd (by omega) (by omega) hΦ
    intro j hj
    simp only [CS.mk_R, CS.mk_cap, CS.mk_x, CS.mk_y, CS.mk_g, CS.mk_eta, cSwap, cY, p_ug]
    unfold va_up
    split
    · exact hy i (by omega)
    · split
      · exact hy (i + d) (by omega)
      · exact hy j hj
def cCompl (S : CS) (c p : Nat) : CS := uX (cRot (p + 1) (cCpS S 1 (S.y 7 p)) (c - (p + 1)) 0) 13 0 (nI (c - (p + 1)))
theorem c_completeAt {S x y g} (h : RC S x y g) {c p bc bs : Nat} (hc5 : c ≤ 5) (hp : p < c) (hx : S.x 13 0 = nI c) (hy : ∀ i, i < 5 → S.y 7 i < 7) (hy1 : S.y 7 p ≠ 1) (hc : cOK S (cCpS S 1 (S.y 7 p)) bc bs) {Φ : pK} (hΦ : ∀ x y g, RC (cCompl S c p) x y g → Φ x y g) : wX5_completeAt x y g (nI p) bc bs Φ := by
  unfold wX5_completeAt
  rw [h.hx 13 (by omega), hx, p_cl (by omega), h.hy 7 (by omega)]
  refine ⟨fun e => absurd e (nI_pos (by omega)), fun _ => ⟨fun _ => ⟨vp_in_nI (by omega) (by omega), hy p (by omega), bc, bs, 0, 0, by omega, by omega, c_copyS h (by omega) (hy p (by omega)) hy1 hc fun x y g h1 => ?_⟩, fun e => absurd (nI_lt hp (by omega)) e⟩⟩
  rintro _ rfl
  rw [nI_1]
  exact ⟨c - (p + 1) + 1, c_rotL hc5 (c - (p + 1)) _ 0 (cCpS S 1 (S.y 7 p)) x y g h1 hx hy (by omega) (by omega) (by omega) hΦ⟩
def cClosed (S : CS) (c : Nat) : Int32 := if c = 0 then S.x 4 1 else S.x 4 (S.y 7 (c - 1))
theorem c_closed {S x y g} (h : RC S x y g) {c : Nat} (hc5 : c ≤ 5) (hx : S.x 13 0 = nI c) (hy : ∀ i, i < 5 → S.y 7 i < 7) {Φ : Int32 → Prop} (hΦ : Φ (cClosed S c)) : wX5_closedResults x y g Φ := by
  unfold wX5_closedResults
  unfold cClosed at hΦ
  rw [h.hx 13 (by omega), hx, h.hx 4 (by omega), h.hy 7 (by omega)]
  refine ⟨fun e => ?_, fun e => ?_⟩
  · have : c = 0 := by
      have := (nI_leI (a := c) (b := 0) (by omega) (by omega)).1 e
      omega
    rw [if_pos this] at hΦ; exact hΦ
  · have hc0 : c ≠ 0 := fun e2 => e (by rw [e2]; decide)
    rw [if_neg hc0] at hΦ
    have e3 : nI c - 1 = nI (c - 1) := p_sub (a := c) (b := 1) (by omega)
    rw [e3, p_cl (by omega)]
    exact ⟨vp_in_nI (by omega) (by omega), hy _ (by omega), hΦ⟩
def trStep (k b : Int32) (tot : Int32) (r : pRow) : Int32 := if r 0 = k ∧ r 1 = b then (if r 4 = 0 then r 3 else if r 4 = 1 then tot + r 3 else tot - r 3) else tot
theorem c_trL {S x y g} (h : RC S x y g) {k b : Int32} {Φ : Int32 → Prop} : ∀ (B : List pRow) (n i : Nat) (v : Int32), (S.R 4).drop i = B → i + B.length = (S.R 4).length → B.length < n → Φ (B.foldl (trStep k b) v) → lX0_totalOfResults_5 Φ n x y g k b v (nI i) := by
  have hle := h.n (q := 4) (by omega)
  intro B
  induction B with
  | nil =>
    intro n i v hd hi hn hΦ
    obtain ⟨n, rfl⟩ : ∃ n', n = n' + 1 := ⟨n - 1, by omega⟩
    simp only [CS.mk_R, CS.mk_cap, CS.mk_x, CS.mk_y, CS.mk_g, CS.mk_eta, List.length_nil, Nat.add_zero] at hi
    simp only [CS.mk_R, CS.mk_cap, CS.mk_x, CS.mk_y, CS.mk_g, CS.mk_eta, lX0_totalOfResults_5, h.len (q := 4) (by omega), hi]
    exact ⟨fun _ => hΦ, fun c => absurd (nI_le (Nat.le_refl _) (by omega)) c⟩
  | cons r B ih =>
    intro n i v hd hi hn hΦ
    simp only [CS.mk_R, CS.mk_cap, CS.mk_x, CS.mk_y, CS.mk_g, CS.mk_eta, List.length_cons] at hi hn
    obtain ⟨n, rfl⟩ : ∃ n', n = n' + 1 := ⟨n - 1, by omega⟩
    obtain ⟨hg, hd2, hlt⟩ := p_dropS hd
    simp only [CS.mk_R, CS.mk_cap, CS.mk_x, CS.mk_y, CS.mk_g, CS.mk_eta, List.foldl_cons] at hΦ
    simp only [CS.mk_R, CS.mk_cap, CS.mk_x, CS.mk_y, CS.mk_g, CS.mk_eta, lX0_totalOfResults_5, h.len (q := 4) (by omega)]
    have nxt : ∀ v2, trStep k b v r = v2 → ∀ w : Int32, w = nI i + 1 → lX0_totalOfResults_5 Φ n x y g k b v2 w := by
      rintro v2 e _ rfl
      rw [e] at hΦ
      rw [nI_1]
      exact ih n (i + 1) v2 hd2 (by omega) (by omega) hΦ
    refine ⟨fun c => absurd c (nI_ge hlt (by omega)), fun _ => c_get h (k := 0) (by omega) hlt (by decide) ?_⟩
    rw [hg]
    refine ⟨fun a => c_get h (k := 1) (by omega) hlt (by decide) ?_, fun a => nxt v ?_⟩
    · rw [hg]
      refine ⟨fun a2 => c_get h (k := 3) (by omega) hlt (by decide) (c_get h (k := 4) (by omega) hlt (by decide) ?_), fun a2 => nxt v ?_⟩
      · rw [hg]
        refine ⟨fun c => nxt _ ?_, fun c => ⟨fun d => ?_, fun d => ?_⟩⟩
        · unfold trStep; rw [if_pos ⟨a, a2⟩, if_pos c]
        · rintro _ rfl
          exact nxt _ (by unfold trStep; rw [if_pos ⟨a, a2⟩, if_neg c, if_pos d])
        · rintro _ rfl
          exact nxt _ (by unfold trStep; rw [if_pos ⟨a, a2⟩, if_neg c, if_neg d])
      · unfold trStep; rw [if_neg (fun e => a2 e.2)]
    · unfold trStep; rw [if_neg (fun e => a e.1)]
theorem c_totalOfResults {S x y g} (h : RC S x y g) {k b : Int32} {Φ : Int32 → Prop} (hΦ : Φ ((S.R 4).foldl (trStep k b) 0)) : wX0_totalOfResults x y g k b Φ :=
  ⟨(S.R 4).length + 1, c_trL h (S.R 4) _ 0 0 rfl (by omega) (by omega) hΦ⟩
abbrev pIn (sz k b : Int32) (r : pRow) : Prop := r 3 = 1 ∧ r 0 = k ∧ ¬ r 1 < b ∧ ¬ b + sz ≤ r 1 ∧ ¬ b + sz ≤ r 5
def teStep (S : CS) (k b : Int32) (acc : Option Int32) (r : pRow) : Option Int32 := if pIn (S.x 10 0) k b r then some (match acc with | none => r 4 | some t => cFold S t (r 4)) else acc
theorem te_pos {S : CS} {k b : Int32} {acc : Option Int32} {r : pRow} (a : pIn (S.x 10 0) k b r) : teStep S k b acc r = some (match acc with | none => r 4 | some t => cFold S t (r 4)) := if_pos a
theorem te_neg {S : CS} {k b : Int32} {acc : Option Int32} {r : pRow} (a : ¬ pIn (S.x 10 0) k b r) : teStep S k b acc r = acc := if_neg a
def pAcc (acc : Option Int32) (v3 v4 : Int32) : Prop := (acc = none ∧ v4 = 1 ∧ v3 = 0) ∨ (v4 = 0 ∧ acc = some v3)
theorem c_isIn {S x y g} (h : RC S x y g) {p i : Nat} (hp : p < 3) (hi : i < (S.R p).length) {k b : Int32} {Φ : Int32 → Prop} (h1 : pIn (S.x 10 0) k b ((S.R p).getD i pz) → Φ 1) (h0 : ¬ pIn (S.x 10 0) k b ((S.R p).getD i pz) → Φ 0) : wX0_isIn x y g p (nI i) k b Φ := by
  have hw : pwq p = 6 := by unfold pwq; rw [if_neg (by omega), if_neg (by omega)]
  unfold wX0_isIn
  rw [h.hx 10 (by omega)]
  rintro _ rfl
  exact c_get h (k := 3) (by omega) hi (by omega) ⟨fun a => c_get h (k := 0) (by omega) hi (by omega) ⟨fun a2 => c_get h (k := 1) (by omega) hi (by omega) ⟨fun c => h0 fun e => e.2.2.1 c, fun a3 => c_get h (k := 1) (by omega) hi (by omega) ⟨fun c => h0 fun e => e.2.2.2.1 c, fun a4 => c_get h (k := 5) (by omega) hi (by omega) ⟨fun c => h0 fun e => e.2.2.2.2 c, fun a5 => h1 ⟨a, a2, a3, a4, a5⟩⟩⟩⟩, fun c => h0 fun e => c e.2.1⟩, fun c => h0 fun e => c e.1⟩
theorem c_te84 {S x y g} (h : RC S x y g) {k b : Int32} {p rd : Nat} (hp : p < 3) (hrd : rd ≤ (S.R p).length) (hg1 : S.g 1 0 p = nI rd) {W63 : (Nat → Nat → Int32) → (Nat → Nat → Nat) → (Nat → Nat → Nat → Int32) → Int32 → Int32 → Int32 → Int32 → Int32 → Prop} {Φ : Int32 → Prop} : ∀ (m n i : Nat) (acc : Option Int32) (v3 v4 : Int32), i + m = rd → m < n → pAcc acc v3 v4 → (∀ v3 v4, pAcc ((((S.R p).take rd).drop i).foldl (teStep S k b) acc) v3 v4 → W63 x y g k b v3 v4 (nI (p + 1))) → lX0_totalOfEvents_84 W63 Φ n x y g k b v3 v4 (nI p) p (nI i) := by
  have hle := h.n (q := p) (by omega)
  have hw : pwq p = 6 := by unfold pwq; rw [if_neg (by omega), if_neg (by omega)]
  intro m
  induction m with
  | zero =>
    intro n i acc v3 v4 him hmn ha hW
    obtain ⟨n, rfl⟩ : ∃ n', n = n' + 1 := ⟨n - 1, by omega⟩
    simp only [CS.mk_R, CS.mk_cap, CS.mk_x, CS.mk_y, CS.mk_g, CS.mk_eta, lX0_totalOfEvents_84, p_cl (show p < 2 ^ 31 by omega), h.hg 1 (by omega), hg1]
    refine ⟨vp_in_nI (by omega) (by omega), fun _ => ?_, fun c => absurd (nI_le (by omega) (by omega)) c⟩
    rintro _ rfl
    rw [nI_1]
    refine hW v3 v4 ?_
    rw [List.drop_eq_nil_of_le (by rw [List.length_take]; omega)]
    exact ha
  | succ m ih =>
    intro n i acc v3 v4 him hmn ha hW
    obtain ⟨n, rfl⟩ : ∃ n', n = n' + 1 := ⟨n - 1, by omega⟩
    have hi : i < (S.R p).length := by omega
    have hcons : ((S.R p).take rd).drop i = (S.R p).getD i pz :: ((S.R p).take rd).drop (i + 1) := by
      rw [List.drop_eq_getElem_cons (by rw [List.length_take]; omega), List.getElem_take]
      congr 1
      simp [CS.mk_R, CS.mk_cap, CS.mk_x, CS.mk_y, CS.mk_g, CS.mk_eta, List.getD, hi]
    rw [hcons, List.foldl_cons] at hW
    simp only [CS.mk_R, CS.mk_cap, CS.mk_x, CS.mk_y, CS.mk_g, CS.mk_eta, lX0_totalOfEvents_84, p_cl (show p < 2 ^ 31 by omega), h.hg 1 (by omega), hg1]
    refine ⟨vp_in_nI (by omega) (by omega), fun c => absurd c (nI_ge (by omega) (by omega)), fun _ => c_isIn h hp hi (fun a => ?_) (fun a => ?_)⟩
    · refine ⟨fun c => absurd c (by decide), fun _ => c_get h (k := 4) (by omega) hi (by omega) ?_⟩
      rcases ha with ⟨rfl, rfl, rfl⟩ | ⟨rfl, rfl⟩
      · refine ⟨fun c => absurd c (by decide), fun _ => ?_⟩
        rintro _ rfl
        rw [nI_1]
        refine ih n (i + 1) _ _ 0 (by omega) (by omega) (.inr ⟨rfl, rfl⟩) ?_
        rw [te_pos a] at hW
        exact hW
      · refine ⟨fun _ => c_fold h ?_, fun c => absurd rfl c⟩
        rintro _ rfl
        rw [nI_1]
        refine ih n (i + 1) _ _ 0 (by omega) (by omega) (.inr ⟨rfl, rfl⟩) ?_
        rw [te_pos a] at hW
        exact hW
    · refine ⟨fun _ => ?_, fun c => absurd rfl c⟩
      rintro _ rfl
      rw [nI_1]
      refine ih n (i + 1) acc v3 v4 (by omega) (by omega) ha ?_
      rw [te_neg a] at hW
      exact hW
theorem c_te63 {S x y g} (h : RC S x y g) {k b : Int32} {rd : Nat → Nat} (hrd : ∀ p, p < 3 → rd p ≤ (S.R p).length) (hg1 : ∀ p, p < 3 → S.g 1 0 p = nI (rd p)) {Φ : Int32 → Prop} : ∀ (m n p : Nat) (acc : Option Int32) (v3 v4 : Int32), p + m = 3 → m < n → pAcc acc v3 v4 → Φ (((((List.range' p m).flatMap fun p => (S.R p).take (rd p)).foldl (teStep S k b) acc)).getD 0) → lX0_totalOfEvents_63 Φ n x y g k b v3 v4 (nI p) := by
  intro m
  induction m with
  | zero =>
    intro n p acc v3 v4 hpm hmn ha hΦ
    obtain ⟨n, rfl⟩ : ∃ n', n = n' + 1 := ⟨n - 1, by omega⟩
    have hp : p = 3 := by omega
    subst hp
    refine ⟨fun _ => ?_, fun c => absurd (show (3 : Int32) ≤ nI 3 from by decide) c⟩
    rcases ha with ⟨rfl, rfl, rfl⟩ | ⟨rfl, rfl⟩
    · exact hΦ
    · exact hΦ
  | succ m ih =>
    intro n p acc v3 v4 hpm hmn ha hΦ
    obtain ⟨n, rfl⟩ : ∃ n', n = n' + 1 := ⟨n - 1, by omega⟩
    rw [List.range'_succ, List.flatMap_cons, List.foldl_append] at hΦ
    refine ⟨fun c => absurd (show nI 3 ≤ nI p from c) (nI_ge (by omega) (by omega)), fun _ => ⟨vp_in_nI (by omega) (by omega), rd p + 1, ?_⟩⟩
    rw [p_cl (by omega)]
    refine c_te84 h (by omega) (hrd p (by omega)) (hg1 p (by omega)) (rd p) _ 0 acc v3 v4 (by omega) (by omega) ha fun v3 v4 ha => ?_
    exact ih n (p + 1) _ v3 v4 (by omega) (by omega) ha hΦ
def cTotE (S : CS) (rd : Nat → Nat) (k b : Int32) : Int32 := ((((List.range' 0 3).flatMap fun p => (S.R p).take (rd p)).foldl (teStep S k b) none)).getD 0
def cTotA (S : CS) (rd : Nat → Nat) (sl : Nat) (k b : Int32) : Int32 := if b < 0 then 0 else if 999 < b then 0 else if b - b / nI sl * nI sl = 0 then (if b + S.x 10 0 ≤ S.x 2 0 then cTotE S rd k b else 0) else 0
theorem c_totalOfEvents {S x y g} (h : RC S x y g) {k b : Int32} {rd : Nat → Nat} {sl : Nat} (hsl : S.x 11 0 = nI sl) (hs0 : 0 < sl) (hs1 : sl < 100) (hrd : ∀ p, p < 3 → rd p ≤ (S.R p).length) (hg1 : ∀ p, p < 3 → S.g 1 0 p = nI (rd p)) {Φ : Int32 → Prop} (hΦ : Φ (cTotA S rd sl k b)) : wX0_totalOfEvents x y g k b Φ := by
  unfold wX0_totalOfEvents
  unfold cTotA at hΦ
  rw [h.hx 11 (by omega), h.hx 10 (by omega), h.hx 2 (by omega), hsl]
  refine ⟨fun c => ?_, fun c => ⟨fun d => ?_, fun d => ⟨fun e => absurd (show nI sl < nI 1 from e) (nI_nlt hs0 (by omega)), fun _ => ⟨nI_ne0 hs0 (by omega), fun e => ⟨fun f => ?_, fun f => ?_⟩, fun e => ?_⟩⟩⟩⟩
  · rw [if_pos c] at hΦ; exact hΦ
  · rw [if_neg c, if_pos d] at hΦ; exact hΦ
  · rw [if_neg c, if_neg d, if_pos e, if_pos f] at hΦ
    exact ⟨4, c_te63 h hrd hg1 3 4 0 none 0 1 (by omega) (by omega) (.inl ⟨rfl, rfl, rfl⟩) hΦ⟩
  · rw [if_neg c, if_neg d, if_pos e, if_neg f] at hΦ; exact hΦ
  · rw [if_neg c, if_neg d, if_neg e] at hΦ; exact hΦ
theorem c_eventCount {S x y g} (h : RC S x y g) {Φ : Int32 → Prop} (hΦ : Φ (nI ((S.R 0).length + (S.R 1).length + (S.R 2).length))) : wX0_eventCount x y g Φ := by
  have h0 := h.n (q := 0) (by omega)
  have h1 := h.n (q := 1) (by omega)
  have h2 := h.n (q := 2) (by omega)
  refine ⟨4, ?_⟩
  have e0 : (0 : Int32) = nI 0 := rfl
  have e1 : (1 : Int32) = nI 1 := rfl
  have e2 : (nI 1 : Int32) + 1 = nI 2 := rfl
  have e3 : (nI 2 : Int32) + 1 = nI 3 := rfl
  have z : (nI 0 : Int32) + 1 = nI 1 := rfl
  refine ⟨fun c => absurd c (by decide), fun _ => ⟨by unfold vp_in; decide, ?_⟩⟩
  rintro _ rfl _ rfl
  refine ⟨fun c => absurd c (by decide), fun _ => ⟨by unfold vp_in; decide, ?_⟩⟩
  rintro _ rfl _ rfl
  refine ⟨fun c => absurd c (by decide), fun _ => ⟨by unfold vp_in; decide, ?_⟩⟩
  rintro _ rfl _ rfl
  refine ⟨fun _ => ?_, fun c => absurd (show (3 : Int32) ≤ 0 + 1 + 1 + 1 by decide) c⟩
  have f0 : (0 : Int32).toNatClampNeg = 0 := by decide
  have f1 : ((0 : Int32) + 1).toNatClampNeg = 1 := by decide
  have f2 : ((0 : Int32) + 1 + 1).toNatClampNeg = 2 := by decide
  rw [f0, f1, f2, h.len (q := 0) (by omega), h.len (q := 1) (by omega), h.len (q := 2) (by omega), e0, nI_add, nI_add, nI_add, Nat.zero_add]
  exact hΦ

def pKeys (W : List pRow) (k m : Nat) : List pRow := (List.range' k m).flatMap fun k => W.filter fun r => r 0 == nI k
theorem c_wk13 {S x y g} (h : RC S x y g) {place key : Nat} (hpl : place ≤ 4096) {W4 : (Nat → Nat → Int32) → (Nat → Nat → Nat) → (Nat → Nat → Nat → Int32) → Nat → Int32 → Int32 → Int32 → Prop} {Φ : Int32 → Prop} : ∀ (B : List pRow) (n i passed : Nat), (S.R 5).drop i = B → i + B.length = (S.R 5).length → B.length < n → passed ≤ place → (place - passed < (B.filter fun r => r 0 == nI key).length → ∀ j, j < (S.R 5).length → (S.R 5).getD j pz = (B.filter fun r => r 0 == nI key).getD (place - passed) pz → Φ (nI j)) → ((B.filter fun r => r 0 == nI key).length ≤ place - passed → W4 x y g 0 (nI place) (nI (passed + (B.filter fun r => r 0 == nI key).length)) (nI (key + 1))) → lX6_windowByKey_13 W4 Φ n x y g 0 (nI place) (nI passed) (nI key) (nI i) := by
  have hle := h.n (q := 5) (by omega)
  intro B
  induction B with
  | nil =>
    intro n i passed hd hi hn hp h1 h2
    obtain ⟨n, rfl⟩ : ∃ n', n = n' + 1 := ⟨n - 1, by omega⟩
    simp only [CS.mk_R, CS.mk_cap, CS.mk_x, CS.mk_y, CS.mk_g, CS.mk_eta, List.length_nil, Nat.add_zero] at hi
    simp only [CS.mk_R, CS.mk_cap, CS.mk_x, CS.mk_y, CS.mk_g, CS.mk_eta, lX6_windowByKey_13, show 5 + 0 = 5 from rfl, h.len (q := 5) (by omega), hi]
    refine ⟨fun _ => ?_, fun c => absurd (nI_le (Nat.le_refl _) (by omega)) c⟩
    rintro _ rfl
    rw [nI_1]
    exact h2 (by simp)
  | cons r B ih =>
    intro n i passed hd hi hn hp h1 h2
    simp only [CS.mk_R, CS.mk_cap, CS.mk_x, CS.mk_y, CS.mk_g, CS.mk_eta, List.length_cons] at hi hn
    obtain ⟨n, rfl⟩ : ∃ n', n = n' + 1 := ⟨n - 1, by omega⟩
    obtain ⟨hg, hd2, hlt⟩ := p_dropS hd
    simp only [CS.mk_R, CS.mk_cap, CS.mk_x, CS.mk_y, CS.mk_g, CS.mk_eta, lX6_windowByKey_13, show 5 + 0 = 5 from rfl, h.len (q := 5) (by omega)]
    refine ⟨fun c => absurd c (nI_ge hlt (by omega)), fun _ => c_get h (k := 0) (by omega) hlt (by decide) ?_⟩
    rw [hg]
    refine ⟨fun a => ?_, fun a => ?_⟩
    · rw [List.filter_cons, if_pos (by simp [CS.mk_R, CS.mk_cap, CS.mk_x, CS.mk_y, CS.mk_g, CS.mk_eta, a])] at h1 h2
      refine ⟨fun e => ?_, fun e => ?_⟩
      · rw [nI_eq (by omega) (by omega)] at e
        subst e
        refine h1 (by simp) i hlt ?_
        rw [hg, Nat.sub_self]; rfl
      · have hne : passed ≠ place := fun e2 => e (by rw [e2])
        rintro _ rfl _ rfl
        rw [nI_1, nI_1]
        simp only [CS.mk_R, CS.mk_cap, CS.mk_x, CS.mk_y, CS.mk_g, CS.mk_eta, List.length_cons] at h1 h2
        refine ih n (i + 1) (passed + 1) hd2 (by omega) (by omega) (by omega) (fun h3 j hj h4 => h1 (by omega) j hj ?_) (fun h3 => ?_)
        · rw [h4, show place - passed = place - (passed + 1) + 1 by omega, List.getD_cons_succ]
        · have := h2 (by omega)
          rwa [show passed + ((B.filter fun r => r 0 == nI key).length + 1) = passed + 1 + (B.filter fun r => r 0 == nI key).length by omega] at this
    · rw [List.filter_cons, if_neg (by simp [CS.mk_R, CS.mk_cap, CS.mk_x, CS.mk_y, CS.mk_g, CS.mk_eta, a])] at h1 h2
      rintro _ rfl
      rw [nI_1]
      exact ih n (i + 1) passed hd2 (by omega) (by omega) hp h1 h2
theorem p_getD_l {A B : List pRow} {i : Nat} (h : i < A.length) : (A ++ B).getD i pz = A.getD i pz := by simp [CS.mk_R, CS.mk_cap, CS.mk_x, CS.mk_y, CS.mk_g, CS.mk_eta, List.getD, List.getElem?_append_left h]
theorem p_getD_r {A B : List pRow} {i : Nat} (h : A.length ≤ i) : (A ++ B).getD i pz = B.getD (i - A.length) pz := by simp [CS.mk_R, CS.mk_cap, CS.mk_x, CS.mk_y, CS.mk_g, CS.mk_eta, List.getD, List.getElem?_append_right h]
theorem c_wk4 {S x y g} (h : RC S x y g) {place : Nat} (hpl : place ≤ 4096) {Φ : Int32 → Prop} : ∀ (m n key passed : Nat), key + m = 8 → m < n → passed ≤ place → place - passed < (pKeys (S.R 5) key m).length → (∀ j, j < (S.R 5).length → (S.R 5).getD j pz = (pKeys (S.R 5) key m).getD (place - passed) pz → Φ (nI j)) → lX6_windowByKey_4 Φ n x y g 0 (nI place) (nI passed) (nI key) := by
  intro m
  induction m with
  | zero =>
    intro n key passed hk hn hp hlt hΦ
    exact absurd hlt (by simp [CS.mk_R, CS.mk_cap, CS.mk_x, CS.mk_y, CS.mk_g, CS.mk_eta, pKeys])
  | succ m ih =>
    intro n key passed hk hn hp hlt hΦ
    obtain ⟨n, rfl⟩ : ∃ n', n = n' + 1 := ⟨n - 1, by omega⟩
    have ek : pKeys (S.R 5) key (m + 1) = ((S.R 5).filter fun r => r 0 == nI key) ++ pKeys (S.R 5) (key + 1) m := by
      unfold pKeys; rw [List.range'_succ, List.flatMap_cons]
    rw [ek] at hlt hΦ
    rw [List.length_append] at hlt
    refine ⟨fun c => absurd (show nI 8 ≤ nI key from c) (nI_ge (by omega) (by omega)), fun _ => ⟨(S.R 5).length + 1, ?_⟩⟩
    refine c_wk13 h hpl (S.R 5) _ 0 passed rfl (by omega) (by omega) hp (fun h1 j hj h2 => hΦ j hj ?_) (fun h1 => ?_)
    · rw [h2, p_getD_l h1]
    · refine ih n (key + 1) _ (by omega) (by omega) (by omega) (by omega) fun j hj h2 => hΦ j hj ?_
      rw [h2, p_getD_r h1]
      congr 1
      omega
theorem c_windowByKey {S x y g} (h : RC S x y g) {place : Nat} (hpl : place < (pKeys (S.R 5) 0 8).length) (hpl2 : place ≤ 4096) {Φ : Int32 → Prop} (hΦ : ∀ j, j < (S.R 5).length → (S.R 5).getD j pz = (pKeys (S.R 5) 0 8).getD place pz → Φ (nI j)) : wX6_windowByKey x y g 0 (nI place) Φ :=
  ⟨9, c_wk4 h hpl2 8 9 0 0 (by omega) (by omega) (by omega) (by omega) (by simpa using hΦ)⟩
def pWk (k w : Int32) : Int32 := (k * w) / 8
theorem c_wkL {S x y g} (h : RC S x y g) {w : Int32} {bc bs : Nat} {Φ : Int32 → pK} {Ψ : String → pK} (hΦ : ∀ x y g, RC (uX S 16 0 w) x y g → Φ (nI ((S.R 5).countP fun r => decide (pWk (r 0) w ≠ pWk (r 0) (S.x 16 0)))) x y g) : ∀ (B : List pRow) (n i c : Nat), (S.R 5).drop i = B → i + B.length = (S.R 5).length → B.length < n → c + (B.countP fun r => decide (pWk (r 0) w ≠ pWk (r 0) (S.x 16 0))) = ((S.R 5).countP fun r => decide (pWk (r 0) w ≠ pWk (r 0) (S.x 16 0))) → lX8_workers_22 Φ Ψ n x y g w (nI c) (nI i) bc bs := by
  have hle := h.n (q := 5) (by omega)
  intro B
  induction B with
  | nil =>
    intro n i c hd hi hn hc
    obtain ⟨n, rfl⟩ : ∃ n', n = n' + 1 := ⟨n - 1, by omega⟩
    simp only [CS.mk_R, CS.mk_cap, CS.mk_x, CS.mk_y, CS.mk_g, CS.mk_eta, List.length_nil, Nat.add_zero] at hi
    simp only [CS.mk_R, CS.mk_cap, CS.mk_x, CS.mk_y, CS.mk_g, CS.mk_eta, lX8_workers_22, h.len (q := 5) (by omega), hi]
    refine ⟨fun _ => ?_, fun c => absurd (nI_le (Nat.le_refl _) (by omega)) c⟩
    rw [List.countP_nil, Nat.add_zero] at hc
    rw [hc, h.hx 16 (by omega)]
    have h1 := h.X (k := 16) (i := 0) (v := w) (by omega)
    rw [h.hx 16 (by omega)] at h1
    exact hΦ _ _ _ h1
  | cons r B ih =>
    intro n i c hd hi hn hc
    simp only [CS.mk_R, CS.mk_cap, CS.mk_x, CS.mk_y, CS.mk_g, CS.mk_eta, List.length_cons] at hi hn
    obtain ⟨n, rfl⟩ : ∃ n', n = n' + 1 := ⟨n - 1, by omega⟩
    obtain ⟨hg, hd2, hlt⟩ := p_dropS hd
    simp only [CS.mk_R, CS.mk_cap, CS.mk_x, CS.mk_y, CS.mk_g, CS.mk_eta, lX8_workers_22, h.len (q := 5) (by omega)]
    refine ⟨fun c => absurd c (nI_ge hlt (by omega)), fun _ => c_get h (k := 0) (by omega) hlt (by decide) ?_⟩
    rw [hg]
    unfold wX8_workerOf
    rw [h.hx 16 (by omega)]
    rw [List.countP_cons] at hc
    refine ⟨fun a => ?_, fun a => ?_⟩
    · rw [if_neg (by simp [CS.mk_R, CS.mk_cap, CS.mk_x, CS.mk_y, CS.mk_g, CS.mk_eta, pWk, a])] at hc
      rintro _ rfl
      rw [nI_1]
      exact ih n (i + 1) c hd2 (by omega) (by omega) hc
    · rw [if_pos (decide_eq_true (show pWk (r 0) w ≠ pWk (r 0) (S.x 16 0) from a))] at hc
      rintro _ rfl _ rfl
      rw [nI_1, nI_1]
      exact ih n (i + 1) (c + 1) hd2 (by omega) (by omega) (by omega)
theorem c_ldL {S x y g} (h : RC S x y g) {w : Int32} {bc bs : Nat} {Φ : Int32 → Prop} {Ψ : String → pK} (hΦ : Φ (nI ((S.R 5).countP fun r => decide (pWk (r 0) (S.x 16 0) = w)))) : ∀ (B : List pRow) (n i c : Nat), (S.R 5).drop i = B → i + B.length = (S.R 5).length → B.length < n → c + (B.countP fun r => decide (pWk (r 0) (S.x 16 0) = w)) = ((S.R 5).countP fun r => decide (pWk (r 0) (S.x 16 0) = w)) → lX8_load_23 Φ Ψ n x y g w (nI c) (nI i) bc bs := by
  have hle := h.n (q := 5) (by omega)
  intro B
  induction B with
  | nil =>
    intro n i c hd hi hn hc
    obtain ⟨n, rfl⟩ : ∃ n', n = n' + 1 := ⟨n - 1, by omega⟩
    simp only [CS.mk_R, CS.mk_cap, CS.mk_x, CS.mk_y, CS.mk_g, CS.mk_eta, List.length_nil, Nat.add_zero] at hi
    simp only [CS.mk_R, CS.mk_cap, CS.mk_x, CS.mk_y, CS.mk_g, CS.mk_eta, lX8_load_23, h.len (q := 5) (by omega), hi]
    refine ⟨fun _ => ?_, fun c => absurd (nI_le (Nat.le_refl _) (by omega)) c⟩
    rw [List.countP_nil, Nat.add_zero] at hc
    rw [hc]
    exact hΦ
  | cons r B ih =>
    intro n i c hd hi hn hc
    simp only [CS.mk_R, CS.mk_cap, CS.mk_x, CS.mk_y, CS.mk_g, CS.mk_eta, List.length_cons] at hi hn
    obtain ⟨n, rfl⟩ : ∃ n', n = n' + 1 := ⟨n - 1, by omega⟩
    obtain ⟨hg, hd2, hlt⟩ := p_dropS hd
    simp only [CS.mk_R, CS.mk_cap, CS.mk_x, CS.mk_y, CS.mk_g, CS.mk_eta, lX8_load_23, h.len (q := 5) (by omega)]
    refine ⟨fun c => absurd c (nI_ge hlt (by omega)), fun _ => c_get h (k := 0) (by omega) hlt (by decide) ?_⟩
    rw [hg]
    unfold wX8_workerOf
    rw [h.hx 16 (by omega)]
    rw [List.countP_cons] at hc
    refine ⟨fun a => ?_, fun a => ?_⟩
    · rw [if_pos (decide_eq_true (show pWk (r 0) (S.x 16 0) = w from a))] at hc
      rintro _ rfl _ rfl
      rw [nI_1, nI_1]
      exact ih n (i + 1) (c + 1) hd2 (by omega) (by omega) (by omega)
    · rw [if_neg (fun e : decide (pWk (r 0) (S.x 16 0) = w) = true => a (of_decide_eq_true e))] at hc
      rintro _ rfl
      rw [nI_1]
      exact ih n (i + 1) c hd2 (by omega) (by omega) hc
