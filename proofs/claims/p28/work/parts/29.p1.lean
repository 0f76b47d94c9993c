theorem cRw_cRw (S : CS) (q : Nat) (W W' : List pRow) (c c' : Nat) : cRw (cRw S q W c) q W' c' = cRw S q W' c' := by simp only [CS.mk_R, CS.mk_cap, CS.mk_x, CS.mk_y, CS.mk_g, CS.mk_eta, cRw, p_uu]
theorem cRw_R (S : CS) (q : Nat) (W : List pRow) (c : Nat) : (cRw S q W c).R q = W := by simp only [CS.mk_R, CS.mk_cap, CS.mk_x, CS.mk_y, CS.mk_g, CS.mk_eta, cRw, p_ug]
theorem cRw_Rn (S : CS) {q j : Nat} (W : List pRow) (c : Nat) (h : j ≠ q) : (cRw S q W c).R j = S.R j := by simp only [CS.mk_R, CS.mk_cap, CS.mk_x, CS.mk_y, CS.mk_g, CS.mk_eta, cRw, p_un _ _ h]
theorem cRw_c (S : CS) (q : Nat) (W : List pRow) (c : Nat) : (cRw S q W c).cap q = c := by simp only [CS.mk_R, CS.mk_cap, CS.mk_x, CS.mk_y, CS.mk_g, CS.mk_eta, cRw, p_ug]
theorem cRw_cn (S : CS) {q j : Nat} (W : List pRow) (c : Nat) (h : j ≠ q) : (cRw S q W c).cap j = S.cap j := by simp only [CS.mk_R, CS.mk_cap, CS.mk_x, CS.mk_y, CS.mk_g, CS.mk_eta, cRw, p_un _ _ h]
theorem cRw_x (S : CS) (q : Nat) (W : List pRow) (c : Nat) : (cRw S q W c).x = S.x := rfl
theorem cRw_y (S : CS) (q : Nat) (W : List pRow) (c : Nat) : (cRw S q W c).y = S.y := rfl
theorem cRw_g (S : CS) (q : Nat) (W : List pRow) (c : Nat) : (cRw S q W c).g = S.g := rfl
theorem p_insset {W : List pRow} {p : Nat} (hp : p ≤ W.length) (a b : pRow) : (W.insertIdx p a).set p b = W.insertIdx p b := by
  induction W generalizing p with
  | nil => have : p = 0 := by simpa using hp
           subst this; rfl
  | cons r W ih =>
    cases p with
    | zero => rfl
    | succ p => simp only [CS.mk_R, CS.mk_cap, CS.mk_x, CS.mk_y, CS.mk_g, CS.mk_eta, List.insertIdx_succ_cons, List.set_cons_succ, ih (by simpa using hp)]
theorem p_insget {W : List pRow} {p : Nat} (hp : p ≤ W.length) (a : pRow) : (W.insertIdx p a).getD p pz = a := by
  simp only [CS.mk_R, CS.mk_cap, CS.mk_x, CS.mk_y, CS.mk_g, CS.mk_eta, List.getD, List.getElem?_insertIdx, if_neg (Nat.lt_irrefl p)]
  simp [CS.mk_R, CS.mk_cap, CS.mk_x, CS.mk_y, CS.mk_g, CS.mk_eta, hp]
theorem c_setIns {S x y g} {q : Nat} {W : List pRow} {c p k : Nat} {r : pRow} {v : Int32} (h : RC (cRw S q (W.insertIdx p r) c) x y g) (hq : q < 12) (hp : p ≤ W.length) (hk : k < pwq q) {Φ : pK} (hΦ : ∀ x y g, RC (cRw S q (W.insertIdx p (upd r k v)) c) x y g → Φ x y g) : wX4_set x y g q (nI p) (nI k) v Φ := by
  refine c_set h hq (by rw [cRw_R, List.length_insertIdx_of_le_length hp]; omega) hk fun x y g hR => hΦ x y g ?_
  rwa [cRw_R, cRw_c, cRw_cRw, p_insget hp, p_insset hp] at hR
theorem cOK.split {S T : CS} {bc bs : Nat} (h : cOK S T bc bs) (U : CS) (h1 : pSum S.cap ≤ pSum U.cap) (h2 : pSum U.cap ≤ pSum T.cap) : ∃ kc ks b2 s2 : Nat, kc + b2 ≤ bc ∧ ks + s2 ≤ bs ∧ cOK S U kc ks ∧ cOK U T b2 s2 := by
  have := h.c
  have := h.s
  exact ⟨pSum U.cap - pSum S.cap, 2 * pSum U.cap - 2 * pSum S.cap, pSum T.cap - pSum U.cap, 2 * pSum T.cap - 2 * pSum U.cap, by omega, by omega, ⟨by omega, by omega⟩, ⟨by omega, by omega⟩⟩
def mkr (k b e v t : Int32) : pRow := upd (upd (upd (upd (upd pz 0 k) 1 b) 2 e) 3 v) 4 t
def mkw (k b e t : Int32) : pRow := upd (upd (upd (upd pz 0 k) 1 b) 2 e) 3 t
def cApp1 (S : CS) (r : pRow) : CS := cRw S 4 (S.R 4 ++ [r]) (pgrow (S.cap 4) (((S.R 4).length + 1) * 5))
def cApp : CS → List pRow → CS
  | S, [] => S
  | S, r :: rs => cApp (cApp1 S r) rs
def cWin (S : CS) (W : List pRow) : CS := cRw S 5 W (S.cap 5)
theorem cApp_app (S : CS) (a b : List pRow) : cApp S (a ++ b) = cApp (cApp S a) b := by
  induction a generalizing S with
  | nil => rfl
  | cons r a ih => exact ih (cApp1 S r)
theorem cApp_R4 (S : CS) (rs : List pRow) : (cApp S rs).R 4 = S.R 4 ++ rs := by
  induction rs generalizing S with
  | nil => simp [CS.mk_R, CS.mk_cap, CS.mk_x, CS.mk_y, CS.mk_g, CS.mk_eta, cApp]
  | cons r rs ih => rw [cApp, ih, cApp1, cRw_R, List.append_assoc]; rfl
theorem cApp_same (S : CS) (rs : List pRow) : (∀ q, q ≠ 4 → (cApp S rs).R q = S.R q ∧ (cApp S rs).cap q = S.cap q) ∧ (cApp S rs).x = S.x ∧ (cApp S rs).y = S.y ∧ (cApp S rs).g = S.g := by
  induction rs generalizing S with
  | nil => exact ⟨fun q _ => ⟨rfl, rfl⟩, rfl, rfl, rfl⟩
  | cons r rs ih =>
    obtain ⟨h1, h2, h3, h4⟩ := ih (cApp1 S r)
    refine ⟨fun q hq => ?_, h2, h3, h4⟩
    rw [cApp, (h1 q hq).1, (h1 q hq).2, cApp1, cRw_Rn _ _ _ hq, cRw_cn _ _ _ hq]
    exact ⟨rfl, rfl⟩
theorem cApp1_mon (S : CS) (r : pRow) : pSum S.cap ≤ pSum (cApp1 S r).cap := cMon_rw _ (by omega) (pgrow_ge _ _)
theorem cApp_mon (S : CS) (rs : List pRow) : pSum S.cap ≤ pSum (cApp S rs).cap := by
  induction rs generalizing S with
  | nil => exact Nat.le_refl _
  | cons r rs ih => exact Nat.le_trans (cApp1_mon S r) (ih _)
theorem cWin_sum (S : CS) (W : List pRow) : pSum (cWin S W).cap = pSum S.cap := by simp only [CS.mk_R, CS.mk_cap, CS.mk_x, CS.mk_y, CS.mk_g, CS.mk_eta, cWin, cRw, p_us]
theorem p_insLen (W : List pRow) (r : pRow) : W.insertIdx W.length r = W ++ [r] := by
  rw [List.insertIdx_length_self]
theorem c_putResult {S x y g} (h : RC S x y g) {i bc bs : Nat} {v t : Int32} (hi : i < (S.R 5).length) (hn : (S.R 4).length < 4096) {r : pRow} (hr : r = mkr (((S.R 5).getD i pz) 0) (((S.R 5).getD i pz) 1) (((S.R 5).getD i pz) 2) v t) (hc : cOK S (cApp1 S r) bc bs) {Φ : pK} (hΦ : ∀ x y g, RC (cApp1 S r) x y g → Φ x y g) : wX0_putResult x y g (nI i) v t bc bs Φ := by
  have e0 : cIns S 4 (S.R 4).length = cRw S 4 ((S.R 4).insertIdx (S.R 4).length pz) (pgrow (S.cap 4) (((S.R 4).length + 1) * 5)) := rfl
  have hc2 : cOK S (cIns S 4 (S.R 4).length) bc bs := ⟨hc.c, hc.s⟩
  unfold wX0_putResult
  rw [h.len (by omega)]
  rintro _ rfl
  refine ⟨bc, bs, 0, 0, by omega, by omega, ?_⟩
  refine c_insert h (by omega) (Nat.le_refl _) hn hc2 fun x y g h1 => ?_
  rw [e0] at h1
  have g5 : ∀ (W : List pRow) (c : Nat), (cRw S 4 W c).R 5 = S.R 5 := fun W c => cRw_Rn _ _ _ (by omega)
  refine c_get h1 (k := 0) (by omega) (by rw [g5]; exact hi) (by decide) ?_
  refine c_setIns h1 (k := 0) (by omega) (Nat.le_refl _) (by decide) fun x y g h1 => ?_
  refine c_get h1 (k := 1) (by omega) (by rw [g5]; exact hi) (by decide) ?_
  refine c_setIns h1 (k := 1) (by omega) (Nat.le_refl _) (by decide) fun x y g h1 => ?_
  refine c_get h1 (k := 2) (by omega) (by rw [g5]; exact hi) (by decide) ?_
  refine c_setIns h1 (k := 2) (by omega) (Nat.le_refl _) (by decide) fun x y g h1 => ?_
  refine c_setIns h1 (k := 3) (by omega) (Nat.le_refl _) (by decide) fun x y g h1 => ?_
  refine c_setIns h1 (k := 4) (by omega) (Nat.le_refl _) (by decide) fun x y g h1 => ?_
  refine hΦ x y g ?_
  simp only [CS.mk_R, CS.mk_cap, CS.mk_x, CS.mk_y, CS.mk_g, CS.mk_eta, g5] at h1
  rw [p_insLen] at h1
  rw [hr]
  exact h1
def tRes (mode : Nat) (w : pRow) : List pRow :=
  if mode = 12 then [mkr (w 0) (w 1) (w 2) (w 3) 0]
  else if mode = 13 then [mkr (w 0) (w 1) (w 2) (w 3 - w 5) 1]
  else if w 4 = 1 then [mkr (w 0) (w 1) (w 2) (w 5) 2, mkr (w 0) (w 1) (w 2) (w 3) 1] else [mkr (w 0) (w 1) (w 2) (w 3) 1]
theorem tRes_12 {m : Nat} {w : pRow} (h : m = 12) : tRes m w = [mkr (w 0) (w 1) (w 2) (w 3) 0] := if_pos h
theorem tRes_13 {m : Nat} {w : pRow} (h : ¬ m = 12) (h2 : m = 13) : tRes m w = [mkr (w 0) (w 1) (w 2) (w 3 - w 5) 1] := by unfold tRes; rw [if_neg h, if_pos h2]
theorem tRes_14 {m : Nat} {w : pRow} (h : ¬ m = 12) (h2 : ¬ m = 13) (t : w 4 = 1) : tRes m w = [mkr (w 0) (w 1) (w 2) (w 5) 2, mkr (w 0) (w 1) (w 2) (w 3) 1] := by unfold tRes; rw [if_neg h, if_neg h2, if_pos t]
theorem tRes_15 {m : Nat} {w : pRow} (h : ¬ m = 12) (h2 : ¬ m = 13) (t : ¬ w 4 = 1) : tRes m w = [mkr (w 0) (w 1) (w 2) (w 3) 1] := by unfold tRes; rw [if_neg h, if_neg h2, if_neg t]
def tWin (w : pRow) : pRow := upd (upd w 4 1) 5 (w 3)
def cTell (S : CS) (i : Nat) : CS := cWin (cApp S (tRes (S.y 6 0) ((S.R 5).getD i pz))) ((S.R 5).set i (tWin ((S.R 5).getD i pz)))
theorem cTell_mon (S : CS) (i : Nat) : pSum S.cap ≤ pSum (cTell S i).cap := by rw [cTell, cWin_sum]; exact cApp_mon _ _
theorem p_getset {W : List pRow} {i : Nat} (hi : i < W.length) (a : pRow) : (W.set i a).getD i pz = a := by simp [CS.mk_R, CS.mk_cap, CS.mk_x, CS.mk_y, CS.mk_g, CS.mk_eta, List.getD, hi]
theorem c_tellEnd {S x y g} (h : RC S x y g) {i bc bs : Nat} {v : Int32} (hi : i < (S.R 5).length) (hv : v = ((S.R 5).getD i pz) 3) {Φ : pK} (hΦ : ∀ x y g, RC (cWin S ((S.R 5).set i (tWin ((S.R 5).getD i pz)))) x y g → Φ x y g) : jX0_tell_104 Φ x y g (nI i) v bc bs := by
  unfold jX0_tell_104
  refine c_set h (k := 4) (by omega) hi (by decide) fun x y g h1 => ?_
  refine c_set h1 (k := 5) (by omega) (by rw [cRw_R, List.length_set]; exact hi) (by decide) fun x y g h1 => ?_
  rw [cRw_R, cRw_c, cRw_cRw, p_getset hi, List.set_set, hv] at h1
  exact hΦ x y g h1
theorem c_tell {S x y g} (h : RC S x y g) {i bc bs : Nat} (hi : i < (S.R 5).length) (hn : (S.R 4).length + 2 ≤ 4096) (hc : cOK S (cTell S i) bc bs) {Φ : pK} (hΦ : ∀ x y g, RC (cTell S i) x y g → Φ x y g) : wX0_tell x y g (nI i) bc bs Φ := by
  have hc2 : cOK S (cApp S (tRes (S.y 6 0) ((S.R 5).getD i pz))) bc bs := by
    refine ⟨?_, ?_⟩
    · rw [← cWin_sum _ ((S.R 5).set i (tWin ((S.R 5).getD i pz)))]; exact hc.c
    · rw [← cWin_sum _ ((S.R 5).set i (tWin ((S.R 5).getD i pz)))]; exact hc.s
  have e1 : ∀ S r, (cApp1 S r).R 5 = S.R 5 := fun S r => cRw_Rn _ _ _ (by omega)
  unfold wX0_tell
  refine c_get h (k := 3) (by omega) hi (by decide) ?_
  refine c_get h (k := 5) (by omega) hi (by decide) ?_
  rw [h.hy 6 (by omega)]
  refine ⟨fun m => ?_, fun m => ⟨fun m2 => ?_, fun m2 => ?_⟩⟩
  · have et := tRes_12 (w := (S.R 5).getD i pz) m
    unfold cTell at hΦ
    rw [et] at hc2 hΦ
    refine ⟨bc, bs, 0, 0, by omega, by omega, c_putResult h hi (by omega) rfl hc2 fun x y g h1 => ?_⟩
    refine c_tellEnd h1 (by rw [e1]; exact hi) (by rw [e1]) fun x y g h1 => ?_
    rw [e1] at h1
    exact hΦ x y g h1
  · have et := tRes_13 (w := (S.R 5).getD i pz) m m2
    unfold cTell at hΦ
    rw [et] at hc2 hΦ
    refine ⟨bc, bs, 0, 0, by omega, by omega, c_putResult h hi (by omega) rfl hc2 fun x y g h1 => ?_⟩
    refine c_tellEnd h1 (by rw [e1]; exact hi) (by rw [e1]) fun x y g h1 => ?_
    rw [e1] at h1
    exact hΦ x y g h1
  · refine c_get h (k := 4) (by omega) hi (by decide) ?_
    refine ⟨fun t => ?_, fun t => ?_⟩
    · have et := tRes_14 (w := (S.R 5).getD i pz) m m2 t
      unfold cTell at hΦ
      rw [et] at hc2 hΦ
      obtain ⟨kc, ks, b2, s2, h1, h2, h3, h4⟩ := hc2.split (cApp1 S _) (cApp1_mon _ _) (cApp1_mon _ _)
      refine ⟨kc, ks, b2, s2, h1, h2, c_putResult h hi (by omega) rfl h3 fun x y g h1 => ?_⟩
      refine ⟨b2, s2, 0, 0, by omega, by omega, c_putResult h1 (by rw [e1]; exact hi) (by rw [cApp1, cRw_R, List.length_append, List.length_singleton]; omega) (by rw [e1]) h4 fun x y g h1 => ?_⟩
      refine c_tellEnd h1 (by rw [e1, e1]; exact hi) (by rw [e1, e1]) fun x y g h1 => ?_
      rw [e1, e1] at h1
      exact hΦ x y g h1
    · have et := tRes_15 (w := (S.R 5).getD i pz) m m2 t
      unfold cTell at hΦ
      rw [et] at hc2 hΦ
      refine ⟨bc, bs, 0, 0, by omega, by omega, c_putResult h hi (by omega) rfl hc2 fun x y g h1 => ?_⟩
      refine c_tellEnd h1 (by rw [e1]; exact hi) (by rw [e1]) fun x y g h1 => ?_
      rw [e1] at h1
      exact hΦ x y g h1
def pAh (r : pRow) (k b e : Int32) : Bool := if r 2 = e then (if r 1 = b then decide (r 0 < k) else decide (r 1 < b)) else decide (r 2 < e)
theorem p_find {p : pRow → Bool} {W : List pRow} {i : Nat} (hi : i < W.length) (h : ∀ r, r < i → p (W.getD r pz) = false) (hp : p (W.getD i pz) = true) : W.findIdx p = i := by
  induction W generalizing i with
  | nil => simp at hi
  | cons a W ih =>
    cases i with
    | zero => simp only [CS.mk_R, CS.mk_cap, CS.mk_x, CS.mk_y, CS.mk_g, CS.mk_eta, List.getD_cons_zero] at hp; rw [List.findIdx_cons, hp]; rfl
    | succ i =>
      have h0 := h 0 (by omega)
      simp only [CS.mk_R, CS.mk_cap, CS.mk_x, CS.mk_y, CS.mk_g, CS.mk_eta, List.getD_cons_zero] at h0
      rw [List.findIdx_cons, h0]
      have := ih (i := i) (by simpa using hi) (fun r hr => by simpa using h (r + 1) (by omega)) (by simpa using hp)
      simp [CS.mk_R, CS.mk_cap, CS.mk_x, CS.mk_y, CS.mk_g, CS.mk_eta, this]
theorem p_find0 {p : pRow → Bool} {W : List pRow} (h : ∀ r, r < W.length → p (W.getD r pz) = false) : W.findIdx p = W.length := by
  induction W with
  | nil => rfl
  | cons a W ih =>
    have h0 := h 0 (by simp)
    simp only [CS.mk_R, CS.mk_cap, CS.mk_x, CS.mk_y, CS.mk_g, CS.mk_eta, List.getD_cons_zero] at h0
    rw [List.findIdx_cons, h0]
    have := ih (fun r hr => by simpa using h (r + 1) (by simpa using hr))
    simp [CS.mk_R, CS.mk_cap, CS.mk_x, CS.mk_y, CS.mk_g, CS.mk_eta, this]
theorem c_isAhead {S x y g} (h : RC S x y g) {i : Nat} {k b e : Int32} (hi : i < (S.R 5).length) {Φ : Int32 → Prop} (h1 : pAh ((S.R 5).getD i pz) k b e = true → Φ 1) (h0 : pAh ((S.R 5).getD i pz) k b e = false → Φ 0) : wX6_isAhead x y g 0 (nI i) k b e Φ := by
  unfold wX6_isAhead
  refine c_get h (k := 2) (by omega) hi (by decide) ?_
  unfold pAh at h1 h0
  refine ⟨fun a => ?_, fun a => ?_⟩
  · rw [if_pos a] at h1 h0
    refine c_get h (k := 1) (by omega) hi (by decide) ?_
    refine ⟨fun a => ?_, fun a => ?_⟩
    · rw [if_pos a] at h1 h0
      refine c_get h (k := 0) (by omega) hi (by decide) ?_
      exact ⟨fun c => h0 (decide_eq_false (Int32.not_lt.2 c)), fun c => h1 (decide_eq_true (Int32.not_le.1 c))⟩
    · rw [if_neg a] at h1 h0
      refine c_get h (k := 1) (by omega) hi (by decide) ?_
      exact ⟨fun c => h0 (decide_eq_false (Int32.not_lt.2 c)), fun c => h1 (decide_eq_true (Int32.not_le.1 c))⟩
  · rw [if_neg a] at h1 h0
    refine c_get h (k := 2) (by omega) hi (by decide) ?_
    exact ⟨fun c => h0 (decide_eq_false (Int32.not_lt.2 c)), fun c => h1 (decide_eq_true (Int32.not_le.1 c))⟩
def pPos (W : List pRow) (k b e : Int32) : Nat := W.findIdx (fun r => !pAh r k b e)
def cAdd (S : CS) (k b e t : Int32) : CS := cRw S 5 ((S.R 5).insertIdx (pPos (S.R 5) k b e) (mkw k b e t)) (pgrow (S.cap 5) (((S.R 5).length + 1) * 6))
theorem cAdd_mon (S : CS) (k b e t : Int32) : pSum S.cap ≤ pSum (cAdd S k b e t).cap := cMon_rw _ (by omega) (pgrow_ge _ _)
theorem c_add33 {S x y g} (h : RC S x y g) {i bc bs : Nat} {k b e t : Int32} (hi : i ≤ (S.R 5).length) (hn : (S.R 5).length < 4096) (hp : pPos (S.R 5) k b e = i) (hc : cOK S (cAdd S k b e t) bc bs) {Φ : Int32 → pK} (hΦ : ∀ x y g, RC (cAdd S k b e t) x y g → Φ (nI (pPos (S.R 5) k b e)) x y g) : jX6_addWindow_33 Φ x y g 0 k b e t (nI i) bc bs := by
  have hc2 : cOK S (cIns S 5 i) bc bs := ⟨hc.c, hc.s⟩
  unfold jX6_addWindow_33
  refine ⟨bc, bs, 0, 0, by omega, by omega, c_insert h (by omega) hi hn hc2 fun x y g h1 => ?_⟩
  refine c_setIns h1 (k := 0) (by omega) hi (by decide) fun x y g h1 => ?_
  refine c_setIns h1 (k := 1) (by omega) hi (by decide) fun x y g h1 => ?_
  refine c_setIns h1 (k := 2) (by omega) hi (by decide) fun x y g h1 => ?_
  refine c_setIns h1 (k := 3) (by omega) hi (by decide) fun x y g h1 => ?_
  rw [← hp]
  refine hΦ x y g ?_
  unfold cAdd
  rw [hp]
  exact h1
theorem c_addL {S x y g} (h : RC S x y g) {bc bs : Nat} {k b e t : Int32} (hn : (S.R 5).length < 4096) (hc : cOK S (cAdd S k b e t) bc bs) {Φ : Int32 → pK} (hΦ : ∀ x y g, RC (cAdd S k b e t) x y g → Φ (nI (pPos (S.R 5) k b e)) x y g) : ∀ j n i, i + j = (S.R 5).length → j < n → (∀ r, r < i → pAh ((S.R 5).getD r pz) k b e = true) → lX6_addWindow_3 Φ n x y g 0 k b e t (nI i) bc bs := by
  intro j
  induction j with
  | zero =>
    intro n i hij hjn hr
    obtain ⟨n, rfl⟩ : ∃ n', n = n' + 1 := ⟨n - 1, by omega⟩
    simp only [CS.mk_R, CS.mk_cap, CS.mk_x, CS.mk_y, CS.mk_g, CS.mk_eta, lX6_addWindow_3, show 5 + 0 = 5 from rfl, h.len (q := 5) (by omega)]
    refine ⟨fun _ => ?_, fun c => absurd (nI_le (by omega) (by omega)) c⟩
    refine c_add33 h (by omega) hn ?_ hc hΦ
    have e : i = (S.R 5).length := by omega
    rw [e]
    exact p_find0 fun r hr2 => by rw [hr r (by omega)]; rfl
  | succ j ih =>
    intro n i hij hjn hr
    obtain ⟨n, rfl⟩ : ∃ n', n = n' + 1 := ⟨n - 1, by omega⟩
    simp only [CS.mk_R, CS.mk_cap, CS.mk_x, CS.mk_y, CS.mk_g, CS.mk_eta, lX6_addWindow_3, show 5 + 0 = 5 from rfl, h.len (q := 5) (by omega)]
    refine ⟨fun c => absurd c (nI_ge (by omega) (by omega)), fun _ => ?_⟩
    refine c_isAhead h (by omega) (fun a => ?_) (fun a => ?_)
    · refine ⟨fun c => absurd c (by decide), fun _ => ?_⟩
      rintro _ rfl
      rw [nI_1]
      refine ih n (i + 1) (by omega) (by omega) fun r hr2 => ?_
      by_cases e : r = i
      · rw [e]; exact a
      · exact hr r (by omega)
    · refine ⟨fun _ => ?_, fun c => absurd rfl c⟩
      refine c_add33 h (by omega) hn ?_ hc hΦ
      exact p_find (by omega) (fun r hr2 => by rw [hr r hr2]; rfl) (by rw [a]; rfl)
theorem c_addWindow {S x y g} (h : RC S x y g) {bc bs : Nat} {k b e t : Int32} (hn : (S.R 5).length < 4096) (hc : cOK S (cAdd S k b e t) bc bs) {Φ : Int32 → pK} (hΦ : ∀ x y g, RC (cAdd S k b e t) x y g → Φ (nI (pPos (S.R 5) k b e)) x y g) : wX6_addWindow x y g 0 k b e t bc bs Φ :=
  ⟨(S.R 5).length + 1, c_addL h hn hc hΦ (S.R 5).length _ 0 (by omega) (by omega) (fun r hr => absurd hr (by omega))⟩
def pIs (k b : Int32) (r : pRow) : Bool := r 0 == k && r 1 == b
theorem pIs_t {k b : Int32} {r : pRow} (h : r 0 = k) (h2 : r 1 = b) : pIs k b r = true := by simp [CS.mk_R, CS.mk_cap, CS.mk_x, CS.mk_y, CS.mk_g, CS.mk_eta, pIs, h, h2]
theorem pIs_f0 {k b : Int32} {r : pRow} (h : ¬ r 0 = k) : pIs k b r = false := by simp [CS.mk_R, CS.mk_cap, CS.mk_x, CS.mk_y, CS.mk_g, CS.mk_eta, pIs, h]
theorem pIs_f1 {k b : Int32} {r : pRow} (h : ¬ r 1 = b) : pIs k b r = false := by simp [CS.mk_R, CS.mk_cap, CS.mk_x, CS.mk_y, CS.mk_g, CS.mk_eta, pIs, h]
theorem pIs_iff {k b : Int32} {r : pRow} : pIs k b r = true ↔ r 0 = k ∧ r 1 = b := by simp [CS.mk_R, CS.mk_cap, CS.mk_x, CS.mk_y, CS.mk_g, CS.mk_eta, pIs]
def pFW (W : List pRow) (k b : Int32) : Nat := W.findIdx (pIs k b)
theorem c_fwL {S x y g} (h : RC S x y g) {k b : Int32} {Φ : Int32 → Prop} (h1 : pFW (S.R 5) k b < (S.R 5).length → Φ (nI (pFW (S.R 5) k b))) (h0 : pFW (S.R 5) k b = (S.R 5).length → Φ (-1)) : ∀ j n i, i + j = (S.R 5).length → j < n → (∀ r, r < i → pIs k b ((S.R 5).getD r pz) = false) → lX6_findWindow_2 Φ n x y g 0 k b (nI i) := by
  have hn := h.n (q := 5) (by omega)
  intro j
  induction j with
  | zero =>
    intro n i hij hjn hr
    obtain ⟨n, rfl⟩ : ∃ n', n = n' + 1 := ⟨n - 1, by omega⟩
    simp only [CS.mk_R, CS.mk_cap, CS.mk_x, CS.mk_y, CS.mk_g, CS.mk_eta, lX6_findWindow_2, show 5 + 0 = 5 from rfl, h.len (q := 5) (by omega)]
    refine ⟨fun _ => h0 ?_, fun c => absurd (nI_le (by omega) (by omega)) c⟩
    exact p_find0 fun r hr2 => hr r (by omega)
  | succ j ih =>
    intro n i hij hjn hr
    obtain ⟨n, rfl⟩ : ∃ n', n = n' + 1 := ⟨n - 1, by omega⟩
    simp only [CS.mk_R, CS.mk_cap, CS.mk_x, CS.mk_y, CS.mk_g, CS.mk_eta, lX6_findWindow_2, show 5 + 0 = 5 from rfl, h.len (q := 5) (by omega)]
    have step : pIs k b ((S.R 5).getD i pz) = false → ∀ v : Int32, v = nI i + 1 → lX6_findWindow_2 Φ n x y g 0 k b v := by
      rintro a _ rfl
      rw [nI_1]
      refine ih n (i + 1) (by omega) (by omega) fun r hr2 => ?_
      by_cases e : r = i
      · rw [e]; exact a
      · exact hr r (by omega)
    refine ⟨fun c => absurd c (nI_ge (by omega) (by omega)), fun _ => c_get h (k := 0) (by omega) (by omega) (by decide) ⟨fun a => c_get h (k := 1) (by omega) (by omega) (by decide) ⟨fun a2 => ?_, fun a2 => step ?_⟩, fun a => step ?_⟩⟩
    · have e : pFW (S.R 5) k b = i := p_find (by omega) hr (pIs_t a a2)
      rw [e] at h1
      exact h1 (by omega)
    · exact pIs_f1 a2
    · exact pIs_f0 a
theorem c_findWindow {S x y g} (h : RC S x y g) {k b : Int32} {Φ : Int32 → Prop} (h1 : pFW (S.R 5) k b < (S.R 5).length → Φ (nI (pFW (S.R 5) k b))) (h0 : pFW (S.R 5) k b = (S.R 5).length → Φ (-1)) : wX6_findWindow x y g 0 k b Φ :=
  ⟨(S.R 5).length + 1, c_fwL h h1 h0 (S.R 5).length _ 0 (by omega) (by omega) (fun r hr => absurd hr (by omega))⟩
def pRipe (S : CS) (w : pRow) : Bool := w 4 == 1 || decide (w 2 ≤ S.x 2 0)
theorem pRipe_iff {S : CS} {w : pRow} : pRipe S w = true ↔ w 4 = 1 ∨ w 2 ≤ S.x 2 0 := by simp [CS.mk_R, CS.mk_cap, CS.mk_x, CS.mk_y, CS.mk_g, CS.mk_eta, pRipe]
theorem pRipe_f {S : CS} {w : pRow} (h : ¬ w 4 = 1) (h2 : S.x 2 0 < w 2) : pRipe S w = false := by
  have : ¬ w 2 ≤ S.x 2 0 := Int32.not_le.2 h2
  simp [CS.mk_R, CS.mk_cap, CS.mk_x, CS.mk_y, CS.mk_g, CS.mk_eta, pRipe, h, this]
theorem c_isRipe {S x y g} (h : RC S x y g) {i : Nat} (hi : i < (S.R 5).length) {Φ : Int32 → Prop} (h1 : pRipe S ((S.R 5).getD i pz) = true → Φ 1) (h0 : pRipe S ((S.R 5).getD i pz) = false → Φ 0) : wX0_isRipe x y g (nI i) Φ := by
  unfold wX0_isRipe
  rw [h.hx 2 (by omega)]
  exact c_get h (k := 4) (by omega) hi (by decide) ⟨fun a => h1 (pRipe_iff.2 (.inl a)), fun a => c_get h (k := 2) (by omega) hi (by decide) ⟨fun c => h0 (pRipe_f a c), fun c => h1 (pRipe_iff.2 (.inr (Int32.not_lt.1 c)))⟩⟩
def cFold (S : CS) (a b : Int32) : Int32 := if S.y 3 0 = 2 then (if a < b then b else a) else a + b
theorem c_fold {S x y g} (h : RC S x y g) {a b : Int32} {Φ : Int32 → Prop} (hΦ : Φ (cFold S a b)) : wX2_foldWith x y g a b Φ := by
  unfold wX2_foldWith
  unfold cFold at hΦ
  rw [h.hy 3 (by omega)]
  exact ⟨fun e => by rwa [if_pos e] at hΦ, fun e => by rwa [if_neg e] at hΦ⟩
def cRipe (S : CS) (i : Nat) : CS := if pRipe S ((S.R 5).getD i pz) then cTell S i else S
def cInto (S : CS) (k b a : Int32) : CS :=
  if S.x 2 0 - S.x 12 0 < b + S.x 10 0 then
    if pFW (S.R 5) k b < (S.R 5).length then cRipe (cWin S ((S.R 5).set (pFW (S.R 5) k b) (upd ((S.R 5).getD (pFW (S.R 5) k b) pz) 3 (cFold S (((S.R 5).getD (pFW (S.R 5) k b) pz) 3) a)))) (pFW (S.R 5) k b)
    else cRipe (cAdd S k b (b + S.x 10 0) a) (pPos (S.R 5) k b (b + S.x 10 0))
  else uX S 3 0 (S.x 3 0 + 1)
theorem cRipe_mon (S : CS) (i : Nat) : pSum S.cap ≤ pSum (cRipe S i).cap := by
  unfold cRipe; split
  · exact cTell_mon S i
  · exact Nat.le_refl _
theorem cInto_mon (S : CS) (k b a : Int32) : pSum S.cap ≤ pSum (cInto S k b a).cap := by
  unfold cInto; split
  · split
    · exact Nat.le_trans (Nat.le_of_eq (cWin_sum S _).symm) (cRipe_mon _ _)
    · exact Nat.le_trans (cAdd_mon S _ _ _ _) (cRipe_mon _ _)
  · exact Nat.le_refl _
theorem c_ripe {S x y g} (h : RC S x y g) {i bc bs : Nat} (hi : i < (S.R 5).length) (hn : (S.R 4).length + 2 ≤ 4096) (hc : cOK S (cRipe S i) bc bs) {Φ : pK} (hΦ : ∀ x y g, RC (cRipe S i) x y g → Φ x y g) : jX0_putIntoWindow_102 Φ x y g (nI i) bc bs := by
  unfold jX0_putIntoWindow_102
  unfold cRipe at hc hΦ
  refine c_isRipe h hi (fun a => ⟨fun c => absurd c (by decide), fun _ => ⟨bc, bs, 0, 0, by omega, by omega, ?_⟩⟩) (fun a => ⟨fun _ => ?_, fun c => absurd rfl c⟩)
  · rw [if_pos a] at hc hΦ
    exact c_tell h hi hn hc hΦ
  · rw [if_neg (by rw [a]; decide)] at hΦ
    exact hΦ x y g h
theorem pPos_le (W : List pRow) (k b e : Int32) : pPos W k b e ≤ W.length := List.findIdx_le_length
theorem cOK.trans0 {S U T : CS} {bc bs : Nat} (h : cOK S T bc bs) (e : pSum U.cap = pSum S.cap) : cOK U T bc bs := ⟨by rw [e]; exact h.c, by rw [e]; exact h.s⟩
theorem c_into {S x y g} (h : RC S x y g) {bc bs : Nat} {k b a : Int32} (hn : (S.R 4).length + 2 ≤ 4096) (hn5 : (S.R 5).length < 4096) (hc : cOK S (cInto S k b a) bc bs) {Φ : pK} (hΦ : ∀ x y g, RC (cInto S k b a) x y g → Φ x y g) : wX0_putIntoWindow x y g k b a bc bs Φ := by
  unfold wX0_putIntoWindow wX0_horizon
  rw [h.hx 10 (by omega), h.hx 2 (by omega), h.hx 12 (by omega)]
  rintro _ rfl
  unfold cInto at hc hΦ
  refine ⟨fun l => ?_, fun l => ?_⟩
  · rw [if_pos l] at hc hΦ
    refine c_findWindow h (fun f => ?_) (fun f => ?_)
    · rw [if_pos f] at hc hΦ
      refine ⟨fun e => absurd e (p_m1 (by omega)), fun _ => c_get h (k := 3) (by omega) f (by decide) (c_fold h (c_set h (k := 3) (by omega) f (by decide) fun x y g h1 => ?_))⟩
      exact c_ripe h1 (by rw [cRw_R, List.length_set]; exact f) (by rw [cRw_Rn _ _ _ (by omega)]; exact hn) (hc.trans0 (cWin_sum _ _)) hΦ
    · rw [if_neg (by omega)] at hc hΦ
      obtain ⟨kc, ks, b2, s2, h1, h2, h3, h4⟩ := hc.split _ (cAdd_mon S k b (b + S.x 10 0) a) (cRipe_mon _ _)
      refine ⟨fun _ => ⟨kc, ks, b2, s2, h1, h2, c_addWindow h hn5 h3 fun x y g h5 => ?_⟩, fun e => absurd rfl e⟩
      refine c_ripe h5 ?_ ?_ h4 hΦ
      · rw [cAdd, cRw_R, List.length_insertIdx_of_le_length (pPos_le _ _ _ _)]
        have := pPos_le (S.R 5) k b (b + S.x 10 0)
        omega
      · rw [cAdd, cRw_Rn _ _ _ (by omega)]; exact hn
  · rw [if_neg l] at hΦ
    rw [h.hx 3 (by omega)]
    have h1 := h.X (k := 3) (i := 0) (v := S.x 3 0 + 1) (by omega)
    rw [h.hx 3 (by omega)] at h1
    exact hΦ _ _ _ h1
theorem p_bm {z : Int} (h1 : -2147483648 ≤ z) (h2 : z < 2147483648) : z.bmod (2 ^ 32) = z := by
  unfold Int.bmod
  have : ((2 ^ 32 : Nat) : Int) = 4294967296 := by decide
  simp only [CS.mk_R, CS.mk_cap, CS.mk_x, CS.mk_y, CS.mk_g, CS.mk_eta, this]
  split <;> omega
theorem i_sub {a b : Int32} (h1 : -2147483648 ≤ a.toInt - b.toInt) (h2 : a.toInt - b.toInt < 2147483648) : (a - b).toInt = a.toInt - b.toInt := by rw [Int32.toInt_sub, p_bm h1 h2]
theorem i_add {a b : Int32} (h1 : -2147483648 ≤ a.toInt + b.toInt) (h2 : a.toInt + b.toInt < 2147483648) : (a + b).toInt = a.toInt + b.toInt := by rw [Int32.toInt_add, p_bm h1 h2]
theorem i_lt {a b : Int32} : a < b ↔ a.toInt < b.toInt := Int32.lt_iff_toInt_lt
theorem i_le {a b : Int32} : a ≤ b ↔ a.toInt ≤ b.toInt := Int32.le_iff_toInt_le
theorem i_eq {a b : Int32} : a = b ↔ a.toInt = b.toInt := ⟨fun h => h ▸ rfl, Int32.toInt_inj.1⟩
def cSl (k a : Int32) : CS → List Int32 → CS
  | S, [] => S
  | S, b :: bs => cSl k a (cInto S k b a) bs
def pBegins (last sl : Nat) : Nat → List Int32
  | 0 => []
  | m + 1 => if m * sl ≤ last then nI (last - m * sl) :: pBegins last sl m else pBegins last sl m
theorem cSl_mon (k a : Int32) (S : CS) (bs : List Int32) : pSum S.cap ≤ pSum (cSl k a S bs).cap := by
  induction bs generalizing S with
  | nil => exact Nat.le_refl _
  | cons b bs ih => exact Nat.le_trans (cInto_mon S k b a) (ih _)
theorem cRipe_same (S : CS) (i : Nat) : (cRipe S i).x = S.x ∧ (cRipe S i).y = S.y ∧ (cRipe S i).g = S.g ∧ ((cRipe S i).R 5).length = (S.R 5).length ∧ ((cRipe S i).R 4).length ≤ (S.R 4).length + 2 := by
  unfold cRipe
  split
  · obtain ⟨h1, h2, h3, h4⟩ := cApp_same S (tRes (S.y 6 0) ((S.R 5).getD i pz))
    refine ⟨h2, h3, h4, ?_, ?_⟩
    · simp only [CS.mk_R, CS.mk_cap, CS.mk_x, CS.mk_y, CS.mk_g, CS.mk_eta, cTell, cWin, cRw, p_ug, List.length_set]
    · simp only [CS.mk_R, CS.mk_cap, CS.mk_x, CS.mk_y, CS.mk_g, CS.mk_eta, cTell, cWin, cRw, p_un _ _ (show (4 : Nat) ≠ 5 by decide), cApp_R4, List.length_append]
      have : (tRes (S.y 6 0) ((S.R 5).getD i pz)).length ≤ 2 := by
        unfold tRes
        split
        · simp
        · split
          · simp
          · split <;> simp
      omega
  · exact ⟨rfl, rfl, rfl, rfl, by omega⟩
theorem cInto_same (S : CS) (k b a : Int32) : (∀ j, j ≠ 3 → (cInto S k b a).x j = S.x j) ∧ (cInto S k b a).y = S.y ∧ (cInto S k b a).g = S.g ∧ ((cInto S k b a).R 5).length ≤ (S.R 5).length + 1 ∧ ((cInto S k b a).R 4).length ≤ (S.R 4).length + 2 := by
  unfold cInto
  split
  · split
    · obtain ⟨h1, h2, h3, h4, h5⟩ := cRipe_same (cWin S ((S.R 5).set (pFW (S.R 5) k b) (upd ((S.R 5).getD (pFW (S.R 5) k b) pz) 3 (cFold S (((S.R 5).getD (pFW (S.R 5) k b) pz) 3) a)))) (pFW (S.R 5) k b)
      refine ⟨fun j _ => by rw [h1]; rfl, h2, h3, ?_, ?_⟩
      · rw [h4, cWin, cRw_R, List.length_set]; omega
      · rw [cWin, cRw_Rn _ _ _ (show (4 : Nat) ≠ 5 by decide)] at h5; exact h5
    · obtain ⟨h1, h2, h3, h4, h5⟩ := cRipe_same (cAdd S k b (b + S.x 10 0) a) (pPos (S.R 5) k b (b + S.x 10 0))
      refine ⟨fun j _ => by rw [h1]; rfl, h2, h3, ?_, ?_⟩
      · rw [h4, cAdd, cRw_R, List.length_insertIdx_of_le_length (pPos_le _ _ _ _)]; omega
      · rw [cAdd, cRw_Rn _ _ _ (show (4 : Nat) ≠ 5 by decide)] at h5; exact h5
  · exact ⟨fun j hj => by simp only [CS.mk_R, CS.mk_cap, CS.mk_x, CS.mk_y, CS.mk_g, CS.mk_eta, uX, p_un _ _ hj], rfl, rfl, by simp only [CS.mk_R, CS.mk_cap, CS.mk_x, CS.mk_y, CS.mk_g, CS.mk_eta, uX]; omega, by simp only [CS.mk_R, CS.mk_cap, CS.mk_x, CS.mk_y, CS.mk_g, CS.mk_eta, uX]; omega⟩
def pBck : Nat → Int32
  | 0 => -1
  | m + 1 => nI m
theorem pBack_m (m : Nat) : nI m + (-1) = pBck m := by
  cases m with
  | zero => rfl
  | succ m => rw [← nI_1, Int32.add_assoc]; show nI m + (1 + -1) = nI m; rw [show (1 : Int32) + -1 = 0 from by decide, Int32.add_zero]
theorem c_slL {k a : Int32} {last sl : Nat} (hl : last < 2 ^ 20) (hsl : sl < 2 ^ 10) {Φ : pK} : ∀ (m n : Nat) (S : CS) (x : Nat → Nat → Int32) (y : Nat → Nat → Nat) (g : Nat → Nat → Nat → Int32) (bc bs : Nat), RC S x y g → m < n → m < 2 ^ 10 → S.x 11 0 = nI sl → (S.R 4).length + 2 * m ≤ 4096 → (S.R 5).length + m ≤ 4096 → cOK S (cSl k a S (pBegins last sl m)) bc bs → (∀ x y g, RC (cSl k a S (pBegins last sl m)) x y g → Φ x y g) → lX0_putIntoWindows_116 Φ n x y g k a (nI last) (pBck m) bc bs := by
  intro m
  induction m with
  | zero =>
    intro n S x y g bc bs h hmn _ _ _ _ hc hΦ
    obtain ⟨n, rfl⟩ : ∃ n', n = n' + 1 := ⟨n - 1, by omega⟩
    exact ⟨fun _ => hΦ x y g h, fun c => absurd (by decide) c⟩
  | succ m ih =>
    intro n S x y g bc bs h hmn hm hx h4 h5 hc hΦ
    obtain ⟨n, rfl⟩ : ∃ n', n = n' + 1 := ⟨n - 1, by omega⟩
    have hmm : m * sl < 2 ^ 10 * 2 ^ 10 := Nat.mul_lt_mul'' (by omega) hsl
    refine ⟨fun c => absurd c (nI_pos (by omega)), fun _ => ?_⟩
    rw [h.hx 11 (by omega), hx]
    simp only [CS.mk_R, CS.mk_cap, CS.mk_x, CS.mk_y, CS.mk_g, CS.mk_eta, pBck, p_mul]
    rintro _ rfl
    refine ⟨fun c => ?_, fun c => ?_⟩
    · rintro _ rfl
      rw [pBack_m]
      have hn : ¬ m * sl ≤ last := fun h2 => by rw [p_sub h2] at c; exact absurd c (nI_pos (by omega))
      simp only [CS.mk_R, CS.mk_cap, CS.mk_x, CS.mk_y, CS.mk_g, CS.mk_eta, pBegins, if_neg hn] at hc hΦ
      exact ih n S x y g bc bs h (by omega) (by omega) hx (by omega) (by omega) hc hΦ
    · have hle : m * sl ≤ last := by
        rcases Nat.lt_or_ge last (m * sl) with h2 | h2
        · refine absurd ?_ c
          rw [i_lt, i_sub (by rw [nI_toInt (by omega), nI_toInt (by omega)]; omega) (by rw [nI_toInt (by omega), nI_toInt (by omega)]; omega), nI_toInt (by omega), nI_toInt (by omega)]
          show _ < (0 : Int)
          omega
        · exact h2
      simp only [CS.mk_R, CS.mk_cap, CS.mk_x, CS.mk_y, CS.mk_g, CS.mk_eta, pBegins, if_pos hle, cSl] at hc hΦ
      rw [p_sub hle]
      obtain ⟨s1, s2, s3, s4, s5⟩ := cInto_same S k (nI (last - m * sl)) a
      obtain ⟨kc, ks, b2, s2', h1, h2, h3, h4'⟩ := hc.split _ (cInto_mon S k _ a) (cSl_mon k a _ _)
      refine ⟨kc, ks, b2, s2', h1, h2, c_into h (by omega) (by omega) h3 fun x y g hR => ?_⟩
      rintro _ rfl
      rw [pBack_m]
      exact ih n _ x y g b2 s2' hR (by omega) (by omega) (by rw [s1 11 (by decide)]; exact hx) (by omega) (by omega) h4' hΦ
theorem p_comm {α : Type} (f : Nat → α) {k j : Nat} (h : k ≠ j) (a b : α) : va_up (va_up f k a) j b = va_up (va_up f j b) k a := funext fun i => by
  unfold va_up
  by_cases e : i = j <;> by_cases e2 : i = k <;> simp [CS.mk_R, CS.mk_cap, CS.mk_x, CS.mk_y, CS.mk_g, CS.mk_eta, e, e2] <;> omega
def pMet (sz k t : Int32) (r : pRow) : Bool := r 0 == k && decide (r 1 < t + sz) && decide (t < r 2)
theorem pMet_iff {sz k t : Int32} {r : pRow} : pMet sz k t r = true ↔ r 0 = k ∧ r 1 < t + sz ∧ t < r 2 := by simp [CS.mk_R, CS.mk_cap, CS.mk_x, CS.mk_y, CS.mk_g, CS.mk_eta, pMet, and_assoc]
theorem pMet_f {sz k t : Int32} {r : pRow} (h : ¬ (r 0 = k ∧ r 1 < t + sz ∧ t < r 2)) : pMet sz k t r = false := by
  cases e : pMet sz k t r
  · rfl
  · exact absurd (pMet_iff.1 e) h
theorem c_isMet {S x y g} (h : RC S x y g) {i : Nat} {k t : Int32} (hi : i < (S.R 5).length) {Φ : Int32 → Prop} (h1 : pMet (S.x 10 0) k t ((S.R 5).getD i pz) = true → Φ 1) (h0 : pMet (S.x 10 0) k t ((S.R 5).getD i pz) = false → Φ 0) : wX0_isMet x y g (nI i) k t Φ := by
  unfold wX0_isMet
  rw [h.hx 10 (by omega)]
  exact c_get h (k := 0) (by omega) hi (by decide) ⟨fun a => c_get h (k := 1) (by omega) hi (by decide) ⟨fun b => h0 (pMet_f fun e => absurd b (Int32.not_le.2 e.2.1)), fun b => c_get h (k := 2) (by omega) hi (by decide) ⟨fun c => h0 (pMet_f fun e => absurd c (Int32.not_le.2 e.2.2)), fun c => h1 (pMet_iff.2 ⟨a, Int32.not_le.1 b, Int32.not_le.1 c⟩)⟩⟩, fun a => h0 (pMet_f fun e => a e.1)⟩
def pBk (r : pRow) : pRow := mkr (r 0) (r 1) (r 2) (r 5) 2
def pBacks (sz k t : Int32) (W : List pRow) : List pRow := (W.filter fun r => pMet sz k t r && r 4 == 1).map pBk
def pRest (sz k t : Int32) (W : List pRow) : List pRow := W.filter fun r => !pMet sz k t r
def cEnd (S : CS) (k t : Int32) : CS := cWin (cApp S (pBacks (S.x 10 0) k t (S.R 5))) (pRest (S.x 10 0) k t (S.R 5))
theorem cEnd_mon (S : CS) (k t : Int32) : pSum S.cap ≤ pSum (cEnd S k t).cap := by rw [cEnd, cWin_sum]; exact cApp_mon _ _
theorem p_app_getD {A B : List pRow} {r : pRow} : (A ++ r :: B).getD A.length pz = r := by simp [CS.mk_R, CS.mk_cap, CS.mk_x, CS.mk_y, CS.mk_g, CS.mk_eta, List.getD]
theorem p_app_rem {A B : List pRow} {r : pRow} : (A ++ r :: B).take A.length ++ (A ++ r :: B).drop (A.length + 1) = A ++ B := by
  simp [CS.mk_R, CS.mk_cap, CS.mk_x, CS.mk_y, CS.mk_g, CS.mk_eta, List.drop_append]
theorem cWin_win (S : CS) (W W' : List pRow) : cWin (cWin S W) W' = cWin S W' := by simp only [CS.mk_R, CS.mk_cap, CS.mk_x, CS.mk_y, CS.mk_g, CS.mk_eta, cWin, cRw_c, cRw_cRw]
theorem cApp_win (S : CS) (W : List pRow) (rs : List pRow) : cApp (cRw S 5 W (S.cap 5)) rs = cWin (cApp S rs) W := by
  induction rs generalizing S with
  | nil => rfl
  | cons r rs ih =>
    have e : cApp1 (cRw S 5 W (S.cap 5)) r = cRw (cApp1 S r) 5 W ((cApp1 S r).cap 5) := by
      simp only [CS.mk_R, CS.mk_cap, CS.mk_x, CS.mk_y, CS.mk_g, CS.mk_eta, cApp1, cRw, p_un _ _ (show (4 : Nat) ≠ 5 by decide), p_un _ _ (show (5 : Nat) ≠ 4 by decide)]
      congr 1
      · exact p_comm _ (by decide) _ _
      · exact p_comm _ (by decide) _ _
    rw [cApp, e, ih]; rfl
theorem c_endL {k t : Int32} {Φ : pK} : ∀ (B : List pRow) (n : Nat) (A : List pRow) (S : CS) (x : Nat → Nat → Int32) (y : Nat → Nat → Nat) (g : Nat → Nat → Nat → Int32) (bc bs : Nat), RC S x y g → S.R 5 = A ++ B → B.length < n → (S.R 4).length + B.length ≤ 4096 → cOK S (cApp S (pBacks (S.x 10 0) k t B)) bc bs → (∀ x y g, RC (cWin (cApp S (pBacks (S.x 10 0) k t B)) (A ++ pRest (S.x 10 0) k t B)) x y g → Φ x y g) → lX0_endSessions_17 Φ n x y g k t (nI A.length) (nI B.length) bc bs := by
  intro B
  induction B with
  | nil =>
    intro n A S x y g bc bs h hR hn _ hc hΦ
    obtain ⟨n, rfl⟩ : ∃ n', n = n' + 1 := ⟨n - 1, by omega⟩
    refine ⟨fun _ => hΦ x y g ?_, fun c => absurd (by decide) c⟩
    have e : cWin (cApp S (pBacks (S.x 10 0) k t [])) (A ++ pRest (S.x 10 0) k t []) = S := by
      show cRw S 5 (A ++ []) (S.cap 5) = S
      rw [← hR]
      simp only [CS.mk_R, CS.mk_cap, CS.mk_x, CS.mk_y, CS.mk_g, CS.mk_eta, cRw, p_us]
    rw [e]
    exact h
  | cons r B ih =>
    intro n A S x y g bc bs h hR hn h4 hc hΦ
    simp only [CS.mk_R, CS.mk_cap, CS.mk_x, CS.mk_y, CS.mk_g, CS.mk_eta, List.length_cons] at hn h4
    obtain ⟨n, rfl⟩ : ∃ n', n = n' + 1 := ⟨n - 1, by omega⟩
    have hlen : (S.R 5).length = A.length + (B.length + 1) := by rw [hR, List.length_append, List.length_cons]
    have hle := h.n (q := 5) (by omega)
    have hg : (S.R 5).getD A.length pz = r := by rw [hR, p_app_getD]
    have hm1 : nI (B.length + 1) + (-1) = nI B.length := pBack_m (B.length + 1)
    refine ⟨fun c => absurd c (nI_nle (by rw [List.length_cons]; omega) (by rw [List.length_cons]; omega)), fun _ => c_isMet h (by omega) (fun a => ?_) (fun a => ?_)⟩
    · rw [hg] at a
      refine ⟨fun c => absurd c (by decide), fun _ => c_get h (k := 4) (by omega) (by omega) (by decide) ?_⟩
      rw [hg]
      have er : pRest (S.x 10 0) k t (r :: B) = pRest (S.x 10 0) k t B := by simp [CS.mk_R, CS.mk_cap, CS.mk_x, CS.mk_y, CS.mk_g, CS.mk_eta, pRest, a]
      rw [er] at hΦ
      refine ⟨fun b => c_get h (k := 5) (by omega) (by omega) (by decide) ?_, fun b => ?_⟩
      · have eb : pBacks (S.x 10 0) k t (r :: B) = pBk r :: pBacks (S.x 10 0) k t B := by simp [CS.mk_R, CS.mk_cap, CS.mk_x, CS.mk_y, CS.mk_g, CS.mk_eta, pBacks, a, b]
        rw [hg]
        rw [eb] at hc hΦ
        obtain ⟨kc, ks, b2, s2, h1, h2, h3, h4'⟩ := hc.split (cApp1 S (pBk r)) (cApp1_mon _ _) (cApp_mon _ _)
        refine ⟨kc, ks, b2, s2, h1, h2, c_putResult h (by omega) (by omega) (by rw [hg]; rfl) h3 fun x y g hS => ?_⟩
        have e5 : (cApp1 S (pBk r)).R 5 = A ++ r :: B := by rw [cApp1, cRw_Rn _ _ _ (by omega), hR]
        refine c_remove hS (m := 1) (by omega) (by rw [e5, List.length_append, List.length_cons]; omega) fun x y g hS => ?_
        rw [e5, p_app_rem] at hS
        rintro _ rfl
        rw [List.length_cons, hm1]
        refine ih n A _ x y g b2 s2 hS (cRw_R _ _ _ _) (by omega) ?_ ?_ fun x y g hS => hΦ x y g ?_
        · rw [cRw_Rn _ _ _ (by omega), cApp1, cRw_R, List.length_append]; simp only [CS.mk_R, CS.mk_cap, CS.mk_x, CS.mk_y, CS.mk_g, CS.mk_eta, List.length_singleton]; omega
        · refine cOK.trans0 (S := cApp1 S (pBk r)) ⟨?_, ?_⟩ (cWin_sum _ _)
          · have := h4'.c
            rw [show cApp (cRw (cApp1 S (pBk r)) 5 (A ++ B) ((cApp1 S (pBk r)).cap 5)) (pBacks ((cRw (cApp1 S (pBk r)) 5 (A ++ B) ((cApp1 S (pBk r)).cap 5)).x 10 0) k t B) = cWin (cApp (cApp1 S (pBk r)) (pBacks (S.x 10 0) k t B)) (A ++ B) from cApp_win _ _ _, cWin_sum]
            exact this
          · have := h4'.s
            rw [show cApp (cRw (cApp1 S (pBk r)) 5 (A ++ B) ((cApp1 S (pBk r)).cap 5)) (pBacks ((cRw (cApp1 S (pBk r)) 5 (A ++ B) ((cApp1 S (pBk r)).cap 5)).x 10 0) k t B) = cWin (cApp (cApp1 S (pBk r)) (pBacks (S.x 10 0) k t B)) (A ++ B) from cApp_win _ _ _, cWin_sum]
            exact this
        · rw [show cApp (cRw (cApp1 S (pBk r)) 5 (A ++ B) ((cApp1 S (pBk r)).cap 5)) (pBacks ((cRw (cApp1 S (pBk r)) 5 (A ++ B) ((cApp1 S (pBk r)).cap 5)).x 10 0) k t B) = cWin (cApp (cApp1 S (pBk r)) (pBacks (S.x 10 0) k t B)) (A ++ B) from cApp_win _ _ _, cWin_win] at hS
          exact hS
      · have eb : pBacks (S.x 10 0) k t (r :: B) = pBacks (S.x 10 0) k t B := by simp [CS.mk_R, CS.mk_cap, CS.mk_x, CS.mk_y, CS.mk_g, CS.mk_eta, pBacks, b]
        rw [eb] at hc hΦ
        refine c_remove h (m := 1) (by omega) (by omega) fun x y g hS => ?_
        rw [hR, p_app_rem] at hS
        rintro _ rfl
        rw [List.length_cons, hm1]
        refine ih n A _ x y g bc bs hS (cRw_R _ _ _ _) (by omega) ?_ ?_ fun x y g hS => hΦ x y g ?_
        · rw [cRw_Rn _ _ _ (by omega)]; omega
        · refine cOK.trans0 (S := S) ⟨?_, ?_⟩ (cWin_sum _ _)
          · rw [show cApp (cRw S 5 (A ++ B) (S.cap 5)) (pBacks ((cRw S 5 (A ++ B) (S.cap 5)).x 10 0) k t B) = cWin (cApp S (pBacks (S.x 10 0) k t B)) (A ++ B) from cApp_win _ _ _, cWin_sum]
            exact hc.c
          · rw [show cApp (cRw S 5 (A ++ B) (S.cap 5)) (pBacks ((cRw S 5 (A ++ B) (S.cap 5)).x 10 0) k t B) = cWin (cApp S (pBacks (S.x 10 0) k t B)) (A ++ B) from cApp_win _ _ _, cWin_sum]
            exact hc.s
        · rw [show cApp (cRw S 5 (A ++ B) (S.cap 5)) (pBacks ((cRw S 5 (A ++ B) (S.cap 5)).x 10 0) k t B) = cWin (cApp S (pBacks (S.x 10 0) k t B)) (A ++ B) from cApp_win _ _ _, cWin_win] at hS
          exact hS
    · rw [hg] at a
      refine ⟨fun _ => ?_, fun c => absurd rfl c⟩
      have er : pRest (S.x 10 0) k t (r :: B) = r :: pRest (S.x 10 0) k t B := by simp [CS.mk_R, CS.mk_cap, CS.mk_x, CS.mk_y, CS.mk_g, CS.mk_eta, pRest, a]
      have eb : pBacks (S.x 10 0) k t (r :: B) = pBacks (S.x 10 0) k t B := by simp [CS.mk_R, CS.mk_cap, CS.mk_x, CS.mk_y, CS.mk_g, CS.mk_eta, pBacks, a]
      rw [eb] at hc hΦ
      rw [er] at hΦ
      rintro _ rfl
      rintro _ rfl
      rw [nI_1, List.length_cons, hm1]
      have := ih n (A ++ [r]) S x y g bc bs h (by rw [hR, List.append_assoc]; rfl) (by omega) (by omega) hc (fun x y g hS => hΦ x y g (by rwa [List.append_assoc] at hS))
      rwa [List.length_append] at this
theorem cOK.rebase {S T U : CS} {bc bs : Nat} (h : cOK S T bc bs) (e : pSum T.cap = pSum U.cap) : cOK S U bc bs := ⟨by rw [← e]; exact h.c, by rw [← e]; exact h.s⟩
theorem c_endSessions {S x y g} (h : RC S x y g) {k t : Int32} {bc bs : Nat} (h4 : (S.R 4).length + (S.R 5).length ≤ 4096) (hc : cOK S (cEnd S k t) bc bs) {Φ : pK} (hΦ : ∀ x y g, RC (cEnd S k t) x y g → Φ x y g) : wX0_endSessions x y g k t bc bs Φ := by
  unfold wX0_endSessions
  rw [h.len (q := 5) (by omega)]
  rintro _ rfl
  refine ⟨(S.R 5).length + 1, ?_⟩
  exact c_endL (S.R 5) _ [] S x y g bc bs h rfl (by omega) h4 (hc.rebase (cWin_sum _ _)) hΦ
def fB (b : Int32) (r : pRow) : Int32 := if r 1 < b then r 1 else b
def fE (e : Int32) (r : pRow) : Int32 := if e < r 2 then r 2 else e
def pLastM (M : pRow → Bool) : Nat → List pRow → Option Nat → Option Nat
  | _, [], m => m
  | i, r :: B, m => pLastM M (i + 1) B (if M r then some i else m)
def oI : Option Nat → Int32
  | none => -1
  | some i => nI i
def cKeep (S : CS) (i : Nat) (v : Int32) : CS := cWin S ((S.R 5).set i (upd ((S.R 5).getD i pz) 3 v))
def cGrow (S : CS) (k t b e tot : Int32) : CS := cRipe (cAdd (cEnd S k t) k b e tot) (pPos ((cEnd S k t).R 5) k b e)
theorem c_keep {S x y g} (h : RC S x y g) {i bc bs : Nat} {v : Int32} (hi : i < (S.R 5).length) (hn : (S.R 4).length + 2 ≤ 4096) (hc : cOK S (cRipe (cKeep S i v) i) bc bs) {Φ : pK} (hΦ : ∀ x y g, RC (cRipe (cKeep S i v) i) x y g → Φ x y g) : jX0_putIntoSession_199 Φ x y g v (nI i) bc bs := by
  unfold jX0_putIntoSession_199
  refine c_set h (k := 3) (by omega) hi (by decide) fun x y g h1 => ?_
  exact c_ripe h1 (by rw [cRw_R, List.length_set]; exact hi) (by rw [cRw_Rn _ _ _ (by omega)]; exact hn) (hc.trans0 (cWin_sum _ _)) hΦ
theorem upd_self (r : pRow) (k : Nat) : upd r k (r k) = r := funext fun j => by
  unfold upd; split
  · next h => rw [h]
  · rfl
theorem set_self {W : List pRow} {i : Nat} (h : i < W.length) : W.set i (W.getD i pz) = W := by
  apply List.ext_getElem?
  intro j
  rw [List.getElem?_set]
  split
  · next e => subst e; simp [CS.mk_R, CS.mk_cap, CS.mk_x, CS.mk_y, CS.mk_g, CS.mk_eta, List.getD, h]
  · rfl
theorem cKeep_self {S : CS} {i : Nat} (h : i < (S.R 5).length) (v : Int32) (hv : v = ((S.R 5).getD i pz) 3) : cKeep S i v = S := by
  rw [cKeep, hv, upd_self, set_self h, cWin, cRw, p_us, p_us, CS.mk_eta]
theorem c_grow {S x y g} (h : RC S x y g) {k t b e tot : Int32} {bc bs : Nat} (h4 : (S.R 4).length + (S.R 5).length + 2 ≤ 4096) (hc : cOK S (cGrow S k t b e tot) bc bs) {Φ : pK} (hΦ : ∀ x y g, RC (cGrow S k t b e tot) x y g → Φ x y g) : jX0_putIntoSession_177 Φ x y g k t b e tot bc bs := by
  have hl5 : ((cEnd S k t).R 5).length ≤ (S.R 5).length := by rw [cEnd, cWin, cRw_R]; exact List.length_filter_le _ _
  have hl4 : ((cEnd S k t).R 4).length ≤ (S.R 4).length + (S.R 5).length := by
    rw [cEnd, cWin, cRw_Rn _ _ _ (by omega), cApp_R4, List.length_append, pBacks, List.length_map]
    have := List.length_filter_le (fun r => pMet (S.x 10 0) k t r && r 4 == 1) (S.R 5)
    omega
  unfold jX0_putIntoSession_177
  obtain ⟨kc, ks, b2, s2, h1, h2, h3, h5⟩ := hc.split (cEnd S k t) (cEnd_mon _ _ _) (Nat.le_trans (cAdd_mon _ k b e tot) (cRipe_mon _ _))
  refine ⟨kc, ks, b2, s2, h1, h2, c_endSessions h (by omega) h3 fun x y g hS => ?_⟩
  obtain ⟨kc, ks, b3, s3, h1, h2, h3, h6⟩ := h5.split (cAdd (cEnd S k t) k b e tot) (cAdd_mon _ k b e tot) (cRipe_mon _ _)
  by_cases hlt : ((cEnd S k t).R 5).length < 4096
  · refine ⟨kc, ks, b3, s3, h1, h2, c_addWindow hS hlt h3 fun x y g hS => ?_⟩
    have hp := pPos_le ((cEnd S k t).R 5) k b e
    have hi : pPos ((cEnd S k t).R 5) k b e < ((cAdd (cEnd S k t) k b e tot).R 5).length := by rw [cAdd, cRw_R, List.length_insertIdx_of_le_length hp]; omega
    have ek : cKeep (cAdd (cEnd S k t) k b e tot) (pPos ((cEnd S k t).R 5) k b e) tot = cAdd (cEnd S k t) k b e tot := cKeep_self hi tot (by rw [cAdd, cRw_R, p_insget hp]; rfl)
    refine c_keep hS hi (by rw [cAdd, cRw_Rn _ _ _ (by omega)]; omega) (by rw [ek]; exact h6) fun x y g hS => ?_
    rw [ek] at hS
    exact hΦ x y g hS
  · omega
def cSes (S : CS) (k t a : Int32) : CS :=
  let Ms := (S.R 5).filter (pMet (S.x 10 0) k t)
  let b := Ms.foldl fB t
  let e := Ms.foldl fE (t + S.x 10 0)
  let tot := Ms.foldl (fun u r => cFold S u (r 3)) a
  match pLastM (pMet (S.x 10 0) k t) 0 (S.R 5) none with
  | none => if S.x 2 0 - S.x 12 0 < e then cGrow S k t b e tot else uX S 3 0 (S.x 3 0 + 1)
  | some i => if ((S.R 5).getD i pz) 1 = b ∧ ((S.R 5).getD i pz) 2 = e then cRipe (cKeep S i tot) i else cGrow S k t b e tot
def pT (Φ : pK) (x : Nat → Nat → Int32) (y : Nat → Nat → Nat) (g : Nat → Nat → Nat → Int32) (k t : Int32) (bc bs : Nat) (b e tot m : Int32) : Prop :=
  (m = (-1) → (wX0_horizon x y g (fun r => ((r < e → (jX0_putIntoSession_141 Φ x y g k t b e tot m bc bs)) ∧ (¬ r < e → (Φ (va_up x 3 (va_up (x 3) 0 (((x 3) 0) + 1))) y g)))))) ∧ (¬ m = (-1) → (jX0_putIntoSession_141 Φ x y g k t b e tot m bc bs))
theorem c_sesL {S x y g} (h : RC S x y g) {k t : Int32} {bc bs : Nat} {Φ : pK} : ∀ (B : List pRow) (n i : Nat) (b e tot : Int32) (m : Option Nat), (S.R 5).drop i = B → i + B.length = (S.R 5).length → B.length < n → pT Φ x y g k t bc bs ((B.filter (pMet (S.x 10 0) k t)).foldl fB b) ((B.filter (pMet (S.x 10 0) k t)).foldl fE e) ((B.filter (pMet (S.x 10 0) k t)).foldl (fun u r => cFold S u (r 3)) tot) (oI (pLastM (pMet (S.x 10 0) k t) i B m)) → lX0_putIntoSession_32 Φ n x y g k t b e tot (oI m) (nI i) bc bs := by
  have hle := h.n (q := 5) (by omega)
  intro B
  induction B with
  | nil =>
    intro n i b e tot m hd hi hn hT
    obtain ⟨n, rfl⟩ : ∃ n', n = n' + 1 := ⟨n - 1, by omega⟩
    simp only [CS.mk_R, CS.mk_cap, CS.mk_x, CS.mk_y, CS.mk_g, CS.mk_eta, List.length_nil, Nat.add_zero] at hi
    simp only [CS.mk_R, CS.mk_cap, CS.mk_x, CS.mk_y, CS.mk_g, CS.mk_eta, lX0_putIntoSession_32, h.len (q := 5) (by omega), hi]
    exact ⟨fun _ => hT, fun c => absurd (nI_le (Nat.le_refl _) (by omega)) c⟩
  | cons r B ih =>
    intro n i b e tot m hd hi hn hT
    simp only [CS.mk_R, CS.mk_cap, CS.mk_x, CS.mk_y, CS.mk_g, CS.mk_eta, List.length_cons] at hi hn
    obtain ⟨n, rfl⟩ : ∃ n', n = n' + 1 := ⟨n - 1, by omega⟩
    have hg : (S.R 5).getD i pz = r := by
      have : (S.R 5)[i]? = some r := by
        have := congrArg (fun l => l[0]?) hd
        simpa [List.getElem?_drop] using this
      simp [CS.mk_R, CS.mk_cap, CS.mk_x, CS.mk_y, CS.mk_g, CS.mk_eta, List.getD, this]
    have hd2 : (S.R 5).drop (i + 1) = B := by
      have := congrArg List.tail hd
      simpa using this
    simp only [CS.mk_R, CS.mk_cap, CS.mk_x, CS.mk_y, CS.mk_g, CS.mk_eta, lX0_putIntoSession_32, h.len (q := 5) (by omega)]
    refine ⟨fun c => absurd c (nI_ge (by omega) (by omega)), fun _ => c_isMet h (by omega) (fun a => ?_) (fun a => ?_)⟩
    · rw [hg] at a
      simp only [CS.mk_R, CS.mk_cap, CS.mk_x, CS.mk_y, CS.mk_g, CS.mk_eta, List.filter_cons, a, if_true, List.foldl_cons, pLastM] at hT
      refine ⟨fun c => absurd c (by decide), fun _ => c_get h (k := 1) (by omega) (by omega) (by decide) ?_⟩
      rintro _ rfl
      refine c_get h (k := 2) (by omega) (by omega) (by decide) ?_
      rintro _ rfl
      refine c_get h (k := 3) (by omega) (by omega) (by decide) (c_fold h ?_)
      rintro _ rfl
      rw [hg, nI_1]
      exact ih n (i + 1) _ _ _ (some i) hd2 (by omega) (by omega) hT
    · rw [hg] at a
      have a2 : ¬ pMet (S.x 10 0) k t r = true := by rw [a]; decide
      simp only [CS.mk_R, CS.mk_cap, CS.mk_x, CS.mk_y, CS.mk_g, CS.mk_eta, List.filter_cons, if_neg a2, pLastM] at hT
      refine ⟨fun _ => ?_, fun c => absurd rfl c⟩
      rintro _ rfl
      rw [nI_1]
      exact ih n (i + 1) _ _ _ m hd2 (by omega) (by omega) hT
theorem pLastM_lt {M : pRow → Bool} : ∀ (B : List pRow) (i : Nat) (m : Option Nat) (j : Nat), pLastM M i B m = some j → m = some j ∨ (i ≤ j ∧ j < i + B.length) := by
  intro B
  induction B with
  | nil => intro i m j h; exact .inl h
  | cons r B ih =>
    intro i m j h
    rw [pLastM] at h
    rcases ih _ _ _ h with h2 | h2
    · split at h2
      · exact .inr ⟨by injection h2; omega, by injection h2; rw [List.length_cons]; omega⟩
      · exact .inl h2
    · exact .inr ⟨by omega, by rw [List.length_cons]; omega⟩
theorem c_session {S x y g} (h : RC S x y g) {k t a : Int32} {bc bs : Nat} (h4 : (S.R 4).length + (S.R 5).length + 2 ≤ 4096) (hc : cOK S (cSes S k t a) bc bs) {Φ : pK} (hΦ : ∀ x y g, RC (cSes S k t a) x y g → Φ x y g) : wX0_putIntoSession x y g k t a bc bs Φ := by
  have hle := h.n (q := 5) (by omega)
  unfold wX0_putIntoSession
  rw [h.hx 10 (by omega)]
  rintro _ rfl
  refine ⟨(S.R 5).length + 1, ?_⟩
  refine c_sesL h (S.R 5) _ 0 _ _ _ none rfl (by omega) (by omega) ?_
  unfold cSes at hc hΦ
  try dsimp only [CS.mk_R, CS.mk_cap, CS.mk_x, CS.mk_y, CS.mk_g, CS.mk_eta] at hc hΦ
  generalize hb : ((S.R 5).filter (pMet (S.x 10 0) k t)).foldl fB t = b at *
  generalize he : ((S.R 5).filter (pMet (S.x 10 0) k t)).foldl fE (t + S.x 10 0) = e at *
  generalize ht : ((S.R 5).filter (pMet (S.x 10 0) k t)).foldl (fun u r => cFold S u (r 3)) a = tot at *
  have hgr : cOK S (cGrow S k t b e tot) bc bs → (∀ x y g, RC (cGrow S k t b e tot) x y g → Φ x y g) → jX0_putIntoSession_177 Φ x y g k t b e tot bc bs := fun h1 h2 => c_grow h h4 h1 h2
  cases hm : pLastM (pMet (S.x 10 0) k t) 0 (S.R 5) none with
  | none =>
    simp only [CS.mk_R, CS.mk_cap, CS.mk_x, CS.mk_y, CS.mk_g, CS.mk_eta, hm] at hc hΦ
    unfold pT wX0_horizon oI
    rw [h.hx 2 (by omega), h.hx 12 (by omega)]
    refine ⟨fun _ => ⟨fun l => ?_, fun l => ?_⟩, fun c => absurd rfl c⟩
    · rw [if_pos l] at hc hΦ
      exact ⟨fun _ => hgr hc hΦ, fun c => absurd rfl c⟩
    · rw [if_neg l] at hΦ
      have h1 := h.X (k := 3) (i := 0) (v := S.x 3 0 + 1) (by omega)
      rw [h.hx 3 (by omega)] at h1 ⊢
      exact hΦ _ _ _ h1
  | some i =>
    have hi : i < (S.R 5).length := by
      rcases pLastM_lt _ _ _ _ hm with h2 | h2
      · exact absurd h2 (by simp)
      · omega
    simp only [CS.mk_R, CS.mk_cap, CS.mk_x, CS.mk_y, CS.mk_g, CS.mk_eta, hm] at hc hΦ
    unfold pT oI
    refine ⟨fun c => absurd c (p_m1 (by omega)), fun _ => ⟨fun c => absurd c (p_m1 (by omega)), fun _ => c_get h (k := 1) (by omega) hi (by decide) ⟨fun c1 => c_get h (k := 2) (by omega) hi (by decide) ⟨fun c2 => ?_, fun c2 => ?_⟩, fun c1 => ?_⟩⟩⟩
    · rw [if_pos ⟨c1, c2⟩] at hc hΦ
      exact c_keep h hi (by omega) hc hΦ
    · rw [if_neg (fun e => c2 e.2)] at hc hΦ
      exact hgr hc hΦ
    · rw [if_neg (fun e => c1 e.1)] at hc hΦ
      exact hgr hc hΦ
