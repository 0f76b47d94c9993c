def pOk (r : pRow) : Prop := (r 4 = 0 ∧ r 5 = 0) ∨ r 4 = 1
theorem pOk.b {r : pRow} (h : pOk r) : r 4 = 0 ∨ r 4 = 1 := h.elim (fun e => .inl e.1) .inr
abbrev MS : Type := (Nat → Int32) × (Nat → Nat → Int32) × (Nat → List pRow) × (List pRow)
abbrev MS.mk (a0 : Nat → Int32) (a1 : Nat → Nat → Int32) (a2 : Nat → List pRow) (a3 : List pRow) : MS := (a0, a1, a2, a3)
abbrev MS.x (S : MS) : Nat → Int32 := Prod.fst S
abbrev MS.g (S : MS) : Nat → Nat → Int32 := Prod.fst (Prod.snd S)
abbrev MS.V (S : MS) : Nat → List pRow := Prod.fst (Prod.snd (Prod.snd S))
abbrev MS.T (S : MS) : List pRow := (Prod.snd (Prod.snd (Prod.snd S)))
theorem MS.mk_x (a0 : Nat → Int32) (a1 : Nat → Nat → Int32) (a2 : Nat → List pRow) (a3 : List pRow) : (MS.mk a0 a1 a2 a3).x = a0 := rfl
theorem MS.mk_g (a0 : Nat → Int32) (a1 : Nat → Nat → Int32) (a2 : Nat → List pRow) (a3 : List pRow) : (MS.mk a0 a1 a2 a3).g = a1 := rfl
theorem MS.mk_V (a0 : Nat → Int32) (a1 : Nat → Nat → Int32) (a2 : Nat → List pRow) (a3 : List pRow) : (MS.mk a0 a1 a2 a3).V = a2 := rfl
theorem MS.mk_T (a0 : Nat → Int32) (a1 : Nat → Nat → Int32) (a2 : Nat → List pRow) (a3 : List pRow) : (MS.mk a0 a1 a2 a3).T = a3 := rfl
theorem MS.mk_eta (S : MS) : MS.mk S.x S.g S.V S.T = S := rfl
abbrev RM (M : MS) (x : Nat → Int32) (g : Nat → Nat → Int32) : Prop := (x = M.x) ∧ (∀ k, k < 28 ∨ 34 < k → k < 38 ∨ 42 < k → g k = M.g k) ∧ (∀ p, p < 7 → g 28 p = nI (M.V p).length) ∧ (∀ p, p < 7 → (M.V p).length ≤ 1200) ∧ (∀ p, p < 7 → ∀ i c, i < (M.V p).length → c < 6 → g (29 + c) (1200 * p + i) = ((M.V p).getD i pz) c) ∧ (∀ p, p < 7 → ∀ i, i < (M.V p).length → pOk ((M.V p).getD i pz)) ∧ (M.T.length ≤ 8000) ∧ (M.g 27 6 = nI M.T.length) ∧ (∀ i c, i < M.T.length → c < 5 → g (38 + c) i = (M.T.getD i pz) c)
theorem RM.hx {M : MS} {x : Nat → Int32} {g : Nat → Nat → Int32} (h_ : RM M x g) : x = M.x := h_.1
theorem RM.hg {M : MS} {x : Nat → Int32} {g : Nat → Nat → Int32} (h_ : RM M x g) : ∀ k, k < 28 ∨ 34 < k → k < 38 ∨ 42 < k → g k = M.g k := h_.2.1
theorem RM.n28 {M : MS} {x : Nat → Int32} {g : Nat → Nat → Int32} (h_ : RM M x g) : ∀ p, p < 7 → g 28 p = nI (M.V p).length := h_.2.2.1
theorem RM.len {M : MS} {x : Nat → Int32} {g : Nat → Nat → Int32} (h_ : RM M x g) : ∀ p, p < 7 → (M.V p).length ≤ 1200 := h_.2.2.2.1
theorem RM.win {M : MS} {x : Nat → Int32} {g : Nat → Nat → Int32} (h_ : RM M x g) : ∀ p, p < 7 → ∀ i c, i < (M.V p).length → c < 6 → g (29 + c) (1200 * p + i) = ((M.V p).getD i pz) c := h_.2.2.2.2.1
theorem RM.bo {M : MS} {x : Nat → Int32} {g : Nat → Nat → Int32} (h_ : RM M x g) : ∀ p, p < 7 → ∀ i, i < (M.V p).length → pOk ((M.V p).getD i pz) := h_.2.2.2.2.2.1
theorem RM.tl {M : MS} {x : Nat → Int32} {g : Nat → Nat → Int32} (h_ : RM M x g) : M.T.length ≤ 8000 := h_.2.2.2.2.2.2.1
theorem RM.n27 {M : MS} {x : Nat → Int32} {g : Nat → Nat → Int32} (h_ : RM M x g) : M.g 27 6 = nI M.T.length := h_.2.2.2.2.2.2.2.1
theorem RM.res {M : MS} {x : Nat → Int32} {g : Nat → Nat → Int32} (h_ : RM M x g) : ∀ i c, i < M.T.length → c < 5 → g (38 + c) i = (M.T.getD i pz) c := h_.2.2.2.2.2.2.2.2
abbrev pJ := (Nat → Int32) → (Nat → Nat → Int32) → Prop
theorem p_nar0 : vp_nar .boolean 0 = 0 := rfl
theorem p_nar1 : vp_nar .boolean 1 = 1 := rfl
theorem p_nar {v : Int32} (h : v = 0 ∨ v = 1) : vp_nar .boolean v = v := by
  rcases h with h | h <;> subst h <;> rfl
theorem RM.g28 {M x g} (h : RM M x g) : g 28 6 = nI (M.V 6).length := h.n28 6 (by omega)
theorem RM.w {M x g} (h : RM M x g) {i : Nat} (c : Nat) (hi : i < (M.V 6).length) (hc : c < 6) : g (29 + c) (7200 + i) = ((M.V 6).getD i pz) c := h.win 6 (by omega) i c hi hc
theorem RM.W {M x g} (h : RM M x g) (k : Nat) (h1 : k < 28 ∨ 34 < k) (h2 : k < 38 ∨ 42 < k) : g k = M.g k := h.hg k h1 h2
theorem nI_cl {n : Nat} (h : n < 2 ^ 31) : (nI n).toNatClampNeg = n := nI_clamp h
def mApp1 (M : MS) (r : pRow) : MS := (MS.mk M.x (va_up M.g 27 (upd (M.g 27) 6 (nI (M.T.length + 1)))) M.V (M.T ++ [r]))
theorem p_6 : (6 : Int32).toNatClampNeg = 6 := by decide
theorem p_5 : (5 : Int32).toNatClampNeg = 5 := by decide
theorem v_in {a : Int32} (n N : Nat) (e : a = nI n) (h : n < N) (h2 : N < 2 ^ 31) : vp_in a N := e ▸ vp_in_nI h h2
def mCol (M : MS) (i c : Nat) (v : Int32) : MS := (MS.mk M.x M.g (va_up M.V 6 ((M.V 6).set i (upd ((M.V 6).getD i pz) c v))) M.T)
theorem p_getset_ne {W : List pRow} {i j : Nat} (a : pRow) (h : j ≠ i) : (W.set i a).getD j pz = W.getD j pz := by simp [CS.mk_R, CS.mk_cap, CS.mk_x, CS.mk_y, CS.mk_g, CS.mk_eta, MS.mk_x, MS.mk_g, MS.mk_V, MS.mk_T, MS.mk_eta, List.getD, List.getElem?_set, Ne.symm h]
theorem RM.col {M x g} (h : RM M x g) {i c : Nat} {v : Int32} (hi : i < (M.V 6).length) (hc : c < 6) (hv : pOk (upd ((M.V 6).getD i pz) c v)) : RM (mCol M i c v) x (va_up g (29 + c) (upd (g (29 + c)) (7200 + i) v)) := by
  have hl := h.len 6 (by omega)
  refine ⟨h.hx, fun k h1 h2 => ?_, fun p hp => ?_, fun p hp => ?_, fun p hp j c2 hj hc2 => ?_, fun p hp j hj => ?_, h.tl, h.n27, fun j c2 hj hc2 => ?_⟩
  · rw [p_un _ _ (by omega)]; exact h.hg k h1 h2
  · rw [p_un _ _ (by omega)]
    simp only [CS.mk_R, CS.mk_cap, CS.mk_x, CS.mk_y, CS.mk_g, CS.mk_eta, MS.mk_x, MS.mk_g, MS.mk_V, MS.mk_T, MS.mk_eta, mCol]
    by_cases e : p = 6
    · subst e; rw [p_ug, List.length_set]; exact h.n28 6 hp
    · rw [p_un _ _ e]; exact h.n28 p hp
  · simp only [CS.mk_R, CS.mk_cap, CS.mk_x, CS.mk_y, CS.mk_g, CS.mk_eta, MS.mk_x, MS.mk_g, MS.mk_V, MS.mk_T, MS.mk_eta, mCol]
    by_cases e : p = 6
    · subst e; rw [p_ug, List.length_set]; exact hl
    · rw [p_un _ _ e]; exact h.len p hp
  · simp only [CS.mk_R, CS.mk_cap, CS.mk_x, CS.mk_y, CS.mk_g, CS.mk_eta, MS.mk_x, MS.mk_g, MS.mk_V, MS.mk_T, MS.mk_eta, mCol] at hj ⊢
    by_cases e : p = 6
    · subst e
      rw [p_ug] at hj ⊢
      rw [List.length_set] at hj
      by_cases ec : c2 = c
      · subst ec
        rw [p_ug]
        unfold upd
        by_cases ej : j = i
        · subst ej; rw [if_pos (by omega), p_getset hj, if_pos rfl]
        · rw [if_neg (by omega), p_getset_ne _ ej]; exact h.win 6 hp j c2 hj hc2
      · rw [p_un _ _ (by omega)]
        by_cases ej : j = i
        · subst ej; rw [p_getset hj, upd, if_neg ec]; exact h.win 6 hp j c2 hj hc2
        · rw [p_getset_ne _ ej]; exact h.win 6 hp j c2 hj hc2
    · rw [p_un _ _ e] at hj ⊢
      have := h.len p hp
      by_cases ec : c2 = c
      · subst ec
        rw [p_ug, upd, if_neg (by omega)]; exact h.win p hp j c2 hj hc2
      · rw [p_un _ _ (by omega)]; exact h.win p hp j c2 hj hc2
  · simp only [CS.mk_R, CS.mk_cap, CS.mk_x, CS.mk_y, CS.mk_g, CS.mk_eta, MS.mk_x, MS.mk_g, MS.mk_V, MS.mk_T, MS.mk_eta, mCol] at hj ⊢
    by_cases e : p = 6
    · subst e
      rw [p_ug] at hj ⊢
      rw [List.length_set] at hj
      by_cases ej : j = i
      · subst ej
        rw [p_getset hj]
        exact hv
      · rw [p_getset_ne _ ej]; exact h.bo 6 hp j hj
    · rw [p_un _ _ e] at hj ⊢; exact h.bo p hp j hj
  · rw [p_un _ _ (by omega)]; exact h.res j c2 hj hc2
def mApp : MS → List pRow → MS
  | M, [] => M
  | M, r :: rs => mApp (mApp1 M r) rs
theorem mApp_app (M : MS) (a b : List pRow) : mApp M (a ++ b) = mApp (mApp M a) b := by
  induction a generalizing M with
  | nil => rfl
  | cons r a ih => exact ih (mApp1 M r)
theorem mApp_T (M : MS) (rs : List pRow) : (mApp M rs).T = M.T ++ rs := by
  induction rs generalizing M with
  | nil => simp [CS.mk_R, CS.mk_cap, CS.mk_x, CS.mk_y, CS.mk_g, CS.mk_eta, MS.mk_x, MS.mk_g, MS.mk_V, MS.mk_T, MS.mk_eta, mApp]
  | cons r rs ih => rw [mApp, ih]; simp [CS.mk_R, CS.mk_cap, CS.mk_x, CS.mk_y, CS.mk_g, CS.mk_eta, MS.mk_x, MS.mk_g, MS.mk_V, MS.mk_T, MS.mk_eta, mApp1]
theorem mApp_same (M : MS) (rs : List pRow) : (mApp M rs).V = M.V ∧ (mApp M rs).x = M.x ∧ (∀ k, k ≠ 27 → (mApp M rs).g k = M.g k) ∧ (∀ i, i ≠ 6 → (mApp M rs).g 27 i = M.g 27 i) := by
  induction rs generalizing M with
  | nil => exact ⟨rfl, rfl, fun _ _ => rfl, fun _ _ => rfl⟩
  | cons r rs ih =>
    obtain ⟨h1, h2, h3, h4⟩ := ih (mApp1 M r)
    refine ⟨h1, h2, fun k hk => ?_, fun i hi => ?_⟩
    · rw [mApp, h3 k hk]; simp only [CS.mk_R, CS.mk_cap, CS.mk_x, CS.mk_y, CS.mk_g, CS.mk_eta, MS.mk_x, MS.mk_g, MS.mk_V, MS.mk_T, MS.mk_eta, mApp1, p_un _ _ hk]
    · rw [mApp, h4 i hi]; simp only [CS.mk_R, CS.mk_cap, CS.mk_x, CS.mk_y, CS.mk_g, CS.mk_eta, MS.mk_x, MS.mk_g, MS.mk_V, MS.mk_T, MS.mk_eta, mApp1, p_ug, upd, if_neg hi]
def mMode (v : Int32) : Nat := if v = 0 then 12 else if v = 1 then 13 else 14
def mRow (M : MS) (i : Nat) : pRow := (M.V 6).getD i pz
def mWin (M : MS) (W : List pRow) : MS := (MS.mk M.x M.g (va_up M.V 6 W) M.T)
def mTell (M : MS) (i : Nat) : MS := mWin (mApp M (tRes (mMode (M.g 6 8)) (mRow M i))) ((M.V 6).set i (tWin (mRow M i)))
def pcw (g : Nat → Nat → Int32) (a b : Nat) : Nat → Nat → Int32 := fun k j => if 29 ≤ k ∧ k ≤ 34 ∧ j = b then g k a else g k j
theorem RM.putWin {M x g} (h : RM M x g) {g' : Nat → Nat → Int32} {W : List pRow} (h1 : ∀ k, k < 28 ∨ 34 < k → g' k = g k) (h28 : g' 28 = upd (g 28) 6 (nI W.length)) (hl : W.length ≤ 1200) (hlow : ∀ k j, 29 ≤ k → k ≤ 34 → j < 7200 → g' k j = g k j) (hw : ∀ i c, i < W.length → c < 6 → g' (29 + c) (7200 + i) = (W.getD i pz) c) (hb : ∀ i, i < W.length → pOk (W.getD i pz)) : RM (mWin M W) x g' := by
  refine ⟨h.hx, fun k a b => ?_, fun p hp => ?_, fun p hp => ?_, fun p hp j c hj hc => ?_, fun p hp j hj => ?_, h.tl, h.n27, fun j c hj hc => ?_⟩
  · rw [h1 k a]; exact h.hg k a b
  · rw [h28]
    simp only [CS.mk_R, CS.mk_cap, CS.mk_x, CS.mk_y, CS.mk_g, CS.mk_eta, MS.mk_x, MS.mk_g, MS.mk_V, MS.mk_T, MS.mk_eta, mWin]
    by_cases e : p = 6
    · subst e; rw [p_ug, upd, if_pos rfl]
    · rw [p_un _ _ e, upd, if_neg e]; exact h.n28 p hp
  · simp only [CS.mk_R, CS.mk_cap, CS.mk_x, CS.mk_y, CS.mk_g, CS.mk_eta, MS.mk_x, MS.mk_g, MS.mk_V, MS.mk_T, MS.mk_eta, mWin]
    by_cases e : p = 6
    · subst e; rw [p_ug]; exact hl
    · rw [p_un _ _ e]; exact h.len p hp
  · simp only [CS.mk_R, CS.mk_cap, CS.mk_x, CS.mk_y, CS.mk_g, CS.mk_eta, MS.mk_x, MS.mk_g, MS.mk_V, MS.mk_T, MS.mk_eta, mWin] at hj ⊢
    by_cases e : p = 6
    · subst e; rw [p_ug] at hj ⊢; exact hw j c hj hc
    · rw [p_un _ _ e] at hj ⊢
      have := h.len p hp
      rw [hlow _ _ (by omega) (by omega) (by omega)]
      exact h.win p hp j c hj hc
  · simp only [CS.mk_R, CS.mk_cap, CS.mk_x, CS.mk_y, CS.mk_g, CS.mk_eta, MS.mk_x, MS.mk_g, MS.mk_V, MS.mk_T, MS.mk_eta, mWin] at hj ⊢
    by_cases e : p = 6
    · subst e; rw [p_ug] at hj ⊢; exact hb j hj
    · rw [p_un _ _ e] at hj ⊢; exact h.bo p hp j hj
  · rw [h1 _ (by omega)]; exact h.res j c hj hc
theorem p_erase {W : List pRow} {i j : Nat} : (W.eraseIdx i).getD j pz = if j < i then W.getD j pz else W.getD (j + 1) pz := by
  simp only [CS.mk_R, CS.mk_cap, CS.mk_x, CS.mk_y, CS.mk_g, CS.mk_eta, MS.mk_x, MS.mk_g, MS.mk_V, MS.mk_T, MS.mk_eta, List.getD, List.getElem?_eraseIdx]
  split <;> rfl
theorem p_vin6 : vp_in (6 : Int32) 7 := by unfold vp_in; decide
abbrev pGt (k b : Int32) (r : pRow) : Prop := k < r 0 ∨ (r 0 = k ∧ ¬ r 1 ≤ b)
def mPosL (W : List pRow) (k b : Int32) : Nat → Nat
  | 0 => 0
  | m + 1 => if pGt k b (W.getD m pz) then mPosL W k b m else m + 1
def mPos (W : List pRow) (k b : Int32) : Nat := mPosL W k b W.length
theorem mPosL_le (W : List pRow) (k b : Int32) (m : Nat) : mPosL W k b m ≤ m := by
  induction m with
  | zero => exact Nat.le_refl _
  | succ m ih => rw [mPosL]; split <;> omega
theorem p_insD {W : List pRow} {p : Nat} (hp : p ≤ W.length) (r : pRow) (j : Nat) : (W.insertIdx p r).getD j pz = if j < p then W.getD j pz else if j = p then r else W.getD (j - 1) pz := by
  simp only [CS.mk_R, CS.mk_cap, CS.mk_x, CS.mk_y, CS.mk_g, CS.mk_eta, MS.mk_x, MS.mk_g, MS.mk_V, MS.mk_T, MS.mk_eta, List.getD, List.getElem?_insertIdx]
  split
  · rfl
  · split
    · next e => rw [if_pos (by omega)]; rfl
    · rfl
theorem p_getD_cons {A : List pRow} {i : Nat} (h : i < A.length) : A.drop i = A.getD i pz :: A.drop (i + 1) := by
  rw [List.drop_eq_getElem_cons h]; congr 1; simp [CS.mk_R, CS.mk_cap, CS.mk_x, CS.mk_y, CS.mk_g, CS.mk_eta, MS.mk_x, MS.mk_g, MS.mk_V, MS.mk_T, MS.mk_eta, List.getD, h]
def mOver (M : MS) (e : Int32) : Bool := decide (e + M.g 6 7 ≤ M.g 25 6)
theorem p_7 : (7 : Int32).toNatClampNeg = 7 := by decide
theorem p_0 : (0 : Int32).toNatClampNeg = 0 := by decide
theorem p_1 : (1 : Int32).toNatClampNeg = 1 := by decide
theorem p_2 : (2 : Int32).toNatClampNeg = 2 := by decide
theorem p_3 : (3 : Int32).toNatClampNeg = 3 := by decide
theorem p_4 : (4 : Int32).toNatClampNeg = 4 := by decide
theorem p_v9 {a : Int32} (h : 0 ≤ a.toInt ∧ a.toInt < 9) : vp_in a 9 := vp_in_iff.2 h
def mFold (M : MS) (a b : Int32) : Int32 := if M.g 6 0 = 2 then (if a ≤ b then b else a) else a + b
def mIts (M : MS) (v : Int32) : Int32 := if M.g 6 0 = 1 then 1 else v
def mRipe (M : MS) (i : Nat) : MS := if (mRow M i) 4 = 1 ∨ (mRow M i) 2 ≤ M.g 25 6 then mTell M i else M
def mInto (M : MS) (i : Nat) (nw : Bool) (v : Int32) : MS := mRipe (mCol M i 3 (if nw then mIts M v else mFold M ((mRow M i) 3) (mIts M v))) i
theorem pOk_3 {r : pRow} (h : pOk r) (v : Int32) : pOk (upd r 3 v) := h
def mG (M : MS) (k i : Nat) (v : Int32) : MS := (MS.mk M.x (va_up M.g k (upd (M.g k) i v)) M.V M.T)
theorem RM.G {M x g} (h : RM M x g) {k i : Nat} {v : Int32} (h1 : k < 27 ∨ 34 < k) (h2 : k < 38 ∨ 42 < k) : RM (mG M k i v) x (va_up g k (upd (g k) i v)) := by
  refine ⟨h.hx, fun j a b => ?_, fun p hp => ?_, h.len, fun p hp j c hj hc => ?_, h.bo, h.tl, ?_, fun j c hj hc => ?_⟩
  · simp only [CS.mk_R, CS.mk_cap, CS.mk_x, CS.mk_y, CS.mk_g, CS.mk_eta, MS.mk_x, MS.mk_g, MS.mk_V, MS.mk_T, MS.mk_eta, mG, ← h.hg k (by omega) h2]
    by_cases e : j = k
    · rw [e, p_ug, p_ug]
    · rw [p_un _ _ e, p_un _ _ e]; exact h.hg j a b
  · rw [p_un _ _ (by omega)]; exact h.n28 p hp
  · rw [p_un _ _ (by omega)]; exact h.win p hp j c hj hc
  · simp only [CS.mk_R, CS.mk_cap, CS.mk_x, CS.mk_y, CS.mk_g, CS.mk_eta, MS.mk_x, MS.mk_g, MS.mk_V, MS.mk_T, MS.mk_eta, mG, p_un _ _ (show 27 ≠ k by omega)]; exact h.n27
  · rw [p_un _ _ (by omega)]; exact h.res j c hj hc
def mLate (M : MS) : MS := mG M 26 6 (M.g 26 6 + 1)
theorem m_late {M x g} (h : RM M x g) {Φ : pJ} (hΦ : ∀ g, RM (mLate M) x g → Φ x g) : vp_in 6 7 ∧ (vp_in 6 7 ∧ (Φ x (va_up g 26 (upd (g 26) (6 : Int32).toNatClampNeg (((g 26) (6 : Int32).toNatClampNeg) + 1))))) := by
  rw [p_6]
  refine ⟨p_vin6, p_vin6, hΦ _ ?_⟩
  have := h.G (k := 26) (i := 6) (v := M.g 26 6 + 1) (by omega) (by omega)
  rwa [h.W 26 (by omega) (by omega)] at this ⊢
def mFixed (M : MS) (k b v : Int32) : MS :=
  if mOver M (b + M.g 6 5) then mLate M
  else if pFW (M.V 6) k b < (M.V 6).length then mInto M (pFW (M.V 6) k b) false v
  else mInto (mWin M ((M.V 6).insertIdx (mPos (M.V 6) k b) (mkw k b (b + M.g 6 5) 0))) (mPos (M.V 6) k b) true v
def pUniq (W : List pRow) : Prop := ∀ i j, i < W.length → j < W.length → (W.getD i pz) 0 = (W.getD j pz) 0 → (W.getD i pz) 1 = (W.getD j pz) 1 → i = j
theorem pFW_lt {W : List pRow} {k b : Int32} {j : Nat} (hj : j < W.length) (h : pIs k b (W.getD j pz) = true) : pFW W k b < W.length ∧ pIs k b (W.getD (pFW W k b) pz) = true := by
  have h1 : ∃ r ∈ W, pIs k b r = true := ⟨W.getD j pz, by simp [CS.mk_R, CS.mk_cap, CS.mk_x, CS.mk_y, CS.mk_g, CS.mk_eta, MS.mk_x, MS.mk_g, MS.mk_V, MS.mk_T, MS.mk_eta, List.getD, hj], h⟩
  have h2 : pFW W k b < W.length := List.findIdx_lt_length_of_exists h1
  refine ⟨h2, ?_⟩
  have h3 := List.findIdx_getElem (w := h2)
  unfold pFW at h2 ⊢
  simpa [List.getD, h2] using h3
theorem pFW_uniq {W : List pRow} (hu : pUniq W) {k b : Int32} {j : Nat} (hj : j < W.length) (h : pIs k b (W.getD j pz) = true) : pFW W k b = j := by
  obtain ⟨h1, h2⟩ := pFW_lt hj h
  rw [pIs_iff] at h h2
  exact hu _ _ h1 hj (h2.1.trans h.1.symm) (h2.2.trans h.2.symm)
theorem pFW_none {W : List pRow} {k b : Int32} (h : ∀ j, j < W.length → pIs k b (W.getD j pz) = false) : pFW W k b = W.length := p_find0 h
def aStep (M : MS) (acc : Option Int32) (r : pRow) : Option Int32 := some (match acc with | none => r 3 | some a => mFold M a (r 3))
def mAll (acc : Option Int32) : Int32 := acc.getD 0
def mSesEnd (M : MS) (k v b e : Int32) (acc : Option Int32) : MS :=
  mInto (mCol (mWin M ((M.V 6).insertIdx (mPos (M.V 6) k b) (mkw k b e 0))) (mPos (M.V 6) k b) 3 (mAll acc)) (mPos (M.V 6) k b) acc.isNone v
theorem mApp_mWin (M : MS) (W rs : List pRow) : mApp (mWin M W) rs = mWin (mApp M rs) W := by
  induction rs generalizing M with
  | nil => rfl
  | cons r rs ih => exact ih (mApp1 M r)
theorem mWin_mWin (M : MS) (W W' : List pRow) : mWin (mWin M W) W' = mWin M W' := by simp only [CS.mk_R, CS.mk_cap, CS.mk_x, CS.mk_y, CS.mk_g, CS.mk_eta, MS.mk_x, MS.mk_g, MS.mk_V, MS.mk_T, MS.mk_eta, mWin, p_uu]
theorem mWin_self (M : MS) : mWin M (M.V 6) = M := by simp only [CS.mk_R, CS.mk_cap, CS.mk_x, CS.mk_y, CS.mk_g, CS.mk_eta, MS.mk_x, MS.mk_g, MS.mk_V, MS.mk_T, MS.mk_eta, mWin, p_us]
theorem p_app_erase {A B : List pRow} {r : pRow} : (A ++ r :: B).eraseIdx A.length = A ++ B := by
  induction A with
  | nil => rfl
  | cons a A ih => simp [CS.mk_R, CS.mk_cap, CS.mk_x, CS.mk_y, CS.mk_g, CS.mk_eta, MS.mk_x, MS.mk_g, MS.mk_V, MS.mk_T, MS.mk_eta, List.eraseIdx_cons_succ, ih]
def pAcc2 (acc : Option Int32) (v7 v8 : Int32) : Prop := (acc = none ∧ v8 = 0 ∧ v7 = 0) ∨ (v8 = 1 ∧ acc = some v7)
theorem mFold_app (M : MS) (rs : List pRow) (W : List pRow) (a b : Int32) : mFold (mWin (mApp M rs) W) a b = mFold M a b := by
  unfold mFold
  rw [show (mWin (mApp M rs) W).g 6 = M.g 6 from (mApp_same M rs).2.2.1 6 (by omega)]
theorem aStep_app (M : MS) (rs : List pRow) (W : List pRow) : aStep (mWin (mApp M rs) W) = aStep M := by
  funext acc r
  unfold aStep
  cases acc with
  | none => rfl
  | some a => simp only [CS.mk_R, CS.mk_cap, CS.mk_x, CS.mk_y, CS.mk_g, CS.mk_eta, MS.mk_x, MS.mk_g, MS.mk_V, MS.mk_T, MS.mk_eta, mFold_app]
def mSes (M : MS) (k t v : Int32) : MS :=
  let sz := M.g 6 5
  let Ms := (M.V 6).filter (pMet sz k t)
  let b := Ms.foldl fB t
  let e := Ms.foldl fE (t + sz)
  if Ms.length = 0 ∧ mOver M (t + sz) = true then mLate M
  else if Ms.length = 1 ∧ pFW (M.V 6) k b < (M.V 6).length ∧ (mRow M (pFW (M.V 6) k b)) 2 = e then mInto M (pFW (M.V 6) k b) false v
  else mSesEnd (mWin (mApp M (pBacks sz k t (M.V 6))) (pRest sz k t (M.V 6))) k v b e (Ms.foldl (aStep M) none)
theorem fB_alt (b : Int32) (r : pRow) : fB b r = if b ≤ r 1 then b else r 1 := by
  unfold fB
  by_cases h : r 1 < b
  · rw [if_pos h, if_neg (Int32.not_le.2 h)]
  · rw [if_neg h, if_pos (Int32.not_lt.1 h)]
theorem fE_alt (e : Int32) (r : pRow) : fE e r = if r 2 ≤ e then e else r 2 := by
  unfold fE
  by_cases h : e < r 2
  · rw [if_pos h, if_neg (Int32.not_le.2 h)]
  · rw [if_neg h, if_pos (Int32.not_lt.1 h)]
