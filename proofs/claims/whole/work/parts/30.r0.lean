def pOk (r : pRow) : Prop := (r 4 = 0 ∧ r 5 = 0) ∨ r 4 = 1
theorem pOk.b {r : pRow} (h : pOk r) : r 4 = 0 ∨ r 4 = 1 := h.elim (fun e => .inl e.1) .inr
abbrev MS : Type := (Nat → Int32) × (Nat → Nat → Int32) × (Nat → List pRow) × (List pRow)
abbrev MS.mk (a0 : Nat → Int32) (a1 : Nat → Nat → Int32) (a2 : Nat → List pRow) (a3 : List pRow) : MS := (a0, a1, a2, a3)
abbrev MS.x (S : MS) : Nat → Int32 := Prod.fst S
abbrev MS.g (S : MS) : Nat → Nat → Int32 := Prod.fst (Prod.snd S)
abbrev MS.V (S : MS) : Nat → List pRow := Prod.fst (Prod.snd (Prod.snd S))
abbrev MS.T (S : MS) : List pRow := (Prod.snd (Prod.snd (Prod.snd S)))
theorem MS.mk_x (a0 : Nat → Int32) (a1 : Nat → Nat → Int32) (a2 : Nat → List pRow) (a3 : List pRow) : (MS.mk a0 a1 a2 a3).x = a0 := rfl
theorem MS.mk_g (a0 : Nat → Int32) (a1 : Nat → Nat → Int32) (a2 : Nat → List pRow) (a3 : List pRow) : (MS.mk a0 a1 a2 a3).g = a1 := rfl
theorem MS.mk_V (a0 : Nat → Int32) (a1 : Nat → Nat → Int32) (a2 : Nat → List pRow) (a3 : List pRow) : (MS.mk a0 a1 a2 a3).V = a2 := rfl
theorem MS.mk_T (a0 : Nat → Int32) (a1 : Nat → Nat → Int32) (a2 : Nat → List pRow) (a3 : List pRow) : (MS.mk a0 a1 a2 a3).T = a3 := rfl
theorem MS.mk_eta (S : MS) : MS.mk S.x S.g S.V S.T = S := rfl
abbrev RM (M : MS) (x : Nat → Int32) (g : Nat → Nat → Int32) : Prop := (x = M.x) ∧ (∀ k, k < 28 ∨ 34 < k → k < 38 ∨ 42 < k → g k = M.g k) ∧ (∀ p, p < 7 → g 28 p = nI (M.V p).length) ∧ (∀ p, p < 7 → (M.V p).length ≤ 1200) ∧ (∀ p, p < 7 → ∀ i c, i < (M.V p).length → c < 6 → g (29 + c) (1200 * p + i) = ((M.V p).getD i pz) c) ∧ (∀ p, p < 7 → ∀ i, i < (M.V p).length → pOk ((M.V p).getD i pz)) ∧ (M.T.length ≤ 8000) ∧ (M.g 27 6 = nI M.T.length) ∧ (∀ i c, i < M.T.length → c < 5 → g (38 + c) i = (M.T.getD i pz) c)
theorem RM.hx {M : MS} {x : Nat → Int32} {g : Nat → Nat → Int32} (h_ : RM M x g) : x = M.x := h_.1
theorem RM.hg {M : MS} {x : Nat → Int32} {g : Nat → Nat → Int32} (h_ : RM M x g) : ∀ k, k < 28 ∨ 34 < k → k < 38 ∨ 42 < k → g k = M.g k := h_.2.1
theorem RM.n28 {M : MS} {x : Nat → Int32} {g : Nat → Nat → Int32} (h_ : RM M x g) : ∀ p, p < 7 → g 28 p = nI (M.V p).length := h_.2.2.1
theorem RM.len {M : MS} {x : Nat → Int32} {g : Nat → Nat → Int32} (h_ : RM M x g) : ∀ p, p < 7 → (M.V p).length ≤ 1200 := h_.2.2.2.1
theorem RM.win {M : MS} {x : Nat → Int32} {g : Nat → Nat → Int32} (h_ : RM M x g) : ∀ p, p < 7 → ∀ i c, i < (M.V p).length → c < 6 → g (29 + c) (1200 * p + i) = ((M.V p).getD i pz) c := h_.2.2.2.2.1
theorem RM.bo {M : MS} {x : Nat → Int32} {g : Nat → Nat → Int32} (h_ : RM M x g) : ∀ p, p < 7 → ∀ i, i < (M.V p).length → pOk ((M.V p).getD i pz) := h_.2.2.2.2.2.1
theorem RM.tl {M : MS} {x : Nat → Int32} {g : Nat → Nat → Int32} (h_ : RM M x g) : M.T.length ≤ 8000 := h_.2.2.2.2.2.2.1
theorem RM.n27 {M : MS} {x : Nat → Int32} {g : Nat → Nat → Int32} (h_ : RM M x g) : M.g 27 6 = nI M.T.length := h_.2.2.2.2.2.2.2.1
theorem RM.res {M : MS} {x : Nat → Int32} {g : Nat → Nat → Int32} (h_ : RM M x g) : ∀ i c, i < M.T.length → c < 5 → g (38 + c) i = (M.T.getD i pz) c := h_.2.2.2.2.2.2.2.2
abbrev pJ := (Nat → Int32) → (Nat → Nat → Int32) → Prop
theorem p_nar0 : vp_nar .boolean 0 = 0 := rfl
theorem p_nar1 : vp_nar .boolean 1 = 1 := rfl
theorem p_nar {v : Int32} (h : v = 0 ∨ v = 1) : vp_nar .boolean v = v := by
  rcases h with h | h <;> subst h <;> rfl
theorem RM.g28 {M x g} (h : RM M x g) : g 28 6 = nI (M.V 6).length := h.n28 6 (by omega)
theorem RM.w {M x g} (h : RM M x g) {i : Nat} (c : Nat) (hi : i < (M.V 6).length) (hc : c < 6) : g (29 + c) (7200 + i) = ((M.V 6).getD i pz) c := h.win 6 (by omega) i c hi hc
theorem RM.W {M x g} (h : RM M x g) (k : Nat) (h1 : k < 28 ∨ 34 < k) (h2 : k < 38 ∨ 42 < k) : g k = M.g k := h.hg k h1 h2
theorem nI_cl {n : Nat} (h : n < 2 ^ 31) : (nI n).toNatClampNeg = n := nI_clamp h
def mApp1 (M : MS) (r : pRow) : MS := (MS.mk M.x (va_up M.g 27 (upd (M.g 27) 6 (nI (M.T.length + 1)))) M.V (M.T ++ [r]))
theorem p_6 : (6 : Int32).toNatClampNeg = 6 := by decide
theorem p_5 : (5 : Int32).toNatClampNeg = 5 := by decide
theorem v_in {a : Int32} (n N : Nat) (e : a = nI n) (h : n < N) (h2 : N < 2 ^ 31) : vp_in a N := e ▸ vp_in_nI h h2
theorem m_puts {M x g} (h : RM M x g) {i : Nat} {v t : Int32} (hi : i < (M.V 6).length) (hT : M.T.length < 8000) {r : pRow} (hr : r = mkr (((M.V 6).getD i pz) 0) (((M.V 6).getD i pz) 1) (((M.V 6).getD i pz) 2) v t) {Φ : pJ} (hΦ : ∀ g, RM (mApp1 M r) x g → Φ x g) : wX9_puts x g (nI (7200 + i)) v t Φ := by
  have hl := h.len 6 (by omega)
  have e27 : g 27 6 = nI M.T.length := by rw [h.W 27 (by omega) (by omega)]; exact h.n27
  have hin : vp_in (nI (7200 + i)) 8400 := vp_in_nI (by omega) (by omega)
  have hin2 : vp_in (nI M.T.length) 8000 := vp_in_nI (by omega) (by omega)
  have h6 : vp_in (6 : Int32) 7 := by unfold vp_in; decide
  unfold wX9_puts
  rw [p_6, e27]
  refine ⟨h6, ?_⟩
  rintro _ rfl
  refine ⟨hin, hin2, hin, hin2, hin, hin2, hin2, hin2, h6, h6, hΦ _ ?_⟩
  rw [p_cl (by omega), p_cl (by omega), nI_1]
  have e0 := h.w 0 hi (by omega)
  have e1 := h.w 1 hi (by omega)
  have e2 := h.w 2 hi (by omega)
  rw [e0, e1, e2]
  have eg : ∀ k, k ≠ 38 → k ≠ 39 → k ≠ 40 → k ≠ 41 → k ≠ 42 → k ≠ 27 → (va_up (va_up (va_up (va_up (va_up (va_up g 38 (upd (g 38) M.T.length ((M.V 6).getD i pz 0))) 39 (upd (g 39) M.T.length ((M.V 6).getD i pz 1))) 40 (upd (g 40) M.T.length ((M.V 6).getD i pz 2))) 41 (upd (g 41) M.T.length v)) 42 (upd (g 42) M.T.length t)) 27 (upd (g 27) 6 (nI (M.T.length + 1)))) k = g k := fun k a b c d e f => by
    rw [p_un _ _ f, p_un _ _ e, p_un _ _ d, p_un _ _ c, p_un _ _ b, p_un _ _ a]
  refine ⟨h.hx, fun k h1 h2 => ?_, fun p hp => ?_, h.len, fun p hp j c hj hc => ?_, h.bo, ?_, ?_, fun j c hj hc => ?_⟩
  · by_cases e : k = 27
    · subst e; simp only [CS.mk_R, CS.mk_cap, CS.mk_x, CS.mk_y, CS.mk_g, CS.mk_eta, MS.mk_x, MS.mk_g, MS.mk_V, MS.mk_T, MS.mk_eta, mApp1, p_ug, h.W 27 (by omega) (by omega)]
    · rw [eg k (by omega) (by omega) (by omega) (by omega) (by omega) e]
      simp only [CS.mk_R, CS.mk_cap, CS.mk_x, CS.mk_y, CS.mk_g, CS.mk_eta, MS.mk_x, MS.mk_g, MS.mk_V, MS.mk_T, MS.mk_eta, mApp1, p_un _ _ e]
      exact h.hg k h1 h2
  · rw [eg 28 (by omega) (by omega) (by omega) (by omega) (by omega) (by omega)]; exact h.n28 p hp
  · rw [eg _ (by omega) (by omega) (by omega) (by omega) (by omega) (by omega)]; exact h.win p hp j c hj hc
  · simp only [CS.mk_R, CS.mk_cap, CS.mk_x, CS.mk_y, CS.mk_g, CS.mk_eta, MS.mk_x, MS.mk_g, MS.mk_V, MS.mk_T, MS.mk_eta, mApp1, List.length_append, List.length_singleton]; omega
  · simp only [CS.mk_R, CS.mk_cap, CS.mk_x, CS.mk_y, CS.mk_g, CS.mk_eta, MS.mk_x, MS.mk_g, MS.mk_V, MS.mk_T, MS.mk_eta, mApp1, p_ug, List.length_append, List.length_singleton]; rfl
  · simp only [CS.mk_R, CS.mk_cap, CS.mk_x, CS.mk_y, CS.mk_g, CS.mk_eta, MS.mk_x, MS.mk_g, MS.mk_V, MS.mk_T, MS.mk_eta, mApp1] at hj ⊢
    rw [List.length_append, List.length_singleton] at hj
    have hcc : c = 0 ∨ c = 1 ∨ c = 2 ∨ c = 3 ∨ c = 4 := by omega
    by_cases e : j < M.T.length
    · rw [p_getD_l e]
      have := h.res j c e hc
      rcases hcc with rfl | rfl | rfl | rfl | rfl <;> simp [CS.mk_R, CS.mk_cap, CS.mk_x, CS.mk_y, CS.mk_g, CS.mk_eta, MS.mk_x, MS.mk_g, MS.mk_V, MS.mk_T, MS.mk_eta, va_up, upd, Nat.ne_of_lt e] <;> simpa using this
    · have ej : j = M.T.length := by omega
      subst ej
      rw [p_getD_r (Nat.le_refl _), Nat.sub_self, hr]
      rcases hcc with rfl | rfl | rfl | rfl | rfl <;> simp [CS.mk_R, CS.mk_cap, CS.mk_x, CS.mk_y, CS.mk_g, CS.mk_eta, MS.mk_x, MS.mk_g, MS.mk_V, MS.mk_T, MS.mk_eta, va_up, upd, mkr]
def mCol (M : MS) (i c : Nat) (v : Int32) : MS := (MS.mk M.x M.g (va_up M.V 6 ((M.V 6).set i (upd ((M.V 6).getD i pz) c v))) M.T)
theorem p_getset_ne {W : List pRow} {i j : Nat} (a : pRow) (h : j ≠ i) : (W.set i a).getD j pz = W.getD j pz := by simp [CS.mk_R, CS.mk_cap, CS.mk_x, CS.mk_y, CS.mk_g, CS.mk_eta, MS.mk_x, MS.mk_g, MS.mk_V, MS.mk_T, MS.mk_eta, List.getD, List.getElem?_set, Ne.symm h]
theorem RM.col {M x g} (h : RM M x g) {i c : Nat} {v : Int32} (hi : i < (M.V 6).length) (hc : c < 6) (hv : pOk (upd ((M.V 6).getD i pz) c v)) : RM (mCol M i c v) x (va_up g (29 + c) (upd (g (29 + c)) (7200 + i) v)) := by
  have hl := h.len 6 (by omega)
  refine ⟨h.hx, fun k h1 h2 => ?_, fun p hp => ?_, fun p hp => ?_, fun p hp j c2 hj hc2 => ?_, fun p hp j hj => ?_, h.tl, h.n27, fun j c2 hj hc2 => ?_⟩
  · rw [p_un _ _ (by omega)]; exact h.hg k h1 h2
  · rw [p_un _ _ (by omega)]
    simp only [CS.mk_R, CS.mk_cap, CS.mk_x, CS.mk_y, CS.mk_g, CS.mk_eta, MS.mk_x, MS.mk_g, MS.mk_V, MS.mk_T, MS.mk_eta, mCol]
    by_cases e : p = 6
    · subst e; rw [p_ug, List.length_set]; exact h.n28 6 hp
    · rw [p_un _ _ e]; exact h.n28 p hp
  · simp only [CS.mk_R, CS.mk_cap, CS.mk_x, CS.mk_y, CS.mk_g, CS.mk_eta, MS.mk_x, MS.mk_g, MS.mk_V, MS.mk_T, MS.mk_eta, mCol]
    by_cases e : p = 6
    · subst e; rw [p_ug, List.length_set]; exact hl
    · rw [p_un _ _ e]; exact h.len p hp
  · simp only [CS.mk_R, CS.mk_cap, CS.mk_x, CS.mk_y, CS.mk_g, CS.mk_eta, MS.mk_x, MS.mk_g, MS.mk_V, MS.mk_T, MS.mk_eta, mCol] at hj ⊢
    by_cases e : p = 6
    · subst e
      rw [p_ug] at hj ⊢
      rw [List.length_set] at hj
      by_cases ec : c2 = c
      · subst ec
        rw [p_ug]
        unfold upd
        by_cases ej : j = i
        · subst ej; rw [if_pos (by omega), p_getset hj, if_pos rfl]
        · rw [if_neg (by omega), p_getset_ne _ ej]; exact h.win 6 hp j c2 hj hc2
      · rw [p_un _ _ (by omega)]
        by_cases ej : j = i
        · subst ej; rw [p_getset hj, upd, if_neg ec]; exact h.win 6 hp j c2 hj hc2
        · rw [p_getset_ne _ ej]; exact h.win 6 hp j c2 hj hc2
    · rw [p_un _ _ e] at hj ⊢
      have := h.len p hp
      by_cases ec : c2 = c
      · subst ec
        rw [p_ug, upd, if_neg (by omega)]; exact h.win p hp j c2 hj hc2
      · rw [p_un _ _ (by omega)]; exact h.win p hp j c2 hj hc2
  · simp only [CS.mk_R, CS.mk_cap, CS.mk_x, CS.mk_y, CS.mk_g, CS.mk_eta, MS.mk_x, MS.mk_g, MS.mk_V, MS.mk_T, MS.mk_eta, mCol] at hj ⊢
    by_cases e : p = 6
    · subst e
      rw [p_ug] at hj ⊢
      rw [List.length_set] at hj
      by_cases ej : j = i
      · subst ej
        rw [p_getset hj]
        exact hv
      · rw [p_getset_ne _ ej]; exact h.bo 6 hp j hj
    · rw [p_un _ _ e] at hj ⊢; exact h.bo p hp j hj
  · rw [p_un _ _ (by omega)]; exact h.res j c2 hj hc2
def mApp : MS → List pRow → MS
  | M, [] => M
  | M, r :: rs => mApp (mApp1 M r) rs
theorem mApp_app (M : MS) (a b : List pRow) : mApp M (a ++ b) = mApp (mApp M a) b := by
  induction a generalizing M with
  | nil => rfl
  | cons r a ih => exact ih (mApp1 M r)
theorem mApp_T (M : MS) (rs : List pRow) : (mApp M rs).T = M.T ++ rs := by
  induction rs generalizing M with
  | nil => simp [CS.mk_R, CS.mk_cap, CS.mk_x, CS.mk_y, CS.mk_g, CS.mk_eta, MS.mk_x, MS.mk_g, MS.mk_V, MS.mk_T, MS.mk_eta, mApp]
  | cons r rs ih => rw [mApp, ih]; simp [CS.mk_R, CS.mk_cap, CS.mk_x, CS.mk_y, CS.mk_g, CS.mk_eta, MS.mk_x, MS.mk_g, MS.mk_V, MS.mk_T, MS.mk_eta, mApp1]
theorem mApp_same (M : MS) (rs : List pRow) : (mApp M rs).V = M.V ∧ (mApp M rs).x = M.x ∧ (∀ k, k ≠ 27 → (mApp M rs).g k = M.g k) ∧ (∀ i, i ≠ 6 → (mApp M rs).g 27 i = M.g 27 i) := by
  induction rs generalizing M with
  | nil => exact ⟨rfl, rfl, fun _ _ => rfl, fun _ _ => rfl⟩
  | cons r rs ih =>
    obtain ⟨h1, h2, h3, h4⟩ := ih (mApp1 M r)
    refine ⟨h1, h2, fun k hk => ?_, fun i hi => ?_⟩
    · rw [mApp, h3 k hk]; simp only [CS.mk_R, CS.mk_cap, CS.mk_x, CS.mk_y, CS.mk_g, CS.mk_eta, MS.mk_x, MS.mk_g, MS.mk_V, MS.mk_T, MS.mk_eta, mApp1, p_un _ _ hk]
    · rw [mApp, h4 i hi]; simp only [CS.mk_R, CS.mk_cap, CS.mk_x, CS.mk_y, CS.mk_g, CS.mk_eta, MS.mk_x, MS.mk_g, MS.mk_V, MS.mk_T, MS.mk_eta, mApp1, p_ug, upd, if_neg hi]
def mMode (v : Int32) : Nat := if v = 0 then 12 else if v = 1 then 13 else 14
def mRow (M : MS) (i : Nat) : pRow := (M.V 6).getD i pz
def mWin (M : MS) (W : List pRow) : MS := (MS.mk M.x M.g (va_up M.V 6 W) M.T)
def mTell (M : MS) (i : Nat) : MS := mWin (mApp M (tRes (mMode (M.g 6 8)) (mRow M i))) ((M.V 6).set i (tWin (mRow M i)))
theorem m_tell96 {M x g} (h : RM M x g) {i : Nat} {v : Int32} (hi : i < (M.V 6).length) (hv : v = (mRow M i) 3) {Φ : pJ} (hΦ : ∀ g, RM (mWin M ((M.V 6).set i (tWin (mRow M i)))) x g → Φ x g) : jX9_tells_96 Φ x g (nI (7200 + i)) v := by
  have hl := h.len 6 (by omega)
  have hin : vp_in (nI (7200 + i)) 8400 := vp_in_nI (by omega) (by omega)
  unfold jX9_tells_96
  rw [p_cl (by omega), p_nar1]
  have h1 := (h.col (i := i) (c := 4) (v := 1) hi (by omega) (.inr rfl))
  have h2 := h1.col (i := i) (c := 5) (v := v) (by simp only [CS.mk_R, CS.mk_cap, CS.mk_x, CS.mk_y, CS.mk_g, CS.mk_eta, MS.mk_x, MS.mk_g, MS.mk_V, MS.mk_T, MS.mk_eta, mCol, p_ug, List.length_set]; exact hi) (by omega) (by simp only [CS.mk_R, CS.mk_cap, CS.mk_x, CS.mk_y, CS.mk_g, CS.mk_eta, MS.mk_x, MS.mk_g, MS.mk_V, MS.mk_T, MS.mk_eta, mCol, p_ug, p_getset hi]; exact .inr rfl)
  refine ⟨hin, hin, hΦ _ ?_⟩
  have e : mCol (mCol M i 4 1) i 5 v = mWin M ((M.V 6).set i (tWin (mRow M i))) := by
    simp only [CS.mk_R, CS.mk_cap, CS.mk_x, CS.mk_y, CS.mk_g, CS.mk_eta, MS.mk_x, MS.mk_g, MS.mk_V, MS.mk_T, MS.mk_eta, mCol, mWin, p_ug, p_uu, List.set_set, p_getset hi, tWin, mRow, hv]
  rw [e] at h2
  exact h2
theorem m_tells {M x g} (h : RM M x g) {i : Nat} (hi : i < (M.V 6).length) (hT : M.T.length + 2 ≤ 8000) {Φ : pJ} (hΦ : ∀ g, RM (mTell M i) x g → Φ x g) : wX9_tells x g (nI (7200 + i)) Φ := by
  have hl := h.len 6 (by omega)
  have hin : vp_in (nI (7200 + i)) 8400 := vp_in_nI (by omega) (by omega)
  have h8 : vp_in (8 : Int32) 9 := by unfold vp_in; decide
  have c8 : (8 : Int32).toNatClampNeg = 8 := by decide
  have e3 := h.w 3 hi (by omega)
  have e4 := h.w 4 hi (by omega)
  have e5 := h.w 5 hi (by omega)
  have hb := h.bo 6 (by omega) i hi
  have eV : ∀ (M : MS) (r : pRow), (mApp1 M r).V = M.V := fun _ _ => rfl
  have eR : ∀ (M : MS) (r : pRow), mRow (mApp1 M r) i = mRow M i := fun _ _ => rfl
  unfold wX9_tells
  rw [p_cl (by omega), c8, h.W 6 (by omega) (by omega)]
  refine ⟨hin, ?_⟩
  rintro _ rfl
  rw [e3, e4, e5]
  refine ⟨h8, fun m => ?_, fun m => ⟨h8, fun m2 => ?_, fun m2 => ⟨hin, fun t => ?_, fun t => ⟨hin, ?_⟩⟩⟩⟩
  · have em : mMode (M.g 6 8) = 12 := if_pos m
    unfold mTell at hΦ
    rw [em, tRes_12 rfl] at hΦ
    refine m_puts h hi (by omega) rfl fun g h1 => m_tell96 h1 hi rfl fun g h2 => hΦ g h2
  · have em : mMode (M.g 6 8) = 13 := by unfold mMode; rw [if_neg m, if_pos m2]
    unfold mTell at hΦ
    rw [em, tRes_13 (by decide) rfl] at hΦ
    unfold jX9_tells_60
    refine ⟨hin, fun t => ?_, fun t => ⟨hin, ?_⟩⟩
    · have t5 : (mRow M i) 5 = 0 := hb.elim (fun e => e.2) (fun e => absurd (t.symm.trans e) (by decide))
      refine m_puts h hi (by omega) (by show _ = _; rw [t5]; rfl) fun g h1 => m_tell96 h1 hi rfl fun g h2 => hΦ g h2
    · refine m_puts h hi (by omega) rfl fun g h1 => m_tell96 h1 hi rfl fun g h2 => hΦ g h2
  · have em : mMode (M.g 6 8) = 14 := by unfold mMode; rw [if_neg m, if_neg m2]
    unfold mTell at hΦ
    rw [em, tRes_15 (by decide) (by decide) (by rw [mRow, t]; decide)] at hΦ
    unfold jX9_tells_89
    refine m_puts h hi (by omega) rfl fun g h1 => m_tell96 h1 hi rfl fun g h2 => hΦ g h2
  · have em : mMode (M.g 6 8) = 14 := by unfold mMode; rw [if_neg m, if_neg m2]
    have t1 : (mRow M i) 4 = 1 := hb.b.resolve_left t
    unfold mTell at hΦ
    rw [em, tRes_14 (by decide) (by decide) t1] at hΦ
    unfold jX9_tells_89
    refine m_puts h hi (by omega) rfl fun g h1 => m_puts h1 hi (by simp only [CS.mk_R, CS.mk_cap, CS.mk_x, CS.mk_y, CS.mk_g, CS.mk_eta, MS.mk_x, MS.mk_g, MS.mk_V, MS.mk_T, MS.mk_eta, mApp1, List.length_append, List.length_singleton]; omega) rfl fun g h2 => m_tell96 h2 hi rfl fun g h3 => hΦ g h3
def pcw (g : Nat → Nat → Int32) (a b : Nat) : Nat → Nat → Int32 := fun k j => if 29 ≤ k ∧ k ≤ 34 ∧ j = b then g k a else g k j
theorem m_copiesWindow {x : Nat → Int32} {g : Nat → Nat → Int32} {a b : Nat} (ha : a < 8400) (hb : b < 8400) (h33 : g 33 a = 0 ∨ g 33 a = 1) {Φ : pJ} (hΦ : Φ x (pcw g a b)) : wX9_copiesWindow x g (nI a) (nI b) Φ := by
  have i1 : vp_in (nI a) 8400 := vp_in_nI ha (by omega)
  have i2 : vp_in (nI b) 8400 := vp_in_nI hb (by omega)
  unfold wX9_copiesWindow
  rw [p_cl (by omega), p_cl (by omega), p_nar h33]
  refine ⟨i1, i2, i1, i2, i1, i2, i1, i2, i1, i2, i1, i2, ?_⟩
  have e : (va_up (va_up (va_up (va_up (va_up (va_up g 29 (upd (g 29) b (g 29 a))) 30 (upd (g 30) b (g 30 a))) 31 (upd (g 31) b (g 31 a))) 32 (upd (g 32) b (g 32 a))) 33 (upd (g 33) b (g 33 a))) 34 (upd (g 34) b (g 34 a))) = pcw g a b := by
    funext k j
    unfold pcw va_up upd
    by_cases e1 : k = 34
    · subst e1; simp
    by_cases e2 : k = 33
    · subst e2; simp
    by_cases e3 : k = 32
    · subst e3; simp
    by_cases e4 : k = 31
    · subst e4; simp
    by_cases e5 : k = 30
    · subst e5; simp
    by_cases e6 : k = 29
    · subst e6; simp
    rw [if_neg e1, if_neg e2, if_neg e3, if_neg e4, if_neg e5, if_neg e6, if_neg (by omega)]
  rw [e]
  exact hΦ
theorem RM.putWin {M x g} (h : RM M x g) {g' : Nat → Nat → Int32} {W : List pRow} (h1 : ∀ k, k < 28 ∨ 34 < k → g' k = g k) (h28 : g' 28 = upd (g 28) 6 (nI W.length)) (hl : W.length ≤ 1200) (hlow : ∀ k j, 29 ≤ k → k ≤ 34 → j < 7200 → g' k j = g k j) (hw : ∀ i c, i < W.length → c < 6 → g' (29 + c) (7200 + i) = (W.getD i pz) c) (hb : ∀ i, i < W.length → pOk (W.getD i pz)) : RM (mWin M W) x g' := by
  refine ⟨h.hx, fun k a b => ?_, fun p hp => ?_, fun p hp => ?_, fun p hp j c hj hc => ?_, fun p hp j hj => ?_, h.tl, h.n27, fun j c hj hc => ?_⟩
  · rw [h1 k a]; exact h.hg k a b
  · rw [h28]
    simp only [CS.mk_R, CS.mk_cap, CS.mk_x, CS.mk_y, CS.mk_g, CS.mk_eta, MS.mk_x, MS.mk_g, MS.mk_V, MS.mk_T, MS.mk_eta, mWin]
    by_cases e : p = 6
    · subst e; rw [p_ug, upd, if_pos rfl]
    · rw [p_un _ _ e, upd, if_neg e]; exact h.n28 p hp
  · simp only [CS.mk_R, CS.mk_cap, CS.mk_x, CS.mk_y, CS.mk_g, CS.mk_eta, MS.mk_x, MS.mk_g, MS.mk_V, MS.mk_T, MS.mk_eta, mWin]
    by_cases e : p = 6
    · subst e; rw [p_ug]; exact hl
    · rw [p_un _ _ e]; exact h.len p hp
  · simp only [CS.mk_R, CS.mk_cap, CS.mk_x, CS.mk_y, CS.mk_g, CS.mk_eta, MS.mk_x, MS.mk_g, MS.mk_V, MS.mk_T, MS.mk_eta, mWin] at hj ⊢
    by_cases e : p = 6
    · subst e; rw [p_ug] at hj ⊢; exact hw j c hj hc
    · rw [p_un _ _ e] at hj ⊢
      have := h.len p hp
      rw [hlow _ _ (by omega) (by omega) (by omega)]
      exact h.win p hp j c hj hc
  · simp only [CS.mk_R, CS.mk_cap, CS.mk_x, CS.mk_y, CS.mk_g, CS.mk_eta, MS.mk_x, MS.mk_g, MS.mk_V, MS.mk_T, MS.mk_eta, mWin] at hj ⊢
    by_cases e : p = 6
    · subst e; rw [p_ug] at hj ⊢; exact hb j hj
    · rw [p_un _ _ e] at hj ⊢; exact h.bo p hp j hj
  · rw [h1 _ (by omega)]; exact h.res j c hj hc
theorem p_erase {W : List pRow} {i j : Nat} : (W.eraseIdx i).getD j pz = if j < i then W.getD j pz else W.getD (j + 1) pz := by
  simp only [CS.mk_R, CS.mk_cap, CS.mk_x, CS.mk_y, CS.mk_g, CS.mk_eta, MS.mk_x, MS.mk_g, MS.mk_V, MS.mk_T, MS.mk_eta, List.getD, List.getElem?_eraseIdx]
  split <;> rfl
theorem p_vin6 : vp_in (6 : Int32) 7 := by unfold vp_in; decide
theorem m_dropL {M x} {g0 : Nat → Nat → Int32} (h : RM M x g0) {i : Nat} (hi : i < (M.V 6).length) {Φ : pJ} (hΦ : ∀ g, RM (mWin M ((M.V 6).eraseIdx i)) x g → Φ x g) : ∀ (m n k : Nat) (g : Nat → Nat → Int32), i ≤ k → k + 1 + m = (M.V 6).length → m < n → (∀ f j, g f j = if 29 ≤ f ∧ f ≤ 34 ∧ 7200 + i ≤ j ∧ j < 7200 + k then g0 f (j + 1) else g0 f j) → lX9_drops_2 Φ n x g (nI (7200 + k)) := by
  have hl := h.len 6 (by omega)
  intro m
  induction m with
  | zero =>
    intro n k g hik hk hmn hg
    obtain ⟨n, rfl⟩ : ∃ n', n = n' + 1 := ⟨n - 1, by omega⟩
    have hg0 : ∀ f, f < 29 ∨ 34 < f → g f = g0 f := fun f hf => funext fun j => by rw [hg f j, if_neg (by omega)]
    have e28 : g 28 6 = nI (M.V 6).length := by rw [hg0 28 (by omega)]; exact h.g28
    simp only [CS.mk_R, CS.mk_cap, CS.mk_x, CS.mk_y, CS.mk_g, CS.mk_eta, MS.mk_x, MS.mk_g, MS.mk_V, MS.mk_T, MS.mk_eta, lX9_drops_2, wX9_placeOf, p_6, e28]
    rw [show (7200 : Int32) = nI 7200 from rfl, nI_add, nI_1]
    refine ⟨p_vin6, fun _ => ⟨p_vin6, p_vin6, hΦ _ ?_⟩, fun c => absurd (nI_le (by omega) (by omega)) c⟩
    have e1 : nI (M.V 6).length - 1 = nI ((M.V 6).length - 1) := p_sub (b := 1) (by omega)
    have el : ((M.V 6).eraseIdx i).length = (M.V 6).length - 1 := List.length_eraseIdx_of_lt hi
    refine h.putWin (fun f hf => ?_) ?_ (by omega) (fun f j h1 h2 h3 => ?_) (fun j c hj hc => ?_) (fun j hj => ?_)
    · rw [p_un _ _ (by omega)]; exact hg0 f (by omega)
    · rw [p_ug, e1, el, hg0 28 (by omega)]
    · rw [p_un _ _ (by omega), hg, if_neg (by omega)]
    · rw [p_un _ _ (by omega), hg, p_erase]
      rw [el] at hj
      by_cases e : j < i
      · rw [if_neg (by omega), if_pos e]; exact h.win 6 (by omega) j c (by omega) hc
      · rw [if_pos (by omega), if_neg e]; exact h.win 6 (by omega) (j + 1) c (by omega) hc
    · rw [el] at hj
      rw [p_erase]
      split
      · exact h.bo 6 (by omega) j (by omega)
      · exact h.bo 6 (by omega) (j + 1) (by omega)
  | succ m ih =>
    intro n k g hik hk hmn hg
    obtain ⟨n, rfl⟩ : ∃ n', n = n' + 1 := ⟨n - 1, by omega⟩
    have hg0 : ∀ f, f < 29 ∨ 34 < f → g f = g0 f := fun f hf => funext fun j => by rw [hg f j, if_neg (by omega)]
    have e28 : g 28 6 = nI (M.V 6).length := by rw [hg0 28 (by omega)]; exact h.g28
    simp only [CS.mk_R, CS.mk_cap, CS.mk_x, CS.mk_y, CS.mk_g, CS.mk_eta, MS.mk_x, MS.mk_g, MS.mk_V, MS.mk_T, MS.mk_eta, lX9_drops_2, wX9_placeOf, p_6, e28]
    rw [show (7200 : Int32) = nI 7200 from rfl, nI_add, nI_1]
    refine ⟨p_vin6, fun c => absurd c (nI_ge (by omega) (by omega)), fun _ => m_copiesWindow (by omega) (by omega) ?_ ?_⟩
    · rw [hg, if_neg (by omega)]
      have := h.win 6 (by omega) (k + 1) 4 (by omega) (by omega)
      rw [show 7200 + k + 1 = 1200 * 6 + (k + 1) by omega, this]
      exact (h.bo 6 (by omega) (k + 1) (by omega)).b
    · rintro _ rfl
      refine ih n (k + 1) _ (by omega) (by omega) (by omega) fun f j => ?_
      unfold pcw
      by_cases e : 29 ≤ f ∧ f ≤ 34 ∧ j = 7200 + k
      · rw [if_pos e, hg, if_neg (by omega), if_pos (by omega)]
        congr 1; omega
      · rw [if_neg e, hg]
        by_cases e2 : 29 ≤ f ∧ f ≤ 34 ∧ 7200 + i ≤ j ∧ j < 7200 + k
        · rw [if_pos e2, if_pos (by omega)]
        · rw [if_neg e2, if_neg (by omega)]
theorem m_drops {M x g} (h : RM M x g) {i : Nat} (hi : i < (M.V 6).length) {Φ : pJ} (hΦ : ∀ g, RM (mWin M ((M.V 6).eraseIdx i)) x g → Φ x g) : wX9_drops x g (nI (7200 + i)) Φ :=
  ⟨(M.V 6).length + 1, m_dropL h hi hΦ ((M.V 6).length - (i + 1)) _ i g (Nat.le_refl _) (by omega) (by omega) (fun f j => by rw [if_neg (by omega)])⟩
abbrev pGt (k b : Int32) (r : pRow) : Prop := k < r 0 ∨ (r 0 = k ∧ ¬ r 1 ≤ b)
def mPosL (W : List pRow) (k b : Int32) : Nat → Nat
  | 0 => 0
  | m + 1 => if pGt k b (W.getD m pz) then mPosL W k b m else m + 1
def mPos (W : List pRow) (k b : Int32) : Nat := mPosL W k b W.length
theorem mPosL_le (W : List pRow) (k b : Int32) (m : Nat) : mPosL W k b m ≤ m := by
  induction m with
  | zero => exact Nat.le_refl _
  | succ m ih => rw [mPosL]; split <;> omega
theorem p_insD {W : List pRow} {p : Nat} (hp : p ≤ W.length) (r : pRow) (j : Nat) : (W.insertIdx p r).getD j pz = if j < p then W.getD j pz else if j = p then r else W.getD (j - 1) pz := by
  simp only [CS.mk_R, CS.mk_cap, CS.mk_x, CS.mk_y, CS.mk_g, CS.mk_eta, MS.mk_x, MS.mk_g, MS.mk_V, MS.mk_T, MS.mk_eta, List.getD, List.getElem?_insertIdx]
  split
  · rfl
  · split
    · next e => rw [if_pos (by omega)]; rfl
    · rfl
theorem m_make76 {M x} {g0 g : Nat → Nat → Int32} (h : RM M x g0) {p : Nat} {k b e : Int32} (hl : (M.V 6).length < 1200) (hp : p ≤ (M.V 6).length) (hg : ∀ f j, g f j = if 29 ≤ f ∧ f ≤ 34 ∧ 7200 + p < j ∧ j ≤ 7200 + (M.V 6).length then g0 f (j - 1) else g0 f j) {Φ : Int32 → pJ} (hΦ : ∀ g, RM (mWin M ((M.V 6).insertIdx p (mkw k b e 0))) x g → Φ (nI (7200 + p)) x g) : jX9_makes_76 Φ x g k b e (nI (7200 + p)) := by
  have hg0 : ∀ f, f < 29 ∨ 34 < f → g f = g0 f := fun f hf => funext fun j => by rw [hg f j, if_neg (by omega)]
  have e28 : g 28 6 = nI (M.V 6).length := by rw [hg0 28 (by omega)]; exact h.g28
  have i1 : vp_in (nI (7200 + p)) 8400 := vp_in_nI (by omega) (by omega)
  have el : ((M.V 6).insertIdx p (mkw k b e 0)).length = (M.V 6).length + 1 := List.length_insertIdx_of_le_length hp _
  unfold jX9_makes_76
  rw [p_cl (by omega), p_6, e28, nI_1, p_nar0]
  refine ⟨i1, i1, i1, i1, i1, i1, p_vin6, p_vin6, hΦ _ ?_⟩
  refine h.putWin (fun f hf => ?_) ?_ (by omega) (fun f j h1 h2 h3 => ?_) (fun j c hj hc => ?_) (fun j hj => ?_)
  · rw [p_un _ _ (by omega), p_un _ _ (by omega), p_un _ _ (by omega), p_un _ _ (by omega), p_un _ _ (by omega), p_un _ _ (by omega), p_un _ _ (by omega)]; exact hg0 f (by omega)
  · rw [p_ug, el, hg0 28 (by omega)]
  · have hgj : g f j = g0 f j := by rw [hg, if_neg (by omega)]
    have hne : j ≠ 7200 + p := by omega
    unfold va_up upd
    by_cases e1 : f = 34
    · subst e1; simp [CS.mk_R, CS.mk_cap, CS.mk_x, CS.mk_y, CS.mk_g, CS.mk_eta, MS.mk_x, MS.mk_g, MS.mk_V, MS.mk_T, MS.mk_eta, hne, hgj]
    by_cases e2 : f = 33
    · subst e2; simp [CS.mk_R, CS.mk_cap, CS.mk_x, CS.mk_y, CS.mk_g, CS.mk_eta, MS.mk_x, MS.mk_g, MS.mk_V, MS.mk_T, MS.mk_eta, hne, hgj]
    by_cases e3 : f = 32
    · subst e3; simp [CS.mk_R, CS.mk_cap, CS.mk_x, CS.mk_y, CS.mk_g, CS.mk_eta, MS.mk_x, MS.mk_g, MS.mk_V, MS.mk_T, MS.mk_eta, hne, hgj]
    by_cases e4 : f = 31
    · subst e4; simp [CS.mk_R, CS.mk_cap, CS.mk_x, CS.mk_y, CS.mk_g, CS.mk_eta, MS.mk_x, MS.mk_g, MS.mk_V, MS.mk_T, MS.mk_eta, hne, hgj]
    by_cases e5 : f = 30
    · subst e5; simp [CS.mk_R, CS.mk_cap, CS.mk_x, CS.mk_y, CS.mk_g, CS.mk_eta, MS.mk_x, MS.mk_g, MS.mk_V, MS.mk_T, MS.mk_eta, hne, hgj]
    by_cases e6 : f = 29
    · subst e6; simp [CS.mk_R, CS.mk_cap, CS.mk_x, CS.mk_y, CS.mk_g, CS.mk_eta, MS.mk_x, MS.mk_g, MS.mk_V, MS.mk_T, MS.mk_eta, hne, hgj]
    omega
  · rw [el] at hj
    rw [p_insD hp]
    have hw : j ≠ p → g (29 + c) (7200 + j) = if j < p then (M.V 6).getD j pz c else (M.V 6).getD (j - 1) pz c := fun hne => by
      rw [hg]
      by_cases e1 : j < p
      · rw [if_neg (by omega), if_pos e1]; exact h.win 6 (by omega) j c (by omega) hc
      · rw [if_pos (by omega), if_neg e1, show 7200 + j - 1 = 7200 + (j - 1) by omega]; exact h.win 6 (by omega) (j - 1) c (by omega) hc
    have hcc : c = 0 ∨ c = 1 ∨ c = 2 ∨ c = 3 ∨ c = 4 ∨ c = 5 := by omega
    by_cases e1 : j = p
    · subst e1
      rw [if_neg (by omega), if_pos rfl]
      rcases hcc with rfl | rfl | rfl | rfl | rfl | rfl <;> simp [CS.mk_R, CS.mk_cap, CS.mk_x, CS.mk_y, CS.mk_g, CS.mk_eta, MS.mk_x, MS.mk_g, MS.mk_V, MS.mk_T, MS.mk_eta, va_up, upd, mkw, pz]
    · have hne : 7200 + j ≠ 7200 + p := by omega
      have := hw e1
      have e2 : (if j < p then (M.V 6).getD j pz else if j = p then mkw k b e 0 else (M.V 6).getD (j - 1) pz) c = if j < p then (M.V 6).getD j pz c else (M.V 6).getD (j - 1) pz c := by
        rw [if_neg e1]; split <;> rfl
      rw [e2, ← this]
      rcases hcc with rfl | rfl | rfl | rfl | rfl | rfl <;> simp [CS.mk_R, CS.mk_cap, CS.mk_x, CS.mk_y, CS.mk_g, CS.mk_eta, MS.mk_x, MS.mk_g, MS.mk_V, MS.mk_T, MS.mk_eta, va_up, upd, e1]
  · rw [el] at hj
    rw [p_insD hp]
    split
    · exact h.bo 6 (by omega) j (by omega)
    · split
      · exact .inl ⟨rfl, rfl⟩
      · exact h.bo 6 (by omega) (j - 1) (by omega)
theorem m_makeL {M x} {g0 : Nat → Nat → Int32} (h : RM M x g0) {k b e : Int32} (hl : (M.V 6).length < 1200) {Φ : Int32 → pJ} (hΦ : ∀ g, RM (mWin M ((M.V 6).insertIdx (mPos (M.V 6) k b) (mkw k b e 0))) x g → Φ (nI (7200 + mPos (M.V 6) k b)) x g) : ∀ (p n : Nat) (g : Nat → Nat → Int32), p ≤ (M.V 6).length → p < n → mPos (M.V 6) k b = mPosL (M.V 6) k b p → (∀ f j, g f j = if 29 ≤ f ∧ f ≤ 34 ∧ 7200 + p < j ∧ j ≤ 7200 + (M.V 6).length then g0 f (j - 1) else g0 f j) → lX9_makes_12 Φ n x g k b e (nI (7200 + p)) := by
  intro p
  induction p with
  | zero =>
    intro n g hp hn hpos hg
    obtain ⟨n, rfl⟩ : ∃ n', n = n' + 1 := ⟨n - 1, by omega⟩
    rw [hpos] at hΦ
    exact ⟨fun _ => m_make76 h hl hp hg hΦ, fun c => absurd (show (nI 7200 : Int32) ≤ 7200 + 0 by decide) c⟩
  | succ p ih =>
    intro n g hp hn hpos hg
    obtain ⟨n, rfl⟩ : ∃ n', n = n' + 1 := ⟨n - 1, by omega⟩
    have e1 : nI (7200 + (p + 1)) - 1 = nI (7200 + p) := p_sub (b := 1) (by omega)
    have hin : vp_in (nI (7200 + p)) 8400 := vp_in_nI (by omega) (by omega)
    have c0 : g 29 (7200 + p) = (M.V 6).getD p pz 0 := by rw [hg, if_neg (by omega)]; exact h.win 6 (by omega) p 0 (by omega) (by omega)
    have c1 : g 30 (7200 + p) = (M.V 6).getD p pz 1 := by rw [hg, if_neg (by omega)]; exact h.win 6 (by omega) p 1 (by omega) (by omega)
    have stay : ¬ pGt k b ((M.V 6).getD p pz) → jX9_makes_76 Φ x g k b e (nI (7200 + (p + 1))) := fun hgt => by
      rw [hpos, mPosL, if_neg hgt] at hΦ
      exact m_make76 h hl hp hg hΦ
    have move : pGt k b ((M.V 6).getD p pz) → jX9_makes_60 (lX9_makes_12 Φ n) Φ x g k b e (nI (7200 + (p + 1))) := fun hgt => by
      unfold jX9_makes_60
      rw [e1]
      refine m_copiesWindow (by omega) (by omega) ?_ ?_
      · rw [hg, if_neg (by omega)]
        have := h.win 6 (by omega) p 4 (by omega) (by omega)
        rw [show 7200 + p = 1200 * 6 + p by omega, this]
        exact (h.bo 6 (by omega) p (by omega)).b
      · rintro _ rfl
        rw [show nI (7200 + (p + 1)) + (-1) = nI (7200 + p) from pBack_m _]
        refine ih n _ (by omega) (by omega) (by rw [hpos, mPosL, if_pos hgt]) fun f j => ?_
        unfold pcw
        by_cases e2 : 29 ≤ f ∧ f ≤ 34 ∧ j = 7200 + (p + 1)
        · rw [if_pos e2, hg, if_neg (by omega), if_pos (by omega)]
          congr 1; omega
        · rw [if_neg e2, hg]
          by_cases e3 : 29 ≤ f ∧ f ≤ 34 ∧ 7200 + (p + 1) < j ∧ j ≤ 7200 + (M.V 6).length
          · rw [if_pos e3, if_pos (by omega)]
          · rw [if_neg e3, if_neg (by omega)]
    refine ⟨fun c => absurd (show nI (7200 + (p + 1)) ≤ nI (7200 + 0) from c) (nI_ge (by omega) (by omega)), fun _ => ?_⟩
    rw [e1, p_cl (by omega), c0, c1]
    exact ⟨hin, fun a => move (.inl a), fun a => ⟨hin, fun a2 => ⟨hin, fun a3 => stay fun e => e.elim a (fun e => e.2 a3), fun a3 => move (.inr ⟨a2, a3⟩)⟩, fun a2 => stay fun e => e.elim a (fun e => a2 e.1)⟩⟩
theorem m_makes {M x g} (h : RM M x g) {k b e : Int32} (hl : (M.V 6).length < 1200) {Φ : Int32 → pJ} (hΦ : ∀ g, RM (mWin M ((M.V 6).insertIdx (mPos (M.V 6) k b) (mkw k b e 0))) x g → Φ (nI (7200 + mPos (M.V 6) k b)) x g) : wX9_makes x g k b e Φ := by
  unfold wX9_makes wX9_placeOf
  rw [p_6, h.g28, show (7200 : Int32) = nI 7200 from rfl, nI_add]
  exact ⟨p_vin6, (M.V 6).length + 1, m_makeL h hl hΦ _ _ g (Nat.le_refl _) (by omega) rfl (fun f j => by rw [if_neg (by omega)])⟩
theorem p_getD_cons {A : List pRow} {i : Nat} (h : i < A.length) : A.drop i = A.getD i pz :: A.drop (i + 1) := by
  rw [List.drop_eq_getElem_cons h]; congr 1; simp [CS.mk_R, CS.mk_cap, CS.mk_x, CS.mk_y, CS.mk_g, CS.mk_eta, MS.mk_x, MS.mk_g, MS.mk_V, MS.mk_T, MS.mk_eta, List.getD, h]
theorem m_woL {M x g} (h : RM M x g) {k b : Int32} {Φ : Int32 → Prop} : ∀ (m n i : Nat) (v : Int32), i + m = (M.V 6).length → m < n → (∀ w, (w = v ∧ (∀ j, i ≤ j → j < (M.V 6).length → pIs k b ((M.V 6).getD j pz) = false) ∨ ∃ j, i ≤ j ∧ j < (M.V 6).length ∧ pIs k b ((M.V 6).getD j pz) = true ∧ w = nI (7200 + j)) → Φ w) → lX9_windowOf_8 Φ n x g k b v (nI (7200 + i)) := by
  have hl := h.len 6 (by omega)
  intro m
  induction m with
  | zero =>
    intro n i v him hmn hΦ
    obtain ⟨n, rfl⟩ : ∃ n', n = n' + 1 := ⟨n - 1, by omega⟩
    simp only [CS.mk_R, CS.mk_cap, CS.mk_x, CS.mk_y, CS.mk_g, CS.mk_eta, MS.mk_x, MS.mk_g, MS.mk_V, MS.mk_T, MS.mk_eta, lX9_windowOf_8, wX9_placeOf, p_6, h.g28]
    rw [show (7200 : Int32) = nI 7200 from rfl, nI_add]
    exact ⟨p_vin6, fun _ => hΦ v (.inl ⟨rfl, fun j h1 h2 => by omega⟩), fun c => absurd (nI_le (by omega) (by omega)) c⟩
  | succ m ih =>
    intro n i v him hmn hΦ
    obtain ⟨n, rfl⟩ : ∃ n', n = n' + 1 := ⟨n - 1, by omega⟩
    have hin : vp_in (nI (7200 + i)) 8400 := vp_in_nI (by omega) (by omega)
    have c0 := h.w (i := i) 0 (by omega) (by omega)
    have c1 := h.w (i := i) 1 (by omega) (by omega)
    simp only [CS.mk_R, CS.mk_cap, CS.mk_x, CS.mk_y, CS.mk_g, CS.mk_eta, MS.mk_x, MS.mk_g, MS.mk_V, MS.mk_T, MS.mk_eta, lX9_windowOf_8, wX9_placeOf, p_6, h.g28]
    rw [show (7200 : Int32) = nI 7200 from rfl, nI_add, p_cl (show 7200 + i < 2 ^ 31 by omega), c0, c1]
    have skip : pIs k b ((M.V 6).getD i pz) = false → ∀ w : Int32, w = nI (7200 + i) + 1 → lX9_windowOf_8 Φ n x g k b v w := by
      rintro hf _ rfl
      rw [nI_1]
      refine ih n (i + 1) v (by omega) (by omega) fun w hw => hΦ w ?_
      rcases hw with ⟨e, h1⟩ | ⟨j, h1, h2, h3, h4⟩
      · refine .inl ⟨e, fun j h2 h3 => ?_⟩
        by_cases e2 : j = i
        · rw [e2]; exact hf
        · exact h1 j (by omega) h3
      · exact .inr ⟨j, by omega, h2, h3, h4⟩
    refine ⟨p_vin6, fun c => absurd c (nI_ge (by omega) (by omega)), fun _ => ⟨hin, fun a => ⟨hin, fun a2 => ?_, fun a2 => skip (pIs_f1 a2)⟩, fun a => skip (pIs_f0 a)⟩⟩
    rintro _ rfl
    rw [nI_1]
    refine ih n (i + 1) _ (by omega) (by omega) fun w hw => hΦ w (.inr ?_)
    rcases hw with ⟨e, h1⟩ | ⟨j, h1, h2, h3, h4⟩
    · exact ⟨i, Nat.le_refl _, by omega, pIs_t a a2, e⟩
    · exact ⟨j, by omega, h2, h3, h4⟩
theorem m_windowOf {M x g} (h : RM M x g) {k b : Int32} {Φ : Int32 → Prop} (h0 : (∀ j, j < (M.V 6).length → pIs k b ((M.V 6).getD j pz) = false) → Φ (-1)) (h1 : ∀ j, j < (M.V 6).length → pIs k b ((M.V 6).getD j pz) = true → Φ (nI (7200 + j))) : wX9_windowOf x g k b Φ := by
  unfold wX9_windowOf wX9_placeOf
  refine ⟨(M.V 6).length + 1, m_woL h (M.V 6).length _ 0 (-1) (by omega) (by omega) fun w hw => ?_⟩
  rcases hw with ⟨e, h2⟩ | ⟨j, _, h3, h4, h5⟩
  · rw [e]; exact h0 fun j hj => h2 j (by omega) hj
  · rw [h5]; exact h1 j h3 h4
def mOver (M : MS) (e : Int32) : Bool := decide (e + M.g 6 7 ≤ M.g 25 6)
theorem p_7 : (7 : Int32).toNatClampNeg = 7 := by decide
theorem p_0 : (0 : Int32).toNatClampNeg = 0 := by decide
theorem p_1 : (1 : Int32).toNatClampNeg = 1 := by decide
theorem p_2 : (2 : Int32).toNatClampNeg = 2 := by decide
theorem p_3 : (3 : Int32).toNatClampNeg = 3 := by decide
theorem p_4 : (4 : Int32).toNatClampNeg = 4 := by decide
theorem p_v9 {a : Int32} (h : 0 ≤ a.toInt ∧ a.toInt < 9) : vp_in a 9 := vp_in_iff.2 h
theorem m_isOver {M x g} (h : RM M x g) {e : Int32} {Φ : Int32 → Prop} (h1 : mOver M e = true → Φ 1) (h0 : mOver M e = false → Φ 0) : wX9_isOver x g e Φ := by
  unfold wX9_isOver
  rw [p_7, p_6, h.W 25 (by omega) (by omega), h.W 6 (by omega) (by omega)]
  unfold mOver at h1 h0
  exact ⟨p_v9 (by decide), p_vin6, fun c => h0 (decide_eq_false (Int32.not_le.2 c)), fun c => h1 (decide_eq_true (Int32.not_lt.1 c))⟩
def mFold (M : MS) (a b : Int32) : Int32 := if M.g 6 0 = 2 then (if a ≤ b then b else a) else a + b
theorem m_reckoned {M x g} (h : RM M x g) {a b : Int32} {Φ : Int32 → Prop} (hΦ : Φ (mFold M a b)) : wX9_reckoned x g a b Φ := by
  unfold wX9_reckoned
  unfold mFold at hΦ
  rw [p_0, h.W 6 (by omega) (by omega)]
  refine ⟨p_v9 (by decide), fun c => ?_, fun c => ?_⟩
  · rw [if_pos c] at hΦ
    exact ⟨fun d => by rwa [if_pos d] at hΦ, fun d => by rwa [if_neg d] at hΦ⟩
  · rw [if_neg c] at hΦ; exact hΦ
def mIts (M : MS) (v : Int32) : Int32 := if M.g 6 0 = 1 then 1 else v
def mRipe (M : MS) (i : Nat) : MS := if (mRow M i) 4 = 1 ∨ (mRow M i) 2 ≤ M.g 25 6 then mTell M i else M
def mInto (M : MS) (i : Nat) (nw : Bool) (v : Int32) : MS := mRipe (mCol M i 3 (if nw then mIts M v else mFold M ((mRow M i) 3) (mIts M v))) i
theorem pOk_3 {r : pRow} (h : pOk r) (v : Int32) : pOk (upd r 3 v) := h
theorem m_into43 {M x g} (h : RM M x g) {i : Nat} {v : Int32} (hi : i < (M.V 6).length) (hT : M.T.length + 2 ≤ 8000) {Φ : pJ} (hΦ : ∀ g, RM (mRipe (mCol M i 3 v) i) x g → Φ x g) : jX9_comesInto_43 Φ x g (nI (7200 + i)) (nI (7200 + i)) v := by
  have hl := h.len 6 (by omega)
  have hin : vp_in (nI (7200 + i)) 8400 := vp_in_nI (by omega) (by omega)
  have h1 := h.col (i := i) (c := 3) (v := v) hi (by omega) (pOk_3 (h.bo 6 (by omega) i hi) v)
  have hi1 : i < ((mCol M i 3 v).V 6).length := by simp only [CS.mk_R, CS.mk_cap, CS.mk_x, CS.mk_y, CS.mk_g, CS.mk_eta, MS.mk_x, MS.mk_g, MS.mk_V, MS.mk_T, MS.mk_eta, mCol, p_ug, List.length_set]; exact hi
  have er : mRow (mCol M i 3 v) i = upd (mRow M i) 3 v := by simp only [CS.mk_R, CS.mk_cap, CS.mk_x, CS.mk_y, CS.mk_g, CS.mk_eta, MS.mk_x, MS.mk_g, MS.mk_V, MS.mk_T, MS.mk_eta, mRow, mCol, p_ug, p_getset hi]
  have e4 : (mRow (mCol M i 3 v) i) 4 = (mRow M i) 4 := by rw [er]; rfl
  have e2 : (mRow (mCol M i 3 v) i) 2 = (mRow M i) 2 := by rw [er]; rfl
  have hb := (h.bo 6 (by omega) i hi).b
  unfold jX9_comesInto_43
  rw [p_cl (by omega), p_6, h.W 25 (by omega) (by omega), show g 33 (7200 + i) = mRow M i 4 from h.w 4 hi (by omega), show g 31 (7200 + i) = mRow M i 2 from h.w 2 hi (by omega)]
  unfold mRipe at hΦ
  rw [e4, e2] at hΦ
  have yes : (mRow M i 4 = 1 ∨ mRow M i 2 ≤ M.g 25 6) → wX9_tells x (va_up g 32 (upd (g 32) (7200 + i) v)) (nI (7200 + i)) (fun x_71 g_71 => Φ x_71 g_71) := fun c => by
    rw [show (mCol M i 3 v).g 25 6 = M.g 25 6 from rfl, if_pos c] at hΦ
    exact m_tells h1 hi1 hT hΦ
  refine ⟨hin, hin, fun a => ⟨hin, p_vin6, fun c => ?_, fun c => yes (.inr (Int32.not_lt.1 c))⟩, fun a => yes (.inl (hb.resolve_left a))⟩
  rw [show (mCol M i 3 v).g 25 6 = M.g 25 6 from rfl, if_neg (fun d => d.elim (fun d => absurd (a.symm.trans d) (by decide)) (Int32.not_le.2 c))] at hΦ
  exact hΦ _ h1
theorem m_into {M x g} (h : RM M x g) {i : Nat} {nw : Bool} {v nv : Int32} (hi : i < (M.V 6).length) (hT : M.T.length + 2 ≤ 8000) (hnv : nv = if nw then 1 else 0) {Φ : pJ} (hΦ : ∀ g, RM (mInto M i nw v) x g → Φ x g) : wX9_comesInto x g (nI (7200 + i)) nv v Φ := by
  have hl := h.len 6 (by omega)
  have hin : vp_in (nI (7200 + i)) 8400 := vp_in_nI (by omega) (by omega)
  unfold mInto at hΦ
  have key : ∀ s : Int32, s = mIts M v → jX9_comesInto_15 Φ x g (nI (7200 + i)) nv s := by
    rintro _ rfl
    unfold jX9_comesInto_15
    cases nw with
    | true =>
      simp only [CS.mk_R, CS.mk_cap, CS.mk_x, CS.mk_y, CS.mk_g, CS.mk_eta, MS.mk_x, MS.mk_g, MS.mk_V, MS.mk_T, MS.mk_eta, if_true] at hnv hΦ
      subst hnv
      exact ⟨fun c => absurd c (by decide), fun _ => m_into43 h hi hT hΦ⟩
    | false =>
      simp only [CS.mk_R, CS.mk_cap, CS.mk_x, CS.mk_y, CS.mk_g, CS.mk_eta, MS.mk_x, MS.mk_g, MS.mk_V, MS.mk_T, MS.mk_eta, Bool.false_eq_true, if_false] at hnv hΦ
      subst hnv
      rw [p_cl (by omega), show g 32 (7200 + i) = mRow M i 3 from h.w 3 hi (by omega)]
      exact ⟨fun _ => ⟨hin, m_reckoned h (m_into43 h hi hT hΦ)⟩, fun c => absurd rfl c⟩
  unfold wX9_comesInto
  unfold mIts at key
  rw [p_0, h.W 6 (by omega) (by omega)]
  exact ⟨p_v9 (by decide), fun c => key 1 (by rw [if_pos c]), fun c => key v (by rw [if_neg c])⟩
def mG (M : MS) (k i : Nat) (v : Int32) : MS := (MS.mk M.x (va_up M.g k (upd (M.g k) i v)) M.V M.T)
theorem RM.G {M x g} (h : RM M x g) {k i : Nat} {v : Int32} (h1 : k < 27 ∨ 34 < k) (h2 : k < 38 ∨ 42 < k) : RM (mG M k i v) x (va_up g k (upd (g k) i v)) := by
  refine ⟨h.hx, fun j a b => ?_, fun p hp => ?_, h.len, fun p hp j c hj hc => ?_, h.bo, h.tl, ?_, fun j c hj hc => ?_⟩
  · simp only [CS.mk_R, CS.mk_cap, CS.mk_x, CS.mk_y, CS.mk_g, CS.mk_eta, MS.mk_x, MS.mk_g, MS.mk_V, MS.mk_T, MS.mk_eta, mG, ← h.hg k (by omega) h2]
    by_cases e : j = k
    · rw [e, p_ug, p_ug]
    · rw [p_un _ _ e, p_un _ _ e]; exact h.hg j a b
  · rw [p_un _ _ (by omega)]; exact h.n28 p hp
  · rw [p_un _ _ (by omega)]; exact h.win p hp j c hj hc
  · simp only [CS.mk_R, CS.mk_cap, CS.mk_x, CS.mk_y, CS.mk_g, CS.mk_eta, MS.mk_x, MS.mk_g, MS.mk_V, MS.mk_T, MS.mk_eta, mG, p_un _ _ (show 27 ≠ k by omega)]; exact h.n27
  · rw [p_un _ _ (by omega)]; exact h.res j c hj hc
def mLate (M : MS) : MS := mG M 26 6 (M.g 26 6 + 1)
theorem m_late {M x g} (h : RM M x g) {Φ : pJ} (hΦ : ∀ g, RM (mLate M) x g → Φ x g) : vp_in 6 7 ∧ (vp_in 6 7 ∧ (Φ x (va_up g 26 (upd (g 26) (6 : Int32).toNatClampNeg (((g 26) (6 : Int32).toNatClampNeg) + 1))))) := by
  rw [p_6]
  refine ⟨p_vin6, p_vin6, hΦ _ ?_⟩
  have := h.G (k := 26) (i := 6) (v := M.g 26 6 + 1) (by omega) (by omega)
  rwa [h.W 26 (by omega) (by omega)] at this ⊢
def mFixed (M : MS) (k b v : Int32) : MS :=
  if mOver M (b + M.g 6 5) then mLate M
  else if pFW (M.V 6) k b < (M.V 6).length then mInto M (pFW (M.V 6) k b) false v
  else mInto (mWin M ((M.V 6).insertIdx (mPos (M.V 6) k b) (mkw k b (b + M.g 6 5) 0))) (mPos (M.V 6) k b) true v
def pUniq (W : List pRow) : Prop := ∀ i j, i < W.length → j < W.length → (W.getD i pz) 0 = (W.getD j pz) 0 → (W.getD i pz) 1 = (W.getD j pz) 1 → i = j
theorem pFW_lt {W : List pRow} {k b : Int32} {j : Nat} (hj : j < W.length) (h : pIs k b (W.getD j pz) = true) : pFW W k b < W.length ∧ pIs k b (W.getD (pFW W k b) pz) = true := by
  have h1 : ∃ r ∈ W, pIs k b r = true := ⟨W.getD j pz, by simp [CS.mk_R, CS.mk_cap, CS.mk_x, CS.mk_y, CS.mk_g, CS.mk_eta, MS.mk_x, MS.mk_g, MS.mk_V, MS.mk_T, MS.mk_eta, List.getD, hj], h⟩
  have h2 : pFW W k b < W.length := List.findIdx_lt_length_of_exists h1
  refine ⟨h2, ?_⟩
  have h3 := List.findIdx_getElem (w := h2)
  unfold pFW at h2 ⊢
  simpa [List.getD, h2] using h3
theorem pFW_uniq {W : List pRow} (hu : pUniq W) {k b : Int32} {j : Nat} (hj : j < W.length) (h : pIs k b (W.getD j pz) = true) : pFW W k b = j := by
  obtain ⟨h1, h2⟩ := pFW_lt hj h
  rw [pIs_iff] at h h2
  exact hu _ _ h1 hj (h2.1.trans h.1.symm) (h2.2.trans h.2.symm)
theorem pFW_none {W : List pRow} {k b : Int32} (h : ∀ j, j < W.length → pIs k b (W.getD j pz) = false) : pFW W k b = W.length := p_find0 h
theorem m_fixed {M x g} (h : RM M x g) {k b v : Int32} (hu : pUniq (M.V 6)) (hl : (M.V 6).length < 1200) (hT : M.T.length + 2 ≤ 8000) {Φ : pJ} (hΦ : ∀ g, RM (mFixed M k b v) x g → Φ x g) : wX9_comesToFixed x g k b v Φ := by
  unfold wX9_comesToFixed
  unfold mFixed at hΦ
  rw [p_5, h.W 6 (by omega) (by omega)]
  refine ⟨p_v9 (by decide), ?_⟩
  rintro _ rfl
  refine m_isOver h (fun o => ?_) (fun o => ?_)
  · rw [if_pos o] at hΦ
    exact ⟨fun c => absurd c (by decide), fun _ => m_late h hΦ⟩
  · rw [if_neg (by rw [o]; decide)] at hΦ
    refine ⟨fun _ => m_windowOf h (fun hn => ?_) (fun j hj hp => ?_), fun c => absurd rfl c⟩
    · rw [if_neg (by rw [pFW_none hn]; omega)] at hΦ
      refine ⟨fun _ => ⟨fun c => absurd c (by decide), fun _ => m_makes h hl fun g h1 => ?_⟩, fun c => absurd rfl c⟩
      have hp : mPos (M.V 6) k b ≤ (M.V 6).length := mPosL_le _ _ _ _
      exact m_into (nw := true) h1 (by simp only [CS.mk_R, CS.mk_cap, CS.mk_x, CS.mk_y, CS.mk_g, CS.mk_eta, MS.mk_x, MS.mk_g, MS.mk_V, MS.mk_T, MS.mk_eta, mWin, p_ug, List.length_insertIdx_of_le_length hp]; omega) hT rfl hΦ
    · rw [pFW_uniq hu hj hp, if_pos hj] at hΦ
      refine ⟨fun c => absurd c (p_m1 (by have := h.len 6 (by omega); omega)), fun _ => ⟨fun _ => m_into (nw := false) h hj hT rfl hΦ, fun c => absurd rfl c⟩⟩
theorem m_overlaps {M x g} (h : RM M x g) {i : Nat} {k t to : Int32} (hi : i < (M.V 6).length) {sz : Int32} (hto : to = t + sz) {Φ : Int32 → Prop} (h1 : pMet sz k t (mRow M i) = true → Φ 1) (h0 : pMet sz k t (mRow M i) = false → Φ 0) : wX9_overlaps x g (nI (7200 + i)) k t to Φ := by
  have hl := h.len 6 (by omega)
  have hin : vp_in (nI (7200 + i)) 8400 := vp_in_nI (by omega) (by omega)
  unfold wX9_overlaps
  rw [p_cl (by omega), show g 29 (7200 + i) = mRow M i 0 from h.w 0 hi (by omega), show g 30 (7200 + i) = mRow M i 1 from h.w 1 hi (by omega), show g 31 (7200 + i) = mRow M i 2 from h.w 2 hi (by omega), hto]
  exact ⟨hin, fun a => ⟨hin, fun b => h0 (pMet_f fun e => absurd b (Int32.not_le.2 e.2.1)), fun b => ⟨hin, fun c => h0 (pMet_f fun e => absurd c (Int32.not_le.2 e.2.2)), fun c => h1 (pMet_iff.2 ⟨a, Int32.not_le.1 b, Int32.not_le.1 c⟩)⟩⟩, fun a => h0 (pMet_f fun e => a e.1)⟩
def aStep (M : MS) (acc : Option Int32) (r : pRow) : Option Int32 := some (match acc with | none => r 3 | some a => mFold M a (r 3))
def mAll (acc : Option Int32) : Int32 := acc.getD 0
def mSesEnd (M : MS) (k v b e : Int32) (acc : Option Int32) : MS :=
  mInto (mCol (mWin M ((M.V 6).insertIdx (mPos (M.V 6) k b) (mkw k b e 0))) (mPos (M.V 6) k b) 3 (mAll acc)) (mPos (M.V 6) k b) acc.isNone v
theorem mApp_mWin (M : MS) (W rs : List pRow) : mApp (mWin M W) rs = mWin (mApp M rs) W := by
  induction rs generalizing M with
  | nil => rfl
  | cons r rs ih => exact ih (mApp1 M r)
theorem mWin_mWin (M : MS) (W W' : List pRow) : mWin (mWin M W) W' = mWin M W' := by simp only [CS.mk_R, CS.mk_cap, CS.mk_x, CS.mk_y, CS.mk_g, CS.mk_eta, MS.mk_x, MS.mk_g, MS.mk_V, MS.mk_T, MS.mk_eta, mWin, p_uu]
theorem mWin_self (M : MS) : mWin M (M.V 6) = M := by simp only [CS.mk_R, CS.mk_cap, CS.mk_x, CS.mk_y, CS.mk_g, CS.mk_eta, MS.mk_x, MS.mk_g, MS.mk_V, MS.mk_T, MS.mk_eta, mWin, p_us]
theorem p_app_erase {A B : List pRow} {r : pRow} : (A ++ r :: B).eraseIdx A.length = A ++ B := by
  induction A with
  | nil => rfl
  | cons a A ih => simp [CS.mk_R, CS.mk_cap, CS.mk_x, CS.mk_y, CS.mk_g, CS.mk_eta, MS.mk_x, MS.mk_g, MS.mk_V, MS.mk_T, MS.mk_eta, List.eraseIdx_cons_succ, ih]
def pAcc2 (acc : Option Int32) (v7 v8 : Int32) : Prop := (acc = none ∧ v8 = 0 ∧ v7 = 0) ∨ (v8 = 1 ∧ acc = some v7)
theorem mFold_app (M : MS) (rs : List pRow) (W : List pRow) (a b : Int32) : mFold (mWin (mApp M rs) W) a b = mFold M a b := by
  unfold mFold
  rw [show (mWin (mApp M rs) W).g 6 = M.g 6 from (mApp_same M rs).2.2.1 6 (by omega)]
theorem aStep_app (M : MS) (rs : List pRow) (W : List pRow) : aStep (mWin (mApp M rs) W) = aStep M := by
  funext acc r
  unfold aStep
  cases acc with
  | none => rfl
  | some a => simp only [CS.mk_R, CS.mk_cap, CS.mk_x, CS.mk_y, CS.mk_g, CS.mk_eta, MS.mk_x, MS.mk_g, MS.mk_V, MS.mk_T, MS.mk_eta, mFold_app]
theorem m_ses256 {k t v b e sz : Int32} {Φ : pJ} : ∀ (B : List pRow) (n : Nat) (A : List pRow) (M : MS) (x : Nat → Int32) (g : Nat → Nat → Int32) (acc : Option Int32) (v7 v8 : Int32), RM M x g → M.g 6 5 = sz → M.V 6 = A ++ B → B.length < n → M.T.length + B.length + 2 ≤ 8000 → pAcc2 acc v7 v8 → (A ++ pRest sz k t B).length < 1200 → (∀ g, RM (mSesEnd (mWin (mApp M (pBacks sz k t B)) (A ++ pRest sz k t B)) k v b e ((B.filter (pMet sz k t)).foldl (aStep M) acc)) x g → Φ x g) → lX9_comesToSession_256 Φ n x g k t v b e v7 v8 (nI (7200 + A.length)) := by
  intro B
  induction B with
  | nil =>
    intro n A M x g acc v7 v8 h hsz hV hn hT ha hl hΦ
    obtain ⟨n, rfl⟩ : ∃ n', n = n' + 1 := ⟨n - 1, by omega⟩
    have hlen := h.len 6 (by omega)
    have hA : (M.V 6).length = A.length := by rw [hV]; simp
    simp only [CS.mk_R, CS.mk_cap, CS.mk_x, CS.mk_y, CS.mk_g, CS.mk_eta, MS.mk_x, MS.mk_g, MS.mk_V, MS.mk_T, MS.mk_eta, lX9_comesToSession_256, wX9_placeOf, p_6, h.g28, hA]
    rw [show (7200 : Int32) = nI 7200 from rfl, nI_add]
    refine ⟨p_vin6, fun _ => m_makes h (by simp [CS.mk_R, CS.mk_cap, CS.mk_x, CS.mk_y, CS.mk_g, CS.mk_eta, MS.mk_x, MS.mk_g, MS.mk_V, MS.mk_T, MS.mk_eta, pRest] at hl; omega) fun g h1 => ?_, fun c => absurd (nI_le (Nat.le_refl _) (by omega)) c⟩
    have hp : mPos (M.V 6) k b ≤ (M.V 6).length := mPosL_le _ _ _ _
    have hA2 : A.length < 1200 := by simpa [pRest] using hl
    have hin : vp_in (nI (7200 + mPos (M.V 6) k b)) 8400 := vp_in_nI (by omega) (by omega)
    have hi : mPos (M.V 6) k b < ((mWin M ((M.V 6).insertIdx (mPos (M.V 6) k b) (mkw k b e 0))).V 6).length := by
      simp only [CS.mk_R, CS.mk_cap, CS.mk_x, CS.mk_y, CS.mk_g, CS.mk_eta, MS.mk_x, MS.mk_g, MS.mk_V, MS.mk_T, MS.mk_eta, mWin, p_ug, List.length_insertIdx_of_le_length hp]; omega
    have h2 := h1.col (c := 3) (v := mAll acc) hi (by omega) (pOk_3 (h1.bo 6 (by omega) _ hi) _)
    have e0 : mWin (mApp M (pBacks sz k t [])) (A ++ pRest sz k t []) = M := by
      rw [show A ++ pRest sz k t [] = M.V 6 by rw [hV]; rfl]; exact mWin_self M
    simp only [CS.mk_R, CS.mk_cap, CS.mk_x, CS.mk_y, CS.mk_g, CS.mk_eta, MS.mk_x, MS.mk_g, MS.mk_V, MS.mk_T, MS.mk_eta, List.filter_nil, List.foldl_nil] at hΦ
    rw [e0] at hΦ
    unfold mSesEnd at hΦ
    rw [p_cl (by omega)]
    rcases ha with ⟨rfl, rfl, rfl⟩ | ⟨rfl, rfl⟩
    · exact ⟨hin, fun _ => m_into (nw := true) h2 (by simp only [CS.mk_R, CS.mk_cap, CS.mk_x, CS.mk_y, CS.mk_g, CS.mk_eta, MS.mk_x, MS.mk_g, MS.mk_V, MS.mk_T, MS.mk_eta, mCol, p_ug, List.length_set]; exact hi) (by simp only [CS.mk_R, CS.mk_cap, CS.mk_x, CS.mk_y, CS.mk_g, CS.mk_eta, MS.mk_x, MS.mk_g, MS.mk_V, MS.mk_T, MS.mk_eta, mCol, mWin]; simp at hT; omega) rfl hΦ, fun c => absurd rfl c⟩
    · exact ⟨hin, fun c => absurd c (by decide), fun _ => m_into (nw := false) h2 (by simp only [CS.mk_R, CS.mk_cap, CS.mk_x, CS.mk_y, CS.mk_g, CS.mk_eta, MS.mk_x, MS.mk_g, MS.mk_V, MS.mk_T, MS.mk_eta, mCol, p_ug, List.length_set]; exact hi) (by simp only [CS.mk_R, CS.mk_cap, CS.mk_x, CS.mk_y, CS.mk_g, CS.mk_eta, MS.mk_x, MS.mk_g, MS.mk_V, MS.mk_T, MS.mk_eta, mCol, mWin]; simp at hT; omega) rfl hΦ⟩
  | cons r B ih =>
    intro n A M x g acc v7 v8 h hsz hV hn hT ha hl hΦ
    simp only [CS.mk_R, CS.mk_cap, CS.mk_x, CS.mk_y, CS.mk_g, CS.mk_eta, MS.mk_x, MS.mk_g, MS.mk_V, MS.mk_T, MS.mk_eta, List.length_cons] at hn hT
    obtain ⟨n, rfl⟩ : ∃ n', n = n' + 1 := ⟨n - 1, by omega⟩
    have hlen := h.len 6 (by omega)
    have hA : (M.V 6).length = A.length + (B.length + 1) := by rw [hV]; simp
    have hi : A.length < (M.V 6).length := by omega
    have hg : mRow M A.length = r := by rw [mRow, hV, p_app_getD]
    have hin : vp_in (nI (7200 + A.length)) 8400 := vp_in_nI (by omega) (by omega)
    simp only [CS.mk_R, CS.mk_cap, CS.mk_x, CS.mk_y, CS.mk_g, CS.mk_eta, MS.mk_x, MS.mk_g, MS.mk_V, MS.mk_T, MS.mk_eta, lX9_comesToSession_256, wX9_placeOf, p_6, h.g28]
    rw [show (7200 : Int32) = nI 7200 from rfl, nI_add, p_5, p_cl (show 7200 + A.length < 2 ^ 31 by omega), h.W 6 (by omega) (by omega), show g 33 (7200 + A.length) = mRow M A.length 4 from h.w 4 hi (by omega), show g 34 (7200 + A.length) = mRow M A.length 5 from h.w 5 hi (by omega), hg]
    have hb := (h.bo 6 (by omega) A.length hi).b
    rw [show (M.V 6).getD A.length pz = r from hg] at hb
    refine ⟨p_vin6, fun c => absurd c (nI_ge (by omega) (by omega)), fun _ => ⟨p_v9 (by decide), m_overlaps h hi rfl (fun m => ?_) (fun m => ?_)⟩⟩
    · rw [hsz, hg] at m
      have er : pRest sz k t (r :: B) = pRest sz k t B := by simp [CS.mk_R, CS.mk_cap, CS.mk_x, CS.mk_y, CS.mk_g, CS.mk_eta, MS.mk_x, MS.mk_g, MS.mk_V, MS.mk_T, MS.mk_eta, pRest, m]
      have ef : (r :: B).filter (pMet sz k t) = r :: B.filter (pMet sz k t) := by rw [List.filter_cons, if_pos m]
      rw [er] at hl hΦ
      rw [ef, List.foldl_cons] at hΦ
      have tail : ∀ (rs : List pRow) (M1 : MS) (g : Nat → Nat → Int32), M1 = mApp M rs → rs.length ≤ 1 → RM M1 x g → (∀ g, RM (mSesEnd (mWin (mApp M (rs ++ pBacks sz k t B)) (A ++ pRest sz k t B)) k v b e ((B.filter (pMet sz k t)).foldl (aStep M) (aStep M acc r))) x g → Φ x g) → jX9_comesToSession_314 (lX9_comesToSession_256 Φ n) Φ x g k t v b e v7 v8 (nI (7200 + A.length)) := by
        rintro rs M1 g hM1 hrs h1 hΦ
        have hs := mApp_same M rs
        have hV1 : M1.V 6 = A ++ r :: B := by rw [hM1, hs.1]; exact hV
        have hi1 : A.length < (M1.V 6).length := by rw [hV1]; simp
        have e3 : g 32 (7200 + A.length) = r 3 := by
          rw [h1.w (i := A.length) 3 hi1 (by omega), hV1, p_app_getD]
        unfold jX9_comesToSession_314
        rw [p_cl (by omega), e3]
        have go : ∀ w7 : Int32, aStep M acc r = some w7 → wX9_drops x g (nI (7200 + A.length)) (fun x_350 g_350 => lX9_comesToSession_256 Φ n x_350 g_350 k t v b e w7 1 (nI (7200 + A.length))) := by
          intro w7 hw7
          refine m_drops h1 hi1 fun g h2 => ?_
          rw [hV1, p_app_erase] at h2
          have eg : (mWin M1 (A ++ B)).g 6 = M.g 6 := by rw [hM1]; exact hs.2.2.1 6 (by omega)
          refine ih n A _ x g (some w7) w7 1 h2 (by rw [eg]; exact hsz) (by simp only [CS.mk_R, CS.mk_cap, CS.mk_x, CS.mk_y, CS.mk_g, CS.mk_eta, MS.mk_x, MS.mk_g, MS.mk_V, MS.mk_T, MS.mk_eta, mWin, p_ug]) (by omega) ?_ (.inr ⟨rfl, rfl⟩) hl fun g h3 => hΦ g ?_
          · rw [show (mWin M1 (A ++ B)).T = M1.T from rfl, hM1, mApp_T, List.length_append]; omega
          · rw [mApp_mWin, mWin_mWin, hM1, ← mApp_app, aStep_app, ← hw7] at h3
            exact h3
        rcases ha with ⟨rfl, rfl, rfl⟩ | ⟨rfl, rfl⟩
        · refine ⟨fun _ => ⟨hin, ?_⟩, fun c => absurd rfl c⟩
          rintro _ rfl
          exact go _ rfl
        · refine ⟨fun c => absurd c (by decide), fun _ => ⟨hin, m_reckoned h1 (go _ ?_)⟩⟩
          unfold aStep
          have : mFold M1 = mFold M := by
            funext a b; unfold mFold; rw [hM1, hs.2.2.1 6 (by omega)]
          rw [this]
      refine ⟨fun c => absurd c (by decide), fun _ => ⟨hin, fun t0 => ?_, fun t0 => ⟨hin, ?_⟩⟩⟩
      · have eb : pBacks sz k t (r :: B) = pBacks sz k t B := by simp [CS.mk_R, CS.mk_cap, CS.mk_x, CS.mk_y, CS.mk_g, CS.mk_eta, MS.mk_x, MS.mk_g, MS.mk_V, MS.mk_T, MS.mk_eta, pBacks, t0]
        rw [eb] at hΦ
        exact tail [] M g rfl (by simp) h hΦ
      · have t1 := hb.resolve_left t0
        have eb : pBacks sz k t (r :: B) = [pBk r] ++ pBacks sz k t B := by simp [CS.mk_R, CS.mk_cap, CS.mk_x, CS.mk_y, CS.mk_g, CS.mk_eta, MS.mk_x, MS.mk_g, MS.mk_V, MS.mk_T, MS.mk_eta, pBacks, m, t1]
        rw [eb] at hΦ
        refine m_puts h hi (by omega) (r := pBk r) (by rw [show (M.V 6).getD A.length pz = r from hg]; rfl) fun g h1 => ?_
        exact tail [pBk r] _ g rfl (by simp) h1 hΦ
    · rw [hsz, hg] at m
      have mf : ¬ pMet sz k t r = true := by rw [m]; decide
      have er : pRest sz k t (r :: B) = r :: pRest sz k t B := by simp [CS.mk_R, CS.mk_cap, CS.mk_x, CS.mk_y, CS.mk_g, CS.mk_eta, MS.mk_x, MS.mk_g, MS.mk_V, MS.mk_T, MS.mk_eta, pRest, m]
      have eb : pBacks sz k t (r :: B) = pBacks sz k t B := by simp [CS.mk_R, CS.mk_cap, CS.mk_x, CS.mk_y, CS.mk_g, CS.mk_eta, MS.mk_x, MS.mk_g, MS.mk_V, MS.mk_T, MS.mk_eta, pBacks, m]
      have ef : (r :: B).filter (pMet sz k t) = B.filter (pMet sz k t) := by rw [List.filter_cons, if_neg mf]
      rw [er] at hl hΦ
      rw [eb, ef] at hΦ
      refine ⟨fun _ => ?_, fun c => absurd rfl c⟩
      rintro _ rfl
      rw [nI_1]
      have := ih n (A ++ [r]) M x g acc v7 v8 h hsz (by rw [hV, List.append_assoc]; rfl) (by omega) (by omega) ha (by rw [List.append_assoc]; exact hl) (fun g h1 => hΦ g (by rwa [List.append_assoc] at h1))
      rwa [List.length_append, List.length_singleton] at this
theorem m_ses104end {M x g} (h : RM M x g) {k t v b e sz : Int32} (hsz : M.g 6 5 = sz) (hT : M.T.length + (M.V 6).length + 2 ≤ 8000) (hl : (pRest sz k t (M.V 6)).length < 1200) {Φ : pJ} (hΦ : ∀ g, RM (mSesEnd (mWin (mApp M (pBacks sz k t (M.V 6))) (pRest sz k t (M.V 6))) k v b e (((M.V 6).filter (pMet sz k t)).foldl (aStep M) none)) x g → Φ x g) : wX9_placeOf 0 (fun r_251 => (∃ n256 : Nat, lX9_comesToSession_256 Φ n256 x g k t v b e 0 0 r_251)) :=
  ⟨(M.V 6).length + 1, m_ses256 (M.V 6) _ [] M x g none 0 0 h hsz rfl (by omega) hT (.inl ⟨rfl, rfl, rfl⟩) hl hΦ⟩
def mSes (M : MS) (k t v : Int32) : MS :=
  let sz := M.g 6 5
  let Ms := (M.V 6).filter (pMet sz k t)
  let b := Ms.foldl fB t
  let e := Ms.foldl fE (t + sz)
  if Ms.length = 0 ∧ mOver M (t + sz) = true then mLate M
  else if Ms.length = 1 ∧ pFW (M.V 6) k b < (M.V 6).length ∧ (mRow M (pFW (M.V 6) k b)) 2 = e then mInto M (pFW (M.V 6) k b) false v
  else mSesEnd (mWin (mApp M (pBacks sz k t (M.V 6))) (pRest sz k t (M.V 6))) k v b e (Ms.foldl (aStep M) none)
theorem fB_alt (b : Int32) (r : pRow) : fB b r = if b ≤ r 1 then b else r 1 := by
  unfold fB
  by_cases h : r 1 < b
  · rw [if_pos h, if_neg (Int32.not_le.2 h)]
  · rw [if_neg h, if_pos (Int32.not_lt.1 h)]
theorem fE_alt (e : Int32) (r : pRow) : fE e r = if r 2 ≤ e then e else r 2 := by
  unfold fE
  by_cases h : e < r 2
  · rw [if_pos h, if_neg (Int32.not_le.2 h)]
  · rw [if_neg h, if_pos (Int32.not_lt.1 h)]
theorem m_ses104 {M x g} (h : RM M x g) {k t v sz cnt : Int32} (hsz : M.g 6 5 = sz) (hu : pUniq (M.V 6)) (hT : M.T.length + (M.V 6).length + 2 ≤ 8000) (hl : (pRest sz k t (M.V 6)).length < 1200) {b e : Int32} {Φ : pJ}
    (hΦ : ∀ g, RM (if cnt = 1 ∧ pFW (M.V 6) k b < (M.V 6).length ∧ (mRow M (pFW (M.V 6) k b)) 2 = e then mInto M (pFW (M.V 6) k b) false v else mSesEnd (mWin (mApp M (pBacks sz k t (M.V 6))) (pRest sz k t (M.V 6))) k v b e (((M.V 6).filter (pMet sz k t)).foldl (aStep M) none)) x g → Φ x g) :
    ∀ (B : List pRow) (n i : Nat) (b0 e0 : Int32), (M.V 6).drop i = B → i + B.length = (M.V 6).length → B.length < n → (B.filter (pMet sz k t)).foldl fB b0 = b → (B.filter (pMet sz k t)).foldl fE e0 = e → lX9_comesToSession_104 Φ n x g k t v b0 e0 cnt (nI (7200 + i)) := by
  have hlen := h.len 6 (by omega)
  intro B
  induction B with
  | nil =>
    intro n i b0 e0 hd hi hn hb he
    obtain ⟨n, rfl⟩ : ∃ n', n = n' + 1 := ⟨n - 1, by omega⟩
    simp only [CS.mk_R, CS.mk_cap, CS.mk_x, CS.mk_y, CS.mk_g, CS.mk_eta, MS.mk_x, MS.mk_g, MS.mk_V, MS.mk_T, MS.mk_eta, List.length_nil, Nat.add_zero] at hi
    simp only [CS.mk_R, CS.mk_cap, CS.mk_x, CS.mk_y, CS.mk_g, CS.mk_eta, MS.mk_x, MS.mk_g, MS.mk_V, MS.mk_T, MS.mk_eta, List.filter_nil, List.foldl_nil] at hb he
    subst hb he
    simp only [CS.mk_R, CS.mk_cap, CS.mk_x, CS.mk_y, CS.mk_g, CS.mk_eta, MS.mk_x, MS.mk_g, MS.mk_V, MS.mk_T, MS.mk_eta, lX9_comesToSession_104, wX9_placeOf, p_6, h.g28, hi]
    rw [show (7200 : Int32) = nI 7200 from rfl, nI_add]
    refine ⟨p_vin6, fun _ => ⟨fun c1 => m_windowOf h (fun hn => ?_) (fun j hj hp => ?_), fun c1 => ?_⟩, fun c => absurd (nI_le (Nat.le_refl _) (by omega)) c⟩
    · rw [if_neg (fun q => by have := q.2.1; rw [pFW_none hn] at this; omega)] at hΦ
      exact ⟨fun _ => m_ses104end h hsz hT hl hΦ, fun c => absurd rfl c⟩
    · refine ⟨fun c => absurd c (p_m1 (by omega)), fun _ => m_windowOf h (fun hn => absurd hp (by rw [hn j hj]; decide)) (fun j hj hp => ?_)⟩
      have ej := pFW_uniq hu hj hp
      rw [ej] at hΦ
      rw [p_cl (by omega), show g 31 (7200 + j) = mRow M j 2 from h.w 2 hj (by omega)]
      refine ⟨vp_in_nI (by omega) (by omega), fun c2 => m_windowOf h (fun hn => absurd hp (by rw [hn j hj]; decide)) (fun j2 hj2 hp2 => ?_), fun c2 => ?_⟩
      · have ej2 : j2 = j := by rw [← pFW_uniq hu hj2 hp2, ej]
        rw [ej2]
        rw [if_pos ⟨c1, hj, c2⟩] at hΦ
        exact m_into (nw := false) h hj (by omega) rfl hΦ
      · rw [if_neg (fun q => c2 q.2.2)] at hΦ
        exact m_ses104end h hsz hT hl hΦ
    · rw [if_neg (fun q => c1 q.1)] at hΦ
      exact m_ses104end h hsz hT hl hΦ
  | cons r B ih =>
    intro n i b0 e0 hd hi hn hb he
    simp only [CS.mk_R, CS.mk_cap, CS.mk_x, CS.mk_y, CS.mk_g, CS.mk_eta, MS.mk_x, MS.mk_g, MS.mk_V, MS.mk_T, MS.mk_eta, List.length_cons] at hi hn
    obtain ⟨n, rfl⟩ : ∃ n', n = n' + 1 := ⟨n - 1, by omega⟩
    obtain ⟨hg, hd2, hlt⟩ := p_dropS hd
    have hg' : mRow M i = r := hg
    have hin : vp_in (nI (7200 + i)) 8400 := vp_in_nI (by omega) (by omega)
    simp only [CS.mk_R, CS.mk_cap, CS.mk_x, CS.mk_y, CS.mk_g, CS.mk_eta, MS.mk_x, MS.mk_g, MS.mk_V, MS.mk_T, MS.mk_eta, lX9_comesToSession_104, wX9_placeOf, p_6, h.g28]
    rw [show (7200 : Int32) = nI 7200 from rfl, nI_add, p_5, h.W 6 (by omega) (by omega)]
    refine ⟨p_vin6, fun c => absurd c (nI_ge (by omega) (by omega)), fun _ => ⟨p_v9 (by decide), m_overlaps h hlt rfl (fun m => ?_) (fun m => ?_)⟩⟩
    · rw [hsz, hg'] at m
      rw [List.filter_cons, if_pos m, List.foldl_cons] at hb he
      rw [p_cl (show 7200 + i < 2 ^ 31 by omega), show g 30 (7200 + i) = r 1 by rw [h.w 1 hlt (by omega), hg]]
      have nxt : ∀ e1 : Int32, e1 = fE e0 r → ∀ w : Int32, w = nI (7200 + i) + 1 → lX9_comesToSession_104 Φ n x g k t v (fB b0 r) e1 cnt w := by
        rintro _ rfl _ rfl
        rw [nI_1]
        exact ih n (i + 1) _ _ hd2 (by omega) (by omega) hb he
      have j162 : ∀ b1 : Int32, b1 = fB b0 r → jX9_comesToSession_162 (lX9_comesToSession_104 Φ n) Φ x g k t v e0 cnt (nI (7200 + i)) b1 := by
        rintro _ rfl
        unfold jX9_comesToSession_162
        rw [p_cl (by omega), show g 31 (7200 + i) = r 2 by rw [h.w 2 hlt (by omega), hg]]
        refine ⟨hin, fun a => nxt _ (by rw [fE_alt, if_pos a]), fun a => ⟨hin, ?_⟩⟩
        rintro _ rfl
        exact nxt _ (by rw [fE_alt, if_neg a])
      refine ⟨fun c => absurd c (by decide), fun _ => ⟨hin, fun a => j162 _ (by rw [fB_alt, if_pos a]), fun a => ⟨hin, j162 _ (by rw [fB_alt, if_neg a])⟩⟩⟩
    · rw [hsz, hg'] at m
      rw [List.filter_cons, if_neg (by rw [m]; decide)] at hb he
      refine ⟨fun _ => ?_, fun c => absurd rfl c⟩
      rintro _ rfl
      rw [nI_1]
      exact ih n (i + 1) _ _ hd2 (by omega) (by omega) hb he
theorem m_ses22 {M x g} (h : RM M x g) {k t v sz : Int32} (hsz : M.g 6 5 = sz) (hu : pUniq (M.V 6)) (hT : M.T.length + (M.V 6).length + 2 ≤ 8000) (hl : (pRest sz k t (M.V 6)).length < 1200) {Φ : pJ} (hΦ : ∀ g, RM (mSes M k t v) x g → Φ x g) : ∀ (B : List pRow) (n i c : Nat), (M.V 6).drop i = B → i + B.length = (M.V 6).length → B.length < n → c + (B.filter (pMet sz k t)).length = ((M.V 6).filter (pMet sz k t)).length → lX9_comesToSession_22 Φ n x g k t v t (t + sz) (nI c) (nI (7200 + i)) := by
  have hlen := h.len 6 (by omega)
  have hfl := List.length_filter_le (pMet sz k t) (M.V 6)
  intro B
  induction B with
  | nil =>
    intro n i c hd hi hn hc
    obtain ⟨n, rfl⟩ : ∃ n', n = n' + 1 := ⟨n - 1, by omega⟩
    simp only [CS.mk_R, CS.mk_cap, CS.mk_x, CS.mk_y, CS.mk_g, CS.mk_eta, MS.mk_x, MS.mk_g, MS.mk_V, MS.mk_T, MS.mk_eta, List.length_nil, Nat.add_zero] at hi
    simp only [CS.mk_R, CS.mk_cap, CS.mk_x, CS.mk_y, CS.mk_g, CS.mk_eta, MS.mk_x, MS.mk_g, MS.mk_V, MS.mk_T, MS.mk_eta, List.filter_nil, List.length_nil, Nat.add_zero] at hc
    subst hc
    simp only [CS.mk_R, CS.mk_cap, CS.mk_x, CS.mk_y, CS.mk_g, CS.mk_eta, MS.mk_x, MS.mk_g, MS.mk_V, MS.mk_T, MS.mk_eta, lX9_comesToSession_22, wX9_placeOf, p_6, h.g28, hi]
    rw [show (7200 : Int32) = nI 7200 from rfl, nI_add]
    unfold mSes at hΦ
    try dsimp only [CS.mk_R, CS.mk_cap, CS.mk_x, CS.mk_y, CS.mk_g, CS.mk_eta, MS.mk_x, MS.mk_g, MS.mk_V, MS.mk_T, MS.mk_eta] at hΦ
    rw [hsz] at hΦ
    have e0 : nI ((M.V 6).filter (pMet sz k t)).length = 0 ↔ ((M.V 6).filter (pMet sz k t)).length = 0 := nI_eq (b := 0) (by omega) (by omega)
    have e1 : nI ((M.V 6).filter (pMet sz k t)).length = 1 ↔ ((M.V 6).filter (pMet sz k t)).length = 1 := nI_eq (b := 1) (by omega) (by omega)
    have go : ¬ (((M.V 6).filter (pMet sz k t)).length = 0 ∧ mOver M (t + sz) = true) → ∃ n104 : Nat, lX9_comesToSession_104 Φ n104 x g k t v t (t + sz) (nI ((M.V 6).filter (pMet sz k t)).length) (nI 7200 + 0) := fun hne => by
      rw [if_neg hne] at hΦ
      refine ⟨(M.V 6).length + 1, ?_⟩
      exact m_ses104 h hsz hu hT hl (b := ((M.V 6).filter (pMet sz k t)).foldl fB t) (e := ((M.V 6).filter (pMet sz k t)).foldl fE (t + sz)) (by simp only [CS.mk_R, CS.mk_cap, CS.mk_x, CS.mk_y, CS.mk_g, CS.mk_eta, MS.mk_x, MS.mk_g, MS.mk_V, MS.mk_T, MS.mk_eta, e1]; exact hΦ) (M.V 6) _ 0 t (t + sz) rfl (by omega) (by omega) rfl rfl
    refine ⟨p_vin6, fun _ => ⟨fun c0 => m_isOver h (fun o => ⟨fun c => absurd c (by decide), fun _ => ?_⟩) (fun o => ⟨fun _ => go fun q => by rw [q.2] at o; exact absurd o (by decide), fun c => absurd rfl c⟩), fun c0 => go fun q => c0 (e0.2 q.1)⟩, fun c => absurd (nI_le (Nat.le_refl _) (by omega)) c⟩
    rw [if_pos ⟨e0.1 c0, o⟩] at hΦ
    exact m_late h hΦ
  | cons r B ih =>
    intro n i c hd hi hn hc
    simp only [CS.mk_R, CS.mk_cap, CS.mk_x, CS.mk_y, CS.mk_g, CS.mk_eta, MS.mk_x, MS.mk_g, MS.mk_V, MS.mk_T, MS.mk_eta, List.length_cons] at hi hn
    obtain ⟨n, rfl⟩ : ∃ n', n = n' + 1 := ⟨n - 1, by omega⟩
    obtain ⟨hg, hd2, hlt⟩ := p_dropS hd
    have hg' : mRow M i = r := hg
    simp only [CS.mk_R, CS.mk_cap, CS.mk_x, CS.mk_y, CS.mk_g, CS.mk_eta, MS.mk_x, MS.mk_g, MS.mk_V, MS.mk_T, MS.mk_eta, lX9_comesToSession_22, wX9_placeOf, p_6, h.g28]
    rw [show (7200 : Int32) = nI 7200 from rfl, nI_add, p_5, h.W 6 (by omega) (by omega)]
    refine ⟨p_vin6, fun c => absurd c (nI_ge (by omega) (by omega)), fun _ => ⟨p_v9 (by decide), m_overlaps h hlt rfl (fun m => ?_) (fun m => ?_)⟩⟩
    · rw [hsz, hg'] at m
      rw [List.filter_cons, if_pos m, List.length_cons] at hc
      refine ⟨fun c => absurd c (by decide), fun _ => ?_⟩
      rintro _ rfl _ rfl
      rw [nI_1, nI_1]
      exact ih n (i + 1) (c + 1) hd2 (by omega) (by omega) (by omega)
    · rw [hsz, hg'] at m
      rw [List.filter_cons, if_neg (by rw [m]; decide)] at hc
      refine ⟨fun _ => ?_, fun c => absurd rfl c⟩
      rintro _ rfl _ rfl
      rw [Int32.add_zero, nI_1]
      exact ih n (i + 1) c hd2 (by omega) (by omega) hc
theorem m_session {M x g} (h : RM M x g) {k t v : Int32} (hu : pUniq (M.V 6)) (hT : M.T.length + (M.V 6).length + 2 ≤ 8000) (hl : (pRest (M.g 6 5) k t (M.V 6)).length < 1200) {Φ : pJ} (hΦ : ∀ g, RM (mSes M k t v) x g → Φ x g) : wX9_comesToSession x g k t v Φ := by
  unfold wX9_comesToSession wX9_placeOf
  rw [p_5, h.W 6 (by omega) (by omega)]
  refine ⟨p_v9 (by decide), ?_⟩
  rintro _ rfl
  exact ⟨(M.V 6).length + 1, m_ses22 h rfl hu hT hl hΦ (M.V 6) _ 0 0 rfl (by omega) (by omega) (by omega)⟩
