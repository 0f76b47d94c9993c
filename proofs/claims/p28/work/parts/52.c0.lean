def kLt (r s : pRow) : Prop := r 0 < s 0 ∨ (r 0 = s 0 ∧ r 1 < s 1)
def pFit (sz : Nat) (ses : Bool) (r : pRow) : Prop := ∃ k b e : Nat, r 0 = nI k ∧ r 1 = nI b ∧ r 2 = nI e ∧ k < 8 ∧ b < 1000 ∧ b < e ∧ e < 1100 ∧ (ses = false → e = b + sz) ∧ pOk r
abbrev WR (sz : Nat) (ses : Bool) (W V : List pRow) : Prop := (W.Perm V) ∧ (W.Pairwise pLt) ∧ (V.Pairwise kLt) ∧ (∀ r, r ∈ V → pFit sz ses r) ∧ (ses = true → ∀ r, r ∈ V → ∀ s, s ∈ V → r 0 = s 0 → r = s ∨ r 2 ≤ s 1 ∨ s 2 ≤ r 1)
theorem WR.perm {sz : Nat} {ses : Bool} {W V : List pRow} (h_ : WR sz ses W V) : W.Perm V := h_.1
theorem WR.sW {sz : Nat} {ses : Bool} {W V : List pRow} (h_ : WR sz ses W V) : W.Pairwise pLt := h_.2.1
theorem WR.sV {sz : Nat} {ses : Bool} {W V : List pRow} (h_ : WR sz ses W V) : V.Pairwise kLt := h_.2.2.1
theorem WR.rows {sz : Nat} {ses : Bool} {W V : List pRow} (h_ : WR sz ses W V) : ∀ r, r ∈ V → pFit sz ses r := h_.2.2.2.1
theorem WR.dis {sz : Nat} {ses : Bool} {W V : List pRow} (h_ : WR sz ses W V) : ses = true → ∀ r, r ∈ V → ∀ s, s ∈ V → r 0 = s 0 → r = s ∨ r 2 ≤ s 1 ∨ s 2 ≤ r 1 := h_.2.2.2.2
theorem kLt_trans {r s t : pRow} (h : kLt r s) (h2 : kLt s t) : kLt r t := by
  unfold kLt at *
  simp only [CS.mk_R, CS.mk_cap, CS.mk_x, CS.mk_y, CS.mk_g, CS.mk_eta, MS.mk_x, MS.mk_g, MS.mk_V, MS.mk_T, MS.mk_eta, i_lt, i_eq] at *
  omega
theorem kLt_irr {r s : pRow} (h : kLt r s) (h0 : r 0 = s 0) (h1 : r 1 = s 1) : False := by
  unfold kLt at *
  simp only [CS.mk_R, CS.mk_cap, CS.mk_x, CS.mk_y, CS.mk_g, CS.mk_eta, MS.mk_x, MS.mk_g, MS.mk_V, MS.mk_T, MS.mk_eta, i_lt, i_eq] at *
  omega
theorem p_pw {W : List pRow} {R : pRow → pRow → Prop} : W.Pairwise R ↔ ∀ i j, i < j → j < W.length → R (W.getD i pz) (W.getD j pz) := by
  rw [List.pairwise_iff_getElem]
  constructor
  · intro h i j hij hj
    have := h i j (by omega) hj hij
    simpa [List.getD, hj, show i < W.length by omega] using this
  · intro h i j hi hj hij
    have := h i j hij hj
    simpa [List.getD, hj, hi] using this
theorem WR.uniq {sz ses W V} (h : WR sz ses W V) : pUniq V := by
  intro i j hi hj h0 h1
  rcases Nat.lt_trichotomy i j with e | e | e
  · exact absurd (kLt_irr (p_pw.1 h.sV i j e hj) h0 h1) id
  · exact e
  · exact absurd (kLt_irr (p_pw.1 h.sV j i e hi) h0.symm h1.symm) id
theorem WR.len {sz ses W V} (h : WR sz ses W V) : W.length = V.length := h.perm.length_eq
theorem p_splitAt {W : List pRow} {i : Nat} (h : i < W.length) : W = W.take i ++ W.getD i pz :: W.drop (i + 1) := by
  rw [← p_getD_cons h, List.take_append_drop]
theorem p_setSplit {W : List pRow} {i : Nat} (h : i < W.length) (a : pRow) : W.set i a = W.take i ++ a :: W.drop (i + 1) := by
  rw [List.set_eq_take_append_cons_drop, if_pos h]
theorem p_perm_set {W V : List pRow} {i j : Nat} {a : pRow} (h : W.Perm V) (hi : i < W.length) (hj : j < V.length) (e : W.getD i pz = V.getD j pz) : (W.set i a).Perm (V.set j a) := by
  have h1 : W.Perm (W.getD i pz :: (W.take i ++ W.drop (i + 1))) := by
    conv => lhs; rw [p_splitAt hi]
    exact List.perm_middle
  have h2 : V.Perm (V.getD j pz :: (V.take j ++ V.drop (j + 1))) := by
    conv => lhs; rw [p_splitAt hj]
    exact List.perm_middle
  have h3 : (W.take i ++ W.drop (i + 1)).Perm (V.take j ++ V.drop (j + 1)) := by
    rw [e] at h1
    exact (List.perm_cons _).1 (h1.symm.trans (h.trans h2))
  rw [p_setSplit hi, p_setSplit hj]
  exact List.perm_middle.trans (((List.perm_cons a).2 h3).trans List.perm_middle.symm)
theorem p_set_mem {W : List pRow} {i : Nat} {a r : pRow} (h : r ∈ W.set i a) : r = a ∨ r ∈ W := by
  rcases List.mem_or_eq_of_mem_set h with e | e
  · exact .inr e
  · exact .inl e
theorem p_pw_set {W : List pRow} {R : pRow → pRow → Prop} {i : Nat} {a : pRow} (h : W.Pairwise R) (h1 : ∀ r, R r (W.getD i pz) → R r a) (h2 : ∀ r, R (W.getD i pz) r → R a r) : (W.set i a).Pairwise R := by
  rw [p_pw] at h ⊢
  intro j k hjk hk
  rw [List.length_set] at hk
  have := h j k hjk hk
  by_cases e : j = i
  · subst e; rw [p_getset (by omega), p_getset_ne _ (by omega)]; exact h2 _ this
  · by_cases e2 : k = i
    · subst e2; rw [p_getset hk, p_getset_ne _ e]; exact h1 _ this
    · rw [p_getset_ne _ e, p_getset_ne _ e2]; exact this
theorem WR.set {sz ses W V} (h : WR sz ses W V) {i j : Nat} {a : pRow} (hi : i < W.length) (hj : j < V.length) (e : W.getD i pz = V.getD j pz) (a0 : a 0 = (V.getD j pz) 0) (a1 : a 1 = (V.getD j pz) 1) (a2 : a 2 = (V.getD j pz) 2) (ok : pOk a) : WR sz ses (W.set i a) (V.set j a) := by
  refine ⟨p_perm_set h.perm hi hj e, p_pw_set h.sW (fun r hr => ?_) (fun r hr => ?_), p_pw_set h.sV (fun r hr => ?_) (fun r hr => ?_), fun r hr => ?_, fun hs r hr s hs2 h0 => ?_⟩
  · rw [e] at hr; unfold pLt at *; rwa [a0, a1, a2]
  · rw [e] at hr; unfold pLt at *; rwa [a0, a1, a2]
  · unfold kLt at *; rwa [a0, a1]
  · unfold kLt at *; rwa [a0, a1]
  · rcases p_set_mem hr with e2 | e2
    · obtain ⟨k, b, e3, f0, f1, f2, f3, f4, f5, f6, f7, _⟩ := h.rows _ (p_getD_mem hj)
      rw [e2]
      exact ⟨k, b, e3, by rw [a0, f0], by rw [a1, f1], by rw [a2, f2], f3, f4, f5, f6, f7, ok⟩
    · exact h.rows r e2
  · obtain ⟨jr, hjr, ejr⟩ := p_mem_getD hr
    obtain ⟨js, hjs, ejs⟩ := p_mem_getD hs2
    rw [List.length_set] at hjr hjs
    by_cases er : jr = j
    · by_cases es : js = j
      · left; rw [← ejr, ← ejs, er, es]
      · subst er
        rw [p_getset hjr] at ejr
        rw [p_getset_ne _ es] at ejs
        subst ejr ejs
        rw [a0] at h0
        rcases h.dis hs _ (p_getD_mem hjr) _ (p_getD_mem hjs) h0 with q | q
        · exact absurd (h.uniq jr js hjr hjs h0 (by rw [q])) (Ne.symm es)
        · right; rw [a1, a2]; exact q
    · by_cases es : js = j
      · subst es
        rw [p_getset hjs] at ejs
        rw [p_getset_ne _ er] at ejr
        subst ejr ejs
        rw [a0] at h0
        rcases h.dis hs _ (p_getD_mem hjr) _ (p_getD_mem hjs) h0 with q | q
        · exact absurd (h.uniq jr js hjr hjs h0 (by rw [q])) er
        · right; rw [a1, a2]; exact q
      · rw [p_getset_ne _ er] at ejr
        rw [p_getset_ne _ es] at ejs
        exact h.dis hs r (ejr ▸ p_getD_mem hjr) s (ejs ▸ p_getD_mem hjs) h0
theorem WR.filter {sz ses W V} (h : WR sz ses W V) (q : pRow → Bool) : WR sz ses (W.filter q) (V.filter q) :=
  ⟨h.perm.filter q, h.sW.filter q, h.sV.filter q, fun r hr => h.rows r (List.mem_filter.1 hr).1, fun hs r hr s hs2 => h.dis hs r (List.mem_filter.1 hr).1 s (List.mem_filter.1 hs2).1⟩
theorem p_insSplit {W : List pRow} {p : Nat} (hp : p ≤ W.length) (r : pRow) : W.insertIdx p r = W.take p ++ r :: W.drop p := by
  induction W generalizing p with
  | nil => have : p = 0 := by simpa using hp
           subst this; rfl
  | cons a W ih =>
    cases p with
    | zero => rfl
    | succ p => simp only [CS.mk_R, CS.mk_cap, CS.mk_x, CS.mk_y, CS.mk_g, CS.mk_eta, MS.mk_x, MS.mk_g, MS.mk_V, MS.mk_T, MS.mk_eta, List.insertIdx_succ_cons, List.take_succ_cons, List.drop_succ_cons, List.cons_append, ih (by simpa using hp)]
theorem p_insPerm {W : List pRow} {p : Nat} (hp : p ≤ W.length) (r : pRow) : (W.insertIdx p r).Perm (r :: W) := by
  rw [p_insSplit hp]
  refine List.perm_middle.trans ?_
  rw [List.take_append_drop]
theorem p_insMem {W : List pRow} {p : Nat} (hp : p ≤ W.length) {r s : pRow} : s ∈ W.insertIdx p r ↔ s = r ∨ s ∈ W := by
  rw [(p_insPerm hp r).mem_iff, List.mem_cons]
theorem p_insPw {W : List pRow} {R : pRow → pRow → Prop} {p : Nat} {r : pRow} (hp : p ≤ W.length) (h : W.Pairwise R) (h1 : ∀ j, j < p → R (W.getD j pz) r) (h2 : ∀ j, p ≤ j → j < W.length → R r (W.getD j pz)) : (W.insertIdx p r).Pairwise R := by
  rw [p_pw] at h ⊢
  intro i j hij hj
  rw [List.length_insertIdx_of_le_length hp] at hj
  rw [p_insD hp, p_insD hp]
  by_cases e1 : j < p
  · rw [if_pos (by omega), if_pos e1]; exact h i j hij (by omega)
  · by_cases e2 : j = p
    · rw [if_pos (by omega), if_neg e1, if_pos e2]; exact h1 i (by omega)
    · rw [if_neg e1, if_neg e2]
      by_cases e3 : i < p
      · rw [if_pos e3]; exact h i (j - 1) (by omega) (by omega)
      · by_cases e4 : i = p
        · rw [if_neg e3, if_pos e4]; exact h2 (j - 1) (by omega) (by omega)
        · rw [if_neg e3, if_neg e4]; exact h (i - 1) (j - 1) (by omega) (by omega)
theorem pAh_iff {r : pRow} {k b e : Int32} : pAh r k b e = true ↔ r 2 < e ∨ (r 2 = e ∧ (r 1 < b ∨ (r 1 = b ∧ r 0 < k))) := by
  unfold pAh
  by_cases h2 : r 2 = e
  · rw [if_pos h2]
    by_cases h1 : r 1 = b
    · rw [if_pos h1]; simp only [CS.mk_R, CS.mk_cap, CS.mk_x, CS.mk_y, CS.mk_g, CS.mk_eta, MS.mk_x, MS.mk_g, MS.mk_V, MS.mk_T, MS.mk_eta, decide_eq_true_eq, i_lt, i_eq] at *; omega
    · rw [if_neg h1]; simp only [CS.mk_R, CS.mk_cap, CS.mk_x, CS.mk_y, CS.mk_g, CS.mk_eta, MS.mk_x, MS.mk_g, MS.mk_V, MS.mk_T, MS.mk_eta, decide_eq_true_eq, i_lt, i_eq] at *; omega
  · rw [if_neg h2]; simp only [CS.mk_R, CS.mk_cap, CS.mk_x, CS.mk_y, CS.mk_g, CS.mk_eta, MS.mk_x, MS.mk_g, MS.mk_V, MS.mk_T, MS.mk_eta, decide_eq_true_eq, i_lt, i_eq] at *; omega
theorem p_findSpec {p : pRow → Bool} {W : List pRow} : (∀ j, j < W.findIdx p → p (W.getD j pz) = false) ∧ (W.findIdx p < W.length → p (W.getD (W.findIdx p) pz) = true) := by
  constructor
  · intro j hj
    have hl : j < W.length := by have := List.findIdx_le_length (p := p) (xs := W); omega
    have := List.not_of_lt_findIdx hj
    simpa [List.getD, hl] using this
  · intro h
    have := List.findIdx_getElem (w := h)
    simpa [List.getD, h] using this
theorem mPosL_spec {W : List pRow} {k b : Int32} : ∀ m, (∀ j, mPosL W k b m ≤ j → j < m → pGt k b (W.getD j pz)) ∧ (0 < mPosL W k b m → ¬ pGt k b (W.getD (mPosL W k b m - 1) pz)) := by
  intro m
  induction m with
  | zero => exact ⟨fun j h1 h2 => by omega, fun h => absurd h (by simp [CS.mk_R, CS.mk_cap, CS.mk_x, CS.mk_y, CS.mk_g, CS.mk_eta, MS.mk_x, MS.mk_g, MS.mk_V, MS.mk_T, MS.mk_eta, mPosL])⟩
  | succ m ih =>
    rw [mPosL]
    split
    · next hg =>
      refine ⟨fun j h1 h2 => ?_, ih.2⟩
      by_cases e : j = m
      · rw [e]; exact hg
      · exact ih.1 j h1 (by omega)
    · next hg => exact ⟨fun j h1 h2 => by omega, fun _ => by rw [Nat.add_sub_cancel]; exact hg⟩
theorem WR.ins {sz ses W V} (h : WR sz ses W V) {r : pRow} (hf : pFit sz ses r) (hn : ∀ s, s ∈ V → ¬ (s 0 = r 0 ∧ s 1 = r 1)) (hd : ses = true → ∀ s, s ∈ V → s 0 = r 0 → s 2 ≤ r 1 ∨ r 2 ≤ s 1) : WR sz ses (W.insertIdx (pPos W (r 0) (r 1) (r 2)) r) (V.insertIdx (mPos V (r 0) (r 1)) r) := by
  have hpW := pPos_le W (r 0) (r 1) (r 2)
  have hpV : mPos V (r 0) (r 1) ≤ V.length := mPosL_le _ _ _ _
  have hne : ∀ j, j < W.length → ¬ ((W.getD j pz) 0 = r 0 ∧ (W.getD j pz) 1 = r 1) := fun j hj => hn _ (h.perm.mem_iff.1 (p_getD_mem hj))
  have hneV : ∀ j, j < V.length → ¬ ((V.getD j pz) 0 = r 0 ∧ (V.getD j pz) 1 = r 1) := fun j hj => hn _ (p_getD_mem hj)
  refine ⟨(p_insPerm hpW r).trans (((List.perm_cons r).2 h.perm).trans (p_insPerm hpV r).symm), p_insPw hpW h.sW (fun j hj => ?_) (fun j hj hj2 => ?_), p_insPw hpV h.sV (fun j hj => ?_) (fun j hj hj2 => ?_), fun s hs => ?_, fun hs s hs1 t ht h0 => ?_⟩
  · have := p_findSpec.1 j hj
    have h2 : pAh (W.getD j pz) (r 0) (r 1) (r 2) = true := by simpa using this
    exact pAh_iff.1 h2
  · have hlt : pPos W (r 0) (r 1) (r 2) < W.length := by omega
    have h1 := p_findSpec.2 hlt
    have h2 : ¬ pAh (W.getD (pPos W (r 0) (r 1) (r 2)) pz) (r 0) (r 1) (r 2) = true := by
      change (!pAh (W.getD (pPos W (r 0) (r 1) (r 2)) pz) (r 0) (r 1) (r 2)) = true at h1
      intro q
      rw [q] at h1
      exact absurd h1 (by decide)
    rw [pAh_iff] at h2
    have h3 := hne _ hlt
    have h4 : pLt r (W.getD (pPos W (r 0) (r 1) (r 2)) pz) := by
      unfold pLt
      simp only [CS.mk_R, CS.mk_cap, CS.mk_x, CS.mk_y, CS.mk_g, CS.mk_eta, MS.mk_x, MS.mk_g, MS.mk_V, MS.mk_T, MS.mk_eta, i_lt, i_eq] at *
      omega
    by_cases e : j = pPos W (r 0) (r 1) (r 2)
    · rw [e]; exact h4
    · exact pLt_trans h4 (p_pw.1 h.sW _ j (by omega) hj2)
  · have h0 : 0 < mPos V (r 0) (r 1) := by omega
    have h1 := (mPosL_spec (W := V) (k := r 0) (b := r 1) V.length).2 h0
    have hlt : mPos V (r 0) (r 1) - 1 < V.length := by omega
    have h3 := hneV _ hlt
    have h4 : kLt (V.getD (mPos V (r 0) (r 1) - 1) pz) r := by
      change ¬ pGt (r 0) (r 1) (V.getD (mPos V (r 0) (r 1) - 1) pz) at h1
      unfold pGt at h1
      unfold kLt
      simp only [CS.mk_R, CS.mk_cap, CS.mk_x, CS.mk_y, CS.mk_g, CS.mk_eta, MS.mk_x, MS.mk_g, MS.mk_V, MS.mk_T, MS.mk_eta, i_lt, i_le, i_eq] at *
      omega
    by_cases e : j = mPos V (r 0) (r 1) - 1
    · rw [e]; exact h4
    · exact kLt_trans (p_pw.1 h.sV j _ (by omega) hlt) h4
  · have h1 := (mPosL_spec (W := V) (k := r 0) (b := r 1) V.length).1 j hj hj2
    unfold pGt at h1
    unfold kLt
    simp only [CS.mk_R, CS.mk_cap, CS.mk_x, CS.mk_y, CS.mk_g, CS.mk_eta, MS.mk_x, MS.mk_g, MS.mk_V, MS.mk_T, MS.mk_eta, i_lt, i_le, i_eq] at *
    omega
  · rcases (p_insMem hpV).1 hs with e | e
    · rw [e]; exact hf
    · exact h.rows s e
  · rcases (p_insMem hpV).1 hs1 with e | e
    · rcases (p_insMem hpV).1 ht with e2 | e2
      · left; rw [e, e2]
      · right; rw [e] at h0 ⊢
        exact (hd hs t e2 h0.symm).symm.imp id id
    · rcases (p_insMem hpV).1 ht with e2 | e2
      · right; rw [e2] at h0 ⊢
        exact hd hs s e h0
      · exact h.dis hs s e t e2 h0
theorem pFit_tWin {sz ses r} (h : pFit sz ses r) : pFit sz ses (tWin r) := by
  obtain ⟨k, b, e, f0, f1, f2, f3, f4, f5, f6, f7, _⟩ := h
  exact ⟨k, b, e, f0, f1, f2, f3, f4, f5, f6, f7, .inr rfl⟩
theorem pFit_tIf {sz ses r} (mk : Int32) (h : pFit sz ses r) : pFit sz ses (tIf mk r) := by
  unfold tIf; split
  · exact pFit_tWin h
  · exact h
theorem tIf_c (mk : Int32) (r : pRow) : (tIf mk r) 0 = r 0 ∧ (tIf mk r) 1 = r 1 ∧ (tIf mk r) 2 = r 2 := by
  unfold tIf; split <;> exact ⟨rfl, rfl, rfl⟩
theorem WR.tell {sz ses W V} (h : WR sz ses W V) (mk : Int32) : WR sz ses (W.map (tIf mk)) (V.map (tIf mk)) := by
  refine ⟨h.perm.map _, List.pairwise_map.2 (h.sW.imp fun {r s} hr => ?_), List.pairwise_map.2 (h.sV.imp fun {r s} hr => ?_), fun r hr => ?_, fun hs r hr s hs2 h0 => ?_⟩
  · obtain ⟨a0, a1, a2⟩ := tIf_c mk r
    obtain ⟨b0, b1, b2⟩ := tIf_c mk s
    unfold pLt at *
    rwa [a0, a1, a2, b0, b1, b2]
  · obtain ⟨a0, a1, a2⟩ := tIf_c mk r
    obtain ⟨b0, b1, b2⟩ := tIf_c mk s
    unfold kLt at *
    rwa [a0, a1, b0, b1]
  · obtain ⟨s, hs, e⟩ := List.mem_map.1 hr
    rw [← e]; exact pFit_tIf mk (h.rows s hs)
  · obtain ⟨r2, hr2, e⟩ := List.mem_map.1 hr
    obtain ⟨s2, hs3, e2⟩ := List.mem_map.1 hs2
    obtain ⟨a0, a1, a2⟩ := tIf_c mk r2
    obtain ⟨b0, b1, b2⟩ := tIf_c mk s2
    subst e e2
    rw [a0, b0] at h0
    rcases h.dis hs r2 hr2 s2 hs3 h0 with q | q
    · left; rw [q]
    · right; rw [a1, a2, b1, b2]; exact q
abbrev QR (S : CS) (M : MS) (sz sl lt : Nat) : Prop := (M.g 6 0 = nI (S.y 3 0)) ∧ (S.y 3 0 ≤ 2) ∧ (M.g 6 1 = nI (S.y 4 0 - 3)) ∧ (3 ≤ S.y 4 0) ∧ (S.y 4 0 ≤ 6) ∧ (M.g 6 2 = S.x 8 0) ∧ (M.g 6 3 = S.x 9 0) ∧ (S.x 9 0 = 0 ∨ S.x 9 0 = 1) ∧ (M.g 6 4 = nI (S.y 5 0 - 8)) ∧ (8 ≤ S.y 5 0) ∧ (S.y 5 0 ≤ 10) ∧ (M.g 6 5 = nI sz) ∧ (S.x 10 0 = nI sz) ∧ (1 ≤ sz) ∧ (sz ≤ 99) ∧ (S.x 11 0 = nI sl) ∧ (1 ≤ sl) ∧ (sl ≤ 99) ∧ (S.y 5 0 = 9 → M.g 6 6 = nI sl ∧ sz % sl = 0 ∧ sz ≤ 4 * sl) ∧ (S.y 5 0 ≠ 9 → M.g 6 6 = 0 ∧ sl = sz) ∧ (M.g 6 7 = nI lt) ∧ (S.x 12 0 = nI lt) ∧ (lt ≤ 99) ∧ (M.g 6 8 = nI (S.y 6 0 - 12)) ∧ (12 ≤ S.y 6 0) ∧ (S.y 6 0 ≤ 14)
theorem QR.f0 {S : CS} {M : MS} {sz sl lt : Nat} (h_ : QR S M sz sl lt) : M.g 6 0 = nI (S.y 3 0) := h_.1
theorem QR.f2 {S : CS} {M : MS} {sz sl lt : Nat} (h_ : QR S M sz sl lt) : S.y 3 0 ≤ 2 := h_.2.1
theorem QR.c0 {S : CS} {M : MS} {sz sl lt : Nat} (h_ : QR S M sz sl lt) : M.g 6 1 = nI (S.y 4 0 - 3) := h_.2.2.1
theorem QR.c1 {S : CS} {M : MS} {sz sl lt : Nat} (h_ : QR S M sz sl lt) : 3 ≤ S.y 4 0 := h_.2.2.2.1
theorem QR.c2 {S : CS} {M : MS} {sz sl lt : Nat} (h_ : QR S M sz sl lt) : S.y 4 0 ≤ 6 := h_.2.2.2.2.1
theorem QR.lim {S : CS} {M : MS} {sz sl lt : Nat} (h_ : QR S M sz sl lt) : M.g 6 2 = S.x 8 0 := h_.2.2.2.2.2.1
theorem QR.jn {S : CS} {M : MS} {sz sl lt : Nat} (h_ : QR S M sz sl lt) : M.g 6 3 = S.x 9 0 := h_.2.2.2.2.2.2.1
theorem QR.jb {S : CS} {M : MS} {sz sl lt : Nat} (h_ : QR S M sz sl lt) : S.x 9 0 = 0 ∨ S.x 9 0 = 1 := h_.2.2.2.2.2.2.2.1
theorem QR.sh {S : CS} {M : MS} {sz sl lt : Nat} (h_ : QR S M sz sl lt) : M.g 6 4 = nI (S.y 5 0 - 8) := h_.2.2.2.2.2.2.2.2.1
theorem QR.sh1 {S : CS} {M : MS} {sz sl lt : Nat} (h_ : QR S M sz sl lt) : 8 ≤ S.y 5 0 := h_.2.2.2.2.2.2.2.2.2.1
theorem QR.sh2 {S : CS} {M : MS} {sz sl lt : Nat} (h_ : QR S M sz sl lt) : S.y 5 0 ≤ 10 := h_.2.2.2.2.2.2.2.2.2.2.1
theorem QR.zm {S : CS} {M : MS} {sz sl lt : Nat} (h_ : QR S M sz sl lt) : M.g 6 5 = nI sz := h_.2.2.2.2.2.2.2.2.2.2.2.1
theorem QR.zc {S : CS} {M : MS} {sz sl lt : Nat} (h_ : QR S M sz sl lt) : S.x 10 0 = nI sz := h_.2.2.2.2.2.2.2.2.2.2.2.2.1
theorem QR.z1 {S : CS} {M : MS} {sz sl lt : Nat} (h_ : QR S M sz sl lt) : 1 ≤ sz := h_.2.2.2.2.2.2.2.2.2.2.2.2.2.1
theorem QR.z2 {S : CS} {M : MS} {sz sl lt : Nat} (h_ : QR S M sz sl lt) : sz ≤ 99 := h_.2.2.2.2.2.2.2.2.2.2.2.2.2.2.1
theorem QR.sc {S : CS} {M : MS} {sz sl lt : Nat} (h_ : QR S M sz sl lt) : S.x 11 0 = nI sl := h_.2.2.2.2.2.2.2.2.2.2.2.2.2.2.2.1
theorem QR.s1 {S : CS} {M : MS} {sz sl lt : Nat} (h_ : QR S M sz sl lt) : 1 ≤ sl := h_.2.2.2.2.2.2.2.2.2.2.2.2.2.2.2.2.1
theorem QR.s2 {S : CS} {M : MS} {sz sl lt : Nat} (h_ : QR S M sz sl lt) : sl ≤ 99 := h_.2.2.2.2.2.2.2.2.2.2.2.2.2.2.2.2.2.1
theorem QR.s9 {S : CS} {M : MS} {sz sl lt : Nat} (h_ : QR S M sz sl lt) : S.y 5 0 = 9 → M.g 6 6 = nI sl ∧ sz % sl = 0 ∧ sz ≤ 4 * sl := h_.2.2.2.2.2.2.2.2.2.2.2.2.2.2.2.2.2.2.1
theorem QR.s8 {S : CS} {M : MS} {sz sl lt : Nat} (h_ : QR S M sz sl lt) : S.y 5 0 ≠ 9 → M.g 6 6 = 0 ∧ sl = sz := h_.2.2.2.2.2.2.2.2.2.2.2.2.2.2.2.2.2.2.2.1
theorem QR.lm {S : CS} {M : MS} {sz sl lt : Nat} (h_ : QR S M sz sl lt) : M.g 6 7 = nI lt := h_.2.2.2.2.2.2.2.2.2.2.2.2.2.2.2.2.2.2.2.2.1
theorem QR.lc {S : CS} {M : MS} {sz sl lt : Nat} (h_ : QR S M sz sl lt) : S.x 12 0 = nI lt := h_.2.2.2.2.2.2.2.2.2.2.2.2.2.2.2.2.2.2.2.2.2.1
theorem QR.l2 {S : CS} {M : MS} {sz sl lt : Nat} (h_ : QR S M sz sl lt) : lt ≤ 99 := h_.2.2.2.2.2.2.2.2.2.2.2.2.2.2.2.2.2.2.2.2.2.2.1
theorem QR.m {S : CS} {M : MS} {sz sl lt : Nat} (h_ : QR S M sz sl lt) : M.g 6 8 = nI (S.y 6 0 - 12) := h_.2.2.2.2.2.2.2.2.2.2.2.2.2.2.2.2.2.2.2.2.2.2.2.1
theorem QR.m1 {S : CS} {M : MS} {sz sl lt : Nat} (h_ : QR S M sz sl lt) : 12 ≤ S.y 6 0 := h_.2.2.2.2.2.2.2.2.2.2.2.2.2.2.2.2.2.2.2.2.2.2.2.2.1
theorem QR.m2 {S : CS} {M : MS} {sz sl lt : Nat} (h_ : QR S M sz sl lt) : S.y 6 0 ≤ 14 := h_.2.2.2.2.2.2.2.2.2.2.2.2.2.2.2.2.2.2.2.2.2.2.2.2.2
abbrev FrS (S S' : CS) : Prop := (∀ q, q ≠ 4 → q ≠ 5 → S'.R q = S.R q) ∧ (∀ j i, ¬ (i = 0 ∧ (j = 2 ∨ j = 3)) → S'.x j i = S.x j i) ∧ (S'.y = S.y) ∧ (S'.g = S.g)
theorem FrS.R {S S' : CS} (h_ : FrS S S') : ∀ q, q ≠ 4 → q ≠ 5 → S'.R q = S.R q := h_.1
theorem FrS.x {S S' : CS} (h_ : FrS S S') : ∀ j i, ¬ (i = 0 ∧ (j = 2 ∨ j = 3)) → S'.x j i = S.x j i := h_.2.1
theorem FrS.y {S S' : CS} (h_ : FrS S S') : S'.y = S.y := h_.2.2.1
theorem FrS.g {S S' : CS} (h_ : FrS S S') : S'.g = S.g := h_.2.2.2
abbrev FrM (M M' : MS) : Prop := (M'.x = M.x) ∧ (∀ p, p ≠ 6 → M'.V p = M.V p) ∧ (∀ k i, ¬ (i = 6 ∧ (k = 25 ∨ k = 26 ∨ k = 27)) → M'.g k i = M.g k i) ∧ (∃ rs, M'.T = M.T ++ rs)
theorem FrM.x {M M' : MS} (h_ : FrM M M') : M'.x = M.x := h_.1
theorem FrM.V {M M' : MS} (h_ : FrM M M') : ∀ p, p ≠ 6 → M'.V p = M.V p := h_.2.1
theorem FrM.g {M M' : MS} (h_ : FrM M M') : ∀ k i, ¬ (i = 6 ∧ (k = 25 ∨ k = 26 ∨ k = 27)) → M'.g k i = M.g k i := h_.2.2.1
theorem FrM.t {M M' : MS} (h_ : FrM M M') : ∃ rs, M'.T = M.T ++ rs := h_.2.2.2
theorem FrS.rfl {S} : FrS S S := ⟨fun _ _ _ => Eq.refl _, fun _ _ _ => Eq.refl _, Eq.refl _, Eq.refl _⟩
theorem FrM.rfl {M} : FrM M M := ⟨Eq.refl _, fun _ _ => Eq.refl _, fun _ _ _ => Eq.refl _, [], by simp⟩
theorem FrS.trans {S T U} (h : FrS S T) (h2 : FrS T U) : FrS S U := ⟨fun q a b => (h2.R q a b).trans (h.R q a b), fun j i a => (h2.x j i a).trans (h.x j i a), h2.y.trans h.y, h2.g.trans h.g⟩
theorem FrM.trans {S T U} (h : FrM S T) (h2 : FrM T U) : FrM S U := ⟨h2.x.trans h.x, fun q a => (h2.V q a).trans (h.V q a), fun j i a => (h2.g j i a).trans (h.g j i a), by
  obtain ⟨a, ha⟩ := h.t
  obtain ⟨b, hb⟩ := h2.t
  exact ⟨a ++ b, by rw [hb, ha, List.append_assoc]⟩⟩
theorem QR.fr {S M S' M' sz sl lt} (h : QR S M sz sl lt) (a : FrS S S') (b : FrM M M') : QR S' M' sz sl lt := by
  have e : ∀ i, M'.g 6 i = M.g 6 i := fun i => b.g 6 i (by omega)
  have f : ∀ j, 4 ≤ j → S'.x j 0 = S.x j 0 := fun j hj => a.x j 0 (by omega)
  refine ⟨?_, ?_, ?_, ?_, ?_, ?_, ?_, ?_, ?_, ?_, ?_, ?_, ?_, ?_, ?_, ?_, ?_, ?_, ?_, ?_, ?_, ?_, ?_, ?_, ?_, ?_⟩
  all_goals try simp only [CS.mk_R, CS.mk_cap, CS.mk_x, CS.mk_y, CS.mk_g, CS.mk_eta, MS.mk_x, MS.mk_g, MS.mk_V, MS.mk_T, MS.mk_eta, e, f _ (by decide : 4 ≤ 8), f _ (by decide : 4 ≤ 9), f _ (by decide : 4 ≤ 10), f _ (by decide : 4 ≤ 11), f _ (by decide : 4 ≤ 12), a.y]
  · exact h.f0
  · exact h.f2
  · exact h.c0
  · exact h.c1
  · exact h.c2
  · exact h.lim
  · exact h.jn
  · exact h.jb
  · exact h.sh
  · exact h.sh1
  · exact h.sh2
  · exact h.zm
  · exact h.zc
  · exact h.z1
  · exact h.z2
  · exact h.sc
  · exact h.s1
  · exact h.s2
  · exact h.s9
  · exact h.s8
  · exact h.lm
  · exact h.lc
  · exact h.l2
  · exact h.m
  · exact h.m1
  · exact h.m2
theorem QR.fold {S M sz sl lt} (h : QR S M sz sl lt) (a b : Int32) : mFold M a b = cFold S a b := by
  unfold mFold cFold
  have e : M.g 6 0 = 2 ↔ S.y 3 0 = 2 := by
    rw [h.f0]; have := h.f2; exact nI_eq (b := 2) (by omega) (by omega)
  by_cases c : S.y 3 0 = 2
  · rw [if_pos c, if_pos (e.2 c)]
    by_cases d : a ≤ b
    · rw [if_pos d]
      by_cases d2 : a < b
      · rw [if_pos d2]
      · rw [if_neg d2]; rw [i_le] at d; rw [i_lt] at d2; exact (i_eq.2 (by omega)).symm
    · rw [if_neg d, if_neg (fun d2 => d (by rw [i_lt] at d2; rw [i_le]; omega))]
  · rw [if_neg c, if_neg (fun q => c (e.1 q))]
theorem QR.mode {S M sz sl lt} (h : QR S M sz sl lt) : mMode (M.g 6 8) = S.y 6 0 := by
  have h1 := h.m1
  have h2 := h.m2
  rw [h.m]
  have : S.y 6 0 = 12 ∨ S.y 6 0 = 13 ∨ S.y 6 0 = 14 := by omega
  rcases this with e | e | e <;> rw [e] <;> rfl
theorem QR.over {S M sz sl lt} (h : QR S M sz sl lt) (hm : S.x 2 0 = M.g 25 6) (hr : -100 ≤ (S.x 2 0).toInt ∧ (S.x 2 0).toInt ≤ 999) {e : Int32} (he : 0 ≤ e.toInt ∧ e.toInt < 1100) : mOver M e = true ↔ ¬ S.x 2 0 - S.x 12 0 < e := by
  unfold mOver
  have hl := nI_toInt (n := lt) (by have := h.l2; omega)
  have := h.l2
  rw [decide_eq_true_eq, h.lm, h.lc, ← hm, i_le, i_lt, i_add (by omega) (by omega), i_sub (by omega) (by omega)]
  omega
def pw (r : pRow) : Nat := if r 4 = 1 then 1 else 2
def pW (W : List pRow) : Nat := (W.map pw).sum
theorem pW_app (A B : List pRow) : pW (A ++ B) = pW A + pW B := by simp [CS.mk_R, CS.mk_cap, CS.mk_x, CS.mk_y, CS.mk_g, CS.mk_eta, MS.mk_x, MS.mk_g, MS.mk_V, MS.mk_T, MS.mk_eta, pW]
theorem pW_cons (r : pRow) (B : List pRow) : pW (r :: B) = pw r + pW B := by simp [CS.mk_R, CS.mk_cap, CS.mk_x, CS.mk_y, CS.mk_g, CS.mk_eta, MS.mk_x, MS.mk_g, MS.mk_V, MS.mk_T, MS.mk_eta, pW]
theorem pW_len (W : List pRow) : W.length ≤ pW W := by
  induction W with
  | nil => exact Nat.zero_le _
  | cons r W ih => rw [pW_cons, List.length_cons]; unfold pw; split <;> omega
theorem pW_set {W : List pRow} {i : Nat} (h : i < W.length) (a : pRow) : pW (W.set i a) + pw (W.getD i pz) = pW W + pw a := by
  have e := congrArg pW (p_splitAt h)
  rw [p_setSplit h]
  rw [pW_app, pW_cons] at e ⊢
  omega
theorem pW_ins {W : List pRow} {p : Nat} (h : p ≤ W.length) (a : pRow) : pW (W.insertIdx p a) = pW W + pw a := by
  have e := congrArg pW (List.take_append_drop p W)
  rw [p_insSplit h]
  rw [pW_app] at e
  rw [pW_app, pW_cons]
  omega
abbrev NR (S : CS) (M : MS) (sz sl lt : Nat) : Prop := (QR S M sz sl lt) ∧ (WR sz (decide (S.y 5 0 = 10)) (S.R 5) (M.V 6)) ∧ (S.R 4 = M.T) ∧ (S.x 2 0 = M.g 25 6) ∧ (-100 ≤ (S.x 2 0).toInt ∧ (S.x 2 0).toInt ≤ 999) ∧ (S.x 3 0 = M.g 26 6)
theorem NR.q {S : CS} {M : MS} {sz sl lt : Nat} (h_ : NR S M sz sl lt) : QR S M sz sl lt := h_.1
theorem NR.wr {S : CS} {M : MS} {sz sl lt : Nat} (h_ : NR S M sz sl lt) : WR sz (decide (S.y 5 0 = 10)) (S.R 5) (M.V 6) := h_.2.1
theorem NR.tt {S : CS} {M : MS} {sz sl lt : Nat} (h_ : NR S M sz sl lt) : S.R 4 = M.T := h_.2.2.1
theorem NR.mkk {S : CS} {M : MS} {sz sl lt : Nat} (h_ : NR S M sz sl lt) : S.x 2 0 = M.g 25 6 := h_.2.2.2.1
theorem NR.mr {S : CS} {M : MS} {sz sl lt : Nat} (h_ : NR S M sz sl lt) : -100 ≤ (S.x 2 0).toInt ∧ (S.x 2 0).toInt ≤ 999 := h_.2.2.2.2.1
theorem NR.lc {S : CS} {M : MS} {sz sl lt : Nat} (h_ : NR S M sz sl lt) : S.x 3 0 = M.g 26 6 := h_.2.2.2.2.2
theorem FrS.tell (S : CS) (i : Nat) : FrS S (cTell S i) := by
  obtain ⟨h1, h2, h3, h4⟩ := cApp_same S (tRes (S.y 6 0) ((S.R 5).getD i pz))
  refine ⟨fun q a b => ?_, fun j i _ => ?_, ?_, ?_⟩
  · rw [cTell, cWin, cRw_Rn _ _ _ b]; exact (h1 q a).1
  · rw [cTell]; exact congrFun (congrFun h2 j) i
  · rw [cTell]; exact h3
  · rw [cTell]; exact h4
theorem FrM.app (M : MS) (rs : List pRow) (W : List pRow) : FrM M (mWin (mApp M rs) W) := by
  obtain ⟨h1, h2, h3, h4⟩ := mApp_same M rs
  refine ⟨h2, fun p hp => ?_, fun k i hk => ?_, rs, mApp_T M rs⟩
  · simp only [CS.mk_R, CS.mk_cap, CS.mk_x, CS.mk_y, CS.mk_g, CS.mk_eta, MS.mk_x, MS.mk_g, MS.mk_V, MS.mk_T, MS.mk_eta, mWin, p_un _ _ hp, h1]
  · by_cases e : k = 27
    · subst e; exact h4 i (by omega)
    · exact congrFun (h3 k e) i
theorem tRes_le2 {m : Nat} {w : pRow} : (tRes m w).length ≤ 2 := by
  unfold tRes
  split
  · simp
  · split
    · simp
    · split <;> simp
theorem mkw_3 (k b e u t : Int32) : upd (mkw k b e u) 3 t = mkw k b e t := by
  funext j
  unfold mkw upd
  by_cases h : j = 3
  · rw [if_pos h, if_pos h]
  · rw [if_neg h, if_neg h, if_neg h]
theorem tell_rel {S M sz sl lt} (h : NR S M sz sl lt) {i j : Nat} (hi : i < (S.R 5).length) (hj : j < (M.V 6).length) (e : (S.R 5).getD i pz = (M.V 6).getD j pz) : NR (cTell S i) (mTell M j) sz sl lt ∧ FrM M (mTell M j) ∧ ((mTell M j).V 6).length = (M.V 6).length ∧ pW ((mTell M j).V 6) + (mTell M j).T.length ≤ pW (M.V 6) + M.T.length + (if (mRow M j) 4 = 1 then 2 else 0) := by
  have fs := FrS.tell S i
  have fm : FrM M (mTell M j) := FrM.app _ _ _
  have er : (S.R 5).getD i pz = mRow M j := e
  have eR : (cTell S i).R 5 = (S.R 5).set i (tWin (mRow M j)) := by rw [cTell, cWin, cRw_R, er]
  have eV : (mTell M j).V 6 = (M.V 6).set j (tWin (mRow M j)) := by simp only [CS.mk_R, CS.mk_cap, CS.mk_x, CS.mk_y, CS.mk_g, CS.mk_eta, MS.mk_x, MS.mk_g, MS.mk_V, MS.mk_T, MS.mk_eta, mTell, mWin, p_ug]
  have eT : (mTell M j).T = M.T ++ tRes (S.y 6 0) (mRow M j) := by
    rw [← h.q.mode]; simp only [CS.mk_R, CS.mk_cap, CS.mk_x, CS.mk_y, CS.mk_g, CS.mk_eta, MS.mk_x, MS.mk_g, MS.mk_V, MS.mk_T, MS.mk_eta, mTell, mWin]; exact mApp_T _ _
  have eg : ∀ k, k ≠ 27 → (mTell M j).g k 6 = M.g k 6 := fun k hk => congrFun ((mApp_same M (tRes (mMode (M.g 6 8)) (mRow M j))).2.2.1 k hk) 6
  have ex : ∀ k, (cTell S i).x k = S.x k := fun k => congrFun (cApp_same S (tRes (S.y 6 0) ((S.R 5).getD i pz))).2.1 k
  refine ⟨⟨h.q.fr fs fm, ?_, ?_, ?_, ?_, ?_⟩, fm, ?_, ?_⟩
  · rw [eR, eV, fs.y]
    exact h.wr.set hi hj e rfl rfl rfl (.inr rfl)
  · rw [eT, cTell, cWin, cRw_Rn _ _ _ (by omega), cApp_R4, h.tt, er]
  · rw [ex, eg 25 (by omega)]; exact h.mkk
  · rw [ex]; exact h.mr
  · rw [ex, eg 26 (by omega)]; exact h.lc
  · rw [eV, List.length_set]
  · rw [eV, eT, List.length_append]
    have h1 := pW_set hj (tWin (mRow M j))
    have h2 : pw (tWin (mRow M j)) = 1 := rfl
    rw [h2] at h1
    change _ + pw (mRow M j) = _ at h1
    by_cases t : (mRow M j) 4 = 1
    · rw [if_pos t]
      have : pw (mRow M j) = 1 := if_pos t
      have := tRes_le2 (m := S.y 6 0) (w := mRow M j)
      omega
    · rw [if_neg t]
      have h3 : pw (mRow M j) = 2 := if_neg t
      have ho := (h.wr.rows _ (p_getD_mem hj))
      obtain ⟨_, _, _, _, _, _, _, _, _, _, _, ok⟩ := ho
      have : (tRes (S.y 6 0) (mRow M j)).length = 1 := tRes_len0 (ok.b.resolve_right t)
      omega
theorem ripe_rel {S M sz sl lt} (h : NR S M sz sl lt) {i j : Nat} (hi : i < (S.R 5).length) (hj : j < (M.V 6).length) (e : (S.R 5).getD i pz = (M.V 6).getD j pz) : NR (cRipe S i) (mRipe M j) sz sl lt ∧ FrS S (cRipe S i) ∧ FrM M (mRipe M j) ∧ ((mRipe M j).V 6).length = (M.V 6).length ∧ pW ((mRipe M j).V 6) + (mRipe M j).T.length ≤ pW (M.V 6) + M.T.length + (if (mRow M j) 4 = 1 then 2 else 0) := by
  have er : (S.R 5).getD i pz = mRow M j := e
  unfold cRipe mRipe
  by_cases c : (mRow M j) 4 = 1 ∨ (mRow M j) 2 ≤ M.g 25 6
  · rw [if_pos c, if_pos (pRipe_iff.2 (by rw [er, h.mkk]; exact c))]
    obtain ⟨h1, h2, h3, h4⟩ := tell_rel h hi hj e
    exact ⟨h1, FrS.tell _ _, h2, h3, h4⟩
  · rw [if_neg c, if_neg (fun q => c (by have := pRipe_iff.1 q; rwa [er, h.mkk] at this))]
    exact ⟨h, FrS.rfl, FrM.rfl, rfl, by omega⟩
theorem keep_rel {S M sz sl lt} (h : NR S M sz sl lt) {i j : Nat} (hi : i < (S.R 5).length) (hj : j < (M.V 6).length) (e : (S.R 5).getD i pz = (M.V 6).getD j pz) (t : Int32) : NR (cKeep S i t) (mCol M j 3 t) sz sl lt ∧ FrS S (cKeep S i t) ∧ FrM M (mCol M j 3 t) ∧ ((mCol M j 3 t).V 6).length = (M.V 6).length ∧ pW ((mCol M j 3 t).V 6) = pW (M.V 6) := by
  have fs : FrS S (cKeep S i t) := ⟨fun q _ b => by rw [cKeep, cWin, cRw_Rn _ _ _ b], fun _ _ _ => rfl, rfl, rfl⟩
  have fm : FrM M (mCol M j 3 t) := ⟨rfl, fun p hp => by simp only [CS.mk_R, CS.mk_cap, CS.mk_x, CS.mk_y, CS.mk_g, CS.mk_eta, MS.mk_x, MS.mk_g, MS.mk_V, MS.mk_T, MS.mk_eta, mCol, p_un _ _ hp], fun _ _ _ => rfl, [], by simp [CS.mk_R, CS.mk_cap, CS.mk_x, CS.mk_y, CS.mk_g, CS.mk_eta, MS.mk_x, MS.mk_g, MS.mk_V, MS.mk_T, MS.mk_eta, mCol]⟩
  have eR : (cKeep S i t).R 5 = (S.R 5).set i (upd ((M.V 6).getD j pz) 3 t) := by rw [cKeep, cWin, cRw_R, e]
  have eV : (mCol M j 3 t).V 6 = (M.V 6).set j (upd ((M.V 6).getD j pz) 3 t) := by simp only [CS.mk_R, CS.mk_cap, CS.mk_x, CS.mk_y, CS.mk_g, CS.mk_eta, MS.mk_x, MS.mk_g, MS.mk_V, MS.mk_T, MS.mk_eta, mCol, p_ug]
  have ho := (h.wr.rows _ (p_getD_mem hj))
  obtain ⟨_, _, _, _, _, _, _, _, _, _, _, ok⟩ := ho
  refine ⟨⟨h.q.fr fs fm, ?_, ?_, h.mkk, h.mr, h.lc⟩, fs, fm, ?_, ?_⟩
  · rw [eR, eV, fs.y]
    exact h.wr.set hi hj e rfl rfl rfl (pOk_3 ok t)
  · rw [cKeep, cWin, cRw_Rn _ _ _ (by omega)]; exact h.tt
  · rw [eV, List.length_set]
  · have := pW_set hj (upd ((M.V 6).getD j pz) 3 t)
    rw [← eV] at this
    have e2 : pw (upd ((M.V 6).getD j pz) 3 t) = pw ((M.V 6).getD j pz) := rfl
    omega
theorem mRow_col {M : MS} {j : Nat} (hj : j < (M.V 6).length) (t : Int32) : mRow (mCol M j 3 t) j = upd (mRow M j) 3 t := by simp only [CS.mk_R, CS.mk_cap, CS.mk_x, CS.mk_y, CS.mk_g, CS.mk_eta, MS.mk_x, MS.mk_g, MS.mk_V, MS.mk_T, MS.mk_eta, mRow, mCol, p_ug, p_getset hj]
theorem keepRipe_rel {S M sz sl lt} (h : NR S M sz sl lt) {i j : Nat} (hi : i < (S.R 5).length) (hj : j < (M.V 6).length) (e : (S.R 5).getD i pz = (M.V 6).getD j pz) (t : Int32) : NR (cRipe (cKeep S i t) i) (mRipe (mCol M j 3 t) j) sz sl lt ∧ FrS S (cRipe (cKeep S i t) i) ∧ FrM M (mRipe (mCol M j 3 t) j) ∧ ((mRipe (mCol M j 3 t) j).V 6).length = (M.V 6).length ∧ pW ((mRipe (mCol M j 3 t) j).V 6) + (mRipe (mCol M j 3 t) j).T.length ≤ pW (M.V 6) + M.T.length + (if (mRow M j) 4 = 1 then 2 else 0) := by
  obtain ⟨h1, h2, h3, h4, h5⟩ := keep_rel h hi hj e t
  have hi1 : i < ((cKeep S i t).R 5).length := by rw [cKeep, cWin, cRw_R, List.length_set]; exact hi
  have e1 : ((cKeep S i t).R 5).getD i pz = ((mCol M j 3 t).V 6).getD j pz := by
    have := mRow_col hj t
    rw [mRow] at this
    rw [this, cKeep, cWin, cRw_R, p_getset hi, e]; rfl
  obtain ⟨k1, k2, k3, k4, k5⟩ := ripe_rel h1 hi1 (by rw [h4]; exact hj) e1
  refine ⟨k1, h2.trans k2, h3.trans k3, k4.trans h4, ?_⟩
  rw [mRow_col hj t, h5] at k5
  exact k5
theorem new_rel {S M sz sl lt} (h : NR S M sz sl lt) {k b e t : Int32} (hf : pFit sz (decide (S.y 5 0 = 10)) (mkw k b e t)) (hn : ∀ s, s ∈ M.V 6 → ¬ (s 0 = k ∧ s 1 = b)) (hd : decide (S.y 5 0 = 10) = true → ∀ s, s ∈ M.V 6 → s 0 = k → s 2 ≤ b ∨ e ≤ s 1) {M1 : MS} (hM1 : M1 = mCol (mWin M ((M.V 6).insertIdx (mPos (M.V 6) k b) (mkw k b e 0))) (mPos (M.V 6) k b) 3 t) : NR (cRipe (cAdd S k b e t) (pPos (S.R 5) k b e)) (mRipe M1 (mPos (M.V 6) k b)) sz sl lt ∧ FrS S (cRipe (cAdd S k b e t) (pPos (S.R 5) k b e)) ∧ FrM M (mRipe M1 (mPos (M.V 6) k b)) ∧ ((mRipe M1 (mPos (M.V 6) k b)).V 6).length = (M.V 6).length + 1 ∧ pW ((mRipe M1 (mPos (M.V 6) k b)).V 6) + (mRipe M1 (mPos (M.V 6) k b)).T.length ≤ pW (M.V 6) + M.T.length + 2 := by
  have hpW := pPos_le (S.R 5) k b e
  have hpV : mPos (M.V 6) k b ≤ (M.V 6).length := mPosL_le _ _ _ _
  have eM1 : M1 = mWin M ((M.V 6).insertIdx (mPos (M.V 6) k b) (mkw k b e t)) := by
    rw [hM1]
    simp only [CS.mk_R, CS.mk_cap, CS.mk_x, CS.mk_y, CS.mk_g, CS.mk_eta, MS.mk_x, MS.mk_g, MS.mk_V, MS.mk_T, MS.mk_eta, mCol, mWin, p_ug, p_uu, p_insget hpV, p_insset hpV, mkw_3]
  have fs : FrS S (cAdd S k b e t) := ⟨fun q _ c => by rw [cAdd, cRw_Rn _ _ _ c], fun _ _ _ => rfl, rfl, rfl⟩
  have fm : FrM M M1 := by rw [eM1]; exact ⟨rfl, fun p hp => by simp only [CS.mk_R, CS.mk_cap, CS.mk_x, CS.mk_y, CS.mk_g, CS.mk_eta, MS.mk_x, MS.mk_g, MS.mk_V, MS.mk_T, MS.mk_eta, mWin, p_un _ _ hp], fun _ _ _ => rfl, [], by simp [CS.mk_R, CS.mk_cap, CS.mk_x, CS.mk_y, CS.mk_g, CS.mk_eta, MS.mk_x, MS.mk_g, MS.mk_V, MS.mk_T, MS.mk_eta, mWin]⟩
  have eR : (cAdd S k b e t).R 5 = (S.R 5).insertIdx (pPos (S.R 5) k b e) (mkw k b e t) := by rw [cAdd, cRw_R]
  have eV : M1.V 6 = (M.V 6).insertIdx (mPos (M.V 6) k b) (mkw k b e t) := by rw [eM1]; simp only [CS.mk_R, CS.mk_cap, CS.mk_x, CS.mk_y, CS.mk_g, CS.mk_eta, MS.mk_x, MS.mk_g, MS.mk_V, MS.mk_T, MS.mk_eta, mWin, p_ug]
  have h1 : NR (cAdd S k b e t) M1 sz sl lt := by
    refine ⟨h.q.fr fs fm, ?_, ?_, ?_, h.mr, ?_⟩
    · rw [eR, eV, fs.y]
      exact h.wr.ins hf hn hd
    · rw [cAdd, cRw_Rn _ _ _ (by omega), eM1]; exact h.tt
    · rw [eM1]; exact h.mkk
    · rw [eM1]; exact h.lc
  have hi : pPos (S.R 5) k b e < ((cAdd S k b e t).R 5).length := by rw [eR, List.length_insertIdx_of_le_length hpW]; omega
  have hj : mPos (M.V 6) k b < (M1.V 6).length := by rw [eV, List.length_insertIdx_of_le_length hpV]; omega
  obtain ⟨k1, k2, k3, k4, k5⟩ := ripe_rel h1 hi hj (by rw [eR, eV, p_insget hpW, p_insget hpV])
  refine ⟨k1, fs.trans k2, fm.trans k3, ?_, ?_⟩
  · rw [k4, eV, List.length_insertIdx_of_le_length hpV]
  · have er : (mRow M1 (mPos (M.V 6) k b)) 4 = 0 := by rw [mRow, eV, p_insget hpV]; rfl
    rw [er, if_neg (by decide)] at k5
    have e1 : pW (M1.V 6) = pW (M.V 6) + 2 := by rw [eV, pW_ins hpV]; rfl
    have e2 : M1.T.length = M.T.length := by rw [eM1]; rfl
    omega
theorem late_rel {S M sz sl lt} (h : NR S M sz sl lt) : NR (uX S 3 0 (S.x 3 0 + 1)) (mLate M) sz sl lt ∧ FrS S (uX S 3 0 (S.x 3 0 + 1)) ∧ FrM M (mLate M) := by
  have fs : FrS S (uX S 3 0 (S.x 3 0 + 1)) := ⟨fun _ _ _ => rfl, fun j i hji => by
    simp only [CS.mk_R, CS.mk_cap, CS.mk_x, CS.mk_y, CS.mk_g, CS.mk_eta, MS.mk_x, MS.mk_g, MS.mk_V, MS.mk_T, MS.mk_eta, uX]
    by_cases e : j = 3
    · subst e; rw [p_ug, p_un _ _ (by omega)]
    · rw [p_un _ _ e], rfl, rfl⟩
  have fm : FrM M (mLate M) := ⟨rfl, fun _ _ => rfl, fun k i hk => by
    simp only [CS.mk_R, CS.mk_cap, CS.mk_x, CS.mk_y, CS.mk_g, CS.mk_eta, MS.mk_x, MS.mk_g, MS.mk_V, MS.mk_T, MS.mk_eta, mLate, mG]
    by_cases e : k = 26
    · subst e; rw [p_ug, upd, if_neg (by omega)]
    · rw [p_un _ _ e], [], by simp [CS.mk_R, CS.mk_cap, CS.mk_x, CS.mk_y, CS.mk_g, CS.mk_eta, MS.mk_x, MS.mk_g, MS.mk_V, MS.mk_T, MS.mk_eta, mLate, mG]⟩
  refine ⟨⟨h.q.fr fs fm, h.wr, h.tt, h.mkk, h.mr, ?_⟩, fs, fm⟩
  simp only [CS.mk_R, CS.mk_cap, CS.mk_x, CS.mk_y, CS.mk_g, CS.mk_eta, MS.mk_x, MS.mk_g, MS.mk_V, MS.mk_T, MS.mk_eta, uX, mLate, mG, p_ug, upd, if_true]
  rw [h.lc]
theorem into_rel {S M sz sl lt} (h : NR S M sz sl lt) (hs : S.y 5 0 ≠ 10) {k b : Nat} {a v : Int32} (hk : k < 8) (hb : b < 1000) (ha : a = mIts M v) : NR (cInto S (nI k) (nI b) a) (mFixed M (nI k) (nI b) v) sz sl lt ∧ FrS S (cInto S (nI k) (nI b) a) ∧ FrM M (mFixed M (nI k) (nI b) v) ∧ ((mFixed M (nI k) (nI b) v).V 6).length ≤ (M.V 6).length + 1 ∧ pW ((mFixed M (nI k) (nI b) v).V 6) + (mFixed M (nI k) (nI b) v).T.length ≤ pW (M.V 6) + M.T.length + 2 := by
  have hz2 := h.q.z2
  have hz1 := h.q.z1
  have hes : decide (S.y 5 0 = 10) = false := decide_eq_false hs
  have ee : nI b + S.x 10 0 = nI (b + sz) := by rw [h.q.zc, nI_add]
  have ee2 : nI b + M.g 6 5 = nI (b + sz) := by rw [h.q.zm, nI_add]
  have ho := h.q.over h.mkk h.mr (e := nI (b + sz)) (by rw [nI_toInt (by omega)]; omega)
  unfold cInto mFixed
  rw [ee, ee2]
  by_cases l : S.x 2 0 - S.x 12 0 < nI (b + sz)
  · rw [if_pos l, if_neg (fun q => ho.1 q l)]
    by_cases f : pFW (M.V 6) (nI k) (nI b) < (M.V 6).length
    · have hp := (p_findSpec (p := pIs (nI k) (nI b)) (W := M.V 6)).2 f
      obtain ⟨i, hi, ei⟩ := p_mem_getD (h.wr.perm.mem_iff.2 (p_getD_mem f))
      have hpi : pIs (nI k) (nI b) ((S.R 5).getD i pz) = true := by rw [ei]; exact hp
      obtain ⟨f1, f2⟩ := pFW_lt hi hpi
      have er : (S.R 5).getD (pFW (S.R 5) (nI k) (nI b)) pz = (M.V 6).getD (pFW (M.V 6) (nI k) (nI b)) pz := by
        obtain ⟨j, hj, ej⟩ := p_mem_getD (h.wr.perm.mem_iff.1 (p_getD_mem f1))
        rw [← ej] at f2 ⊢
        rw [pFW_uniq h.wr.uniq hj f2]
      rw [if_pos f, if_pos f1]
      have key := keepRipe_rel h f1 f er (cFold S (((S.R 5).getD (pFW (S.R 5) (nI k) (nI b)) pz) 3) a)
      have et : mFold M ((mRow M (pFW (M.V 6) (nI k) (nI b))) 3) (mIts M v) = cFold S (((S.R 5).getD (pFW (S.R 5) (nI k) (nI b)) pz) 3) a := by rw [h.q.fold, er, ha]; rfl
      unfold mInto
      simp only [CS.mk_R, CS.mk_cap, CS.mk_x, CS.mk_y, CS.mk_g, CS.mk_eta, MS.mk_x, MS.mk_g, MS.mk_V, MS.mk_T, MS.mk_eta, Bool.false_eq_true, if_false]
      rw [et]
      obtain ⟨k1, k2, k3, k4, k5⟩ := key
      refine ⟨k1, k2, k3, by omega, ?_⟩
      have : (if (mRow M (pFW (M.V 6) (nI k) (nI b))) 4 = 1 then 2 else 0) ≤ 2 := by split <;> omega
      omega
    · have hnone : ∀ s, s ∈ M.V 6 → ¬ (s 0 = nI k ∧ s 1 = nI b) := fun s hs2 hq => by
        obtain ⟨j, hj, ej⟩ := p_mem_getD hs2
        exact f (pFW_lt hj (by rw [ej]; exact pIs_iff.2 hq)).1
      have f1 : ¬ pFW (S.R 5) (nI k) (nI b) < (S.R 5).length := fun f1 => by
        have hp := (p_findSpec (p := pIs (nI k) (nI b)) (W := S.R 5)).2 f1
        exact hnone _ (h.wr.perm.mem_iff.1 (p_getD_mem f1)) (pIs_iff.1 hp)
      rw [if_neg f, if_neg f1]
      have hf : pFit sz (decide (S.y 5 0 = 10)) (mkw (nI k) (nI b) (nI (b + sz)) a) := ⟨k, b, b + sz, rfl, rfl, rfl, hk, hb, by omega, by omega, fun _ => rfl, .inl ⟨rfl, rfl⟩⟩
      obtain ⟨k1, k2, k3, k4, k5⟩ := new_rel h hf hnone (fun q => absurd q (by rw [hes]; decide)) (M1 := mCol (mWin M ((M.V 6).insertIdx (mPos (M.V 6) (nI k) (nI b)) (mkw (nI k) (nI b) (nI (b + sz)) 0))) (mPos (M.V 6) (nI k) (nI b)) 3 a) rfl
      have et : mIts (mWin M ((M.V 6).insertIdx (mPos (M.V 6) (nI k) (nI b)) (mkw (nI k) (nI b) (nI (b + sz)) 0))) v = a := by rw [ha]; rfl
      unfold mInto
      simp only [CS.mk_R, CS.mk_cap, CS.mk_x, CS.mk_y, CS.mk_g, CS.mk_eta, MS.mk_x, MS.mk_g, MS.mk_V, MS.mk_T, MS.mk_eta, if_true]
      rw [et]
      exact ⟨k1, k2, k3, by omega, k5⟩
  · rw [if_neg l, if_pos (ho.2 l)]
    obtain ⟨k1, k2, k3⟩ := late_rel h
    exact ⟨k1, k2, k3, by show (M.V 6).length ≤ _; omega, by show pW (M.V 6) + M.T.length ≤ _; omega⟩
theorem slide_rel {k : Nat} {a v : Int32} (hk : k < 8) : ∀ (bs : List Nat) {S M sz sl lt}, NR S M sz sl lt → S.y 5 0 ≠ 10 → (∀ b, b ∈ bs → b < 1000) → a = mIts M v → (M.V 6).length + bs.length ≤ 1200 → pW (M.V 6) + M.T.length + 2 * bs.length ≤ 7000 → mFsOK (nI k) v M (bs.map nI) ∧ NR (cSl (nI k) a S (bs.map nI)) (mFs (nI k) v M (bs.map nI)) sz sl lt ∧ FrS S (cSl (nI k) a S (bs.map nI)) ∧ FrM M (mFs (nI k) v M (bs.map nI)) ∧ ((mFs (nI k) v M (bs.map nI)).V 6).length ≤ (M.V 6).length + bs.length ∧ pW ((mFs (nI k) v M (bs.map nI)).V 6) + (mFs (nI k) v M (bs.map nI)).T.length ≤ pW (M.V 6) + M.T.length + 2 * bs.length := by
  intro bs
  induction bs with
  | nil => intro S M sz sl lt h hs hb ha hl hT; exact ⟨trivial, h, FrS.rfl, FrM.rfl, Nat.le_refl _, Nat.le_refl _⟩
  | cons b bs ih =>
    intro S M sz sl lt h hs hb ha hl hT
    simp only [CS.mk_R, CS.mk_cap, CS.mk_x, CS.mk_y, CS.mk_g, CS.mk_eta, MS.mk_x, MS.mk_g, MS.mk_V, MS.mk_T, MS.mk_eta, List.length_cons] at hl hT
    obtain ⟨k1, k2, k3, k4, k5⟩ := into_rel h hs hk (hb b List.mem_cons_self) ha
    have ha2 : a = mIts (mFixed M (nI k) (nI b) v) v := by
      rw [ha]; unfold mIts; rw [k3.g 6 0 (by omega)]
    obtain ⟨i1, i2, i3, i4, i5, i6⟩ := ih k1 (by rw [k2.y]; exact hs) (fun b hb2 => hb b (List.mem_cons_of_mem _ hb2)) ha2 (by omega) (by omega)
    exact ⟨⟨h.wr.uniq, by omega, by omega, i1⟩, i2, k2.trans i3, k3.trans i4, by simp only [CS.mk_R, CS.mk_cap, CS.mk_x, CS.mk_y, CS.mk_g, CS.mk_eta, MS.mk_x, MS.mk_g, MS.mk_V, MS.mk_T, MS.mk_eta, List.length_cons, List.map_cons, mFs]; omega, by simp only [CS.mk_R, CS.mk_cap, CS.mk_x, CS.mk_y, CS.mk_g, CS.mk_eta, MS.mk_x, MS.mk_g, MS.mk_V, MS.mk_T, MS.mk_eta, List.length_cons, List.map_cons, mFs]; omega⟩
theorem fold_comm (S : CS) (a b : Int32) : cFold S a b = cFold S b a := by
  unfold cFold
  split
  · by_cases h : a < b
    · rw [if_pos h, if_neg (fun h2 => by rw [i_lt] at h h2; omega)]
    · rw [if_neg h]
      by_cases h2 : b < a
      · rw [if_pos h2]
      · rw [if_neg h2]; rw [i_lt] at h h2; exact i_eq.2 (by omega)
  · exact Int32.add_comm a b
theorem fold_assoc (S : CS) (a b c : Int32) : cFold S (cFold S a b) c = cFold S a (cFold S b c) := by
  unfold cFold
  split
  · by_cases h : a < b
    · rw [if_pos h]
      by_cases h2 : b < c
      · rw [if_pos h2, if_pos (show a < c by rw [i_lt] at *; omega)]
      · rw [if_neg h2, if_pos h]
    · rw [if_neg h]
      by_cases h2 : b < c
      · rw [if_pos h2]
      · rw [if_neg h2, if_neg h, if_neg (show ¬ a < c by rw [i_lt] at *; omega)]
  · exact Int32.add_assoc a b c
theorem fold_out (S : CS) (a b : Int32) (Ms : List pRow) : Ms.foldl (fun u r => cFold S u (r 3)) (cFold S a b) = cFold S (Ms.foldl (fun u r => cFold S u (r 3)) b) a := by
  induction Ms generalizing b with
  | nil => exact fold_comm S a b
  | cons r Ms ih => simp only [CS.mk_R, CS.mk_cap, CS.mk_x, CS.mk_y, CS.mk_g, CS.mk_eta, MS.mk_x, MS.mk_g, MS.mk_V, MS.mk_T, MS.mk_eta, List.foldl_cons]; rw [fold_assoc, ih]
theorem aStep_some {S M sz sl lt} (h : QR S M sz sl lt) (b : Int32) (Ms : List pRow) : Ms.foldl (aStep M) (some b) = some (Ms.foldl (fun u r => cFold S u (r 3)) b) := by
  induction Ms generalizing b with
  | nil => rfl
  | cons r Ms ih =>
    simp only [CS.mk_R, CS.mk_cap, CS.mk_x, CS.mk_y, CS.mk_g, CS.mk_eta, MS.mk_x, MS.mk_g, MS.mk_V, MS.mk_T, MS.mk_eta, List.foldl_cons]
    have : aStep M (some b) r = some (cFold S b (r 3)) := by show some (mFold M b (r 3)) = _; rw [h.fold]
    rw [this, ih]
theorem fB_spec (Ms : List pRow) (t : Int32) : (Ms.foldl fB t).toInt ≤ t.toInt ∧ (∀ r, r ∈ Ms → (Ms.foldl fB t).toInt ≤ (r 1).toInt) ∧ (Ms.foldl fB t = t ∨ ∃ r, r ∈ Ms ∧ Ms.foldl fB t = r 1) := by
  induction Ms generalizing t with
  | nil => exact ⟨Int.le_refl _, fun r hr => absurd hr (by simp), .inl rfl⟩
  | cons r Ms ih =>
    obtain ⟨h1, h2, h3⟩ := ih (fB t r)
    have hb : (fB t r).toInt ≤ t.toInt ∧ (fB t r).toInt ≤ (r 1).toInt ∧ (fB t r = t ∨ fB t r = r 1) := by
      unfold fB
      split
      · next h => rw [i_lt] at h; exact ⟨by omega, by omega, .inr rfl⟩
      · next h => rw [i_lt] at h; exact ⟨by omega, by omega, .inl rfl⟩
    simp only [CS.mk_R, CS.mk_cap, CS.mk_x, CS.mk_y, CS.mk_g, CS.mk_eta, MS.mk_x, MS.mk_g, MS.mk_V, MS.mk_T, MS.mk_eta, List.foldl_cons]
    refine ⟨by omega, fun s hs => ?_, ?_⟩
    · rcases List.mem_cons.1 hs with e | e
      · rw [e]; omega
      · exact h2 s e
    · rcases h3 with e | ⟨s, hs, e⟩
      · rcases hb.2.2 with e2 | e2
        · exact .inl (e.trans e2)
        · exact .inr ⟨r, List.mem_cons_self, e.trans e2⟩
      · exact .inr ⟨s, List.mem_cons_of_mem _ hs, e⟩
theorem fE_spec (Ms : List pRow) (t : Int32) : t.toInt ≤ (Ms.foldl fE t).toInt ∧ (∀ r, r ∈ Ms → (r 2).toInt ≤ (Ms.foldl fE t).toInt) ∧ (Ms.foldl fE t = t ∨ ∃ r, r ∈ Ms ∧ Ms.foldl fE t = r 2) := by
  induction Ms generalizing t with
  | nil => exact ⟨Int.le_refl _, fun r hr => absurd hr (by simp), .inl rfl⟩
  | cons r Ms ih =>
    obtain ⟨h1, h2, h3⟩ := ih (fE t r)
    have hb : t.toInt ≤ (fE t r).toInt ∧ (r 2).toInt ≤ (fE t r).toInt ∧ (fE t r = t ∨ fE t r = r 2) := by
      unfold fE
      split
      · next h => rw [i_lt] at h; exact ⟨by omega, by omega, .inr rfl⟩
      · next h => rw [i_lt] at h; exact ⟨by omega, by omega, .inl rfl⟩
    simp only [CS.mk_R, CS.mk_cap, CS.mk_x, CS.mk_y, CS.mk_g, CS.mk_eta, MS.mk_x, MS.mk_g, MS.mk_V, MS.mk_T, MS.mk_eta, List.foldl_cons]
    refine ⟨by omega, fun s hs => ?_, ?_⟩
    · rcases List.mem_cons.1 hs with e | e
      · rw [e]; omega
      · exact h2 s e
    · rcases h3 with e | ⟨s, hs, e⟩
      · rcases hb.2.2 with e2 | e2
        · exact .inl (e.trans e2)
        · exact .inr ⟨r, List.mem_cons_self, e.trans e2⟩
      · exact .inr ⟨s, List.mem_cons_of_mem _ hs, e⟩
theorem WR.met {sz W V} (h : WR sz true W V) (q : pRow → Bool) (k : Int32) (hq : ∀ r, q r = true → r 0 = k) : W.filter q = V.filter q := by
  have hp : (W.filter q).Perm (V.filter q) := h.perm.filter q
  have h1 : (W.filter q).Pairwise kLt := by
    refine (h.sW.filter q).imp_of_mem fun {r s} hr hs hlt => ?_
    have hr2 := h.rows r (h.perm.mem_iff.1 (List.mem_filter.1 hr).1)
    have hs2 := h.rows s (h.perm.mem_iff.1 (List.mem_filter.1 hs).1)
    have h0 : r 0 = s 0 := (hq r (List.mem_filter.1 hr).2).trans (hq s (List.mem_filter.1 hs).2).symm
    obtain ⟨_, b1, e1, _, c1, d1, _, _, l1, _⟩ := hr2
    obtain ⟨_, b2, e2, _, c2, d2, _, _, l2, _⟩ := hs2
    have x1 : (r 1).toInt < (r 2).toInt := by rw [c1, d1, nI_toInt (by omega), nI_toInt (by omega)]; omega
    have x2 : (s 1).toInt < (s 2).toInt := by rw [c2, d2, nI_toInt (by omega), nI_toInt (by omega)]; omega
    rcases h.dis rfl r (h.perm.mem_iff.1 (List.mem_filter.1 hr).1) s (h.perm.mem_iff.1 (List.mem_filter.1 hs).1) h0 with e | e | e
    · rw [e] at hlt; exact absurd hlt pLt_irr
    · refine .inr ⟨h0, ?_⟩
      rw [i_lt]; rw [i_le] at e; omega
    · unfold pLt at hlt
      simp only [CS.mk_R, CS.mk_cap, CS.mk_x, CS.mk_y, CS.mk_g, CS.mk_eta, MS.mk_x, MS.mk_g, MS.mk_V, MS.mk_T, MS.mk_eta, i_lt, i_le, i_eq] at hlt e
      omega
  refine List.Perm.eq_of_pairwise (le := kLt) (fun a b _ _ hab hba => ?_) h1 (h.sV.filter q) hp
  unfold kLt at hab hba
  simp only [CS.mk_R, CS.mk_cap, CS.mk_x, CS.mk_y, CS.mk_g, CS.mk_eta, MS.mk_x, MS.mk_g, MS.mk_V, MS.mk_T, MS.mk_eta, i_lt, i_eq] at hab hba
  omega
theorem pLastM_some {M : pRow → Bool} : ∀ (B : List pRow) (i : Nat) (m : Option Nat), (B.filter M = [] ∧ pLastM M i B m = m) ∨ ∃ j, pLastM M i B m = some (i + j) ∧ j < B.length ∧ M (B.getD j pz) = true := by
  intro B
  induction B with
  | nil => intro i m; exact .inl ⟨rfl, rfl⟩
  | cons r B ih =>
    intro i m
    rw [pLastM]
    rcases ih (i + 1) (if M r then some i else m) with ⟨h1, h2⟩ | ⟨j, h1, h2, h3⟩
    · by_cases c : M r = true
      · rw [if_pos c] at h2 ⊢
        exact .inr ⟨0, by rw [h2]; rfl, by simp, by simpa using c⟩
      · rw [if_neg c] at h2 ⊢
        exact .inl ⟨by rw [List.filter_cons, if_neg c]; exact h1, h2⟩
    · exact .inr ⟨j + 1, by rw [h1]; congr 1; omega, by simpa using h2, by simpa using h3⟩
theorem pW_rest (sz k t : Int32) (V : List pRow) : pW (pRest sz k t V) + (pBacks sz k t V).length ≤ pW V := by
  unfold pRest pBacks
  rw [List.length_map]
  induction V with
  | nil => simp [CS.mk_R, CS.mk_cap, CS.mk_x, CS.mk_y, CS.mk_g, CS.mk_eta, MS.mk_x, MS.mk_g, MS.mk_V, MS.mk_T, MS.mk_eta, pW]
  | cons r V ih =>
    rw [List.filter_cons, List.filter_cons, pW_cons]
    by_cases m : pMet sz k t r = true
    · by_cases c : r 4 = 1
      · rw [if_neg (by simp [CS.mk_R, CS.mk_cap, CS.mk_x, CS.mk_y, CS.mk_g, CS.mk_eta, MS.mk_x, MS.mk_g, MS.mk_V, MS.mk_T, MS.mk_eta, m]), if_pos (by simp [CS.mk_R, CS.mk_cap, CS.mk_x, CS.mk_y, CS.mk_g, CS.mk_eta, MS.mk_x, MS.mk_g, MS.mk_V, MS.mk_T, MS.mk_eta, m, c])]
        have : pw r = 1 := if_pos c
        simp only [CS.mk_R, CS.mk_cap, CS.mk_x, CS.mk_y, CS.mk_g, CS.mk_eta, MS.mk_x, MS.mk_g, MS.mk_V, MS.mk_T, MS.mk_eta, List.length_cons]; omega
      · rw [if_neg (by simp [CS.mk_R, CS.mk_cap, CS.mk_x, CS.mk_y, CS.mk_g, CS.mk_eta, MS.mk_x, MS.mk_g, MS.mk_V, MS.mk_T, MS.mk_eta, m]), if_neg (by simp [CS.mk_R, CS.mk_cap, CS.mk_x, CS.mk_y, CS.mk_g, CS.mk_eta, MS.mk_x, MS.mk_g, MS.mk_V, MS.mk_T, MS.mk_eta, c])]; omega
    · rw [if_pos (by simp [CS.mk_R, CS.mk_cap, CS.mk_x, CS.mk_y, CS.mk_g, CS.mk_eta, MS.mk_x, MS.mk_g, MS.mk_V, MS.mk_T, MS.mk_eta, m]), if_neg (by simp [CS.mk_R, CS.mk_cap, CS.mk_x, CS.mk_y, CS.mk_g, CS.mk_eta, MS.mk_x, MS.mk_g, MS.mk_V, MS.mk_T, MS.mk_eta, m]), pW_cons]; omega
theorem mCol_mCol {M : MS} {j : Nat} (hj : j < (M.V 6).length) (a b : Int32) : mCol (mCol M j 3 a) j 3 b = mCol M j 3 b := by
  simp only [CS.mk_R, CS.mk_cap, CS.mk_x, CS.mk_y, CS.mk_g, CS.mk_eta, MS.mk_x, MS.mk_g, MS.mk_V, MS.mk_T, MS.mk_eta, mCol, p_ug, p_uu, p_getset hj, List.set_set]
  congr 3
  funext i; unfold upd; split <;> rfl
theorem mIts_col (M : MS) (i c : Nat) (u v : Int32) : mIts (mCol M i c u) v = mIts M v := rfl
theorem mIts_win (M : MS) (W : List pRow) (v : Int32) : mIts (mWin M W) v = mIts M v := rfl
theorem mFold_col (M : MS) (i c : Nat) (u a b : Int32) : mFold (mCol M i c u) a b = mFold M a b := rfl
theorem mFold_win (M : MS) (W : List pRow) (a b : Int32) : mFold (mWin M W) a b = mFold M a b := rfl
theorem WR.to {sz W V} (h : WR sz true W V) (sz2 k t : Int32) : WR sz true (pRest sz2 k t W) (pRest sz2 k t V) := h.filter _
theorem session_rel {S M sz sl lt} (h : NR S M sz sl lt) (hs : S.y 5 0 = 10) {k t : Nat} {a v : Int32} (hk : k < 8) (ht : t < 1000) (ha : a = mIts M v) : NR (cSes S (nI k) (nI t) a) (mSes M (nI k) (nI t) v) sz sl lt ∧ FrS S (cSes S (nI k) (nI t) a) ∧ FrM M (mSes M (nI k) (nI t) v) ∧ ((mSes M (nI k) (nI t) v).V 6).length ≤ (M.V 6).length + 1 ∧ pW ((mSes M (nI k) (nI t) v).V 6) + (mSes M (nI k) (nI t) v).T.length ≤ pW (M.V 6) + M.T.length + 2 := by
  have hz2 := h.q.z2
  have hz1 := h.q.z1
  have hes : decide (S.y 5 0 = 10) = true := decide_eq_true hs
  have hwr : WR sz true (S.R 5) (M.V 6) := by have := h.wr; rwa [hes] at this
  have ee : nI t + S.x 10 0 = nI (t + sz) := by rw [h.q.zc, nI_add]
  have ho := h.q.over h.mkk h.mr (e := nI (t + sz)) (by rw [nI_toInt (by omega)]; omega)
  have tT : (nI t).toInt = t := nI_toInt (by omega)
  have tE : (nI (t + sz)).toInt = t + sz := by rw [nI_toInt (by omega)]; omega
  have hmet : (S.R 5).filter (pMet (nI sz) (nI k) (nI t)) = (M.V 6).filter (pMet (nI sz) (nI k) (nI t)) := hwr.met _ (nI k) fun r hr => (pMet_iff.1 hr).1
  unfold cSes mSes
  try dsimp only [CS.mk_R, CS.mk_cap, CS.mk_x, CS.mk_y, CS.mk_g, CS.mk_eta, MS.mk_x, MS.mk_g, MS.mk_V, MS.mk_T, MS.mk_eta]
  rw [h.q.zc, h.q.zm, hmet, nI_add]
  have mem : ∀ r, r ∈ (M.V 6).filter (pMet (nI sz) (nI k) (nI t)) ↔ r ∈ M.V 6 ∧ r 0 = nI k ∧ (r 1).toInt < t + sz ∧ (t : Int) < (r 2).toInt := fun r => by
    rw [List.mem_filter, pMet_iff, nI_add, i_lt, i_lt, tT, tE]
  generalize hMs : (M.V 6).filter (pMet (nI sz) (nI k) (nI t)) = Ms at mem
  obtain ⟨b1, b2, b3⟩ := fB_spec Ms (nI t)
  obtain ⟨e1, e2, e3⟩ := fE_spec Ms (nI (t + sz))
  generalize hbg : Ms.foldl fB (nI t) = b at b1 b2 b3 ⊢
  generalize heg : Ms.foldl fE (nI (t + sz)) = e at e1 e2 e3 ⊢
  rw [tT] at b1
  rw [tE] at e1
  have len : ∀ r, r ∈ M.V 6 → 0 ≤ (r 1).toInt ∧ (r 1).toInt < (r 2).toInt ∧ (r 2).toInt < 1100 ∧ (r 1).toInt < 1000 := fun r hr => by
    obtain ⟨_, b, e, _, c1, d1, _, f1, l1, g1, _⟩ := hwr.rows r hr
    rw [c1, d1, nI_toInt (by omega), nI_toInt (by omega)]; omega
  have bn : ∃ bb : Nat, b = nI bb ∧ bb < 1000 := by
    rcases b3 with q | ⟨r, hr, q⟩
    · exact ⟨t, q, ht⟩
    · obtain ⟨_, bb, ee, _, c1, d1, _, f1, _⟩ := hwr.rows r ((mem r).1 hr).1
      exact ⟨bb, by rw [q, c1], f1⟩
  have en : ∃ ee : Nat, e = nI ee ∧ ee < 1100 := by
    rcases e3 with q | ⟨r, hr, q⟩
    · exact ⟨t + sz, q, by omega⟩
    · obtain ⟨_, bb, ee, _, c1, d1, _, f1, _, g1, _⟩ := hwr.rows r ((mem r).1 hr).1
      exact ⟨ee, by rw [q, d1], g1⟩
  obtain ⟨bb, hbb, hbb2⟩ := bn
  obtain ⟨eb, heb, heb2⟩ := en
  have bT : b.toInt = bb := by rw [hbb]; exact nI_toInt (by omega)
  have eT : e.toInt = eb := by rw [heb]; exact nI_toInt (by omega)
  have grow : Ms.length ≠ 0 ∨ S.x 2 0 - S.x 12 0 < nI (t + sz) → NR (cGrow S (nI k) (nI t) b e (Ms.foldl (fun u r => cFold S u (r 3)) a)) (mSesEnd (mWin (mApp M (pBacks (nI sz) (nI k) (nI t) (M.V 6))) (pRest (nI sz) (nI k) (nI t) (M.V 6))) (nI k) v b e (Ms.foldl (aStep M) none)) sz sl lt ∧ FrS S (cGrow S (nI k) (nI t) b e (Ms.foldl (fun u r => cFold S u (r 3)) a)) ∧ FrM M (mSesEnd (mWin (mApp M (pBacks (nI sz) (nI k) (nI t) (M.V 6))) (pRest (nI sz) (nI k) (nI t) (M.V 6))) (nI k) v b e (Ms.foldl (aStep M) none)) ∧ ((mSesEnd (mWin (mApp M (pBacks (nI sz) (nI k) (nI t) (M.V 6))) (pRest (nI sz) (nI k) (nI t) (M.V 6))) (nI k) v b e (Ms.foldl (aStep M) none)).V 6).length ≤ (M.V 6).length + 1 ∧ pW ((mSesEnd (mWin (mApp M (pBacks (nI sz) (nI k) (nI t) (M.V 6))) (pRest (nI sz) (nI k) (nI t) (M.V 6))) (nI k) v b e (Ms.foldl (aStep M) none)).V 6) + (mSesEnd (mWin (mApp M (pBacks (nI sz) (nI k) (nI t) (M.V 6))) (pRest (nI sz) (nI k) (nI t) (M.V 6))) (nI k) v b e (Ms.foldl (aStep M) none)).T.length ≤ pW (M.V 6) + M.T.length + 2 := by
    intro _
    have hbk : pBacks (nI sz) (nI k) (nI t) (S.R 5) = pBacks (nI sz) (nI k) (nI t) (M.V 6) := by
      unfold pBacks
      rw [← List.filter_filter, ← List.filter_filter]
      congr 1
      have : ∀ W : List pRow, (W.filter fun r => r 4 == 1).filter (pMet (nI sz) (nI k) (nI t)) = (W.filter (pMet (nI sz) (nI k) (nI t))).filter fun r => r 4 == 1 := fun W => by
        rw [List.filter_filter, List.filter_filter]; congr 1; funext r; exact Bool.and_comm _ _
      rw [this, this, hmet]
    generalize hM1 : mWin (mApp M (pBacks (nI sz) (nI k) (nI t) (M.V 6))) (pRest (nI sz) (nI k) (nI t) (M.V 6)) = M1
    have hV1 : M1.V 6 = pRest (nI sz) (nI k) (nI t) (M.V 6) := by rw [← hM1]; simp only [CS.mk_R, CS.mk_cap, CS.mk_x, CS.mk_y, CS.mk_g, CS.mk_eta, MS.mk_x, MS.mk_g, MS.mk_V, MS.mk_T, MS.mk_eta, mWin, p_ug]
    have fm1 : FrM M M1 := by rw [← hM1]; exact FrM.app _ _ _
    have hR1 : (cEnd S (nI k) (nI t)).R 5 = pRest (nI sz) (nI k) (nI t) (S.R 5) := by rw [cEnd, cWin, cRw_R, h.q.zc]
    have fs1 : FrS S (cEnd S (nI k) (nI t)) := by
      obtain ⟨g1, g2, g3, g4⟩ := cApp_same S (pBacks (S.x 10 0) (nI k) (nI t) (S.R 5))
      refine ⟨fun q a b => ?_, fun j i _ => ?_, g3, g4⟩
      · rw [cEnd, cWin, cRw_Rn _ _ _ b]; exact (g1 q a).1
      · exact congrFun (congrFun g2 j) i
    have hT1 : M1.T = M.T ++ pBacks (nI sz) (nI k) (nI t) (M.V 6) := by rw [← hM1]; exact mApp_T _ _
    have n1 : NR (cEnd S (nI k) (nI t)) M1 sz sl lt := by
      refine ⟨h.q.fr fs1 fm1, ?_, ?_, ?_, ?_, ?_⟩
      · rw [hR1, hV1, fs1.y, hes]; exact hwr.to _ _ _
      · rw [cEnd, cWin, cRw_Rn _ _ _ (by omega), cApp_R4, h.q.zc, hbk, h.tt, hT1]
      · have x2 : (cEnd S (nI k) (nI t)).x 2 0 = S.x 2 0 := congrFun (congrFun (cApp_same S _).2.1 2) 0
        have g2 : M1.g 25 6 = M.g 25 6 := by rw [← hM1]; exact congrFun ((mApp_same M _).2.2.1 25 (by omega)) 6
        rw [x2, g2]; exact h.mkk
      · have x2 : (cEnd S (nI k) (nI t)).x 2 0 = S.x 2 0 := congrFun (congrFun (cApp_same S _).2.1 2) 0
        rw [x2]; exact h.mr
      · have x2 : (cEnd S (nI k) (nI t)).x 3 0 = S.x 3 0 := congrFun (congrFun (cApp_same S _).2.1 3) 0
        have g2 : M1.g 26 6 = M.g 26 6 := by rw [← hM1]; exact congrFun ((mApp_same M _).2.2.1 26 (by omega)) 6
        rw [x2, g2]; exact h.lc
    have memR : ∀ s, s ∈ M1.V 6 → s ∈ M.V 6 ∧ ¬ (s 0 = nI k ∧ (s 1).toInt < t + sz ∧ (t : Int) < (s 2).toInt) := fun s hs => by
      rw [hV1, pRest, List.mem_filter] at hs
      refine ⟨hs.1, fun q => ?_⟩
      have : pMet (nI sz) (nI k) (nI t) s = true := pMet_iff.2 ⟨q.1, by rw [nI_add, i_lt, tE]; exact q.2.1, by rw [i_lt, tT]; exact q.2.2⟩
      rw [this] at hs
      exact absurd hs.2 (by decide)
    have side : ∀ s, s ∈ M1.V 6 → s 0 = nI k → (s 2).toInt ≤ b.toInt ∨ e.toInt ≤ (s 1).toInt := fun s hs2 h0 => by
      obtain ⟨sV, sN⟩ := memR s hs2
      have ls := len s sV
      have hm : ∀ r, r ∈ Ms → (r 1).toInt < t + sz ∧ (t : Int) < (r 2).toInt ∧ ((r 2).toInt ≤ (s 1).toInt ∨ (s 2).toInt ≤ (r 1).toInt) := fun r hr => by
        obtain ⟨rV, r0, r1, r2⟩ := (mem r).1 hr
        refine ⟨r1, r2, ?_⟩
        rcases hwr.dis rfl r rV s sV (r0.trans h0.symm) with q | q | q
        · rw [← q] at sN; exact absurd ⟨r0, r1, r2⟩ sN
        · exact .inl (i_le.1 q)
        · exact .inr (i_le.1 q)
      have : (s 2).toInt ≤ t ∨ (t : Int) + sz ≤ (s 1).toInt := by
        by_cases c : (s 1).toInt < t + sz
        · by_cases c2 : (t : Int) < (s 2).toInt
          · exact absurd ⟨h0, c, c2⟩ sN
          · omega
        · omega
      rcases this with c | c
      · left
        rcases b3 with q | ⟨r, hr, q⟩
        · rw [q, tT]; exact c
        · have := hm r hr
          have lr := len r ((mem r).1 hr).1
          rw [q]; omega
      · right
        rcases e3 with q | ⟨r, hr, q⟩
        · rw [q, tE]; exact c
        · have := hm r hr
          have lr := len r ((mem r).1 hr).1
          rw [q]; omega
    have hf : pFit sz (decide ((cEnd S (nI k) (nI t)).y 5 0 = 10)) (mkw (nI k) b e (Ms.foldl (fun u r => cFold S u (r 3)) a)) := ⟨k, bb, eb, rfl, hbb, heb, hk, hbb2, by omega, heb2, fun q => by rw [fs1.y, hes] at q; exact absurd q (by decide), .inl ⟨rfl, rfl⟩⟩
    have hn : ∀ s, s ∈ M1.V 6 → ¬ (s 0 = nI k ∧ s 1 = b) := fun s hs2 q => by
      have := side s hs2 q.1
      have ls := len s (memR s hs2).1
      have : (s 1).toInt = b.toInt := by rw [q.2]
      omega
    have hd : decide ((cEnd S (nI k) (nI t)).y 5 0 = 10) = true → ∀ s, s ∈ M1.V 6 → s 0 = nI k → s 2 ≤ b ∨ e ≤ s 1 := fun _ s hs2 h0 => (side s hs2 h0).imp i_le.2 i_le.2
    have key0 := @new_rel (cEnd S (nI k) (nI t)) M1 sz sl lt n1 (nI k) b e (Ms.foldl (fun u r => cFold S u (r 3)) a)
    have key1 := key0 hf
    have key2 := key1 hn
    have key := @key2 hd _ rfl
    obtain ⟨k1, k2, k3, k4, k5⟩ := key
    have efin : mSesEnd M1 (nI k) v b e (Ms.foldl (aStep M) none) = mRipe (mCol (mWin M1 ((M1.V 6).insertIdx (mPos (M1.V 6) (nI k) b) (mkw (nI k) b e 0))) (mPos (M1.V 6) (nI k) b) 3 (Ms.foldl (fun u r => cFold S u (r 3)) a)) (mPos (M1.V 6) (nI k) b) := by
      have hpV : mPos (M1.V 6) (nI k) b ≤ (M1.V 6).length := mPosL_le _ _ _ _
      have hj : mPos (M1.V 6) (nI k) b < ((mWin M1 ((M1.V 6).insertIdx (mPos (M1.V 6) (nI k) b) (mkw (nI k) b e 0))).V 6).length := by
        simp only [CS.mk_R, CS.mk_cap, CS.mk_x, CS.mk_y, CS.mk_g, CS.mk_eta, MS.mk_x, MS.mk_g, MS.mk_V, MS.mk_T, MS.mk_eta, mWin, p_ug, List.length_insertIdx_of_le_length hpV]; omega
      have eI : mIts M1 v = a := by rw [ha]; unfold mIts; rw [fm1.g 6 0 (by omega)]
      unfold mSesEnd mInto
      rw [mCol_mCol hj, mRow_col hj]
      congr 2
      cases Ms with
      | nil =>
        simp only [CS.mk_R, CS.mk_cap, CS.mk_x, CS.mk_y, CS.mk_g, CS.mk_eta, MS.mk_x, MS.mk_g, MS.mk_V, MS.mk_T, MS.mk_eta, List.foldl_nil, Option.isNone_none, if_true]
        rw [mIts_col, mIts_win, eI]
      | cons r Ms =>
        have e4 : (r :: Ms).foldl (aStep M) none = some (Ms.foldl (fun u r => cFold S u (r 3)) (r 3)) := by
          rw [List.foldl_cons, show aStep M none r = some (r 3) from rfl, aStep_some h.q]
        rw [e4]
        simp only [CS.mk_R, CS.mk_cap, CS.mk_x, CS.mk_y, CS.mk_g, CS.mk_eta, MS.mk_x, MS.mk_g, MS.mk_V, MS.mk_T, MS.mk_eta, Option.isNone_some, Bool.false_eq_true, if_false, List.foldl_cons]
        rw [fold_out S a (r 3) Ms]
        rw [mIts_col, mIts_win, eI, mFold_col, mFold_win, upd, if_pos rfl]
        have e5 : ∀ x y, mFold M1 x y = cFold S x y := fun x y => by
          rw [← h.q.fold]; unfold mFold
          rw [fm1.g 6 0 (by omega)]
        rw [e5]
        rfl
    rw [efin]
    have hl : (M1.V 6).length ≤ (M.V 6).length := by rw [hV1]; exact List.length_filter_le _ _
    have hp := pW_rest (nI sz) (nI k) (nI t) (M.V 6)
    have hTl : M1.T.length = M.T.length + (pBacks (nI sz) (nI k) (nI t) (M.V 6)).length := by rw [hT1, List.length_append]
    rw [hV1] at k5
    refine ⟨k1, fs1.trans k2, fm1.trans k3, by omega, ?_⟩
    rw [hV1] at hl ⊢
    omega
  rcases pLastM_some (M := pMet (nI sz) (nI k) (nI t)) (S.R 5) 0 none with ⟨m1, m2⟩ | ⟨i, m1, m2, m3⟩
  · rw [m2]
    rw [hmet, hMs] at m1
    subst m1
    simp only [CS.mk_R, CS.mk_cap, CS.mk_x, CS.mk_y, CS.mk_g, CS.mk_eta, MS.mk_x, MS.mk_g, MS.mk_V, MS.mk_T, MS.mk_eta, List.foldl_nil] at hbg heg
    simp only [CS.mk_R, CS.mk_cap, CS.mk_x, CS.mk_y, CS.mk_g, CS.mk_eta, MS.mk_x, MS.mk_g, MS.mk_V, MS.mk_T, MS.mk_eta, List.length_nil, true_and]
    rw [← heg] at ⊢
    by_cases l : S.x 2 0 - S.x 12 0 < nI (t + sz)
    · rw [if_pos l, if_neg (fun q => ho.1 q l), if_neg (by omega)]
      rw [heg]
      exact grow (.inr l)
    · rw [if_neg l, if_pos (ho.2 l)]
      obtain ⟨k1, k2, k3⟩ := late_rel h
      exact ⟨k1, k2, k3, by show (M.V 6).length ≤ _; omega, by show pW (M.V 6) + M.T.length ≤ _; omega⟩
  · rw [m1, Nat.zero_add]
    have hmem : (S.R 5).getD i pz ∈ Ms := by
      rw [← hMs, ← hmet, List.mem_filter]; exact ⟨p_getD_mem m2, m3⟩
    have hne : Ms.length ≠ 0 := fun q => by rw [List.length_eq_zero_iff.1 q] at hmem; simp at hmem
    rw [if_neg (show ¬ (Ms.length = 0 ∧ mOver M (nI (t + sz)) = true) from fun q => hne q.1)]
    simp only
    generalize hr : (S.R 5).getD i pz = r at hmem ⊢
    obtain ⟨rV, r0, r1, r2⟩ := (mem r).1 hmem
    by_cases c : r 1 = b ∧ r 2 = e
    · rw [if_pos c]
      have all : ∀ s, s ∈ Ms → s = r := fun s hs2 => by
        obtain ⟨sV, s0, s1, s2⟩ := (mem s).1 hs2
        have := b2 s hs2
        have := e2 s hs2
        have ls := len s sV
        have lr := len r rV
        have c1 : (r 1).toInt = b.toInt := by rw [c.1]
        have c2 : (r 2).toInt = e.toInt := by rw [c.2]
        rcases hwr.dis rfl s sV r rV (s0.trans r0.symm) with q | q | q
        · exact q
        · rw [i_le] at q; omega
        · rw [i_le] at q; omega
      have nd : Ms.Pairwise kLt := by rw [← hMs]; exact hwr.sV.filter _
      have one : Ms = [r] := by
        match Ms, hmem, all, nd with
        | [], hm, _, _ => simp at hm
        | [x], _, al, _ => rw [al x List.mem_cons_self]
        | x :: y :: _, _, al, nd =>
          have h1 := al x List.mem_cons_self
          have h2 := al y (List.mem_cons_of_mem _ List.mem_cons_self)
          have := (List.pairwise_cons.1 nd).1 y List.mem_cons_self
          rw [h1, h2] at this
          exact absurd (kLt_irr this rfl rfl) id
      obtain ⟨j, hj, ej⟩ := p_mem_getD rV
      have hpj : pIs (nI k) b ((M.V 6).getD j pz) = true := by rw [ej]; exact pIs_iff.2 ⟨r0, c.1⟩
      have hFW := pFW_uniq hwr.uniq hj hpj
      rw [hFW, if_pos ⟨by rw [one]; rfl, hj, by rw [mRow, ej]; exact c.2⟩]
      have et : mFold M ((mRow M j) 3) (mIts M v) = Ms.foldl (fun u r => cFold S u (r 3)) a := by
        rw [one, h.q.fold, mRow, ej, ← ha, fold_comm]; rfl
      unfold mInto
      simp only [CS.mk_R, CS.mk_cap, CS.mk_x, CS.mk_y, CS.mk_g, CS.mk_eta, MS.mk_x, MS.mk_g, MS.mk_V, MS.mk_T, MS.mk_eta, Bool.false_eq_true, if_false]
      rw [et]
      obtain ⟨k1, k2, k3, k4, k5⟩ := keepRipe_rel h m2 hj (by rw [hr, ej]) (Ms.foldl (fun u r => cFold S u (r 3)) a)
      refine ⟨k1, k2, k3, by omega, ?_⟩
      have : (if (mRow M j) 4 = 1 then 2 else 0) ≤ 2 := by split <;> omega
      omega
    · rw [if_neg c]
      rw [if_neg]
      · exact grow (.inl hne)
      · rintro ⟨q1, q2, q3⟩
        apply c
        obtain ⟨x, hx⟩ := List.length_eq_one_iff.1 q1
        have hxr : x = r := by rw [hx] at hmem; exact (List.mem_singleton.1 hmem).symm
        have hp := (p_findSpec (p := pIs (nI k) b) (W := M.V 6)).2 q2
        have hw := pIs_iff.1 hp
        have hwV := p_getD_mem q2
        have hwM : (M.V 6).getD (pFW (M.V 6) (nI k) b) pz ∈ Ms := (mem _).2 ⟨hwV, hw.1, by
          have : ((M.V 6).getD (pFW (M.V 6) (nI k) b) pz 1).toInt = b.toInt := congrArg _ hw.2
          change ((M.V 6).getD (pFW (M.V 6) (nI k) b) pz 1).toInt < _
          omega, by
          have : ((M.V 6).getD (pFW (M.V 6) (nI k) b) pz 2).toInt = e.toInt := congrArg _ q3
          change _ < ((M.V 6).getD (pFW (M.V 6) (nI k) b) pz 2).toInt
          omega⟩
        rw [hx, List.mem_singleton, hxr] at hwM
        rw [← hwM]
        exact ⟨hw.2, q3⟩
theorem fs_mark (S : CS) (l : Int32) : FrS S (uX S 2 0 l) := ⟨fun _ _ _ => rfl, fun j i hji => by
    simp only [CS.mk_R, CS.mk_cap, CS.mk_x, CS.mk_y, CS.mk_g, CS.mk_eta, MS.mk_x, MS.mk_g, MS.mk_V, MS.mk_T, MS.mk_eta, uX]
    by_cases e : j = 2
    · subst e; rw [p_ug, p_un _ _ (by omega)]
    · rw [p_un _ _ e], rfl, rfl⟩
theorem fm_mark (M : MS) (l : Int32) : FrM M (mG M 25 6 l) := ⟨rfl, fun _ _ => rfl, fun k i hk => by
    simp only [CS.mk_R, CS.mk_cap, CS.mk_x, CS.mk_y, CS.mk_g, CS.mk_eta, MS.mk_x, MS.mk_g, MS.mk_V, MS.mk_T, MS.mk_eta, mG]
    by_cases e : k = 25
    · subst e; rw [p_ug, upd, if_neg (by omega)]
    · rw [p_un _ _ e], [], by simp [CS.mk_R, CS.mk_cap, CS.mk_x, CS.mk_y, CS.mk_g, CS.mk_eta, MS.mk_x, MS.mk_g, MS.mk_V, MS.mk_T, MS.mk_eta, mG]⟩
theorem mark_rel {S M sz sl lt} (h : NR S M sz sl lt) {l : Int32} (hl : -100 ≤ l.toInt ∧ l.toInt ≤ 999) : NR (uX S 2 0 l) (mG M 25 6 l) sz sl lt := by
  refine ⟨h.q.fr (fs_mark S l) (fm_mark M l), h.wr, h.tt, ?_, ?_, ?_⟩
  · simp only [CS.mk_R, CS.mk_cap, CS.mk_x, CS.mk_y, CS.mk_g, CS.mk_eta, MS.mk_x, MS.mk_g, MS.mk_V, MS.mk_T, MS.mk_eta, uX, mG, p_ug, upd, if_true]
  · simp only [CS.mk_R, CS.mk_cap, CS.mk_x, CS.mk_y, CS.mk_g, CS.mk_eta, MS.mk_x, MS.mk_g, MS.mk_V, MS.mk_T, MS.mk_eta, uX, p_ug]; exact hl
  · simp only [CS.mk_R, CS.mk_cap, CS.mk_x, CS.mk_y, CS.mk_g, CS.mk_eta, MS.mk_x, MS.mk_g, MS.mk_V, MS.mk_T, MS.mk_eta, uX, mG, p_un _ _ (show (3 : Nat) ≠ 2 by decide), p_un _ _ (show (26 : Nat) ≠ 25 by decide)]; exact h.lc
def pUn (mk : Int32) (W : List pRow) : List pRow := W.filter fun r => decide (r 2 ≤ mk ∧ r 4 = 0)
theorem pW_tell (mk : Int32) (V : List pRow) : pW (V.map (tIf mk)) + (pUn mk V).length = pW V := by
  induction V with
  | nil => rfl
  | cons r V ih =>
    rw [List.map_cons, pW_cons, pW_cons]
    unfold pUn at ih ⊢
    rw [List.filter_cons]
    by_cases c : r 2 ≤ mk ∧ r 4 = 0
    · rw [if_pos (decide_eq_true c), List.length_cons]
      have h1 : pw (tIf mk r) = 1 := by unfold tIf; rw [if_pos c]; rfl
      have h2 : pw r = 2 := by unfold pw; rw [if_neg (by rw [c.2]; decide)]
      omega
    · rw [if_neg (by rw [decide_eq_false c]; decide)]
      have h1 : tIf mk r = r := by unfold tIf; rw [if_neg c]
      rw [h1]; omega
theorem pW_filter (q : pRow → Bool) (V : List pRow) : pW (V.filter q) ≤ pW V := by
  induction V with
  | nil => exact Nat.le_refl _
  | cons r V ih =>
    rw [List.filter_cons]
    split
    · rw [pW_cons, pW_cons]; omega
    · rw [pW_cons]; omega
theorem flat_len {m : Nat} {U : List pRow} (h : ∀ r, r ∈ U → r 4 = 0) : (U.flatMap (tRes m)).length = U.length := by
  induction U with
  | nil => rfl
  | cons r U ih =>
    rw [List.flatMap_cons, List.length_append, tRes_len0 (h r List.mem_cons_self), ih (fun s hs => h s (List.mem_cons_of_mem _ hs)), List.length_cons]
    omega
theorem pU_of {S M sz sl lt} (h : NR S M sz sl lt) (hT : M.T.length + (M.V 6).length + 2 ≤ 8000) : pU M (pUn (M.g 25 6) (S.R 5)) := by
  refine ⟨h.wr.sW.filter _, fun r => ?_, ?_⟩
  · unfold pUn
    rw [List.mem_filter, decide_eq_true_eq, h.wr.perm.mem_iff]
    exact ⟨fun q => ⟨q.1, q.2.2, q.2.1⟩, fun q => ⟨q.1, q.2.2, q.2.1⟩⟩
  · have := List.length_filter_le (fun r => decide (r 2 ≤ M.g 25 6 ∧ r 4 = 0)) (S.R 5)
    have := h.wr.len
    unfold pUn
    omega
theorem drop_rel {S M sz sl lt} (h : NR S M sz sl lt) : NR (cDrop S) (mTD M (pUn (M.g 25 6) (S.R 5))) sz sl lt ∧ FrS S (cDrop S) ∧ FrM M (mTD M (pUn (M.g 25 6) (S.R 5))) ∧ ((mTD M (pUn (M.g 25 6) (S.R 5))).V 6).length ≤ (M.V 6).length ∧ pW ((mTD M (pUn (M.g 25 6) (S.R 5))).V 6) + (mTD M (pUn (M.g 25 6) (S.R 5))).T.length ≤ pW (M.V 6) + M.T.length := by
  have fm : FrM M (mTD M (pUn (M.g 25 6) (S.R 5))) := FrM.app _ _ _
  have ea : tResL (S.y 6 0) (S.x 2 0) (S.R 5) = (pUn (M.g 25 6) (S.R 5)).flatMap (tRes (S.y 6 0)) := by rw [h.mkk]; rfl
  have fs : FrS S (cDrop S) := by
    obtain ⟨g1, g2, g3, g4⟩ := cApp_same S (tResL (S.y 6 0) (S.x 2 0) (S.R 5))
    refine ⟨fun q a b => ?_, fun j i _ => ?_, g3, g4⟩
    · rw [cDrop, cWin, cRw_Rn _ _ _ b]; exact (g1 q a).1
    · exact congrFun (congrFun g2 j) i
  have eR : (cDrop S).R 5 = ((S.R 5).map (tIf (M.g 25 6))).filter fun r => decide (S.x 2 0 - S.x 12 0 < r 2) := by rw [cDrop, cWin, cRw_R, h.mkk]
  have eV : (mTD M (pUn (M.g 25 6) (S.R 5))).V 6 = ((M.V 6).map (tIf (M.g 25 6))).filter fun r => !mOver M (r 2) := by simp only [CS.mk_R, CS.mk_cap, CS.mk_x, CS.mk_y, CS.mk_g, CS.mk_eta, MS.mk_x, MS.mk_g, MS.mk_V, MS.mk_T, MS.mk_eta, mTD, mWin, p_ug]
  have w1 := h.wr.tell (M.g 25 6)
  have hfe : ((M.V 6).map (tIf (M.g 25 6))).filter (fun r => !mOver M (r 2)) = ((M.V 6).map (tIf (M.g 25 6))).filter fun r => decide (S.x 2 0 - S.x 12 0 < r 2) := by
    refine List.filter_congr fun r hr => ?_
    obtain ⟨_, b, e, _, c1, d1, _, f1, l1, g1, _⟩ := w1.rows r hr
    have := h.q.over h.mkk h.mr (e := r 2) (by rw [d1, nI_toInt (by omega)]; omega)
    by_cases c : S.x 2 0 - S.x 12 0 < r 2
    · rw [decide_eq_true c]
      have : mOver M (r 2) = false := by
        cases q : mOver M (r 2)
        · rfl
        · exact absurd c (this.1 q)
      rw [this]; rfl
    · rw [decide_eq_false c, this.2 c]; rfl
  have eT : (mTD M (pUn (M.g 25 6) (S.R 5))).T = M.T ++ (pUn (M.g 25 6) (S.R 5)).flatMap (tRes (S.y 6 0)) := by
    rw [← h.q.mode]; exact mApp_T _ _
  have eg : ∀ k, k ≠ 27 → (mTD M (pUn (M.g 25 6) (S.R 5))).g k 6 = M.g k 6 := fun k hk => congrFun ((mApp_same M _).2.2.1 k hk) 6
  have ex : ∀ k, (cDrop S).x k = S.x k := fun k => congrFun (cApp_same S _).2.1 k
  refine ⟨⟨h.q.fr fs fm, ?_, ?_, ?_, ?_, ?_⟩, fs, fm, ?_, ?_⟩
  · rw [eR, eV, hfe, fs.y]
    exact w1.filter _
  · rw [eT, cDrop, cWin, cRw_Rn _ _ _ (by omega), cApp_R4, h.tt, ea]
  · rw [ex, eg 25 (by omega)]; exact h.mkk
  · rw [ex]; exact h.mr
  · rw [ex, eg 26 (by omega)]; exact h.lc
  · rw [eV]
    have := List.length_filter_le (fun r => !mOver M (r 2)) ((M.V 6).map (tIf (M.g 25 6)))
    rwa [List.length_map] at this
  · rw [eV, eT, List.length_append, flat_len (fun r hr => by
      have := (List.mem_filter.1 hr).2
      exact (of_decide_eq_true this).2)]
    have h1 := pW_tell (M.g 25 6) (M.V 6)
    have h2 := pW_filter (fun r => !mOver M (r 2)) ((M.V 6).map (tIf (M.g 25 6)))
    have h3 : (pUn (M.g 25 6) (S.R 5)).length = (pUn (M.g 25 6) (M.V 6)).length := (h.wr.perm.filter _).length_eq
    omega
theorem fwm_congr {id id' rd rd' its its' : Nat → Int32} : ∀ (is : List Nat) (acc : Option Int32), (∀ i, i ∈ is → id i = id' i ∧ rd i = rd' i ∧ (rd i ≠ 0 → its i = its' i)) → fwm id rd its is acc = fwm id' rd' its' is acc := by
  intro is
  induction is with
  | nil => intro acc _; rfl
  | cons i is ih =>
    intro acc h
    obtain ⟨h1, h2, h3⟩ := h i List.mem_cons_self
    have h4 := fun acc => ih acc fun j hj => h j (List.mem_cons_of_mem _ hj)
    simp only [CS.mk_R, CS.mk_cap, CS.mk_x, CS.mk_y, CS.mk_g, CS.mk_eta, MS.mk_x, MS.mk_g, MS.mk_V, MS.mk_T, MS.mk_eta, fwm]
    rw [← h1, ← h2]
    by_cases c : id i = 0
    · rw [if_pos c, if_pos c]
      by_cases d : rd i = 0
      · rw [if_pos d, if_pos d]
      · rw [if_neg d, if_neg d, ← h3 d, h4]
    · rw [if_neg c, if_neg c, h4]
theorem fwm_mem {id rd its : Nat → Int32} : ∀ (is : List Nat) (acc : Option Int32) (l : Int32), fwm id rd its is acc = some (some l) → acc = some l ∨ ∃ i, i ∈ is ∧ rd i ≠ 0 ∧ l = its i := by
  intro is
  induction is with
  | nil => intro acc l h; simp only [CS.mk_R, CS.mk_cap, CS.mk_x, CS.mk_y, CS.mk_g, CS.mk_eta, MS.mk_x, MS.mk_g, MS.mk_V, MS.mk_T, MS.mk_eta, fwm] at h; exact .inl (by injection h)
  | cons i is ih =>
    intro acc l h
    simp only [CS.mk_R, CS.mk_cap, CS.mk_x, CS.mk_y, CS.mk_g, CS.mk_eta, MS.mk_x, MS.mk_g, MS.mk_V, MS.mk_T, MS.mk_eta, fwm] at h
    by_cases c : id i = 0
    · rw [if_pos c] at h
      by_cases d : rd i = 0
      · rw [if_pos d] at h; exact absurd h (by simp)
      · rw [if_neg d] at h
        rcases ih _ _ h with e | ⟨j, hj, h2, h3⟩
        · cases acc with
          | none => exact .inr ⟨i, List.mem_cons_self, d, by injection e with e; exact e.symm⟩
          | some m =>
            simp only [CS.mk_R, CS.mk_cap, CS.mk_x, CS.mk_y, CS.mk_g, CS.mk_eta, MS.mk_x, MS.mk_g, MS.mk_V, MS.mk_T, MS.mk_eta, Option.some.injEq] at e
            by_cases q : its i < m
            · rw [if_pos q] at e; exact .inr ⟨i, List.mem_cons_self, d, e.symm⟩
            · rw [if_neg q] at e; exact .inl (by rw [e])
        · exact .inr ⟨j, List.mem_cons_of_mem _ hj, h2, h3⟩
    · rw [if_neg c] at h
      rcases ih _ _ h with e | ⟨j, hj, h2, h3⟩
      · exact .inl e
      · exact .inr ⟨j, List.mem_cons_of_mem _ hj, h2, h3⟩
abbrev PR (S : CS) (M : MS) : Prop := (∀ i, i < 3 → S.x 7 i = M.g 18 i) ∧ (∀ i, i < 3 → S.g 1 0 i = M.g 23 (18 + i)) ∧ (∀ i, i < 3 → S.g 1 0 i ≠ 0 → S.g 2 0 i = M.g 24 (18 + i) ∧ 0 ≤ (S.g 2 0 i).toInt ∧ (S.g 2 0 i).toInt < 1000) ∧ (∀ i, i < 3 → S.x 6 i = M.g 17 i ∧ 0 ≤ (S.x 6 i).toInt ∧ (S.x 6 i).toInt ≤ 99)
theorem PR.idle {S : CS} {M : MS} (h_ : PR S M) : ∀ i, i < 3 → S.x 7 i = M.g 18 i := h_.1
theorem PR.rd {S : CS} {M : MS} (h_ : PR S M) : ∀ i, i < 3 → S.g 1 0 i = M.g 23 (18 + i) := h_.2.1
theorem PR.gr {S : CS} {M : MS} (h_ : PR S M) : ∀ i, i < 3 → S.g 1 0 i ≠ 0 → S.g 2 0 i = M.g 24 (18 + i) ∧ 0 ≤ (S.g 2 0 i).toInt ∧ (S.g 2 0 i).toInt < 1000 := h_.2.2.1
theorem PR.lag {S : CS} {M : MS} (h_ : PR S M) : ∀ i, i < 3 → S.x 6 i = M.g 17 i ∧ 0 ≤ (S.x 6 i).toInt ∧ (S.x 6 i).toInt ≤ 99 := h_.2.2.2
theorem PR.fw {S M} (h : PR S M) : fwmM M = fwmS S := by
  refine (fwm_congr [0, 1, 2] none fun i hi => ?_).symm
  have hi3 : i < 3 := by simp at hi; omega
  refine ⟨h.idle i hi3, h.rd i hi3, fun hr => ?_⟩
  rw [(h.gr i hi3 hr).1, (h.lag i hi3).1]
theorem PR.rng {S M} (h : PR S M) {l : Int32} (hl : fwmS S = some (some l)) : -100 ≤ l.toInt ∧ l.toInt ≤ 999 := by
  rcases fwm_mem _ _ _ hl with e | ⟨i, hi, hr, e⟩
  · exact absurd e (by simp)
  · have hi3 : i < 3 := by simp at hi; omega
    have h1 := h.gr i hi3 hr
    have h2 := h.lag i hi3
    rw [e, i_sub (by omega) (by omega)]
    omega
theorem QR.hz {S M sz sl lt} (h : QR S M sz sl lt) {l : Int32} (hl : -100 ≤ l.toInt ∧ l.toInt ≤ 999) : l - S.x 12 0 ≤ l := by
  have := h.l2
  have e := nI_toInt (n := lt) (by omega)
  rw [i_le, h.lc, i_sub (by omega) (by omega)]
  omega
def findU (S : CS) (l : Int32) : List pRow := pUn l (S.R 5)
theorem find_rel {S M sz sl lt} (h : NR S M sz sl lt) (hp : PR S M) : NR (cFind S) (mFindT M (findU S) (fwmM M)) sz sl lt ∧ FrS S (cFind S) ∧ FrM M (mFindT M (findU S) (fwmM M)) ∧ ((mFindT M (findU S) (fwmM M)).V 6).length ≤ (M.V 6).length ∧ pW ((mFindT M (findU S) (fwmM M)).V 6) + (mFindT M (findU S) (fwmM M)).T.length ≤ pW (M.V 6) + M.T.length := by
  rw [hp.fw]
  unfold cFind
  have triv : NR S M sz sl lt ∧ FrS S S ∧ FrM M M ∧ (M.V 6).length ≤ (M.V 6).length ∧ pW (M.V 6) + M.T.length ≤ pW (M.V 6) + M.T.length := ⟨h, FrS.rfl, FrM.rfl, Nat.le_refl _, Nat.le_refl _⟩
  match hf : fwmS S with
  | none => exact triv
  | some none => exact triv
  | some (some l) =>
    simp only [CS.mk_R, CS.mk_cap, CS.mk_x, CS.mk_y, CS.mk_g, CS.mk_eta, MS.mk_x, MS.mk_g, MS.mk_V, MS.mk_T, MS.mk_eta, cFindT, mFindT]
    rw [← h.mkk]
    by_cases c : l ≤ S.x 2 0
    · rw [if_pos c, if_pos c]; exact triv
    · rw [if_neg c, if_neg c]
      have h1 := mark_rel h (hp.rng hf)
      have := drop_rel h1
      rw [show (mG M 25 6 l).g 25 6 = l by simp only [CS.mk_R, CS.mk_cap, CS.mk_x, CS.mk_y, CS.mk_g, CS.mk_eta, MS.mk_x, MS.mk_g, MS.mk_V, MS.mk_T, MS.mk_eta, mG, p_ug, upd, if_true]] at this
      obtain ⟨k1, k2, k3, k4, k5⟩ := this
      exact ⟨k1, (fs_mark S l).trans k2, (fm_mark M l).trans k3, k4, k5⟩
theorem pLt_2 {W : List pRow} (h : W.Pairwise pLt) : W.Pairwise (fun r s => r 2 ≤ s 2) := h.imp fun {r s} hr => by
  unfold pLt at hr
  simp only [CS.mk_R, CS.mk_cap, CS.mk_x, CS.mk_y, CS.mk_g, CS.mk_eta, MS.mk_x, MS.mk_g, MS.mk_V, MS.mk_T, MS.mk_eta, i_lt, i_eq] at hr
  rw [i_le]; omega
