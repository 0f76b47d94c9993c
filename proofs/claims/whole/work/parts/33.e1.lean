set_option maxRecDepth 4096 in
theorem m_wstep {Φ : Int32 → pJ} {a : Nat → Int32} {f : Nat} {x g} {i : Nat} (hi : i < 7) (h : jX9_word_74 (lX9_word_3 Φ f) Φ x g (a 0) (a 1) (a 2) (a 3) (a 4) (a 5) (a 6) (nI i) (a i)) : lX9_word_3 Φ (f + 1) x g (a 0) (a 1) (a 2) (a 3) (a 4) (a 5) (a 6) (nI i) := by
  have hh : i = 0 ∨ i = 1 ∨ i = 2 ∨ i = 3 ∨ i = 4 ∨ i = 5 ∨ i = 6 := by omega
  refine ⟨fun e => absurd (show nI 7 ≤ nI i from e) (nI_ge hi (by omega)), fun _ => ?_⟩
  rcases hh with rfl | rfl | rfl | rfl | rfl | rfl | rfl
  · exact ⟨fun _ => h, fun e => absurd rfl e⟩
  · exact ⟨fun e => absurd e (by decide), fun _ => ⟨fun _ => h, fun e => absurd rfl e⟩⟩
  · exact ⟨fun e => absurd e (by decide), fun _ => ⟨fun e => absurd e (by decide), fun _ => ⟨fun _ => h, fun e => absurd rfl e⟩⟩⟩
  · exact ⟨fun e => absurd e (by decide), fun _ => ⟨fun e => absurd e (by decide), fun _ => ⟨fun e => absurd e (by decide), fun _ => ⟨fun _ => h, fun e => absurd rfl e⟩⟩⟩⟩
  · exact ⟨fun e => absurd e (by decide), fun _ => ⟨fun e => absurd e (by decide), fun _ => ⟨fun e => absurd e (by decide), fun _ => ⟨fun e => absurd e (by decide), fun _ => ⟨fun _ => h, fun e => absurd rfl e⟩⟩⟩⟩⟩
  · exact ⟨fun e => absurd e (by decide), fun _ => ⟨fun e => absurd e (by decide), fun _ => ⟨fun e => absurd e (by decide), fun _ => ⟨fun e => absurd e (by decide), fun _ => ⟨fun e => absurd e (by decide), fun _ => ⟨fun _ => h, fun e => absurd rfl e⟩⟩⟩⟩⟩⟩
  · exact ⟨fun e => absurd e (by decide), fun _ => ⟨fun e => absurd e (by decide), fun _ => ⟨fun e => absurd e (by decide), fun _ => ⟨fun e => absurd e (by decide), fun _ => ⟨fun e => absurd e (by decide), fun _ => ⟨fun e => absurd e (by decide), fun _ => h⟩⟩⟩⟩⟩⟩
set_option maxRecDepth 4096 in
theorem m_wordL {n c p} {M : MS} {ws : List Nat} (hp : p ≤ 60) (hl : ws.length ≤ 7) (hw : ∀ w, w ∈ ws → 32 < w ∧ w < 127) {Φ : Int32 → pJ} (hy : lcp (sg n c) ws p = ws.length → ∀ M' x g, RM M' x g → FM M M' → M'.g 7 = M.g 7 → M'.x 1 = nI (p + ws.length) → Φ 1 x g) (hno : lcp (sg n c) ws p ≠ ws.length → ∀ M' x g, RM M' x g → FM M M' → M'.x 2 = nI (p + lcp (sg n c) ws p) → Φ 0 x g) : ∀ (m f i : Nat) (M' : MS) x g, RM M' x g → RT M' n c → FM M M' → M'.g 7 = M.g 7 → M'.x 1 = nI (p + i) → i + m = 7 → m < f → i ≤ ws.length → i + lcp (sg n c) (ws.drop i) (p + i) = lcp (sg n c) ws p → lX9_word_3 Φ f x g (nI (ws.getD 0 0)) (nI (ws.getD 1 0)) (nI (ws.getD 2 0)) (nI (ws.getD 3 0)) (nI (ws.getD 4 0)) (nI (ws.getD 5 0)) (nI (ws.getD 6 0)) (nI i) := by
  intro m
  induction m with
  | zero =>
    intro f i M' x g hm t fm h7 h1 hi hf hle hlc
    obtain ⟨f, rfl⟩ : ∃ n', f = n' + 1 := ⟨f - 1, by omega⟩
    have e : i = ws.length := by omega
    refine ⟨fun _ => hy ?_ M' x g hm fm h7 (by rw [← e]; exact h1), fun e2 => absurd (nI_le (a := 7) (by omega) (by omega)) e2⟩
    rw [← hlc, e, List.drop_length]; rfl
  | succ m ih =>
    intro f i M' x g hm t fm h7 h1 hi hf hle hlc
    obtain ⟨f, rfl⟩ : ∃ n', f = n' + 1 := ⟨f - 1, by omega⟩
    have hn := t.n60
    refine m_wstep (a := fun k => nI (ws.getD k 0)) (by omega) ?_
    rcases Nat.lt_or_ge i ws.length with hlt | hge
    · have hd : ws.drop i = ws.getD i 0 :: ws.drop (i + 1) := by
        rw [List.drop_eq_getElem_cons hlt]; simp [CS.mk_R, CS.mk_cap, CS.mk_x, CS.mk_y, CS.mk_g, CS.mk_eta, MS.mk_x, MS.mk_g, MS.mk_V, MS.mk_T, MS.mk_eta, GD.mk_n, GD.mk_rd, GD.mk_c, GD.mk_tk, GD.mk_sz, GD.mk_sl, GD.mk_lt, GD.mk_eta, PQ.mk_fold, PQ.mk_cmp, PQ.mk_lim, PQ.mk_jn, PQ.mk_shape, PQ.mk_sz, PQ.mk_sl, PQ.mk_lt, PQ.mk_mode, PQ.mk_eta, List.getD, hlt]
      have hmem : ws.getD i 0 ∈ ws := by simp [CS.mk_R, CS.mk_cap, CS.mk_x, CS.mk_y, CS.mk_g, CS.mk_eta, MS.mk_x, MS.mk_g, MS.mk_V, MS.mk_T, MS.mk_eta, GD.mk_n, GD.mk_rd, GD.mk_c, GD.mk_tk, GD.mk_sz, GD.mk_sl, GD.mk_lt, GD.mk_eta, PQ.mk_fold, PQ.mk_cmp, PQ.mk_lim, PQ.mk_jn, PQ.mk_shape, PQ.mk_sz, PQ.mk_sl, PQ.mk_lt, PQ.mk_mode, PQ.mk_eta, List.getD, hlt]
      obtain ⟨w1, w2⟩ := hw _ hmem
      rw [hd] at hlc
      generalize ws.getD i 0 = w at *
      simp only [CS.mk_R, CS.mk_cap, CS.mk_x, CS.mk_y, CS.mk_g, CS.mk_eta, MS.mk_x, MS.mk_g, MS.mk_V, MS.mk_T, MS.mk_eta, GD.mk_n, GD.mk_rd, GD.mk_c, GD.mk_tk, GD.mk_sz, GD.mk_sl, GD.mk_lt, GD.mk_eta, PQ.mk_fold, PQ.mk_cmp, PQ.mk_lim, PQ.mk_jn, PQ.mk_shape, PQ.mk_sz, PQ.mk_sl, PQ.mk_lt, PQ.mk_mode, PQ.mk_eta, lcp] at hlc
      have e1 : x 1 = nI (p + i) := by rw [hm.hx]; exact h1
      refine ⟨fun e => absurd ((nI_eq (b := 0) (by omega) (by omega)).1 e) (by omega), fun _ => ?_⟩
      rw [e1]
      refine m_at hm t (by omega) ⟨fun e => ?_, fun e => ?_⟩
      · have q := (atv_eq t (by omega) w2).1 e
        rw [if_pos q] at hlc
        rintro _ rfl
        rw [nI_1, nI_1]
        exact ih f (i + 1) _ _ _ (hm.X 1 (nI (p + i + 1))) (t.fr (FM.X M' (by omega) (by omega) _)) (fm.trans (FM.X M' (by omega) (by omega) _)) h7 (by simp only [CS.mk_R, CS.mk_cap, CS.mk_x, CS.mk_y, CS.mk_g, CS.mk_eta, MS.mk_x, MS.mk_g, MS.mk_V, MS.mk_T, MS.mk_eta, GD.mk_n, GD.mk_rd, GD.mk_c, GD.mk_tk, GD.mk_sz, GD.mk_sl, GD.mk_lt, GD.mk_eta, PQ.mk_fold, PQ.mk_cmp, PQ.mk_lim, PQ.mk_jn, PQ.mk_shape, PQ.mk_sz, PQ.mk_sl, PQ.mk_lt, PQ.mk_mode, PQ.mk_eta, mX, p_ug]; rfl) (by omega) (by omega) (by omega) (by rw [show p + (i + 1) = p + i + 1 by omega]; omega)
      · rw [if_neg (fun q => e ((atv_eq t (by omega) w2).2 q))] at hlc
        refine m_fails hm h1 fun x g h => hno (by omega) _ x g h (fm.trans (FM.X M' (by omega) (by omega) _)) ?_
        simp only [CS.mk_R, CS.mk_cap, CS.mk_x, CS.mk_y, CS.mk_g, CS.mk_eta, MS.mk_x, MS.mk_g, MS.mk_V, MS.mk_T, MS.mk_eta, GD.mk_n, GD.mk_rd, GD.mk_c, GD.mk_tk, GD.mk_sz, GD.mk_sl, GD.mk_lt, GD.mk_eta, PQ.mk_fold, PQ.mk_cmp, PQ.mk_lim, PQ.mk_jn, PQ.mk_shape, PQ.mk_sz, PQ.mk_sl, PQ.mk_lt, PQ.mk_mode, PQ.mk_eta, mX, p_ug]; rw [← hlc]; rfl
    · have e : i = ws.length := by omega
      refine ⟨fun _ => hy ?_ M' x g hm fm h7 (by rw [← e]; exact h1), fun e2 => absurd ?_ e2⟩
      · rw [← hlc, e, List.drop_length]; rfl
      · rw [show ws.getD i 0 = 0 by simp [CS.mk_R, CS.mk_cap, CS.mk_x, CS.mk_y, CS.mk_g, CS.mk_eta, MS.mk_x, MS.mk_g, MS.mk_V, MS.mk_T, MS.mk_eta, GD.mk_n, GD.mk_rd, GD.mk_c, GD.mk_tk, GD.mk_sz, GD.mk_sl, GD.mk_lt, GD.mk_eta, PQ.mk_fold, PQ.mk_cmp, PQ.mk_lim, PQ.mk_jn, PQ.mk_shape, PQ.mk_sz, PQ.mk_sl, PQ.mk_lt, PQ.mk_mode, PQ.mk_eta, List.getD, hge]]; rfl
set_option maxRecDepth 4096 in
theorem m_word {M x g n c p} {ws : List Nat} (hm : RM M x g) (t : RT M n c) (h1 : M.x 1 = nI p) (hp : p ≤ 60) (hl : ws.length ≤ 7) (hw : ∀ w, w ∈ ws → 32 < w ∧ w < 127) {Φ : Int32 → pJ} (hy : lcp (sg n c) ws p = ws.length → ∀ M' x g, RM M' x g → FM M M' → M'.g 7 = M.g 7 → M'.x 1 = nI (p + ws.length) → Φ 1 x g) (hno : lcp (sg n c) ws p ≠ ws.length → ∀ M' x g, RM M' x g → FM M M' → M'.x 2 = nI (p + lcp (sg n c) ws p) → Φ 0 x g) : wX9_word x g (nI (ws.getD 0 0)) (nI (ws.getD 1 0)) (nI (ws.getD 2 0)) (nI (ws.getD 3 0)) (nI (ws.getD 4 0)) (nI (ws.getD 5 0)) (nI (ws.getD 6 0)) Φ :=
  ⟨8, m_wordL hp hl hw hy hno 7 8 0 M x g hm t FM.refl rfl h1 (by omega) (by omega) (by omega) (by rw [Nat.zero_add]; rfl)⟩
set_option maxRecDepth 4096 in
theorem atv_in {M n c} (t : RT M n c) {i lo hi : Nat} (h32 : 32 < lo) (h64 : lo < 64) (h127 : hi < 127) {Φ : Int32 → Prop} (h1 : lo ≤ sg n c i → sg n c i ≤ hi → atv n c i = nI (sg n c i) → Φ 1) (h0 : sg n c i < lo ∨ hi < sg n c i → Φ 0) : wX9_isIn (atv n c i) (nI lo) (nI hi) Φ := by
  unfold atv sg at *
  by_cases h : i < n
  · rw [if_pos h] at *
    simp only [CS.mk_R, CS.mk_cap, CS.mk_x, CS.mk_y, CS.mk_g, CS.mk_eta, MS.mk_x, MS.mk_g, MS.mk_V, MS.mk_T, MS.mk_eta, GD.mk_n, GD.mk_rd, GD.mk_c, GD.mk_tk, GD.mk_sz, GD.mk_sl, GD.mk_lt, GD.mk_eta, PQ.mk_fold, PQ.mk_cmp, PQ.mk_lim, PQ.mk_jn, PQ.mk_shape, PQ.mk_sz, PQ.mk_sl, PQ.mk_lt, PQ.mk_mode, PQ.mk_eta, if_pos h] at h0 h1
    have q := (t.ch i h).2
    refine ⟨fun e => ?_, fun e => ⟨fun e2 => ?_, fun e2 => ?_⟩⟩
    · rw [nI_ltI (by omega) (by omega)] at e
      exact h0 (by omega)
    · rw [nI_ltI (by omega) (by omega)] at e2
      exact h0 (by omega)
    · rw [nI_ltI (by omega) (by omega)] at e e2
      exact h1 (by omega) (by omega) trivial
  · rw [if_neg h] at *
    simp only [CS.mk_R, CS.mk_cap, CS.mk_x, CS.mk_y, CS.mk_g, CS.mk_eta, MS.mk_x, MS.mk_g, MS.mk_V, MS.mk_T, MS.mk_eta, GD.mk_n, GD.mk_rd, GD.mk_c, GD.mk_tk, GD.mk_sz, GD.mk_sl, GD.mk_lt, GD.mk_eta, PQ.mk_fold, PQ.mk_cmp, PQ.mk_lim, PQ.mk_jn, PQ.mk_shape, PQ.mk_sz, PQ.mk_sl, PQ.mk_lt, PQ.mk_mode, PQ.mk_eta, if_neg h] at h0 h1
    refine ⟨fun _ => h0 (by omega), fun e => absurd ?_ e⟩
    rw [Int32.lt_iff_toInt_lt, nI_toInt (by omega)]
    have : (-1 : Int32).toInt = -1 := by decide
    omega
set_option maxRecDepth 4096 in
theorem m_number {M x g n c p} {zb : Bool} {a1 : Int32} (hz : a1 = if zb then 1 else 0) (hm : RM M x g) (t : RT M n c) (h1 : M.x 1 = nI p) (hp : p ≤ 61) {Φ : Int32 → pJ} (hno : ∀ e, nmF (sg n c) zb p = .inl e → ∀ M' x g, RM M' x g → FM M M' → M'.x 2 = nI e → Φ 0 x g) (hy : ∀ v e, nmF (sg n c) zb p = .inr (v, e) → ∀ M' x g, RM M' x g → FM M M' → M'.g 7 = M.g 7 → M'.x 3 = nI v → M'.x 1 = nI e → Φ 1 x g) : wX9_number x g a1 Φ := by
  have hn := t.n60
  have e1 : x 1 = nI p := by rw [hm.hx]; exact h1
  have key : ∀ lo : Nat, (lo = if zb then 48 else 49) → jX9_number_21 Φ x g (atv n c p) (atv n c p) (nI lo) := by
    intro lo hlo
    unfold jX9_number_21
    have hlo2 : 48 ≤ lo ∧ lo ≤ 49 := by rw [hlo]; split <;> omega
    refine atv_in (hi := 57) t (by omega) (by omega) (by omega) (fun g1 g2 g3 => ite1 ?_) (fun q => ite0 (m_fails hm h1 fun x g h => hno p ?_ _ x g h (FM.X M (by omega) (by omega) _) (by simp only [CS.mk_R, CS.mk_cap, CS.mk_x, CS.mk_y, CS.mk_g, CS.mk_eta, MS.mk_x, MS.mk_g, MS.mk_V, MS.mk_T, MS.mk_eta, GD.mk_n, GD.mk_rd, GD.mk_c, GD.mk_tk, GD.mk_sz, GD.mk_sl, GD.mk_lt, GD.mk_eta, PQ.mk_fold, PQ.mk_cmp, PQ.mk_lim, PQ.mk_jn, PQ.mk_shape, PQ.mk_sz, PQ.mk_sl, PQ.mk_lt, PQ.mk_mode, PQ.mk_eta, mX, p_ug])))
    · have hz2 : zb = false → sg n c p ≠ 48 := fun q => by rw [q] at hlo; simp at hlo; omega
      have hnn : ¬ (sg n c p < 48 ∨ 57 < sg n c p ∨ (sg n c p = 48 ∧ zb = false)) := by
        rintro (q | q | ⟨q, q2⟩)
        · omega
        · omega
        · exact hz2 q2 q
      rw [g3, e1, nI_1]
      have es : nI (sg n c p) - 48 = nI (sg n c p - 48) := p_sub (b := 48) (by omega)
      rw [es]
      have hmA := (hm.X 3 (nI (sg n c p - 48))).X 1 (nI (p + 1))
      have fA : FM M (mX (mX M 3 (nI (sg n c p - 48))) 1 (nI (p + 1))) := (FM.X M (by omega) (by omega) _).trans (FM.X _ (by omega) (by omega) _)
      have tA := t.fr fA
      have a3 : (mX (mX M 3 (nI (sg n c p - 48))) 1 (nI (p + 1))).x 3 = nI (sg n c p - 48) := by simp only [CS.mk_R, CS.mk_cap, CS.mk_x, CS.mk_y, CS.mk_g, CS.mk_eta, MS.mk_x, MS.mk_g, MS.mk_V, MS.mk_T, MS.mk_eta, GD.mk_n, GD.mk_rd, GD.mk_c, GD.mk_tk, GD.mk_sz, GD.mk_sl, GD.mk_lt, GD.mk_eta, PQ.mk_fold, PQ.mk_cmp, PQ.mk_lim, PQ.mk_jn, PQ.mk_shape, PQ.mk_sz, PQ.mk_sl, PQ.mk_lt, PQ.mk_mode, PQ.mk_eta, mX]; rw [p_un _ _ (by omega), p_ug]
      have a1 : (mX (mX M 3 (nI (sg n c p - 48))) 1 (nI (p + 1))).x 1 = nI (p + 1) := by simp only [CS.mk_R, CS.mk_cap, CS.mk_x, CS.mk_y, CS.mk_g, CS.mk_eta, MS.mk_x, MS.mk_g, MS.mk_V, MS.mk_T, MS.mk_eta, GD.mk_n, GD.mk_rd, GD.mk_c, GD.mk_tk, GD.mk_sz, GD.mk_sl, GD.mk_lt, GD.mk_eta, PQ.mk_fold, PQ.mk_cmp, PQ.mk_lim, PQ.mk_jn, PQ.mk_shape, PQ.mk_sz, PQ.mk_sl, PQ.mk_lt, PQ.mk_mode, PQ.mk_eta, mX, p_ug]
      have one : ¬ (0 < sg n c p - 48 ∧ 48 ≤ sg n c (p + 1) ∧ sg n c (p + 1) ≤ 57) → Φ 1 (va_up (va_up x 3 (nI (sg n c p - 48))) 1 (nI (p + 1))) g := fun q =>
        hy _ _ (by unfold nmF; rw [if_neg hnn, if_neg q]) _ _ _ hmA fA rfl a3 a1
      refine ⟨fun c0 => ?_, fun c0 => ?_⟩
      · have := (nI_leI (a := sg n c p - 48) (b := 0) (by omega) (by omega)).1 c0
        exact one (by omega)
      · have hpos : 0 < sg n c p - 48 := by
          rcases Nat.eq_zero_or_pos (sg n c p - 48) with z | z
          · exact absurd (by rw [z]; decide) c0
          · exact z
        refine m_at hmA tA (by omega) (atv_in (lo := 48) (hi := 57) t (by omega) (by omega) (by omega) (fun d1 d2 d3 => ite1 (m_at hmA tA (by omega) ?_)) fun d => ite0 (one (by omega)))
        rw [d3, nI_1]
        have e2 : 10 * nI (sg n c p - 48) + nI (sg n c (p + 1)) - 48 = nI (10 * (sg n c p - 48) + (sg n c (p + 1) - 48)) := by
          rw [show (10 : Int32) = nI 10 from rfl, p_mul, nI_add]
          rw [show (nI (10 * (sg n c p - 48) + sg n c (p + 1)) - 48 : Int32) = nI (10 * (sg n c p - 48) + sg n c (p + 1) - 48) from p_sub (b := 48) (by omega)]
          congr 1; omega
        rw [e2]
        have hmB := (hmA.X 3 (nI (10 * (sg n c p - 48) + (sg n c (p + 1) - 48)))).X 1 (nI (p + 1 + 1))
        exact hy _ _ (by unfold nmF; rw [if_neg hnn, if_pos ⟨hpos, d1, d2⟩]) _ _ _ hmB (fA.trans ((FM.X _ (by omega) (by omega) _).trans (FM.X _ (by omega) (by omega) _))) rfl (by simp only [CS.mk_R, CS.mk_cap, CS.mk_x, CS.mk_y, CS.mk_g, CS.mk_eta, MS.mk_x, MS.mk_g, MS.mk_V, MS.mk_T, MS.mk_eta, GD.mk_n, GD.mk_rd, GD.mk_c, GD.mk_tk, GD.mk_sz, GD.mk_sl, GD.mk_lt, GD.mk_eta, PQ.mk_fold, PQ.mk_cmp, PQ.mk_lim, PQ.mk_jn, PQ.mk_shape, PQ.mk_sz, PQ.mk_sl, PQ.mk_lt, PQ.mk_mode, PQ.mk_eta, mX]; rw [p_un _ _ (by omega), p_ug]) (by simp only [CS.mk_R, CS.mk_cap, CS.mk_x, CS.mk_y, CS.mk_g, CS.mk_eta, MS.mk_x, MS.mk_g, MS.mk_V, MS.mk_T, MS.mk_eta, GD.mk_n, GD.mk_rd, GD.mk_c, GD.mk_tk, GD.mk_sz, GD.mk_sl, GD.mk_lt, GD.mk_eta, PQ.mk_fold, PQ.mk_cmp, PQ.mk_lim, PQ.mk_jn, PQ.mk_shape, PQ.mk_sz, PQ.mk_sl, PQ.mk_lt, PQ.mk_mode, PQ.mk_eta, mX, p_ug])
    · unfold nmF
      rw [if_pos]
      cases zb
      · simp at hlo; simp; omega
      · simp at hlo; omega
  unfold wX9_number
  rw [e1]
  refine m_at hm t (by omega) ⟨fun e => ?_, fun e => ?_⟩
  · refine key 49 ?_
    rw [hz] at e
    cases zb
    · rfl
    · exact absurd e (by decide)
  · refine key 48 ?_
    rw [hz] at e
    cases zb
    · exact absurd rfl e
    · rfl
def rI : Option Nat → Int32
  | none => -1
  | some e => nI e
abbrev A0 (Q : PQ) (q : Nat → Int32) : Prop := (q 0 = nI Q.fold) ∧ (Q.fold ≤ 2)
set_option maxRecDepth 4096 in
theorem A0.f0 {Q : PQ} {q : Nat → Int32} (h_ : A0 Q q) : q 0 = nI Q.fold := h_.1
set_option maxRecDepth 4096 in
theorem A0.f2 {Q : PQ} {q : Nat → Int32} (h_ : A0 Q q) : Q.fold ≤ 2 := h_.2
abbrev A1 (Q : PQ) (q : Nat → Int32) : Prop := (q 1 = nI (Q.cmp - 3)) ∧ (3 ≤ Q.cmp) ∧ (Q.cmp ≤ 6) ∧ (q 2 = Q.lim)
set_option maxRecDepth 4096 in
theorem A1.c0 {Q : PQ} {q : Nat → Int32} (h_ : A1 Q q) : q 1 = nI (Q.cmp - 3) := h_.1
set_option maxRecDepth 4096 in
theorem A1.c1 {Q : PQ} {q : Nat → Int32} (h_ : A1 Q q) : 3 ≤ Q.cmp := h_.2.1
set_option maxRecDepth 4096 in
theorem A1.c2 {Q : PQ} {q : Nat → Int32} (h_ : A1 Q q) : Q.cmp ≤ 6 := h_.2.2.1
set_option maxRecDepth 4096 in
theorem A1.lim {Q : PQ} {q : Nat → Int32} (h_ : A1 Q q) : q 2 = Q.lim := h_.2.2.2
abbrev A3 (Q : PQ) (q : Nat → Int32) : Prop := (q 3 = nI Q.jn) ∧ (Q.jn ≤ 1)
set_option maxRecDepth 4096 in
theorem A3.jn {Q : PQ} {q : Nat → Int32} (h_ : A3 Q q) : q 3 = nI Q.jn := h_.1
set_option maxRecDepth 4096 in
theorem A3.jb {Q : PQ} {q : Nat → Int32} (h_ : A3 Q q) : Q.jn ≤ 1 := h_.2
abbrev A4 (Q : PQ) (q : Nat → Int32) : Prop := (q 4 = nI (Q.shape - 8)) ∧ (8 ≤ Q.shape) ∧ (Q.shape ≤ 10) ∧ (q 5 = nI Q.sz) ∧ (1 ≤ Q.sz) ∧ (Q.sz ≤ 99) ∧ (1 ≤ Q.sl) ∧ (Q.sl ≤ 99) ∧ (Q.shape = 9 → q 6 = nI Q.sl) ∧ (Q.shape ≠ 9 → q 6 = 0 ∧ Q.sl = Q.sz)
set_option maxRecDepth 4096 in
theorem A4.sh {Q : PQ} {q : Nat → Int32} (h_ : A4 Q q) : q 4 = nI (Q.shape - 8) := h_.1
set_option maxRecDepth 4096 in
theorem A4.sh1 {Q : PQ} {q : Nat → Int32} (h_ : A4 Q q) : 8 ≤ Q.shape := h_.2.1
set_option maxRecDepth 4096 in
theorem A4.sh2 {Q : PQ} {q : Nat → Int32} (h_ : A4 Q q) : Q.shape ≤ 10 := h_.2.2.1
set_option maxRecDepth 4096 in
theorem A4.zm {Q : PQ} {q : Nat → Int32} (h_ : A4 Q q) : q 5 = nI Q.sz := h_.2.2.2.1
set_option maxRecDepth 4096 in
theorem A4.z1 {Q : PQ} {q : Nat → Int32} (h_ : A4 Q q) : 1 ≤ Q.sz := h_.2.2.2.2.1
set_option maxRecDepth 4096 in
theorem A4.z2 {Q : PQ} {q : Nat → Int32} (h_ : A4 Q q) : Q.sz ≤ 99 := h_.2.2.2.2.2.1
set_option maxRecDepth 4096 in
theorem A4.s1 {Q : PQ} {q : Nat → Int32} (h_ : A4 Q q) : 1 ≤ Q.sl := h_.2.2.2.2.2.2.1
set_option maxRecDepth 4096 in
theorem A4.s2 {Q : PQ} {q : Nat → Int32} (h_ : A4 Q q) : Q.sl ≤ 99 := h_.2.2.2.2.2.2.2.1
set_option maxRecDepth 4096 in
theorem A4.s9 {Q : PQ} {q : Nat → Int32} (h_ : A4 Q q) : Q.shape = 9 → q 6 = nI Q.sl := h_.2.2.2.2.2.2.2.2.1
set_option maxRecDepth 4096 in
theorem A4.s8 {Q : PQ} {q : Nat → Int32} (h_ : A4 Q q) : Q.shape ≠ 9 → q 6 = 0 ∧ Q.sl = Q.sz := h_.2.2.2.2.2.2.2.2.2
abbrev A7 (Q : PQ) (q : Nat → Int32) : Prop := (q 7 = nI Q.lt) ∧ (Q.lt ≤ 99)
set_option maxRecDepth 4096 in
theorem A7.lm {Q : PQ} {q : Nat → Int32} (h_ : A7 Q q) : q 7 = nI Q.lt := h_.1
set_option maxRecDepth 4096 in
theorem A7.l2 {Q : PQ} {q : Nat → Int32} (h_ : A7 Q q) : Q.lt ≤ 99 := h_.2
abbrev A8 (Q : PQ) (q : Nat → Int32) : Prop := (q 8 = nI (Q.mode - 12)) ∧ (12 ≤ Q.mode) ∧ (Q.mode ≤ 14)
set_option maxRecDepth 4096 in
theorem A8.md {Q : PQ} {q : Nat → Int32} (h_ : A8 Q q) : q 8 = nI (Q.mode - 12) := h_.1
set_option maxRecDepth 4096 in
theorem A8.m1 {Q : PQ} {q : Nat → Int32} (h_ : A8 Q q) : 12 ≤ Q.mode := h_.2.1
set_option maxRecDepth 4096 in
theorem A8.m2 {Q : PQ} {q : Nat → Int32} (h_ : A8 Q q) : Q.mode ≤ 14 := h_.2.2
abbrev QM (Q : PQ) (q : Nat → Int32) : Prop := (A0 Q q) ∧ (A1 Q q) ∧ (A3 Q q) ∧ (A4 Q q) ∧ (A7 Q q) ∧ (A8 Q q)
set_option maxRecDepth 4096 in
theorem QM.a0 {Q : PQ} {q : Nat → Int32} (h_ : QM Q q) : A0 Q q := h_.1
set_option maxRecDepth 4096 in
theorem QM.a1 {Q : PQ} {q : Nat → Int32} (h_ : QM Q q) : A1 Q q := h_.2.1
set_option maxRecDepth 4096 in
theorem QM.a3 {Q : PQ} {q : Nat → Int32} (h_ : QM Q q) : A3 Q q := h_.2.2.1
set_option maxRecDepth 4096 in
theorem QM.a4 {Q : PQ} {q : Nat → Int32} (h_ : QM Q q) : A4 Q q := h_.2.2.2.1
set_option maxRecDepth 4096 in
theorem QM.a7 {Q : PQ} {q : Nat → Int32} (h_ : QM Q q) : A7 Q q := h_.2.2.2.2.1
set_option maxRecDepth 4096 in
theorem QM.a8 {Q : PQ} {q : Nat → Int32} (h_ : QM Q q) : A8 Q q := h_.2.2.2.2.2
def OC (n : Nat) (c : Nat → Nat) (s p : Nat) (Q : PQ) (r : Option Nat) (Q' : PQ) : Prop := ((∀ e, r = some e → e ≤ n + 8) ∧ (r = none → ∃ q, QM Q' q)) ∧ ∀ (S : CS) (Φ : Int32 → pK) (f j : Nat) x y g, RC S x y g → TP S n c → PXS S p s Q → j ≤ p → n < f + p → (∀ S' p' s' x y g, RC S' x y g → FQ S S' → PXS S' p' s' Q' → Φ (rI r) x y g) → lX3_readAll_2 Φ f x y g (nI j)
def OR (n : Nat) (c : Nat → Nat) (p : Nat) (q : Nat → Int32) (Rest : (Int32 → pJ) → pJ) (r : Option Nat) (Q' : PQ) : Prop := ∀ (M : MS) (Ψ : Int32 → pJ) x g, RM M x g → RT M n c → M.x 1 = nI p → M.g 7 = q → (∀ M' x g, RM M' x g → FM M M' → (r = none → QM Q' (M'.g 7)) → Ψ (rI r) x g) → Rest Ψ x g
set_option maxRecDepth 4096 in
theorem OC.endOk {n c s Q} (hs : s ≤ 11) (he : isEnd s) (hq : ∃ q, QM Q q) : OC n c s n Q none Q := by
  refine ⟨⟨fun e h => absurd h (by simp), fun _ => hq⟩, ?_⟩
  intro S Φ f j x y g hc t px hj hf h
  obtain ⟨f, rfl⟩ : ∃ n', f = n' + 1 := ⟨f - 1, by omega⟩
  refine c_allEnd hc t px hs hj ?_
  rw [if_pos he]
  exact h S _ _ x y g hc FQ.rfl' px
set_option maxRecDepth 4096 in
theorem OC.endNo {n c s Q} (hs : s ≤ 11) (he : ¬ isEnd s) : OC n c s n Q (some n) Q := by
  refine ⟨⟨fun e h => by injection h with h; omega, fun h => absurd h (by simp)⟩, ?_⟩
  intro S Φ f j x y g hc t px hj hf h
  obtain ⟨f, rfl⟩ : ∃ n', f = n' + 1 := ⟨f - 1, by omega⟩
  refine c_allEnd hc t px hs hj ?_
  rw [if_neg he]
  exact h S _ _ x y g hc FQ.rfl' px
set_option maxRecDepth 4096 in
theorem sg_n {n : Nat} {c : Nat → Nat} {i : Nat} (h : n ≤ i) : sg n c i = 32 := by unfold sg; rw [if_neg (by omega)]
set_option maxRecDepth 4096 in
theorem spN_head : ∀ k, k < 15 → ∃ w ws, spN k = w :: ws ∧ w ≠ 32 := by
  have h : ∀ k, k < 15 → spN k = (spN k).getD 0 0 :: (spN k).tail ∧ (spN k).getD 0 0 ≠ 32 := by decide
  exact fun k hk => ⟨_, _, h k hk⟩
set_option maxRecDepth 4096 in
theorem lcp_0 {f : Nat → Nat} {k p : Nat} (hk : k < 15) (h : f p ≠ (spN k).getD 0 0) : lcp f (spN k) p = 0 := by
  obtain ⟨w, ws, e, _⟩ := spN_head k hk
  rw [e] at h ⊢
  simp only [CS.mk_R, CS.mk_cap, CS.mk_x, CS.mk_y, CS.mk_g, CS.mk_eta, MS.mk_x, MS.mk_g, MS.mk_V, MS.mk_T, MS.mk_eta, GD.mk_n, GD.mk_rd, GD.mk_c, GD.mk_tk, GD.mk_sz, GD.mk_sl, GD.mk_lt, GD.mk_eta, PQ.mk_fold, PQ.mk_cmp, PQ.mk_lim, PQ.mk_jn, PQ.mk_shape, PQ.mk_sz, PQ.mk_sl, PQ.mk_lt, PQ.mk_mode, PQ.mk_eta, lcp]
  rw [if_neg (by simpa using h)]
set_option maxRecDepth 4096 in
theorem rw_end {n : Nat} {c : Nat → Nat} {s : Nat} : rw0 (sg n c) s n = .inr n :=
  rw_none fun k hk _ => by
    obtain ⟨w, ws, e, h⟩ := spN_head k hk
    refine lcp_0 hk ?_
    rw [sg_n (Nat.le_refl _), e]
    simpa using Ne.symm h
set_option maxRecDepth 4096 in
theorem rwF_bd {f : Nat → Nat} {s p : Nat} : ∀ (m k b : Nat), b ≤ 7 → ∀ e, rwF f s p m k b = .inr e → k + m = 15 → e ≤ p + 7 := by
  intro m
  induction m with
  | zero => intro k b hb e h _; simp only [CS.mk_R, CS.mk_cap, CS.mk_x, CS.mk_y, CS.mk_g, CS.mk_eta, MS.mk_x, MS.mk_g, MS.mk_V, MS.mk_T, MS.mk_eta, GD.mk_n, GD.mk_rd, GD.mk_c, GD.mk_tk, GD.mk_sz, GD.mk_sl, GD.mk_lt, GD.mk_eta, PQ.mk_fold, PQ.mk_cmp, PQ.mk_lim, PQ.mk_jn, PQ.mk_shape, PQ.mk_sz, PQ.mk_sl, PQ.mk_lt, PQ.mk_mode, PQ.mk_eta, rwF] at h; injection h with h; omega
  | succ m ih =>
    intro k b hb e h hkm
    simp only [CS.mk_R, CS.mk_cap, CS.mk_x, CS.mk_y, CS.mk_g, CS.mk_eta, MS.mk_x, MS.mk_g, MS.mk_V, MS.mk_T, MS.mk_eta, GD.mk_n, GD.mk_rd, GD.mk_c, GD.mk_tk, GD.mk_sz, GD.mk_sl, GD.mk_lt, GD.mk_eta, PQ.mk_fold, PQ.mk_cmp, PQ.mk_lim, PQ.mk_jn, PQ.mk_shape, PQ.mk_sz, PQ.mk_sl, PQ.mk_lt, PQ.mk_mode, PQ.mk_eta, rwF] at h
    have hl := lcp_le f (spN k) p
    have hl7 := spN_len k (by omega)
    split at h
    · split at h
      · exact absurd h (by simp)
      · exact ih _ _ (by omega) e h (by omega)
    · exact ih _ _ hb e h (by omega)
set_option maxRecDepth 4096 in
theorem OC.wordF {n c s p Q e} (hp : p ≤ n) (hs : s ≤ 11) (hns : ¬ isNum s) (he : p = n → ¬ isEnd s) (h : rw0 (sg n c) s p = .inr e) : OC n c s p Q (some e) Q := by
  rcases Nat.lt_or_ge p n with hlt | hge
  · refine ⟨⟨fun e' h' => by injection h' with h'; have := rwF_bd 15 0 0 (by omega) e h (by omega); omega, fun h => absurd h (by simp)⟩, ?_⟩
    intro S Φ f j x y g hc t px hj hf hΦ
    obtain ⟨f, rfl⟩ : ∃ n', f = n' + 1 := ⟨f - 1, by omega⟩
    refine c_allWord hc t px hlt hs hns hj (fun e' q => ?_) (fun k q => ?_)
    · rw [h] at q; injection q with q; subst q
      exact hΦ S _ _ x y g hc FQ.rfl' px
    · rw [h] at q; exact absurd q (by simp)
  · obtain rfl : p = n := by omega
    rw [rw_end] at h; injection h with h; subst h
    exact OC.endNo hs (he rfl)
set_option maxRecDepth 4096 in
theorem OC.word {n c s p Q k r Q'} (hp : p ≤ n) (hs : s ≤ 11) (hns : ¬ isNum s) (h : rw0 (sg n c) s p = .inl k) (ih : OC n c (wN k) (skip n c (p + (spN k).length)) (twQ s k Q) r Q') : OC n c s p Q r Q' := by
  rcases Nat.lt_or_ge p n with hlt | hge
  · refine ⟨ih.1, ?_⟩
    intro S Φ f j x y g hc t px hj hf hΦ
    obtain ⟨f, rfl⟩ : ∃ n', f = n' + 1 := ⟨f - 1, by omega⟩
    refine c_allWord hc t px hlt hs hns hj (fun e' q => ?_) (fun k' q hk S' x y g hS fq hpx hle => ?_)
    · rw [h] at q; exact absurd q (by simp)
    · rw [h] at q; injection q with q; subst q
      have := (spN_len k hk).1
      have hsk := (skip_le (n := n) (c := c) (p := p + (spN k).length)).1
      exact ih.2 S' Φ f (j + 1) x y g hS (t.fr fq) hpx (by omega) (by omega) fun S2 p2 s2 x y g a1 a2 a3 => hΦ S2 p2 s2 x y g a1 (fq.trans a2) a3
  · obtain rfl : p = n := by omega
    rw [rw_end] at h; exact absurd h (by simp)
set_option maxRecDepth 4096 in
theorem nmF_n2 {n : Nat} {c : Nat → Nat} {z : Bool} {a v e : Nat} (h : nmF (sg n c) z a = .inr (v, e)) : a < e ∧ e ≤ n := by
  have dig : ∀ q, 48 ≤ sg n c q → q < n := fun q hq => by
    rcases Nat.lt_or_ge q n with z | z
    · exact z
    · unfold sg at hq; rw [if_neg (by omega)] at hq; omega
  unfold nmF at h
  split at h
  · exact absurd h (by simp)
  · next hn =>
    have h1 := dig a (by omega)
    split at h
    · next h2 => have := dig (a + 1) h2.2.1; injection h with h; injection h with _ h; omega
    · injection h with h; injection h with _ h; omega
set_option maxRecDepth 4096 in
theorem nmF_end {n : Nat} {c : Nat → Nat} {z : Bool} {a : Nat} (h : n ≤ a) : nmF (sg n c) z a = .inl a := by
  unfold nmF
  rw [if_pos]
  rw [sg_n h]; omega
set_option maxRecDepth 4096 in
theorem isNum_end {s : Nat} (h : isNum s) : ¬ isEnd s := by unfold isNum isEnd at *; omega
def dgA (n : Nat) (c : Nat → Nat) (s p : Nat) : Nat := if ngF (sg n c) s p then p + 1 else p
set_option maxRecDepth 4096 in
theorem dgA_le {n c s p} : p ≤ dgA n c s p ∧ dgA n c s p ≤ p + 1 := by unfold dgA; split <;> omega
set_option maxRecDepth 4096 in
theorem dgA_end {n c s} : dgA n c s n = n := by
  unfold dgA ngF
  rw [sg_n (Nat.le_refl _)]; simp
set_option maxRecDepth 4096 in
theorem OC.numF {n c s p Q e} (hp : p ≤ n) (hs : s ≤ 11) (hns : isNum s) (h : nmF (sg n c) (zOK s) (dgA n c s p) = .inl e ∨ ∃ v, nmF (sg n c) (zOK s) (dgA n c s p) = .inr (v, e) ∧ sg n c e ≠ 32) : OC n c s p Q (some e) Q := by
  rcases Nat.lt_or_ge p n with hlt | hge
  · refine ⟨⟨fun e' h' => ?_, fun h => absurd h (by simp)⟩, ?_⟩
    · injection h' with h'
      subst h'
      rcases h with h | ⟨v, h, _⟩
      · have hd := dgA_le (n := n) (c := c) (s := s) (p := p)
        generalize dgA n c s p = a at h hd
        unfold nmF at h
        by_cases q : sg n c a < 48 ∨ 57 < sg n c a ∨ (sg n c a = 48 ∧ zOK s = false)
        · rw [if_pos q] at h; injection h with h; omega
        · rw [if_neg q] at h; split at h <;> exact absurd h (by simp)
      · have := nmF_n2 h; omega
    intro S Φ f j x y g hc t px hj hf hΦ
    obtain ⟨f, rfl⟩ : ∃ n', f = n' + 1 := ⟨f - 1, by omega⟩
    refine c_allNum hc t px hlt hs hns hj (fun e' q => ?_) (fun v' e' q hq => ?_) (fun v' e' q hq => ?_)
    · rcases h with h | ⟨v, h, _⟩
      · rw [show (if ngF (sg n c) s p then p + 1 else p) = dgA n c s p from rfl, h] at q; injection q with q; subst q
        exact hΦ S _ _ x y g hc FQ.rfl' px
      · rw [show (if ngF (sg n c) s p then p + 1 else p) = dgA n c s p from rfl, h] at q; exact absurd q (by simp)
    · rcases h with h | ⟨v, h, _⟩
      · rw [show (if ngF (sg n c) s p then p + 1 else p) = dgA n c s p from rfl, h] at q; exact absurd q (by simp)
      · rw [show (if ngF (sg n c) s p then p + 1 else p) = dgA n c s p from rfl, h] at q; injection q with q; injection q with q q2; subst q2
        exact hΦ S _ _ x y g hc FQ.rfl' px
    · rcases h with h | ⟨v, h, h2⟩
      · rw [show (if ngF (sg n c) s p then p + 1 else p) = dgA n c s p from rfl, h] at q; exact absurd q (by simp)
      · rw [show (if ngF (sg n c) s p then p + 1 else p) = dgA n c s p from rfl, h] at q; injection q with q; injection q with q q2; subst q2
        exact absurd hq h2
  · obtain rfl : p = n := by omega
    rw [dgA_end, nmF_end (Nat.le_refl _)] at h
    rcases h with h | ⟨v, h, _⟩
    · injection h with h; subst h
      exact OC.endNo hs (isNum_end hns)
    · exact absurd h (by simp)
set_option maxRecDepth 4096 in
theorem OC.num {n c s p Q v e r Q'} (hp : p ≤ n) (hs : s ≤ 11) (hns : isNum s) (h : nmF (sg n c) (zOK s) (dgA n c s p) = .inr (v, e)) (h2 : sg n c e = 32) (ih : OC n c (tnS s Q) (skip n c e) (tnQ s v (ngF (sg n c) s p) Q) r Q') : OC n c s p Q r Q' := by
  have hd := dgA_le (n := n) (c := c) (s := s) (p := p)
  have hb := nmF_n2 h
  have hsk := (skip_le (n := n) (c := c) (p := e)).1
  refine ⟨ih.1, ?_⟩
  intro S Φ f j x y g hc t px hj hf hΦ
  obtain ⟨f, rfl⟩ : ∃ n', f = n' + 1 := ⟨f - 1, by omega⟩
  refine c_allNum hc t px (by omega) hs hns hj (fun e' q => ?_) (fun v' e' q hq => ?_) (fun v' e' q hq S' x y g hS fq hpx => ?_)
  · rw [show (if ngF (sg n c) s p then p + 1 else p) = dgA n c s p from rfl, h] at q; exact absurd q (by simp)
  · rw [show (if ngF (sg n c) s p then p + 1 else p) = dgA n c s p from rfl, h] at q; injection q with q; injection q with q q2; subst q2
    exact absurd h2 hq
  · rw [show (if ngF (sg n c) s p then p + 1 else p) = dgA n c s p from rfl, h] at q; injection q with q; injection q with q q2; subst q q2
    exact ih.2 S' Φ f (j + 1) x y g hS (t.fr fq) hpx (by omega) (by omega) fun S2 p2 s2 x y g a1 a2 a3 => hΦ S2 p2 s2 x y g a1 (fq.trans a2) a3
set_option maxRecDepth 4096 in
theorem m_stop {M M' : MS} {Ψ : Int32 → pJ} {x g} {e : Nat} {Q' : PQ} (hm : RM M' x g) (fm : FM M M') (h2 : M'.x 2 = nI e) (h : ∀ M' x g, RM M' x g → FM M M' → (some e = none → QM Q' (M'.g 7)) → Ψ (rI (some e)) x g) : jX9_reads_65 Ψ x g := by
  refine ite0 ?_
  rw [hm.hx, h2, ← hm.hx]
  exact h M' x g hm fm (fun q => absurd q (by simp))
set_option maxRecDepth 4096 in
theorem lcp_n {n : Nat} {c : Nat → Nat} : ∀ (ws : List Nat) (q : Nat), lcp (sg n c) ws q = ws.length → (∀ w, w ∈ ws → w ≠ 32) → q + ws.length ≤ n ∨ ws = [] := by
  intro ws
  induction ws with
  | nil => intro q _ _; exact .inr rfl
  | cons w ws ih =>
    intro q h hw
    simp only [CS.mk_R, CS.mk_cap, CS.mk_x, CS.mk_y, CS.mk_g, CS.mk_eta, MS.mk_x, MS.mk_g, MS.mk_V, MS.mk_T, MS.mk_eta, GD.mk_n, GD.mk_rd, GD.mk_c, GD.mk_tk, GD.mk_sz, GD.mk_sl, GD.mk_lt, GD.mk_eta, PQ.mk_fold, PQ.mk_cmp, PQ.mk_lim, PQ.mk_jn, PQ.mk_shape, PQ.mk_sz, PQ.mk_sl, PQ.mk_lt, PQ.mk_mode, PQ.mk_eta, lcp, List.length_cons] at h
    by_cases e : sg n c q = w
    · rw [if_pos e] at h
      have hq : q < n := by
        rcases Nat.lt_or_ge q n with z | z
        · exact z
        · exact absurd (e.symm.trans (sg_n z)) (hw w List.mem_cons_self)
      rcases ih (q + 1) (by omega) (fun v hv => hw v (List.mem_cons_of_mem _ hv)) with z | z
      · left; simp only [CS.mk_R, CS.mk_cap, CS.mk_x, CS.mk_y, CS.mk_g, CS.mk_eta, MS.mk_x, MS.mk_g, MS.mk_V, MS.mk_T, MS.mk_eta, GD.mk_n, GD.mk_rd, GD.mk_c, GD.mk_tk, GD.mk_sz, GD.mk_sl, GD.mk_lt, GD.mk_eta, PQ.mk_fold, PQ.mk_cmp, PQ.mk_lim, PQ.mk_jn, PQ.mk_shape, PQ.mk_sz, PQ.mk_sl, PQ.mk_lt, PQ.mk_mode, PQ.mk_eta, List.length_cons]; omega
      · left; subst z; simp; omega
    · rw [if_neg e] at h; omega
set_option maxRecDepth 4096 in
theorem spN_ch : ∀ k, k < 15 → 4 ≤ k ∧ k ≤ 6 ∨ ∀ w, w ∈ spN k → 32 < w ∧ w < 127 := by decide
set_option maxRecDepth 4096 in
theorem spN_ch2 : ∀ k, k < 15 → ∀ w, w ∈ spN k → 32 < w ∧ w < 127 := by decide
set_option maxRecDepth 4096 in
theorem lcp_sp {n : Nat} {c : Nat → Nat} {k p : Nat} (hk : k < 15) (h : lcp (sg n c) (spN k) p = (spN k).length) : p + (spN k).length ≤ n ∧ p < n := by
  have := (spN_len k hk).1
  rcases lcp_n (spN k) p h (fun w hw => by have := spN_ch2 k hk w hw; omega) with z | z
  · omega
  · rw [z] at this; simp at this
set_option maxRecDepth 4096 in
theorem sg_32 {n : Nat} {c : Nat → Nat} {e : Nat} (h : sg n c e = 32) : n ≤ e ∨ (e < n ∧ c e = 32) := by
  unfold sg at h
  by_cases q : e < n
  · rw [if_pos q] at h; exact .inr ⟨q, h⟩
  · exact .inl (by omega)
set_option maxRecDepth 4096 in
theorem m_isEnd {M x g n c p} (hm : RM M x g) (t : RT M n c) (h1 : M.x 1 = nI p) (hp : p < 2 ^ 20) {Φ : Int32 → Prop} (hy : n ≤ p → Φ 1) (hno : p < n → Φ 0) : wX9_isAtEnd x g Φ := by
  unfold wX9_isAtEnd
  rw [show x 1 = nI p by rw [hm.hx]; exact h1]
  refine m_at hm t hp ⟨fun e => hy ((atv_m1 t).1 e), fun e => hno ?_⟩
  rcases Nat.lt_or_ge p n with z | z
  · exact z
  · exact absurd ((atv_m1 t).2 z) e
set_option maxRecDepth 4096 in
theorem m_eob {M x g n c e} (hm : RM M x g) (t : RT M n c) (h1 : M.x 1 = nI e) (he : e ≤ n) {F Y : pJ} (hno : sg n c e ≠ 32 → ∀ M' x g, RM M' x g → FM M M' → M'.x 2 = nI e → F x g) (hy : sg n c e = 32 → ∀ M' x g, RM M' x g → FM M M' → M'.x 1 = nI (skip n c e) → M'.g 7 = M.g 7 → Y x g) : wX9_isAtEnd x g (fun r => ((r = 0 → wX9_blanks x g (fun r x g => ((r = 0 → F x g) ∧ (¬ r = 0 → Y x g)))) ∧ (¬ r = 0 → Y x g))) := by
  have hn := t.n60
  refine m_isEnd hm t h1 (by omega) (fun q => ite1 ?_) (fun q => ite0 ?_)
  · obtain rfl : e = n := by omega
    refine hy (sg_n (Nat.le_refl _)) M x g hm FM.refl ?_ rfl
    rw [skip_stop (by omega)]; exact h1
  · refine m_blanks hm t h1 he (fun q2 M' x g a b d e7 _ => ite1 (hy (by unfold sg; rw [if_pos q2.1]; exact q2.2) M' x g a b d e7)) (fun q2 x g a => ite0 (hno ?_ _ x g a (FM.X M (by omega) (by omega) _) (by simp only [CS.mk_R, CS.mk_cap, CS.mk_x, CS.mk_y, CS.mk_g, CS.mk_eta, MS.mk_x, MS.mk_g, MS.mk_V, MS.mk_T, MS.mk_eta, GD.mk_n, GD.mk_rd, GD.mk_c, GD.mk_tk, GD.mk_sz, GD.mk_sl, GD.mk_lt, GD.mk_eta, PQ.mk_fold, PQ.mk_cmp, PQ.mk_lim, PQ.mk_jn, PQ.mk_shape, PQ.mk_sz, PQ.mk_sl, PQ.mk_lt, PQ.mk_mode, PQ.mk_eta, mX, p_ug])))
    unfold sg; rw [if_pos q]; exact fun z => q2 ⟨q, z⟩
def rW (x : Nat → Int32) (g : Nat → Nat → Int32) (k : Nat) (Φ : Int32 → pJ) : Prop := wX9_word x g (nI ((spN k).getD 0 0)) (nI ((spN k).getD 1 0)) (nI ((spN k).getD 2 0)) (nI ((spN k).getD 3 0)) (nI ((spN k).getD 4 0)) (nI ((spN k).getD 5 0)) (nI ((spN k).getD 6 0)) Φ
set_option maxRecDepth 4096 in
theorem m_rW {M x g n c p k} (hk : k < 15) (hm : RM M x g) (t : RT M n c) (h1 : M.x 1 = nI p) (hp : p ≤ 60) {Φ : Int32 → pJ} (hy : lcp (sg n c) (spN k) p = (spN k).length → ∀ M' x g, RM M' x g → FM M M' → M'.g 7 = M.g 7 → M'.x 1 = nI (p + (spN k).length) → Φ 1 x g) (hno : lcp (sg n c) (spN k) p ≠ (spN k).length → ∀ M' x g, RM M' x g → FM M M' → M'.x 2 = nI (p + lcp (sg n c) (spN k) p) → Φ 0 x g) : rW x g k Φ :=
  m_word hm t h1 hp (spN_len k hk).2 (spN_ch2 k hk) hy hno
set_option maxRecDepth 4096 in
theorem WB {n : Nat} {c : Nat → Nat} {s k0 p : Nat} {Q : PQ} {q : Nat → Int32} {F Rest : (Int32 → pJ) → pJ} (hn : n ≤ 60) (hk : k0 < 15) (hp : p ≤ n) (hs : s ≤ 11) (hns : ¬ isNum s) (he : p = n → ¬ isEnd s) (he2 : ¬ isEnd (wN k0)) (hrw : rw0 (sg n c) s p = if wFull (sg n c) p k0 then .inl k0 else .inr (p + lcp (sg n c) (spN k0) p)) (hF : ∀ Ψ x g, jX9_reads_65 Ψ x g → F Ψ x g) (ih : ∀ p', p' ≤ n → ∃ r Q', OC n c (wN k0) p' (twQ s k0 Q) r Q' ∧ OR n c p' q Rest r Q') : ∃ r Q', OC n c s p Q r Q' ∧ OR n c p q (fun Ψ x g => rW x g k0 (fun r x g => ((r = 0 → F Ψ x g) ∧ (¬ r = 0 → wX9_blanks x g (fun r x g => ((r = 0 → F Ψ x g) ∧ (¬ r = 0 → Rest Ψ x g))))))) r Q' := by
  have hl7 := spN_len k0 hk
  have hw11 := (wN_ok k0 hk).2
  by_cases hf : wFull (sg n c) p k0
  · rw [if_pos hf] at hrw
    have hle := (lcp_sp hk hf.1).1
    by_cases hlt : p + (spN k0).length < n
    · have hc32 : c (p + (spN k0).length) = 32 := by have := hf.2; unfold sg at this; rwa [if_pos hlt] at this
      obtain ⟨r, Q', a, b⟩ := ih (skip n c (p + (spN k0).length)) (skip_le.2.1 hle)
      refine ⟨r, Q', OC.word hp hs hns hrw a, ?_⟩
      intro M Ψ x g hm t h1 h7 h
      refine m_rW hk hm t h1 (by omega) (fun _ M' x g m1 m2 m3 m4 => ite1 ?_) (fun z => absurd hf.1 z)
      refine m_blanks m1 (t.fr m2) m4 hle (fun _ M'' x g e1 e2 e3 e4 _ => ite1 ?_) (fun z => absurd ⟨hlt, hc32⟩ z)
      exact b M'' Ψ x g e1 ((t.fr m2).fr e2) e3 (by rw [e4, m3, h7]) fun M3 x g f1 f2 f3 => h M3 x g f1 ((m2.trans e2).trans f2) f3
    · have e : p + (spN k0).length = n := by omega
      refine ⟨some n, _, OC.word hp hs hns hrw (by rw [e, skip_stop (by omega)]; exact OC.endNo hw11 he2), ?_⟩
      intro M Ψ x g hm t h1 h7 h
      refine m_rW hk hm t h1 (by omega) (fun _ M' x g m1 m2 m3 m4 => ite1 ?_) (fun z => absurd hf.1 z)
      refine m_blanks m1 (t.fr m2) m4 hle (fun z => absurd z.1 (by omega)) (fun _ x g e1 => ite0 (hF _ _ _ ?_))
      exact m_stop e1 (m2.trans (FM.X M' (by omega) (by omega) _)) (by simp only [CS.mk_R, CS.mk_cap, CS.mk_x, CS.mk_y, CS.mk_g, CS.mk_eta, MS.mk_x, MS.mk_g, MS.mk_V, MS.mk_T, MS.mk_eta, GD.mk_n, GD.mk_rd, GD.mk_c, GD.mk_tk, GD.mk_sz, GD.mk_sl, GD.mk_lt, GD.mk_eta, PQ.mk_fold, PQ.mk_cmp, PQ.mk_lim, PQ.mk_jn, PQ.mk_shape, PQ.mk_sz, PQ.mk_sl, PQ.mk_lt, PQ.mk_mode, PQ.mk_eta, mX, p_ug]; rw [e]) h
  · rw [if_neg hf] at hrw
    refine ⟨_, Q, OC.wordF hp hs hns he hrw, ?_⟩
    intro M Ψ x g hm t h1 h7 h
    refine m_rW hk hm t h1 (by omega) (fun z M' x g m1 m2 m3 m4 => ite1 ?_) (fun _ M' x g m1 m2 m3 => ite0 (hF _ _ _ (m_stop m1 m2 m3 h)))
    have hle := (lcp_sp hk z).1
    have hsg : sg n c (p + (spN k0).length) ≠ 32 := fun z2 => hf ⟨z, z2⟩
    refine m_blanks m1 (t.fr m2) m4 hle (fun z2 => absurd (by unfold sg; rw [if_pos z2.1]; exact z2.2) hsg) (fun _ x g e1 => ite0 (hF _ _ _ ?_))
    exact m_stop e1 (m2.trans (FM.X M' (by omega) (by omega) _)) (by simp only [CS.mk_R, CS.mk_cap, CS.mk_x, CS.mk_y, CS.mk_g, CS.mk_eta, MS.mk_x, MS.mk_g, MS.mk_V, MS.mk_T, MS.mk_eta, GD.mk_n, GD.mk_rd, GD.mk_c, GD.mk_tk, GD.mk_sz, GD.mk_sl, GD.mk_lt, GD.mk_eta, PQ.mk_fold, PQ.mk_cmp, PQ.mk_lim, PQ.mk_jn, PQ.mk_shape, PQ.mk_sz, PQ.mk_sl, PQ.mk_lt, PQ.mk_mode, PQ.mk_eta, mX, p_ug]; rw [z]) h
abbrev KM (Ψ : Int32 → pJ) : Int32 → pJ := fun r x g => ((r = 0 → jX9_reads_65 Ψ x g) ∧ (¬ r = 0 → jX9_reads_66 Ψ x g 1))
set_option maxRecDepth 4096 in
theorem m_done {M M' : MS} {Ψ : Int32 → pJ} {x g} {Q' : PQ} (hm : RM M' x g) (fm : FM M M') (hq : QM Q' (M'.g 7)) (h : ∀ M' x g, RM M' x g → FM M M' → ((none : Option Nat) = none → QM Q' (M'.g 7)) → Ψ (rI none) x g) : KM Ψ 1 x g :=
  ite1 (ite1 (h M' x g hm fm fun _ => hq))
set_option maxRecDepth 4096 in
theorem isEnd11 : isEnd 11 := .inr (.inr rfl)
set_option maxRecDepth 4096 in
theorem may11 : ∀ k, k < 15 → ¬ may 11 k := by decide
set_option maxRecDepth 4096 in
theorem mode_word {n : Nat} {c : Nat → Nat} {s k0 p : Nat} {Q : PQ} {q : Nat → Int32} (hn : n ≤ 60) (hs : s = 8 ∨ s = 10) (hk0 : 12 ≤ k0) (hk : k0 < 15) (hp : p < n) (ho : ∀ k, k < 15 → may s k → k ≠ k0 → lcp (sg n c) (spN k) p = 0) (a0 : A0 Q q) (a1 : A1 Q q) (a3 : A3 Q q) (a4 : A4 Q q) (a7 : A7 Q q) (h8 : q 8 = nI (k0 - 12)) : ∃ r Q', OC n c s p Q r Q' ∧ OR n c p q (fun Ψ x g => rW x g k0 (fun r x g => ((r = 0 → KM Ψ 0 x g) ∧ (¬ r = 0 → jX9_readsMode_120 (KM Ψ) x g)))) r Q' := by
  have hl7 := spN_len k0 hk
  have hns : ¬ isNum s := by unfold isNum; omega
  have hms : may s k0 := by
    have h8 : ∀ k, k < 15 → 12 ≤ k → may 8 k ∧ may 10 k := by decide
    rcases hs with rfl | rfl
    · exact (h8 k0 hk hk0).1
    · exact (h8 k0 hk hk0).2
  have hrw := rw_one (f := sg n c) (s := s) (p := p) hk hms ho
  have hwn : wN k0 = 11 := by
    have : ∀ k, k < 15 → 12 ≤ k → wN k = 11 := by decide
    exact this k0 hk hk0
  have htw : twQ s k0 Q = (PQ.mk Q.fold Q.cmp Q.lim Q.jn Q.shape Q.sz Q.sl Q.lt (k0)) := by
    unfold twQ; rw [if_neg (by omega), if_neg (by omega), if_neg (by omega), if_neg (by omega), if_pos hwn]
  have hQM : QM (PQ.mk Q.fold Q.cmp Q.lim Q.jn Q.shape Q.sz Q.sl Q.lt (k0)) q := ⟨⟨a0.1, a0.2⟩, ⟨a1.c0, a1.c1, a1.c2, a1.lim⟩, ⟨a3.1, a3.2⟩, ⟨a4.sh, a4.sh1, a4.sh2, a4.zm, a4.z1, a4.z2, a4.s1, a4.s2, a4.s9, a4.s8⟩, ⟨a7.1, a7.2⟩, ⟨h8, hk0, by show k0 ≤ 14; omega⟩⟩
  by_cases hf : wFull (sg n c) p k0
  · rw [if_pos hf] at hrw
    have hle := (lcp_sp hk hf.1).1
    have hsk := skip_le (n := n) (c := c) (p := p + (spN k0).length)
    have hsk2 := hsk.2.1 hle
    by_cases hend : skip n c (p + (spN k0).length) = n
    · refine ⟨none, (PQ.mk Q.fold Q.cmp Q.lim Q.jn Q.shape Q.sz Q.sl Q.lt (k0)), OC.word (by omega) (by omega) hns hrw (by rw [hend, hwn, htw]; exact OC.endOk (by omega) isEnd11 ⟨q, hQM⟩), ?_⟩
      intro M Ψ x g hm t h1 h7 h
      refine m_rW hk hm t h1 (by omega) (fun _ M' x g m1 m2 m3 m4 => ite1 ?_) (fun z => absurd hf.1 z)
      unfold jX9_readsMode_120
      refine m_isEnd m1 (t.fr m2) m4 (by omega) (fun q1 => ite1 (m_done m1 m2 (by rw [m3, h7]; exact hQM) h)) (fun q1 => ite0 ?_)
      have hc32 : c (p + (spN k0).length) = 32 := by have := hf.2; unfold sg at this; rwa [if_pos q1] at this
      refine m_blanks m1 (t.fr m2) m4 hle (fun _ M'' x g e1 e2 e3 e4 _ => ite1 ?_) (fun z => absurd ⟨q1, hc32⟩ z)
      refine m_isEnd e1 ((t.fr m2).fr e2) e3 (by omega) (fun q1 => ite1 (m_done e1 (m2.trans e2) (by rw [e4, m3, h7]; exact hQM) h)) (fun q1 => absurd q1 (by omega))
    · refine ⟨some (skip n c (p + (spN k0).length)), _, OC.word (by omega) (by omega) hns hrw (OC.wordF hsk2 (by omega) (by rw [hwn]; unfold isNum; omega) (fun z => absurd z hend) (rw_none fun k hk hm => absurd hm (by rw [hwn]; exact may11 k hk))), ?_⟩
      intro M Ψ x g hm t h1 h7 h
      refine m_rW hk hm t h1 (by omega) (fun _ M' x g m1 m2 m3 m4 => ite1 ?_) (fun z => absurd hf.1 z)
      unfold jX9_readsMode_120
      refine m_isEnd m1 (t.fr m2) m4 (by omega) (fun q1 => absurd (skip_stop (n := n) (c := c) (p := p + (spN k0).length) (by omega)) (by omega)) (fun q1 => ite0 ?_)
      have hc32 : c (p + (spN k0).length) = 32 := by have := hf.2; unfold sg at this; rwa [if_pos q1] at this
      refine m_blanks m1 (t.fr m2) m4 hle (fun _ M'' x g e1 e2 e3 e4 _ => ite1 ?_) (fun z => absurd ⟨q1, hc32⟩ z)
      refine m_isEnd e1 ((t.fr m2).fr e2) e3 (by omega) (fun q1 => absurd q1 (by omega)) (fun q1 => ite0 (m_fails e1 e3 fun x g f => ite0 ?_))
      exact m_stop f ((m2.trans e2).trans (FM.X M'' (by omega) (by omega) _)) (by simp only [CS.mk_R, CS.mk_cap, CS.mk_x, CS.mk_y, CS.mk_g, CS.mk_eta, MS.mk_x, MS.mk_g, MS.mk_V, MS.mk_T, MS.mk_eta, GD.mk_n, GD.mk_rd, GD.mk_c, GD.mk_tk, GD.mk_sz, GD.mk_sl, GD.mk_lt, GD.mk_eta, PQ.mk_fold, PQ.mk_cmp, PQ.mk_lim, PQ.mk_jn, PQ.mk_shape, PQ.mk_sz, PQ.mk_sl, PQ.mk_lt, PQ.mk_mode, PQ.mk_eta, mX, p_ug]) h
  · rw [if_neg hf] at hrw
    refine ⟨_, Q, OC.wordF (by omega) (by omega) hns (fun z => absurd z (by omega)) hrw, ?_⟩
    intro M Ψ x g hm t h1 h7 h
    refine m_rW hk hm t h1 (by omega) (fun z M' x g m1 m2 m3 m4 => ite1 ?_) (fun _ M' x g m1 m2 m3 => ite0 (ite0 (m_stop m1 m2 m3 h)))
    have hle := (lcp_sp hk z).1
    have hsg : sg n c (p + (spN k0).length) ≠ 32 := fun z2 => hf ⟨z, z2⟩
    have hlt : p + (spN k0).length < n := by
      rcases Nat.lt_or_ge (p + (spN k0).length) n with q1 | q1
      · exact q1
      · exact absurd (sg_n q1) hsg
    unfold jX9_readsMode_120
    refine m_isEnd m1 (t.fr m2) m4 (by omega) (fun q1 => absurd q1 (by omega)) (fun q1 => ite0 ?_)
    refine m_blanks m1 (t.fr m2) m4 hle (fun z2 => absurd (by unfold sg; rw [if_pos z2.1]; exact z2.2) hsg) (fun _ x g e1 => ite0 (m_fails e1 (by simp only [CS.mk_R, CS.mk_cap, CS.mk_x, CS.mk_y, CS.mk_g, CS.mk_eta, MS.mk_x, MS.mk_g, MS.mk_V, MS.mk_T, MS.mk_eta, GD.mk_n, GD.mk_rd, GD.mk_c, GD.mk_tk, GD.mk_sz, GD.mk_sl, GD.mk_lt, GD.mk_eta, PQ.mk_fold, PQ.mk_cmp, PQ.mk_lim, PQ.mk_jn, PQ.mk_shape, PQ.mk_sz, PQ.mk_sl, PQ.mk_lt, PQ.mk_mode, PQ.mk_eta, mX]; rw [p_un _ _ (by omega)]; exact m4) fun x g f => ite0 ?_))
    exact m_stop f ((m2.trans (FM.X M' (by omega) (by omega) _)).trans (FM.X _ (by omega) (by omega) _)) (by simp only [CS.mk_R, CS.mk_cap, CS.mk_x, CS.mk_y, CS.mk_g, CS.mk_eta, MS.mk_x, MS.mk_g, MS.mk_V, MS.mk_T, MS.mk_eta, GD.mk_n, GD.mk_rd, GD.mk_c, GD.mk_tk, GD.mk_sz, GD.mk_sl, GD.mk_lt, GD.mk_eta, PQ.mk_fold, PQ.mk_cmp, PQ.mk_lim, PQ.mk_jn, PQ.mk_shape, PQ.mk_sz, PQ.mk_sl, PQ.mk_lt, PQ.mk_mode, PQ.mk_eta, mX, p_ug]; rw [z]) h
set_option maxRecDepth 4096 in
theorem A0.up {Q q i v} (h : A0 Q q) (hi : i ≠ 0) : A0 Q (upd q i v) := ⟨by rw [upd, if_neg (Ne.symm hi)]; exact h.f0, h.f2⟩
set_option maxRecDepth 4096 in
theorem A1.up {Q q i v} (h : A1 Q q) (h1 : i ≠ 1) (h2 : i ≠ 2) : A1 Q (upd q i v) := ⟨by rw [upd, if_neg (Ne.symm h1)]; exact h.c0, h.c1, h.c2, by rw [upd, if_neg (Ne.symm h2)]; exact h.lim⟩
set_option maxRecDepth 4096 in
theorem A3.up {Q q i v} (h : A3 Q q) (h1 : i ≠ 3) : A3 Q (upd q i v) := ⟨by rw [upd, if_neg (Ne.symm h1)]; exact h.jn, h.jb⟩
set_option maxRecDepth 4096 in
theorem A4.up {Q q i v} (h : A4 Q q) (h1 : i ≠ 4) (h2 : i ≠ 5) (h3 : i ≠ 6) : A4 Q (upd q i v) := ⟨by rw [upd, if_neg (Ne.symm h1)]; exact h.sh, h.sh1, h.sh2, by rw [upd, if_neg (Ne.symm h2)]; exact h.zm, h.z1, h.z2, h.s1, h.s2, by rw [upd, if_neg (Ne.symm h3)]; exact h.s9, by rw [upd, if_neg (Ne.symm h3)]; exact h.s8⟩
set_option maxRecDepth 4096 in
theorem A7.up {Q q i v} (h : A7 Q q) (h1 : i ≠ 7) : A7 Q (upd q i v) := ⟨by rw [upd, if_neg (Ne.symm h1)]; exact h.lm, h.l2⟩
set_option maxRecDepth 4096 in
theorem m_atE {M x g n c p} (hm : RM M x g) (t : RT M n c) (h1 : M.x 1 = nI p) (hp : p < 2 ^ 20) {Φ : Int32 → Prop} (h : Φ (atv n c p)) : wX9_at x g (x 1) Φ := by
  rw [show x 1 = nI p by rw [hm.hx]; exact h1]
  exact m_at hm t hp h
set_option maxRecDepth 4096 in
theorem B_mode {n : Nat} {c : Nat → Nat} {s p : Nat} {Q : PQ} {q : Nat → Int32} (hn : n ≤ 60) (hs : s = 8 ∧ sg n c p ≠ 108 ∨ s = 10) (hp : p ≤ n) (a0 : A0 Q q) (a1 : A1 Q q) (a3 : A3 Q q) (a4 : A4 Q q) (a7 : A7 Q q) (d8 : Q.mode = 12) : ∃ r Q', OC n c s p Q r Q' ∧ OR n c p q (fun Ψ x g => wX9_readsMode x g (KM Ψ)) r Q' := by
  have hs2 : s = 8 ∨ s = 10 := by rcases hs with h | h; exact .inl h.1; exact .inr h
  by_cases he : p = n
  · subst he
    have hQ : QM Q (upd q 8 0) := ⟨a0.up (by omega), a1.up (by omega) (by omega), a3.up (by omega), a4.up (by omega) (by omega) (by omega), a7.up (by omega), ⟨by rw [upd, if_pos rfl, d8]; rfl, by omega, by omega⟩⟩
    refine ⟨none, Q, OC.endOk (by omega) (by unfold isEnd; omega) ⟨_, hQ⟩, ?_⟩
    intro M Ψ x g hm t h1 h7 h
    unfold wX9_readsMode
    have hsn := sg_n (n := p) (c := c) (Nat.le_refl _)
    refine m_atE hm t h1 (by omega) ⟨fun e => absurd ((atv_eq t (w := 100) (by omega) (by omega)).1 e) (by omega), fun _ => ⟨fun e => absurd ((atv_eq t (w := 98) (by omega) (by omega)).1 e) (by omega), fun _ => ?_⟩⟩
    unfold jX9_readsMode_36
    refine ⟨p_v9 (by decide), ?_⟩
    have hm2 := hm.G (k := 7) (i := 8) (v := 0) (by omega) (by omega)
    refine m_isEnd (M := mG M 7 8 0) hm2 (t.fr (FM.Q M 8 0)) h1 (by omega) (fun _ => ite1 (m_done hm2 (FM.Q M 8 0) ?_ h)) (fun z => absurd z (by omega))
    have e7 : (mG M 7 8 0).g 7 = upd q 8 0 := by simp only [CS.mk_R, CS.mk_cap, CS.mk_x, CS.mk_y, CS.mk_g, CS.mk_eta, MS.mk_x, MS.mk_g, MS.mk_V, MS.mk_T, MS.mk_eta, GD.mk_n, GD.mk_rd, GD.mk_c, GD.mk_tk, GD.mk_sz, GD.mk_sl, GD.mk_lt, GD.mk_eta, PQ.mk_fold, PQ.mk_cmp, PQ.mk_lim, PQ.mk_jn, PQ.mk_shape, PQ.mk_sz, PQ.mk_sl, PQ.mk_lt, PQ.mk_mode, PQ.mk_eta, mG, p_ug]; rw [h7]
    rw [e7]
    exact ⟨a0.up (by omega), a1.up (by omega) (by omega), a3.up (by omega), a4.up (by omega) (by omega) (by omega), a7.up (by omega), ⟨by rw [upd, if_pos rfl, d8]; rfl, by omega, by omega⟩⟩
  · have go : ∀ k0 v, 12 ≤ k0 → k0 < 15 → v = nI (k0 - 12) → (∀ k, k < 15 → may s k → k ≠ k0 → lcp (sg n c) (spN k) p = 0) → ∃ r Q', OC n c s p Q r Q' ∧ ∀ (M : MS) (Ψ : Int32 → pJ) x g, RM M x g → RT M n c → M.x 1 = nI p → M.g 7 = q → (∀ M' x g, RM M' x g → FM M M' → (r = none → QM Q' (M'.g 7)) → Ψ (rI r) x g) → ∀ Z : Prop, (rW x (va_up g 7 (upd (g 7) 8 v)) k0 (fun r x g => ((r = 0 → KM Ψ 0 x g) ∧ (¬ r = 0 → jX9_readsMode_120 (KM Ψ) x g))) → Z) → vp_in (8 : Int32) 9 ∧ (wX9_isAtEnd x (va_up g 7 (upd (g 7) 8 v)) (fun r_38 => ((r_38 = 0 → Z) ∧ (¬ r_38 = 0 → (KM Ψ 1 x (va_up g 7 (upd (g 7) 8 v))))))) := by
      intro k0 v hk0 hk hv ho
      obtain ⟨r, Q', a, b⟩ := mode_word (q := upd q 8 v) hn hs2 hk0 hk (by omega) ho (a0.up (by omega)) (a1.up (by omega) (by omega)) (a3.up (by omega)) (a4.up (by omega) (by omega) (by omega)) (a7.up (by omega)) (by rw [upd, if_pos rfl]; exact hv)
      refine ⟨r, Q', a, fun M Ψ x g hm t h1 h7 h Z hZ => ⟨p_v9 (by decide), ?_⟩⟩
      have hm2 := hm.G (k := 7) (i := 8) (v := v) (by omega) (by omega)
      refine m_isEnd (M := mG M 7 8 v) hm2 (t.fr (FM.Q M 8 v)) h1 (by omega) (fun z => absurd z (by omega)) (fun z => ite0 (hZ ?_))
      exact b (mG M 7 8 v) Ψ _ _ hm2 (t.fr (FM.Q M 8 v)) h1 (by simp only [CS.mk_R, CS.mk_cap, CS.mk_x, CS.mk_y, CS.mk_g, CS.mk_eta, MS.mk_x, MS.mk_g, MS.mk_V, MS.mk_T, MS.mk_eta, GD.mk_n, GD.mk_rd, GD.mk_c, GD.mk_tk, GD.mk_sz, GD.mk_sl, GD.mk_lt, GD.mk_eta, PQ.mk_fold, PQ.mk_cmp, PQ.mk_lim, PQ.mk_jn, PQ.mk_shape, PQ.mk_sz, PQ.mk_sl, PQ.mk_lt, PQ.mk_mode, PQ.mk_eta, mG, p_ug]; rw [h7]) fun M' x g e1 e2 e3 => h M' x g e1 ((FM.Q M 8 v).trans e2) e3
    have hmay : ∀ k, k < 15 → may s k → k = 11 ∧ s = 8 ∨ k = 12 ∨ k = 13 ∨ k = 14 := by
      have z1 : ∀ k, k < 15 → may 8 k → k = 11 ∨ k = 12 ∨ k = 13 ∨ k = 14 := by decide
      have z2 : ∀ k, k < 15 → may 10 k → k = 12 ∨ k = 13 ∨ k = 14 := by decide
      intro k hk h
      rcases hs2 with rfl | rfl
      · rcases z1 k hk h with z | z
        · exact .inl ⟨z, rfl⟩
        · exact .inr z
      · exact .inr (z2 k hk h)
    have l11 : s = 8 → lcp (sg n c) (spN 11) p = 0 := fun e => lcp_0 (by omega) (by
      show sg n c p ≠ 108
      rcases hs with z | z
      · exact z.2
      · omega)
    have l12 : sg n c p ≠ 97 → lcp (sg n c) (spN 12) p = 0 := fun e => lcp_0 (by omega) e
    have l13 : sg n c p ≠ 100 → lcp (sg n c) (spN 13) p = 0 := fun e => lcp_0 (by omega) e
    have l14 : sg n c p ≠ 98 → lcp (sg n c) (spN 14) p = 0 := fun e => lcp_0 (by omega) e
    by_cases f1 : sg n c p = 100
    · obtain ⟨r, Q', a, b⟩ := go 13 1 (by omega) (by omega) rfl (fun k hk hm hne => by
        rcases hmay k hk hm with ⟨rfl, z⟩ | rfl | rfl | rfl
        · exact l11 z
        · exact l12 (by omega)
        · exact absurd rfl hne
        · exact l14 (by omega))
      refine ⟨r, Q', a, fun M Ψ x g hm t h1 h7 h => ?_⟩
      have z := (atv_eq t (w := 100) (by omega) (by omega)).2 f1
      unfold wX9_readsMode
      refine m_atE hm t h1 (by omega) ⟨fun _ => ?_, fun e => absurd z e⟩
      exact b M Ψ x g hm t h1 h7 h _ (fun z' => ⟨fun _ => z', fun e => absurd z e⟩)
    · by_cases f2 : sg n c p = 98
      · obtain ⟨r, Q', a, b⟩ := go 14 2 (by omega) (by omega) rfl (fun k hk hm hne => by
          rcases hmay k hk hm with ⟨rfl, z⟩ | rfl | rfl | rfl
          · exact l11 z
          · exact l12 (by omega)
          · exact l13 (by omega)
          · exact absurd rfl hne)
        refine ⟨r, Q', a, fun M Ψ x g hm t h1 h7 h => ?_⟩
        have z := (atv_eq t (w := 98) (by omega) (by omega)).2 f2
        have z1 : ¬ atv n c p = 100 := fun e => f1 ((atv_eq t (w := 100) (by omega) (by omega)).1 e)
        unfold wX9_readsMode
        refine m_atE hm t h1 (by omega) ⟨fun e => absurd e z1, fun _ => ⟨fun _ => ?_, fun e => absurd z e⟩⟩
        exact b M Ψ x g hm t h1 h7 h _ (fun z' => ⟨fun e => absurd e z1, fun _ => ⟨fun _ => z', fun e => absurd z e⟩⟩)
      · obtain ⟨r, Q', a, b⟩ := go 12 0 (by omega) (by omega) rfl (fun k hk hm hne => by
          rcases hmay k hk hm with ⟨rfl, z⟩ | rfl | rfl | rfl
          · exact l11 z
          · exact absurd rfl hne
          · exact l13 (by omega)
          · exact l14 (by omega))
        refine ⟨r, Q', a, fun M Ψ x g hm t h1 h7 h => ?_⟩
        have z1 : ¬ atv n c p = 100 := fun e => f1 ((atv_eq t (w := 100) (by omega) (by omega)).1 e)
        have z2 : ¬ atv n c p = 98 := fun e => f2 ((atv_eq t (w := 98) (by omega) (by omega)).1 e)
        unfold wX9_readsMode
        refine m_atE hm t h1 (by omega) ⟨fun e => absurd e z1, fun _ => ⟨fun e => absurd e z2, fun _ => ?_⟩⟩
        exact b M Ψ x g hm t h1 h7 h _ (fun z' => ⟨fun e => absurd e z1, fun _ => ⟨fun e => absurd e z2, fun _ => z'⟩⟩)
abbrev KLm (Ψ : Int32 → pJ) : Int32 → pJ := fun r x g => ((r = 0 → jX9_reads_65 Ψ x g) ∧ (¬ r = 0 → wX9_readsMode x g (KM Ψ)))
set_option maxRecDepth 4096 in
theorem num_cases {n : Nat} {c : Nat → Nat} {zb : Bool} {a : Nat} : (∃ e, nmF (sg n c) zb a = .inl e) ∨ (∃ v e, nmF (sg n c) zb a = .inr (v, e)) := by
  cases h : nmF (sg n c) zb a with
  | inl e => exact .inl ⟨e, rfl⟩
  | inr r => exact .inr ⟨r.1, r.2, rfl⟩
set_option maxRecDepth 4096 in
theorem dgA_3 {n c s p} (h : s ≠ 3) : dgA n c s p = p ∧ ngF (sg n c) s p = false := by
  have : ngF (sg n c) s p = false := by unfold ngF; simp [CS.mk_R, CS.mk_cap, CS.mk_x, CS.mk_y, CS.mk_g, CS.mk_eta, MS.mk_x, MS.mk_g, MS.mk_V, MS.mk_T, MS.mk_eta, GD.mk_n, GD.mk_rd, GD.mk_c, GD.mk_tk, GD.mk_sz, GD.mk_sl, GD.mk_lt, GD.mk_eta, PQ.mk_fold, PQ.mk_cmp, PQ.mk_lim, PQ.mk_jn, PQ.mk_shape, PQ.mk_sz, PQ.mk_sl, PQ.mk_lt, PQ.mk_mode, PQ.mk_eta, h]
  exact ⟨by unfold dgA; rw [this]; rfl, this⟩
set_option maxRecDepth 4096 in
theorem B_late9 {n : Nat} {c : Nat → Nat} {p : Nat} {Q : PQ} {q : Nat → Int32} (hn : n ≤ 60) (hp : p ≤ n) (a0 : A0 Q q) (a1 : A1 Q q) (a3 : A3 Q q) (a4 : A4 Q q) (d8 : Q.mode = 12) : ∃ r Q', OC n c 9 p Q r Q' ∧ OR n c p q (fun Ψ x g => wX9_number x g 1 (fun r_50 x_50 g_50 => ((r_50 = 0 → (KLm Ψ 0 x_50 g_50)) ∧ (¬ r_50 = 0 → (vp_in (7 : Int32) 9 ∧ (wX9_isAtEnd x_50 (va_up g_50 7 (upd (g_50 7) (7 : Int32).toNatClampNeg (x_50 3))) (fun r_70 => ((r_70 = 0 → (wX9_blanks x_50 (va_up g_50 7 (upd (g_50 7) (7 : Int32).toNatClampNeg (x_50 3))) (fun r_77 x_77 g_77 => ((r_77 = 0 → (KLm Ψ 0 x_77 g_77)) ∧ (¬ r_77 = 0 → (KLm Ψ 1 x_77 g_77)))))) ∧ (¬ r_70 = 0 → (KLm Ψ 1 x_50 (va_up g_50 7 (upd (g_50 7) (7 : Int32).toNatClampNeg (x_50 3))))))))))))) r Q' := by
  obtain ⟨hd, hng⟩ := dgA_3 (n := n) (c := c) (s := 9) (p := p) (by omega)
  have h9 : isNum 9 := .inr (.inr (.inr rfl))
  have z9 : zOK 9 = true := rfl
  rcases num_cases (n := n) (c := c) (zb := true) (a := p) with ⟨e, hnm⟩ | ⟨v, e, hnm⟩
  · refine ⟨some e, Q, OC.numF hp (by omega) h9 (.inl (by rw [hd, z9]; exact hnm)), ?_⟩
    intro M Ψ x g hm t h1 h7 h
    refine m_number (zb := true) rfl hm t h1 (by omega) (fun e' he M' x g m1 m2 m3 => ite0 (ite0 ?_)) (fun v' e' he => absurd (hnm.symm.trans he) (by simp))
    obtain rfl : e = e' := by rw [hnm] at he; injection he
    exact m_stop m1 m2 m3 h
  · have hb := nmF_n2 hnm
    have hv := nmF_b hnm
    by_cases he : sg n c e = 32
    · obtain ⟨r, Q', a, b⟩ := B_mode (n := n) (c := c) (s := 10) (p := skip n c e) (Q := (PQ.mk Q.fold Q.cmp Q.lim Q.jn Q.shape Q.sz Q.sl (v) Q.mode)) (q := upd q 7 (nI v)) hn (.inr rfl) (skip_le.2.1 hb.2) ⟨(a0.up (i := 7) (by omega)).1, a0.2⟩ ⟨(a1.up (i := 7) (by omega) (by omega)).c0, a1.c1, a1.c2, (a1.up (i := 7) (by omega) (by omega)).lim⟩ ⟨(a3.up (i := 7) (by omega)).1, a3.2⟩ (by have := a4.up (i := 7) (v := nI v) (by omega) (by omega) (by omega); exact ⟨this.sh, this.sh1, this.sh2, this.zm, this.z1, this.z2, this.s1, this.s2, this.s9, this.s8⟩) ⟨by rw [upd, if_pos rfl], by show v ≤ 99; omega⟩ d8
      refine ⟨r, Q', OC.num (v := v) (e := e) hp (by omega) h9 (by rw [hd, z9]; exact hnm) he ?_, ?_⟩
      · rw [show tnS 9 Q = 10 from rfl, hng, show tnQ 9 v false Q = (PQ.mk Q.fold Q.cmp Q.lim Q.jn Q.shape Q.sz Q.sl (v) Q.mode) from rfl]; exact a
      · intro M Ψ x g hm t h1 h7 h
        refine m_number (zb := true) rfl hm t h1 (by omega) (fun e' he' => absurd (hnm.symm.trans he') (by simp)) (fun v' e' he' M' x g m1 m2 m3 m4 m5 => ite1 ⟨p_v9 (by decide), ?_⟩)
        rw [hnm] at he'; injection he' with he'; injection he' with z1 z2; subst z1 z2
        rw [show x 3 = nI v by rw [m1.hx]; exact m4]
        have m1b := m1.G (k := 7) (i := 7) (v := nI v) (by omega) (by omega)
        refine m_eob (M := mG M' 7 7 (nI v)) m1b ((t.fr m2).fr (FM.Q M' 7 _)) m5 hb.2 (F := KLm Ψ 0) (Y := KLm Ψ 1) (fun z => absurd he z) (fun _ M'' x g e1 e2 e3 e4 => ite1 ?_)
        exact b M'' Ψ x g e1 (((t.fr m2).fr (FM.Q M' 7 _)).fr e2) e3 (by rw [e4]; simp only [CS.mk_R, CS.mk_cap, CS.mk_x, CS.mk_y, CS.mk_g, CS.mk_eta, MS.mk_x, MS.mk_g, MS.mk_V, MS.mk_T, MS.mk_eta, GD.mk_n, GD.mk_rd, GD.mk_c, GD.mk_tk, GD.mk_sz, GD.mk_sl, GD.mk_lt, GD.mk_eta, PQ.mk_fold, PQ.mk_cmp, PQ.mk_lim, PQ.mk_jn, PQ.mk_shape, PQ.mk_sz, PQ.mk_sl, PQ.mk_lt, PQ.mk_mode, PQ.mk_eta, mG, p_ug]; rw [m3, h7]) fun M3 x g f1 f2 f3 => h M3 x g f1 (((m2.trans (FM.Q M' 7 _)).trans e2).trans f2) f3
    · refine ⟨some e, Q, OC.numF hp (by omega) h9 (.inr ⟨v, by rw [hd, z9]; exact hnm, he⟩), ?_⟩
      intro M Ψ x g hm t h1 h7 h
      refine m_number (zb := true) rfl hm t h1 (by omega) (fun e' he' => absurd (hnm.symm.trans he') (by simp)) (fun v' e' he' M' x g m1 m2 m3 m4 m5 => ite1 ⟨p_v9 (by decide), ?_⟩)
      rw [hnm] at he'; injection he' with he'; injection he' with z1 z2; subst z1 z2
      rw [show x 3 = nI v by rw [m1.hx]; exact m4]
      have m1b := m1.G (k := 7) (i := 7) (v := nI v) (by omega) (by omega)
      refine m_eob (M := mG M' 7 7 (nI v)) m1b ((t.fr m2).fr (FM.Q M' 7 _)) m5 hb.2 (F := KLm Ψ 0) (Y := KLm Ψ 1) (fun _ M'' x g e1 e2 e3 => ite0 ?_) (fun z => absurd z he)
      exact m_stop e1 ((m2.trans (FM.Q M' 7 _)).trans e2) e3 h
set_option maxRecDepth 4096 in
theorem may8x : ∀ k, k < 15 → may 8 k → k = 11 ∨ k = 12 ∨ k = 13 ∨ k = 14 := by decide
set_option maxRecDepth 4096 in
theorem B8 {n : Nat} {c : Nat → Nat} {p : Nat} {Q : PQ} {q : Nat → Int32} (hn : n ≤ 60) (hp : p ≤ n) (a0 : A0 Q q) (a1 : A1 Q q) (a3 : A3 Q q) (a4 : A4 Q q) (d7 : Q.lt = 0) (d8 : Q.mode = 12) : ∃ r Q', OC n c 8 p Q r Q' ∧ OR n c p q (fun Ψ x g => jX9_reads_47 Ψ x g) r Q' := by
  by_cases hl : sg n c p = 108
  · have h8n : ¬ isNum 8 := by unfold isNum; omega
    have hlt : p ≠ n := fun e => by rw [e, sg_n (Nat.le_refl _)] at hl; omega
    obtain ⟨r, Q', a, b⟩ := WB (n := n) (c := c) (s := 8) (k0 := 11) (p := p) (Q := Q) (q := upd q 7 0) (F := fun Ψ => KLm Ψ 0) hn (by omega) hp (by omega) h8n (fun e => absurd e hlt) (by decide) (rw_one (by omega) (by decide) (fun k hk hm hne => by
      rcases may8x k hk hm with rfl | rfl | rfl | rfl
      · exact absurd rfl hne
      · exact lcp_0 (by omega) (by rw [hl]; decide)
      · exact lcp_0 (by omega) (by rw [hl]; decide)
      · exact lcp_0 (by omega) (by rw [hl]; decide))) (fun Ψ x g h => ite0 h) (fun p' hp' => by
        rw [show wN 11 = 9 from rfl, show twQ 8 11 Q = Q from rfl]
        exact B_late9 hn hp' (a0.up (by omega)) (a1.up (by omega) (by omega)) (a3.up (by omega)) (a4.up (by omega) (by omega) (by omega)) d8)
    refine ⟨r, Q', a, fun M Ψ x g hm t h1 h7 h => ?_⟩
    have z := (atv_eq t (w := 108) (by omega) (by omega)).2 hl
    unfold jX9_reads_47 wX9_readsLate
    have hm2 := hm.G (k := 7) (i := 7) (v := 0) (by omega) (by omega)
    refine ⟨p_v9 (by decide), m_atE (M := mG M 7 7 0) hm2 (t.fr (FM.Q M 7 0)) h1 (by omega) ⟨fun _ => ?_, fun e => absurd z e⟩⟩
    exact b (mG M 7 7 0) Ψ _ _ hm2 (t.fr (FM.Q M 7 0)) h1 (by simp only [CS.mk_R, CS.mk_cap, CS.mk_x, CS.mk_y, CS.mk_g, CS.mk_eta, MS.mk_x, MS.mk_g, MS.mk_V, MS.mk_T, MS.mk_eta, GD.mk_n, GD.mk_rd, GD.mk_c, GD.mk_tk, GD.mk_sz, GD.mk_sl, GD.mk_lt, GD.mk_eta, PQ.mk_fold, PQ.mk_cmp, PQ.mk_lim, PQ.mk_jn, PQ.mk_shape, PQ.mk_sz, PQ.mk_sl, PQ.mk_lt, PQ.mk_mode, PQ.mk_eta, mG, p_ug]; rw [h7]) fun M' x g e1 e2 e3 => h M' x g e1 ((FM.Q M 7 0).trans e2) e3
  · obtain ⟨r, Q', a, b⟩ := B_mode (n := n) (c := c) (s := 8) (p := p) (Q := Q) (q := upd q 7 0) hn (.inl ⟨rfl, hl⟩) hp (a0.up (by omega)) (a1.up (by omega) (by omega)) (a3.up (by omega)) (a4.up (by omega) (by omega) (by omega)) ⟨by rw [upd, if_pos rfl, d7]; rfl, by omega⟩ d8
    refine ⟨r, Q', a, fun M Ψ x g hm t h1 h7 h => ?_⟩
    have z : ¬ atv n c p = 108 := fun e => hl ((atv_eq t (w := 108) (by omega) (by omega)).1 e)
    unfold jX9_reads_47 wX9_readsLate
    have hm2 := hm.G (k := 7) (i := 7) (v := 0) (by omega) (by omega)
    refine ⟨p_v9 (by decide), m_atE (M := mG M 7 7 0) hm2 (t.fr (FM.Q M 7 0)) h1 (by omega) ⟨fun e => absurd e z, fun _ => ite1 ?_⟩⟩
    exact b (mG M 7 7 0) Ψ _ _ hm2 (t.fr (FM.Q M 7 0)) h1 (by simp only [CS.mk_R, CS.mk_cap, CS.mk_x, CS.mk_y, CS.mk_g, CS.mk_eta, MS.mk_x, MS.mk_g, MS.mk_V, MS.mk_T, MS.mk_eta, GD.mk_n, GD.mk_rd, GD.mk_c, GD.mk_tk, GD.mk_sz, GD.mk_sl, GD.mk_lt, GD.mk_eta, PQ.mk_fold, PQ.mk_cmp, PQ.mk_lim, PQ.mk_jn, PQ.mk_shape, PQ.mk_sz, PQ.mk_sl, PQ.mk_lt, PQ.mk_mode, PQ.mk_eta, mG, p_ug]; rw [h7]) fun M' x g e1 e2 e3 => h M' x g e1 ((FM.Q M 7 0).trans e2) e3
