/-! ===== the law's begins ===== -/
theorem begins9 {x y g} {qf cf : Nat → Int32} {v1 v2 : Int32} {bc bs : Nat} {Φ : pL} : ∀ (m f k : Nat) (wf : Nat → Int32), k + m = 7 → m < f → (∀ j, j < k → wf j = qf j) → (∀ wf', (∀ j, j < 7 → wf' j = qf j) → lL_begins_9 Φ 1 x y g qf cf wf' v1 v2 (nI 7) bc bs) → lL_begins_9 Φ f x y g qf cf wf v1 v2 (nI k) bc bs := by
  intro m
  induction m with
  | zero =>
    intro f k wf hk hf hw h
    obtain ⟨f, rfl⟩ : ∃ f', f = f' + 1 := ⟨f - 1, by omega⟩
    have e : k = 7 := by omega
    subst e
    have := h wf hw
    simp only [lL_begins_9] at this ⊢
    exact ify (by decide) (this.1 (by decide))
  | succ m ih =>
    intro f k wf hk hf hw h
    obtain ⟨f, rfl⟩ : ∃ f', f = f' + 1 := ⟨f - 1, by omega⟩
    simp only [lL_begins_9]
    have hin : vp_in (nI k) 7 := vp_in_nI (by omega) (by omega)
    refine ifn (nI_ge (b := 7) (by omega) (by omega)) ⟨hin, hin, ?_⟩
    rintro _ rfl _ rfl
    rw [nI_1, p_cl (by omega)]
    refine ih f (k + 1) _ (by omega) (by omega) (fun j hj => ?_) h
    unfold upd
    by_cases e : j = k
    · rw [if_pos e, e]
    · rw [if_neg e]; exact hw j (by omega)
theorem begins169 {x y g} {cf wf : Nat → Int32} {v6 v10 v11 : Int32} {bc bs : Nat} {Φ : pL} : ∀ (m f k : Nat) (qf : Nat → Int32), k + m = 7 → m < f → (∀ j, j < k → qf j = wf j) → (∀ qf', (∀ j, j < 7 → qf' j = wf j) → lL_begins_169 Φ 1 x y g qf' cf wf v6 v10 v11 (nI 7) bc bs) → lL_begins_169 Φ f x y g qf cf wf v6 v10 v11 (nI k) bc bs := by
  intro m
  induction m with
  | zero =>
    intro f k wf hk hf hw h
    obtain ⟨f, rfl⟩ : ∃ f', f = f' + 1 := ⟨f - 1, by omega⟩
    have e : k = 7 := by omega
    subst e
    have := h _ hw
    simp only [lL_begins_169] at this ⊢
    exact ify (by decide) (this.1 (by decide))
  | succ m ih =>
    intro f k qf hk hf hw h
    obtain ⟨f, rfl⟩ : ∃ f', f = f' + 1 := ⟨f - 1, by omega⟩
    simp only [lL_begins_169]
    have hin : vp_in (nI k) 7 := vp_in_nI (by omega) (by omega)
    refine ifn (nI_ge (b := 7) (by omega) (by omega)) ⟨hin, hin, ?_⟩
    rintro _ rfl _ rfl
    rw [nI_1, p_cl (by omega)]
    refine ih f (k + 1) _ (by omega) (by omega) (fun j hj => ?_) h
    unfold upd
    by_cases e : j = k
    · rw [if_pos e, e]
    · rw [if_neg e]; exact hw j (by omega)
theorem NEWR.sm {S0 S S' : CS} (h : NEWR S0 S) (sm : SM S S') : NEWR S0 S' := by
  obtain ⟨eR, ec, ex, ey, eg⟩ := sm
  intro j h1 h2
  rw [eR] at h2 ⊢
  rw [ey 6 0 (by omega), ex 2 0 (by omega)]
  exact h j h1 h2
theorem TJ.win {S0 M0 d l x y g} (h : TJ S0 M0 d l x y g) : x 1 5 = nI (S0.R 5).length := by
  obtain ⟨S, M, hc, hr, t, sm, m5⟩ := h
  rw [hc.len (by omega), sm.1]
theorem TJ.of {k W V S M d x y g qf cf bc bs} (h : LI k W V S M d x y g qf cf bc bs) : TJ S M d [] x y g := by
  obtain ⟨hc, hr, hC, hb, hP, hT0, hL, hI⟩ := h
  obtain ⟨n, t⟩ := hr.tx
  have e : n = 0 := nI_inj (b := 0) (by have := t.n60; omega) (by omega) (t.s19.symm.trans hT0)
  subst e
  exact ⟨S, M, hc, hr, ⟨t, fun i hi => absurd hi (Nat.not_lt_zero i)⟩, SM.rfl', rfl⟩
/-- the text is wiped: the invariant -/
theorem LI.wiped {k W V S M d x y g qf cf bc bs x' y' g'} (h : LI k W V S M d x y g qf cf bc bs) (q : TJ S M d [] x' y' g') {qf' : Nat → Int32} (hq : ∀ j, j < 6 → qf' j = qf j) {W' V' b2 s2 : Nat} (hB : BG28 S W' V' b2 s2) : ∃ S' M', SM S S' ∧ LI k W' V' S' M' d x' y' g' qf' cf b2 s2 := by
  obtain ⟨S', M', hc, hr, t, sm, m5⟩ := q
  exact ⟨S', M', sm, (h.calm hc hr sm m5 t.1.s19 hB hq).1⟩
abbrev Qf28 (X Y : Nat) : PQ := PM (X % 3) (cmN (fX28 X)) (lmN (fX28 X)) (jnN (jX28 X)) (shX Y) (szX Y) (slN (shX Y) (szX Y) (slX Y)) (ltN (lateO Y)) (mdN (Y / 12960 % 4))
theorem Qf28_rd (X Y : Nat) : RD (text28 X Y) 0 (text28 X Y) Q00 (Qf28 X Y) ∧ (∃ q, QM (Qf28 X Y) q) ∧ (Qf28 X Y).sz ≤ 12 ∧ (Qf28 X Y).sl ≤ 12 := by
  have hz : szX Y < 13 ∧ 0 < szX Y := by have := Nat.mod_lt (Y / 3) (show 12 > 0 by omega); unfold szX; omega
  have hy : slX Y < 7 ∧ 0 < slX Y := by have := Nat.mod_lt (Y / 36) (show 6 > 0 by omega); unfold slX; omega
  have h3 : X % 3 < 3 := Nat.mod_lt _ (by omega)
  have h3' : Y % 3 < 3 := Nat.mod_lt _ (by omega)
  have hm : Y / 12960 % 4 < 4 := Nat.mod_lt _ (by omega)
  have hL : ltN (lateO Y) < 100 := by rw [lateO_v]; have := lateV_lt Y; omega
  have hs : 8 ≤ shX Y ∧ shX Y ≤ 10 := by unfold shX; omega
  have hV := VQ.of (a := X % 3) (F := fX28 X) (J := jX28 X) (sh := shX Y) (z := szX Y) (y := slX Y) (L := lateO Y) (m := Y / 12960 % 4) (by omega) (fX28_ok X) hs (by omega) (by omega) (by omega) hL
  refine ⟨R_A (by omega) (fX28_ok X) hs (by omega) (by omega) (by omega) hL hV, hV.qm, by show szX Y ≤ 12; omega, ?_⟩
  show slN (shX Y) (szX Y) (slX Y) ≤ 12
  unfold slN
  split <;> omega
theorem Qf28_q {X Y : Nat} {qf : Nat → Int32} (e0 : qf 0 = nI (X % 3)) (h : QF X Y qf) : QFq (Qf28 X Y) qf := by
  obtain ⟨e1, e2, e3, e4, e5⟩ := h
  refine ⟨e0, ?_, e2, fun e => ?_, fun e => ?_, ?_, ?_⟩
  · show qf 1 = nI (shX Y - 8)
    rw [e1]; congr 1; unfold shX; omega
  · have e : shX Y = 9 := e
    show qf 3 = nI (slN (shX Y) (szX Y) (slX Y))
    unfold slN
    rw [e3, if_pos e, if_pos e]
  · have e : shX Y ≠ 9 := e
    rw [e3, if_neg e]
  · show qf 4 = nI (ltN (lateO Y))
    rw [lateO_v]; exact e4
  · show (mdN (Y / 12960 % 4) = 12 ∧ _) ∨ (mdN (Y / 12960 % 4) ≠ 12 ∧ _)
    have hm : Y / 12960 % 4 < 4 := Nat.mod_lt _ (by omega)
    rw [e5]
    generalize Y / 12960 % 4 = m at hm
    have : m = 0 ∨ m = 1 ∨ m = 2 ∨ m = 3 := by omega
    rcases this with rfl | rfl | rfl | rfl
    · exact .inl ⟨rfl, .inl rfl⟩
    · exact .inl ⟨rfl, .inr rfl⟩
    · exact .inr ⟨by decide, .inl rfl⟩
    · exact .inr ⟨by decide, .inr rfl⟩
theorem Qf28_fit (X Y : Nat) : Fit (Qf28 X Y) ↔ fitX Y = true := by
  show (shX Y = 9 → szX Y % slN (shX Y) (szX Y) (slX Y) = 0 ∧ szX Y ≤ 4 * slN (shX Y) (szX Y) (slX Y)) ↔ _
  unfold fitX slN
  by_cases e : shX Y = 9
  · rw [if_pos e, if_pos e, decide_eq_true_eq]
    exact ⟨fun h => h e, fun h _ => h⟩
  · rw [if_neg e, if_neg e]
    exact ⟨fun _ => rfl, fun _ h => absurd h e⟩
theorem text28_pos (X Y : Nat) : 0 < (text28 X Y).length := by
  unfold text28 qTx
  rw [List.length_append, List.length_cons]
  omega
theorem text28_len {S M d x y g X Y} (h : TJ S M d (text28 X Y) x y g) : (text28 X Y).length ≤ 60 := by
  obtain ⟨S', M', hc, hr, t, sm, m5⟩ := h
  exact t.1.n60
