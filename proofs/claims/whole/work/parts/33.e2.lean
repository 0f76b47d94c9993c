abbrev KWin (Ψ : Int32 → pJ) : Int32 → pJ := fun r_27 x_27 g_27 => ((r_27 = 0 → (jX9_reads_65 Ψ x_27 g_27)) ∧ (¬ r_27 = 0 → (wX9_isAtEnd x_27 g_27 (fun r_34 => ((r_34 = 0 → (wX9_blanks x_27 g_27 (fun r_41 x_41 g_41 => ((r_41 = 0 → (jX9_reads_65 Ψ x_41 g_41)) ∧ (¬ r_41 = 0 → (jX9_reads_47 Ψ x_41 g_41)))))) ∧ (¬ r_34 = 0 → (jX9_reads_47 Ψ x_27 g_27)))))))
abbrev Rest7 (Ψ : Int32 → pJ) : pJ := fun x_210 g_210 => (wX9_number x_210 g_210 0 (fun r_218 x_218 g_218 => ((r_218 = 0 → (KWin Ψ 0 x_218 g_218)) ∧ (¬ r_218 = 0 → (vp_in (6 : Int32) 9 ∧ (KWin Ψ 1 x_218 (va_up g_218 7 (upd (g_218 7) (6 : Int32).toNatClampNeg (x_218 3)))))))))
abbrev Rest6 (Ψ : Int32 → pJ) : pJ := fun x_173 g_173 => (wX9_number x_173 g_173 0 (fun r_181 x_181 g_181 => ((r_181 = 0 → (KWin Ψ 0 x_181 g_181)) ∧ (¬ r_181 = 0 → (vp_in (5 : Int32) 9 ∧ (vp_in (4 : Int32) 9 ∧ ((((upd (g_181 7) (5 : Int32).toNatClampNeg (x_181 3)) (4 : Int32).toNatClampNeg) = 1 → (wX9_blanks x_181 (va_up g_181 7 (upd (g_181 7) (5 : Int32).toNatClampNeg (x_181 3))) (fun r_210 x_210 g_210 => ((r_210 = 0 → (KWin Ψ 0 x_210 g_210)) ∧ (¬ r_210 = 0 → Rest7 Ψ x_210 g_210))))) ∧ (¬ ((upd (g_181 7) (5 : Int32).toNatClampNeg (x_181 3)) (4 : Int32).toNatClampNeg) = 1 → (KWin Ψ 1 x_181 (va_up g_181 7 (upd (g_181 7) (5 : Int32).toNatClampNeg (x_181 3))))))))))))
set_option maxRecDepth 4096 in
theorem A0.q {Q Q' q} (h : A0 Q q) (e : Q'.fold = Q.fold) : A0 Q' q := ⟨by rw [e]; exact h.1, by rw [e]; exact h.2⟩
set_option maxRecDepth 4096 in
theorem A1.q {Q Q' q} (h : A1 Q q) (e : Q'.cmp = Q.cmp) (e2 : Q'.lim = Q.lim) : A1 Q' q := ⟨by rw [e]; exact h.c0, by rw [e]; exact h.c1, by rw [e]; exact h.c2, by rw [e2]; exact h.lim⟩
set_option maxRecDepth 4096 in
theorem A3.q {Q Q' q} (h : A3 Q q) (e : Q'.jn = Q.jn) : A3 Q' q := ⟨by rw [e]; exact h.1, by rw [e]; exact h.2⟩
set_option maxRecDepth 4096 in
theorem B7 {n : Nat} {c : Nat → Nat} {p : Nat} {Q : PQ} {q : Nat → Int32} (hn : n ≤ 60) (hp : p ≤ n) (a0 : A0 Q q) (a1 : A1 Q q) (a3 : A3 Q q) (hsh : Q.shape = 9) (h4 : q 4 = 1) (h5 : q 5 = nI Q.sz) (z1 : 1 ≤ Q.sz) (z2 : Q.sz ≤ 99) (d7 : Q.lt = 0) (d8 : Q.mode = 12) : ∃ r Q', OC n c 7 p Q r Q' ∧ OR n c p q Rest7 r Q' := by
  obtain ⟨hd, hng⟩ := dgA_3 (n := n) (c := c) (s := 7) (p := p) (by omega)
  have h9 : isNum 7 := .inr (.inr (.inl rfl))
  have z9 : zOK 7 = false := rfl
  rcases num_cases (n := n) (c := c) (zb := false) (a := p) with ⟨e, hnm⟩ | ⟨v, e, hnm⟩
  · refine ⟨some e, Q, OC.numF hp (by omega) h9 (.inl (by rw [hd, z9]; exact hnm)), ?_⟩
    intro M Ψ x g hm t h1 h7 h
    refine m_number (zb := false) rfl hm t h1 (by omega) (fun e' he M' x g m1 m2 m3 => ite0 (ite0 ?_)) (fun v' e' he => absurd (hnm.symm.trans he) (by simp))
    obtain rfl : e = e' := by rw [hnm] at he; injection he
    exact m_stop m1 m2 m3 h
  · have hb := nmF_n2 hnm
    have hv := nmF_b hnm
    have hv1 := hv.2.2.2 rfl
    by_cases he : sg n c e = 32
    · obtain ⟨r, Q', a, b⟩ := B8 (n := n) (c := c) (p := skip n c e) (Q := (PQ.mk Q.fold Q.cmp Q.lim Q.jn Q.shape Q.sz (v) Q.lt Q.mode)) (q := upd q 6 (nI v)) hn (skip_le.2.1 hb.2) ((a0.up (by omega)).q rfl) ((a1.up (by omega) (by omega)).q rfl rfl) ((a3.up (by omega)).q rfl) ⟨by rw [upd, if_neg (by omega), h4]; show (1 : Int32) = nI (Q.shape - 8); rw [hsh]; rfl, by show 8 ≤ Q.shape; omega, by show Q.shape ≤ 10; omega, by rw [upd, if_neg (by omega), h5], z1, z2, hv1, by show v ≤ 99; omega, fun _ => by rw [upd, if_pos rfl], fun z => absurd hsh z⟩ d7 d8
      refine ⟨r, Q', OC.num (v := v) (e := e) hp (by omega) h9 (by rw [hd, z9]; exact hnm) he ?_, ?_⟩
      · rw [show tnS 7 Q = 8 from rfl, hng, show tnQ 7 v false Q = (PQ.mk Q.fold Q.cmp Q.lim Q.jn Q.shape Q.sz (v) Q.lt Q.mode) from rfl]; exact a
      · intro M Ψ x g hm t h1 h7 h
        refine m_number (zb := false) rfl hm t h1 (by omega) (fun e' he' => absurd (hnm.symm.trans he') (by simp)) (fun v' e' he' M' x g m1 m2 m3 m4 m5 => ite1 ⟨p_v9 (by decide), ite1 ?_⟩)
        rw [hnm] at he'; injection he' with he'; injection he' with y1 y2; subst y1 y2
        rw [show x 3 = nI v by rw [m1.hx]; exact m4]
        have m1b := m1.G (k := 7) (i := 6) (v := nI v) (by omega) (by omega)
        refine m_eob (M := mG M' 7 6 (nI v)) m1b ((t.fr m2).fr (FM.Q M' 6 _)) m5 hb.2 (F := jX9_reads_65 Ψ) (Y := jX9_reads_47 Ψ) (fun z => absurd he z) (fun _ M'' x g e1 e2 e3 e4 => ?_)
        exact b M'' Ψ x g e1 (((t.fr m2).fr (FM.Q M' 6 _)).fr e2) e3 (by rw [e4]; simp only [CS.mk_R, CS.mk_cap, CS.mk_x, CS.mk_y, CS.mk_g, CS.mk_eta, MS.mk_x, MS.mk_g, MS.mk_V, MS.mk_T, MS.mk_eta, GD.mk_n, GD.mk_rd, GD.mk_c, GD.mk_tk, GD.mk_sz, GD.mk_sl, GD.mk_lt, GD.mk_eta, PQ.mk_fold, PQ.mk_cmp, PQ.mk_lim, PQ.mk_jn, PQ.mk_shape, PQ.mk_sz, PQ.mk_sl, PQ.mk_lt, PQ.mk_mode, PQ.mk_eta, mG, p_ug]; rw [m3, h7]) fun M3 x g f1 f2 f3 => h M3 x g f1 (((m2.trans (FM.Q M' 6 _)).trans e2).trans f2) f3
    · refine ⟨some e, Q, OC.numF hp (by omega) h9 (.inr ⟨v, by rw [hd, z9]; exact hnm, he⟩), ?_⟩
      intro M Ψ x g hm t h1 h7 h
      refine m_number (zb := false) rfl hm t h1 (by omega) (fun e' he' => absurd (hnm.symm.trans he') (by simp)) (fun v' e' he' M' x g m1 m2 m3 m4 m5 => ite1 ⟨p_v9 (by decide), ite1 ?_⟩)
      rw [hnm] at he'; injection he' with he'; injection he' with y1 y2; subst y1 y2
      rw [show x 3 = nI v by rw [m1.hx]; exact m4]
      have m1b := m1.G (k := 7) (i := 6) (v := nI v) (by omega) (by omega)
      refine m_eob (M := mG M' 7 6 (nI v)) m1b ((t.fr m2).fr (FM.Q M' 6 _)) m5 hb.2 (F := jX9_reads_65 Ψ) (Y := jX9_reads_47 Ψ) (fun _ M'' x g e1 e2 e3 => ?_) (fun z => absurd z he)
      exact m_stop e1 ((m2.trans (FM.Q M' 6 _)).trans e2) e3 h
set_option maxRecDepth 4096 in
theorem B6 {n : Nat} {c : Nat → Nat} {p : Nat} {Q : PQ} {q : Nat → Int32} (hn : n ≤ 60) (hp : p ≤ n) (a0 : A0 Q q) (a1 : A1 Q q) (a3 : A3 Q q) (h4 : q 4 = nI (Q.shape - 8)) (s1 : 8 ≤ Q.shape) (s2 : Q.shape ≤ 10) (h6 : q 6 = 0) (d7 : Q.lt = 0) (d8 : Q.mode = 12) : ∃ r Q', OC n c 6 p Q r Q' ∧ OR n c p q Rest6 r Q' := by
  obtain ⟨hd, hng⟩ := dgA_3 (n := n) (c := c) (s := 6) (p := p) (by omega)
  have h9 : isNum 6 := .inr (.inl rfl)
  have z9 : zOK 6 = false := rfl
  have hq4 : ∀ v, upd q 5 v 4 = 1 ↔ Q.shape = 9 := fun v => by
    rw [upd, if_neg (by omega), h4]
    have := nI_eq (a := Q.shape - 8) (b := 1) (by omega) (by omega)
    exact this.trans (by omega)
  rcases num_cases (n := n) (c := c) (zb := false) (a := p) with ⟨e, hnm⟩ | ⟨v, e, hnm⟩
  · refine ⟨some e, Q, OC.numF hp (by omega) h9 (.inl (by rw [hd, z9]; exact hnm)), ?_⟩
    intro M Ψ x g hm t h1 h7 h
    refine m_number (zb := false) rfl hm t h1 (by omega) (fun e' he M' x g m1 m2 m3 => ite0 (ite0 ?_)) (fun v' e' he => absurd (hnm.symm.trans he) (by simp))
    obtain rfl : e = e' := by rw [hnm] at he; injection he
    exact m_stop m1 m2 m3 h
  · have hb := nmF_n2 hnm
    have hv := nmF_b hnm
    have hv1 := hv.2.2.2 rfl
    have htq : tnQ 6 v (ngF (sg n c) 6 p) Q = (PQ.mk Q.fold Q.cmp Q.lim Q.jn Q.shape (v) (v) Q.lt Q.mode) := rfl
    by_cases hsh : Q.shape = 9
    · have hts : tnS 6 Q = 7 := by unfold tnS; rw [if_neg (by omega), if_neg (by omega), if_neg (by omega), if_pos hsh]
      by_cases he : sg n c e = 32 ∧ e < n
      · obtain ⟨r, Q', a, b⟩ := B7 (n := n) (c := c) (p := skip n c e) (Q := (PQ.mk Q.fold Q.cmp Q.lim Q.jn Q.shape (v) (v) Q.lt Q.mode)) (q := upd q 5 (nI v)) hn (skip_le.2.1 hb.2) ((a0.up (by omega)).q rfl) ((a1.up (by omega) (by omega)).q rfl rfl) ((a3.up (by omega)).q rfl) hsh ((hq4 _).2 hsh) (by rw [upd, if_pos rfl]) hv1 (by show v ≤ 99; omega) d7 d8
        have hc32 : c e = 32 := by have := he.1; unfold sg at this; rwa [if_pos he.2] at this
        refine ⟨r, Q', OC.num (v := v) (e := e) hp (by omega) h9 (by rw [hd, z9]; exact hnm) he.1 ?_, ?_⟩
        · rw [hts, htq]; exact a
        · intro M Ψ x g hm t h1 h7 h
          refine m_number (zb := false) rfl hm t h1 (by omega) (fun e' he' => absurd (hnm.symm.trans he') (by simp)) (fun v' e' he' M' x g m1 m2 m3 m4 m5 => ite1 ⟨p_v9 (by decide), p_v9 (by decide), ?_⟩)
          rw [hnm] at he'; injection he' with he'; injection he' with y1 y2; subst y1 y2
          rw [show x 3 = nI v by rw [m1.hx]; exact m4]
          have g7 : g 7 = q := by rw [m1.W 7 (by omega) (by omega), m3, h7]
          have m1b := m1.G (k := 7) (i := 5) (v := nI v) (by omega) (by omega)
          refine ⟨fun _ => ?_, fun z => absurd (by rw [g7]; exact (hq4 _).2 hsh) z⟩
          refine m_blanks (M := mG M' 7 5 (nI v)) m1b ((t.fr m2).fr (FM.Q M' 5 _)) m5 hb.2 (fun _ M'' x g e1 e2 e3 e4 _ => ite1 ?_) (fun z => absurd ⟨he.2, hc32⟩ z)
          exact b M'' Ψ x g e1 (((t.fr m2).fr (FM.Q M' 5 _)).fr e2) e3 (by rw [e4]; simp only [CS.mk_R, CS.mk_cap, CS.mk_x, CS.mk_y, CS.mk_g, CS.mk_eta, MS.mk_x, MS.mk_g, MS.mk_V, MS.mk_T, MS.mk_eta, GD.mk_n, GD.mk_rd, GD.mk_c, GD.mk_tk, GD.mk_sz, GD.mk_sl, GD.mk_lt, GD.mk_eta, PQ.mk_fold, PQ.mk_cmp, PQ.mk_lim, PQ.mk_jn, PQ.mk_shape, PQ.mk_sz, PQ.mk_sl, PQ.mk_lt, PQ.mk_mode, PQ.mk_eta, mG, p_ug]; rw [m3, h7]) fun M3 x g f1 f2 f3 => h M3 x g f1 (((m2.trans (FM.Q M' 5 _)).trans e2).trans f2) f3
      · have hcl : ∃ Q', OC n c 6 p Q (some e) Q' := by
          by_cases h32 : sg n c e = 32
          · have : e = n := by omega
            subst this
            exact ⟨_, OC.num (v := v) (e := e) hp (by omega) h9 (by rw [hd, z9]; exact hnm) h32 (by rw [hts, skip_stop (by omega)]; exact OC.endNo (by omega) (by decide))⟩
          · exact ⟨Q, OC.numF hp (by omega) h9 (.inr ⟨v, by rw [hd, z9]; exact hnm, h32⟩)⟩
        obtain ⟨Q', a⟩ := hcl
        refine ⟨some e, Q', a, ?_⟩
        intro M Ψ x g hm t h1 h7 h
        refine m_number (zb := false) rfl hm t h1 (by omega) (fun e' he' => absurd (hnm.symm.trans he') (by simp)) (fun v' e' he' M' x g m1 m2 m3 m4 m5 => ite1 ⟨p_v9 (by decide), p_v9 (by decide), ?_⟩)
        rw [hnm] at he'; injection he' with he'; injection he' with y1 y2; subst y1 y2
        rw [show x 3 = nI v by rw [m1.hx]; exact m4]
        have g7 : g 7 = q := by rw [m1.W 7 (by omega) (by omega), m3, h7]
        have m1b := m1.G (k := 7) (i := 5) (v := nI v) (by omega) (by omega)
        refine ⟨fun _ => ?_, fun z => absurd (by rw [g7]; exact (hq4 _).2 hsh) z⟩
        refine m_blanks (M := mG M' 7 5 (nI v)) m1b ((t.fr m2).fr (FM.Q M' 5 _)) m5 hb.2 (fun z => absurd ⟨by unfold sg; rw [if_pos z.1]; exact z.2, z.1⟩ he) (fun _ x g e1 => ite0 (ite0 ?_))
        exact m_stop e1 ((m2.trans (FM.Q M' 5 _)).trans (FM.X _ (by omega) (by omega) _)) (by simp only [CS.mk_R, CS.mk_cap, CS.mk_x, CS.mk_y, CS.mk_g, CS.mk_eta, MS.mk_x, MS.mk_g, MS.mk_V, MS.mk_T, MS.mk_eta, GD.mk_n, GD.mk_rd, GD.mk_c, GD.mk_tk, GD.mk_sz, GD.mk_sl, GD.mk_lt, GD.mk_eta, PQ.mk_fold, PQ.mk_cmp, PQ.mk_lim, PQ.mk_jn, PQ.mk_shape, PQ.mk_sz, PQ.mk_sl, PQ.mk_lt, PQ.mk_mode, PQ.mk_eta, mX, p_ug]) h
    · have hts : tnS 6 Q = 8 := by unfold tnS; rw [if_neg (by omega), if_neg (by omega), if_neg (by omega), if_neg hsh]
      by_cases he : sg n c e = 32
      · obtain ⟨r, Q', a, b⟩ := B8 (n := n) (c := c) (p := skip n c e) (Q := (PQ.mk Q.fold Q.cmp Q.lim Q.jn Q.shape (v) (v) Q.lt Q.mode)) (q := upd q 5 (nI v)) hn (skip_le.2.1 hb.2) ((a0.up (by omega)).q rfl) ((a1.up (by omega) (by omega)).q rfl rfl) ((a3.up (by omega)).q rfl) ⟨by rw [upd, if_neg (by omega), h4], s1, s2, by rw [upd, if_pos rfl], hv1, by show v ≤ 99; omega, hv1, by show v ≤ 99; omega, fun z => absurd z hsh, fun _ => ⟨by rw [upd, if_neg (by omega)]; exact h6, rfl⟩⟩ d7 d8
        refine ⟨r, Q', OC.num (v := v) (e := e) hp (by omega) h9 (by rw [hd, z9]; exact hnm) he ?_, ?_⟩
        · rw [hts, htq]; exact a
        · intro M Ψ x g hm t h1 h7 h
          refine m_number (zb := false) rfl hm t h1 (by omega) (fun e' he' => absurd (hnm.symm.trans he') (by simp)) (fun v' e' he' M' x g m1 m2 m3 m4 m5 => ite1 ⟨p_v9 (by decide), p_v9 (by decide), ?_⟩)
          rw [hnm] at he'; injection he' with he'; injection he' with y1 y2; subst y1 y2
          rw [show x 3 = nI v by rw [m1.hx]; exact m4]
          have g7 : g 7 = q := by rw [m1.W 7 (by omega) (by omega), m3, h7]
          have m1b := m1.G (k := 7) (i := 5) (v := nI v) (by omega) (by omega)
          refine ⟨fun z => absurd ((hq4 _).1 (by rw [g7] at z; exact z)) hsh, fun _ => ite1 ?_⟩
          refine m_eob (M := mG M' 7 5 (nI v)) m1b ((t.fr m2).fr (FM.Q M' 5 _)) m5 hb.2 (F := jX9_reads_65 Ψ) (Y := jX9_reads_47 Ψ) (fun z => absurd he z) (fun _ M'' x g e1 e2 e3 e4 => ?_)
          exact b M'' Ψ x g e1 (((t.fr m2).fr (FM.Q M' 5 _)).fr e2) e3 (by rw [e4]; simp only [CS.mk_R, CS.mk_cap, CS.mk_x, CS.mk_y, CS.mk_g, CS.mk_eta, MS.mk_x, MS.mk_g, MS.mk_V, MS.mk_T, MS.mk_eta, GD.mk_n, GD.mk_rd, GD.mk_c, GD.mk_tk, GD.mk_sz, GD.mk_sl, GD.mk_lt, GD.mk_eta, PQ.mk_fold, PQ.mk_cmp, PQ.mk_lim, PQ.mk_jn, PQ.mk_shape, PQ.mk_sz, PQ.mk_sl, PQ.mk_lt, PQ.mk_mode, PQ.mk_eta, mG, p_ug]; rw [m3, h7]) fun M3 x g f1 f2 f3 => h M3 x g f1 (((m2.trans (FM.Q M' 5 _)).trans e2).trans f2) f3
      · refine ⟨some e, Q, OC.numF hp (by omega) h9 (.inr ⟨v, by rw [hd, z9]; exact hnm, he⟩), ?_⟩
        intro M Ψ x g hm t h1 h7 h
        refine m_number (zb := false) rfl hm t h1 (by omega) (fun e' he' => absurd (hnm.symm.trans he') (by simp)) (fun v' e' he' M' x g m1 m2 m3 m4 m5 => ite1 ⟨p_v9 (by decide), p_v9 (by decide), ?_⟩)
        rw [hnm] at he'; injection he' with he'; injection he' with y1 y2; subst y1 y2
        rw [show x 3 = nI v by rw [m1.hx]; exact m4]
        have g7 : g 7 = q := by rw [m1.W 7 (by omega) (by omega), m3, h7]
        have m1b := m1.G (k := 7) (i := 5) (v := nI v) (by omega) (by omega)
        refine ⟨fun z => absurd ((hq4 _).1 (by rw [g7] at z; exact z)) hsh, fun _ => ite1 ?_⟩
        refine m_eob (M := mG M' 7 5 (nI v)) m1b ((t.fr m2).fr (FM.Q M' 5 _)) m5 hb.2 (F := jX9_reads_65 Ψ) (Y := jX9_reads_47 Ψ) (fun _ M'' x g e1 e2 e3 => ?_) (fun z => absurd z he)
        exact m_stop e1 ((m2.trans (FM.Q M' 5 _)).trans e2) e3 h
abbrev Rest5 (Ψ : Int32 → pJ) : pJ := fun x g => wX9_readsWindows x g (KWin Ψ)
def DW (Q : PQ) : Prop := Q.shape = 8 ∧ Q.sz = 1 ∧ Q.sl = 1 ∧ Q.lt = 0 ∧ Q.mode = 12
def S5 (n : Nat) (c : Nat → Nat) (s p : Nat) : Prop := s = 5 ∨ s = 4 ∧ sg n c p ≠ 106 ∨ s = 1 ∧ sg n c p ≠ 105 ∧ sg n c p ≠ 106
set_option maxRecDepth 4096 in
theorem S5.may_ {n c s p} (h : S5 n c s p) : ∀ k, k < 15 → may s k → (k = 8 ∨ k = 9 ∨ k = 10) ∨ lcp (sg n c) (spN k) p = 0 := by
  have z1 : ∀ k, k < 15 → may 1 k → k = 3 ∨ k = 7 ∨ k = 8 ∨ k = 9 ∨ k = 10 := by decide
  have z4 : ∀ k, k < 15 → may 4 k → k = 7 ∨ k = 8 ∨ k = 9 ∨ k = 10 := by decide
  have z5 : ∀ k, k < 15 → may 5 k → k = 8 ∨ k = 9 ∨ k = 10 := by decide
  intro k hk hm
  rcases h with rfl | ⟨rfl, h⟩ | ⟨rfl, h, h'⟩
  · exact .inl (z5 k hk hm)
  · rcases z4 k hk hm with rfl | h2
    · exact .inr (lcp_0 (by omega) h)
    · exact .inl h2
  · rcases z1 k hk hm with rfl | rfl | h2
    · exact .inr (lcp_0 (by omega) h)
    · exact .inr (lcp_0 (by omega) h')
    · exact .inl h2
set_option maxRecDepth 4096 in
theorem may_w : ∀ s, s < 12 → (s = 5 ∨ s = 4 ∨ s = 1) → may s 8 ∧ may s 9 ∧ may s 10 := by decide
set_option maxRecDepth 4096 in
theorem tw_w {s k : Nat} {Q : PQ} (hs : s = 5 ∨ s = 4 ∨ s = 1) (hk : k = 8 ∨ k = 9 ∨ k = 10) : twQ s k Q = (PQ.mk Q.fold Q.cmp Q.lim Q.jn (k) Q.sz Q.sl Q.lt Q.mode) ∧ wN k = 6 := by
  have : wN k = 6 := by rcases hk with rfl | rfl | rfl <;> rfl
  exact ⟨by unfold twQ; rw [if_neg (by omega), if_neg (by omega), if_neg (by omega), if_pos this], this⟩
set_option maxRecDepth 4096 in
theorem lcp_sl {f : Nat → Nat} {p : Nat} : lcp f (spN 9) p = if f p = 115 then (if f (p + 1) = 108 then lcp f [105, 100, 105, 110, 103] (p + 1 + 1) + 1 else 0) + 1 else 0 := rfl
set_option maxRecDepth 4096 in
theorem lcp_se {f : Nat → Nat} {p : Nat} : lcp f (spN 10) p = if f p = 115 then (if f (p + 1) = 101 then lcp f [115, 115, 105, 111, 110] (p + 1 + 1) + 1 else 0) + 1 else 0 := rfl
set_option maxRecDepth 4096 in
theorem B5 {n : Nat} {c : Nat → Nat} {s p : Nat} {Q : PQ} {q : Nat → Int32} (hn : n ≤ 60) (hs5 : S5 n c s p) (hp : p ≤ n) (a0 : A0 Q q) (a1 : A1 Q q) (a3 : A3 Q q) (d : DW Q) : ∃ r Q', OC n c s p Q r Q' ∧ OR n c p q Rest5 r Q' := by
  have hs : s = 5 ∨ s = 4 ∨ s = 1 := by
    rcases hs5 with h | h | h
    · exact .inl h
    · exact .inr (.inl h.1)
    · exact .inr (.inr h.1)
  obtain ⟨d1, d2, d3, d7, d8⟩ := d
  obtain ⟨my8, my9, my10⟩ := may_w s (by omega) hs
  have hns : ¬ isNum s := by unfold isNum; omega
  have hne : ¬ isEnd s := by unfold isEnd; omega
  have go : ∀ k0 : Nat, (k0 = 8 ∨ k0 = 9 ∨ k0 = 10) → (rw0 (sg n c) s p = if wFull (sg n c) p k0 then .inl k0 else .inr (p + lcp (sg n c) (spN k0) p)) → ∃ r Q', OC n c s p Q r Q' ∧ ∀ (M : MS) (Ψ : Int32 → pJ) x g, RM M x g → RT M n c → M.x 1 = nI p → M.g 7 = q → (∀ M' x g, RM M' x g → FM M M' → (r = none → QM Q' (M'.g 7)) → Ψ (rI r) x g) → rW x (va_up (va_up g 7 (upd (g 7) 4 (nI (k0 - 8)))) 7 (upd (upd (g 7) 4 (nI (k0 - 8))) 6 0)) k0 (fun r x g => jX9_readsWindows_168 (KWin Ψ) x g r) := by
    intro k0 hk0 hrw
    obtain ⟨htw, hwn⟩ := tw_w (Q := Q) hs hk0
    obtain ⟨r, Q', a, b⟩ := WB (n := n) (c := c) (s := s) (k0 := k0) (p := p) (Q := Q) (q := upd (upd q 4 (nI (k0 - 8))) 6 0) (F := fun Ψ => KWin Ψ 0) (Rest := Rest6) hn (by omega) hp (by omega) hns (fun _ => hne) (by rw [hwn]; decide) hrw (fun Ψ x g h => ite0 h) (fun p' hp' => by
      rw [hwn, htw]
      exact B6 hn hp' (((a0.up (by omega)).up (by omega)).q rfl) (((a1.up (by omega) (by omega)).up (by omega) (by omega)).q rfl rfl) (((a3.up (by omega)).up (by omega)).q rfl) (by rw [upd, if_neg (by omega), upd, if_pos rfl]) (by show 8 ≤ k0; omega) (by show k0 ≤ 10; omega) (by rw [upd, if_pos rfl]) d7 d8)
    refine ⟨r, Q', a, fun M Ψ x g hm t h1 h7 h => ?_⟩
    have hm2 := (hm.G (k := 7) (i := 4) (v := nI (k0 - 8)) (by omega) (by omega)).G (k := 7) (i := 6) (v := 0) (by omega) (by omega)
    have fm := (FM.Q M 4 (nI (k0 - 8))).trans (FM.Q (mG M 7 4 (nI (k0 - 8))) 6 0)
    exact b _ Ψ _ _ hm2 (t.fr fm) h1 (by simp only [CS.mk_R, CS.mk_cap, CS.mk_x, CS.mk_y, CS.mk_g, CS.mk_eta, MS.mk_x, MS.mk_g, MS.mk_V, MS.mk_T, MS.mk_eta, GD.mk_n, GD.mk_rd, GD.mk_c, GD.mk_tk, GD.mk_sz, GD.mk_sl, GD.mk_lt, GD.mk_eta, PQ.mk_fold, PQ.mk_cmp, PQ.mk_lim, PQ.mk_jn, PQ.mk_shape, PQ.mk_sz, PQ.mk_sl, PQ.mk_lt, PQ.mk_mode, PQ.mk_eta, mG, p_ug]; rw [h7]) fun M' x g e1 e2 e3 => h M' x g e1 (fm.trans e2) e3
  have others : ∀ k, k < 15 → may s k → k ≠ 8 → k ≠ 9 → k ≠ 10 → lcp (sg n c) (spN k) p = 0 := fun k hk hm h1 h2 h3 => by
    rcases hs5.may_ k hk hm with h | h
    · omega
    · exact h
  have l8 : sg n c p ≠ 102 → lcp (sg n c) (spN 8) p = 0 := fun e => lcp_0 (by omega) e
  have l9 : sg n c p ≠ 115 → lcp (sg n c) (spN 9) p = 0 := fun e => lcp_0 (by omega) e
  have l10 : sg n c p ≠ 115 → lcp (sg n c) (spN 10) p = 0 := fun e => lcp_0 (by omega) e
  have pre : ∀ {M : MS} {x g} {Ψ : Int32 → pJ}, RM M x g → RT M n c → M.x 1 = nI p → ((atv n c p = 102 → (jX9_readsWindows_46 (KWin Ψ) x g (atv n c p) (atv n c (p + 1)) 4 0)) ∧ (¬ atv n c p = 102 → ((atv n c (p + 1) = 108 → (jX9_readsWindows_46 (KWin Ψ) x g (atv n c p) (atv n c (p + 1)) 4 1)) ∧ (¬ atv n c (p + 1) = 108 → (jX9_readsWindows_46 (KWin Ψ) x g (atv n c p) (atv n c (p + 1)) 4 2))))) → Rest5 Ψ x g := by
    intro M x g Ψ hm t h1 h
    show wX9_readsWindows x g (KWin Ψ)
    unfold wX9_readsWindows
    rw [show x 1 = nI p by rw [hm.hx]; exact h1, nI_1]
    exact m_at hm t (by omega) (m_at hm t (by omega) h)
  by_cases f1 : sg n c p = 102
  · obtain ⟨r, Q', a, b⟩ := go 8 (.inl rfl) (rw_one (by omega) my8 (fun k hk hm hne => by
      by_cases k9 : k = 9
      · subst k9; exact l9 (by omega)
      · by_cases k10 : k = 10
        · subst k10; exact l10 (by omega)
        · exact others k hk hm hne k9 k10))
    refine ⟨r, Q', a, fun M Ψ x g hm t h1 h7 h => pre hm t h1 ?_⟩
    have z := (atv_eq t (w := 102) (by omega) (by omega)).2 f1
    have z1 : ¬ atv n c p = 115 := fun e => by have := (atv_eq t (w := 115) (by omega) (by omega)).1 e; omega
    exact ⟨fun _ => ⟨p_v9 (by decide), p_v9 (by decide), fun e => absurd e z1, fun _ => ⟨fun _ => b M Ψ x g hm t h1 h7 h, fun e => absurd z e⟩⟩, fun e => absurd z e⟩
  · by_cases f2 : sg n c p = 115
    · by_cases f3 : sg n c (p + 1) = 108
      · obtain ⟨r, Q', a, b⟩ := go 9 (.inr (.inl rfl)) (rw_two (k1 := 10) (by omega) my9 (fun k hk hm hne hne2 => by
          by_cases k8 : k = 8
          · subst k8; exact l8 f1
          · exact others k hk hm k8 hne hne2) (by rw [lcp_se, lcp_sl, if_pos f2, if_pos f2, if_pos f3, if_neg (by omega)]; omega) (by rw [lcp_se, if_pos f2, if_neg (by omega)]; decide))
        refine ⟨r, Q', a, fun M Ψ x g hm t h1 h7 h => pre hm t h1 ?_⟩
        have z := (atv_eq t (w := 115) (by omega) (by omega)).2 f2
        have z1 : ¬ atv n c p = 102 := fun e => f1 ((atv_eq t (w := 102) (by omega) (by omega)).1 e)
        have z2 := (atv_eq t (w := 108) (by omega) (by omega)).2 f3
        have w9 : jX9_readsWindows_89 (KWin Ψ) x (va_up (va_up g 7 (upd (g 7) 4 (nI 1))) 7 (upd (upd (g 7) 4 (nI 1)) 6 0)) (atv n c p) (atv n c (p + 1)) := ⟨fun e => absurd e z1, fun _ => ⟨fun _ => ⟨fun _ => b M Ψ x g hm t h1 h7 h, fun e => absurd z2 e⟩, fun e => absurd z e⟩⟩
        exact ⟨fun e => absurd e z1, fun _ => ⟨fun _ => ⟨p_v9 (by decide), p_v9 (by decide), fun _ => ⟨fun _ => w9, fun e => absurd z2 e⟩, fun e => absurd z e⟩, fun e => absurd z2 e⟩⟩
      · by_cases f4 : sg n c (p + 1) = 101
        · obtain ⟨r, Q', a, b⟩ := go 10 (.inr (.inr rfl)) (rw_two (k1 := 9) (by omega) my10 (fun k hk hm hne hne2 => by
            by_cases k8 : k = 8
            · subst k8; exact l8 f1
            · exact others k hk hm k8 hne2 hne) (by rw [lcp_se, lcp_sl, if_pos f2, if_pos f2, if_pos f4, if_neg (by omega)]; omega) (by rw [lcp_sl, if_pos f2, if_neg (by omega)]; decide))
          refine ⟨r, Q', a, fun M Ψ x g hm t h1 h7 h => pre hm t h1 ?_⟩
          have z := (atv_eq t (w := 115) (by omega) (by omega)).2 f2
          have z1 : ¬ atv n c p = 102 := fun e => f1 ((atv_eq t (w := 102) (by omega) (by omega)).1 e)
          have z2 : ¬ atv n c (p + 1) = 108 := fun e => f3 ((atv_eq t (w := 108) (by omega) (by omega)).1 e)
          have z3 := (atv_eq t (w := 101) (by omega) (by omega)).2 f4
          have w9 : jX9_readsWindows_89 (KWin Ψ) x (va_up (va_up g 7 (upd (g 7) 4 (nI 2))) 7 (upd (upd (g 7) 4 (nI 2)) 6 0)) (atv n c p) (atv n c (p + 1)) := ⟨fun e => absurd e z1, fun _ => ⟨fun _ => ⟨fun e => absurd e z2, fun _ => b M Ψ x g hm t h1 h7 h⟩, fun e => absurd z e⟩⟩
          exact ⟨fun e => absurd e z1, fun _ => ⟨fun e => absurd e z2, fun _ => ⟨p_v9 (by decide), p_v9 (by decide), fun _ => ⟨fun e => absurd e z2, fun _ => ⟨fun _ => w9, fun e => absurd z3 e⟩⟩, fun e => absurd z e⟩⟩⟩
        · have e9 : lcp (sg n c) (spN 9) p = 1 := by rw [lcp_sl, if_pos f2, if_neg f3]
          have e10 : lcp (sg n c) (spN 10) p = 1 := by rw [lcp_se, if_pos f2, if_neg f4]
          have hrw := rw_two (f := sg n c) (s := s) (p := p) (k0 := 9) (k1 := 10) (by omega) my9 (fun k hk hm hne hne2 => by
            by_cases k8 : k = 8
            · subst k8; exact l8 f1
            · exact others k hk hm k8 hne hne2) (by omega) (by rw [e10]; decide)
          rw [if_neg (fun w => by have := w.1; rw [e9] at this; exact absurd this (by decide)), e9] at hrw
          refine ⟨some (p + 1), Q, OC.wordF hp (by omega) hns (fun _ => hne) hrw, fun M Ψ x g hm t h1 h7 h => pre hm t h1 ?_⟩
          have z := (atv_eq t (w := 115) (by omega) (by omega)).2 f2
          have z1 : ¬ atv n c p = 102 := fun e => f1 ((atv_eq t (w := 102) (by omega) (by omega)).1 e)
          have z2 : ¬ atv n c (p + 1) = 108 := fun e => f3 ((atv_eq t (w := 108) (by omega) (by omega)).1 e)
          have z3 : ¬ atv n c (p + 1) = 101 := fun e => f4 ((atv_eq t (w := 101) (by omega) (by omega)).1 e)
          refine ⟨fun e => absurd e z1, fun _ => ⟨fun e => absurd e z2, fun _ => ⟨p_v9 (by decide), p_v9 (by decide), fun _ => ⟨fun e => absurd e z2, fun _ => ⟨fun e => absurd e z3, fun _ => ?_⟩⟩, fun e => absurd z e⟩⟩⟩
          have hm2 := ((hm.G (k := 7) (i := 4) (v := 2) (by omega) (by omega)).G (k := 7) (i := 6) (v := 0) (by omega) (by omega)).X 1 (nI (p + 1))
          rw [show x 1 = nI p by rw [hm.hx]; exact h1, nI_1]
          refine m_fails hm2 (p := p + 1) (by simp only [CS.mk_R, CS.mk_cap, CS.mk_x, CS.mk_y, CS.mk_g, CS.mk_eta, MS.mk_x, MS.mk_g, MS.mk_V, MS.mk_T, MS.mk_eta, GD.mk_n, GD.mk_rd, GD.mk_c, GD.mk_tk, GD.mk_sz, GD.mk_sl, GD.mk_lt, GD.mk_eta, PQ.mk_fold, PQ.mk_cmp, PQ.mk_lim, PQ.mk_jn, PQ.mk_shape, PQ.mk_sz, PQ.mk_sl, PQ.mk_lt, PQ.mk_mode, PQ.mk_eta, mX, p_ug]) fun x g f => ite0 ?_
          exact m_stop f ((((FM.Q M 4 2).trans (FM.Q _ 6 0)).trans (FM.X _ (by omega) (by omega) _)).trans (FM.X _ (by omega) (by omega) _)) (by simp only [CS.mk_R, CS.mk_cap, CS.mk_x, CS.mk_y, CS.mk_g, CS.mk_eta, MS.mk_x, MS.mk_g, MS.mk_V, MS.mk_T, MS.mk_eta, GD.mk_n, GD.mk_rd, GD.mk_c, GD.mk_tk, GD.mk_sz, GD.mk_sl, GD.mk_lt, GD.mk_eta, PQ.mk_fold, PQ.mk_cmp, PQ.mk_lim, PQ.mk_jn, PQ.mk_shape, PQ.mk_sz, PQ.mk_sl, PQ.mk_lt, PQ.mk_mode, PQ.mk_eta, mX, p_ug]) h
    · have hrw := rw_none (f := sg n c) (s := s) (p := p) (fun k hk hm => by
        by_cases k8 : k = 8
        · subst k8; exact l8 f1
        · by_cases k9 : k = 9
          · subst k9; exact l9 f2
          · by_cases k10 : k = 10
            · subst k10; exact l10 f2
            · exact others k hk hm k8 k9 k10)
      refine ⟨some p, Q, OC.wordF hp (by omega) hns (fun _ => hne) hrw, fun M Ψ x g hm t h1 h7 h => pre hm t h1 ?_⟩
      have z : ¬ atv n c p = 115 := fun e => f2 ((atv_eq t (w := 115) (by omega) (by omega)).1 e)
      have z1 : ¬ atv n c p = 102 := fun e => f1 ((atv_eq t (w := 102) (by omega) (by omega)).1 e)
      have w : ∀ v : Int32, rW x (va_up (va_up g 7 (upd (g 7) 4 v)) 7 (upd (upd (g 7) 4 v) 6 0)) 10 (fun r x g => jX9_readsWindows_168 (KWin Ψ) x g r) := fun v => by
        have hm2 := ((hm.G (k := 7) (i := 4) (v := v) (by omega) (by omega)).G (k := 7) (i := 6) (v := 0) (by omega) (by omega))
        have fm := (FM.Q M 4 v).trans (FM.Q (mG M 7 4 v) 6 0)
        refine m_rW (by omega) hm2 (t.fr fm) h1 (by omega) (fun e => absurd e (by rw [l10 f2]; decide)) (fun _ M' x g m1 m2 m3 => ite0 (ite0 ?_))
        exact m_stop m1 (fm.trans m2) (by rw [m3, l10 f2]; rfl) h
      exact ⟨fun e => absurd e z1, fun _ => ⟨fun _ => ⟨p_v9 (by decide), p_v9 (by decide), fun e => absurd e z, fun _ => ⟨fun e => absurd e z1, fun _ => ⟨fun e => absurd e z, fun _ => w 1⟩⟩⟩, fun _ => ⟨p_v9 (by decide), p_v9 (by decide), fun e => absurd e z, fun _ => ⟨fun e => absurd e z1, fun _ => ⟨fun e => absurd e z, fun _ => w 2⟩⟩⟩⟩⟩
abbrev KJoin (Ψ : Int32 → pJ) : Int32 → pJ := fun r_20 x_20 g_20 => ((r_20 = 0 → (jX9_reads_65 Ψ x_20 g_20)) ∧ (¬ r_20 = 0 → Rest5 Ψ x_20 g_20))
abbrev Rest4 (Ψ : Int32 → pJ) : pJ := fun x g => wX9_readsJoin x g (KJoin Ψ)
abbrev KIf (Ψ : Int32 → pJ) : Int32 → pJ := fun r x g => ((r = 0 → (jX9_reads_65 Ψ x g)) ∧ (¬ r = 0 → Rest4 Ψ x g))
set_option maxRecDepth 4096 in
theorem OR.k {n c p q R R' r Q'} (h : OR n c p q R r Q') (hR : ∀ Ψ x g, R Ψ x g → R' Ψ x g) : OR n c p q R' r Q' := fun M Ψ x g a b d e f => hR _ _ _ (h M Ψ x g a b d e f)
set_option maxRecDepth 4096 in
theorem B4 {n : Nat} {c : Nat → Nat} {s p : Nat} {Q : PQ} {q : Nat → Int32} (hn : n ≤ 60) (hs : s = 4 ∨ s = 1 ∧ sg n c p ≠ 105) (hp : p ≤ n) (a0 : A0 Q q) (a1 : A1 Q q) (d3 : Q.jn = 0) (d : DW Q) : ∃ r Q', OC n c s p Q r Q' ∧ OR n c p q Rest4 r Q' := by
  have hs2 : s = 4 ∨ s = 1 := by rcases hs with h | h; exact .inl h; exact .inr h.1
  have hns : ¬ isNum s := by unfold isNum; omega
  have hne : ¬ isEnd s := by unfold isEnd; omega
  by_cases f1 : sg n c p = 106
  · have hmy : may s 7 := by rcases hs2 with rfl | rfl <;> decide
    have z1 : ∀ k, k < 15 → may 1 k → k = 3 ∨ k = 7 ∨ k = 8 ∨ k = 9 ∨ k = 10 := by decide
    have z4 : ∀ k, k < 15 → may 4 k → k = 3 ∨ k = 7 ∨ k = 8 ∨ k = 9 ∨ k = 10 := by decide
    obtain ⟨r, Q', a, b⟩ := WB (n := n) (c := c) (s := s) (k0 := 7) (p := p) (Q := Q) (q := upd q 3 1) (F := fun Ψ => KJoin Ψ 0) (Rest := fun Ψ => KJoin Ψ 1) hn (by omega) hp (by omega) hns (fun _ => hne) (by decide) (rw_one (by omega) hmy (fun k hk hm hne => by
      have : k = 3 ∨ k = 7 ∨ k = 8 ∨ k = 9 ∨ k = 10 := by
        rcases hs2 with rfl | rfl
        · exact z4 k hk hm
        · exact z1 k hk hm
      rcases this with rfl | rfl | rfl | rfl | rfl
      · exact lcp_0 (by omega) (by rw [f1]; decide)
      · exact absurd rfl hne
      · exact lcp_0 (by omega) (by rw [f1]; decide)
      · exact lcp_0 (by omega) (by rw [f1]; decide)
      · exact lcp_0 (by omega) (by rw [f1]; decide))) (fun Ψ x g h => ite0 h) (fun p' hp' => by
      rw [show wN 7 = 5 from rfl, show twQ s 7 Q = (PQ.mk Q.fold Q.cmp Q.lim (1) Q.shape Q.sz Q.sl Q.lt Q.mode) by unfold twQ; rw [if_neg (by omega), if_neg (by omega), if_pos rfl]]
      obtain ⟨r, Q', u1, u2⟩ := B5 (c := c) (s := 5) (p := p') (Q := (PQ.mk Q.fold Q.cmp Q.lim (1) Q.shape Q.sz Q.sl Q.lt Q.mode)) (q := upd q 3 1) hn (.inl rfl) hp' ((a0.up (by omega)).q rfl) ((a1.up (by omega) (by omega)).q rfl rfl) ⟨by rw [upd, if_pos rfl]; rfl, Nat.le_refl _⟩ d
      exact ⟨r, Q', u1, u2.k fun Ψ x g h => ite1 h⟩)
    refine ⟨r, Q', a, fun M Ψ x g hm t h1 h7 h => ?_⟩
    have z := (atv_eq t (w := 106) (by omega) (by omega)).2 f1
    show wX9_readsJoin x g (KJoin Ψ)
    unfold wX9_readsJoin
    refine m_atE hm t h1 (by omega) ⟨fun _ => ⟨p_v9 (by decide), p_v9 (by decide), fun e => absurd e ?_, fun _ => ?_⟩, fun e => absurd z e⟩
    · rw [show (3 : Int32).toNatClampNeg = 3 from rfl, upd, if_pos rfl]; decide
    · have hm2 := hm.G (k := 7) (i := 3) (v := 1) (by omega) (by omega)
      exact b (mG M 7 3 1) Ψ _ _ hm2 (t.fr (FM.Q M 3 1)) h1 (by simp only [CS.mk_R, CS.mk_cap, CS.mk_x, CS.mk_y, CS.mk_g, CS.mk_eta, MS.mk_x, MS.mk_g, MS.mk_V, MS.mk_T, MS.mk_eta, GD.mk_n, GD.mk_rd, GD.mk_c, GD.mk_tk, GD.mk_sz, GD.mk_sl, GD.mk_lt, GD.mk_eta, PQ.mk_fold, PQ.mk_cmp, PQ.mk_lim, PQ.mk_jn, PQ.mk_shape, PQ.mk_sz, PQ.mk_sl, PQ.mk_lt, PQ.mk_mode, PQ.mk_eta, mG, p_ug]; rw [h7]) fun M' x g e1 e2 e3 => h M' x g e1 ((FM.Q M 3 1).trans e2) e3
  · obtain ⟨r, Q', a, b⟩ := B5 (n := n) (c := c) (s := s) (p := p) (Q := Q) (q := upd q 3 0) hn (by
      rcases hs with h | h
      · exact .inr (.inl ⟨h, f1⟩)
      · exact .inr (.inr ⟨h.1, h.2, f1⟩)) hp (a0.up (by omega)) (a1.up (by omega) (by omega)) ⟨by rw [upd, if_pos rfl, d3]; rfl, by omega⟩ d
    refine ⟨r, Q', a, fun M Ψ x g hm t h1 h7 h => ?_⟩
    have z : ¬ atv n c p = 106 := fun e => f1 ((atv_eq t (w := 106) (by omega) (by omega)).1 e)
    show wX9_readsJoin x g (KJoin Ψ)
    unfold wX9_readsJoin
    refine m_atE hm t h1 (by omega) ⟨fun e => absurd e z, fun _ => ⟨p_v9 (by decide), p_v9 (by decide), fun _ => ite1 ?_, fun e => absurd ?_ e⟩⟩
    · have hm2 := hm.G (k := 7) (i := 3) (v := 0) (by omega) (by omega)
      exact b (mG M 7 3 0) Ψ _ _ hm2 (t.fr (FM.Q M 3 0)) h1 (by simp only [CS.mk_R, CS.mk_cap, CS.mk_x, CS.mk_y, CS.mk_g, CS.mk_eta, MS.mk_x, MS.mk_g, MS.mk_V, MS.mk_T, MS.mk_eta, GD.mk_n, GD.mk_rd, GD.mk_c, GD.mk_tk, GD.mk_sz, GD.mk_sl, GD.mk_lt, GD.mk_eta, PQ.mk_fold, PQ.mk_cmp, PQ.mk_lim, PQ.mk_jn, PQ.mk_shape, PQ.mk_sz, PQ.mk_sl, PQ.mk_lt, PQ.mk_mode, PQ.mk_eta, mG, p_ug]; rw [h7]) fun M' x g e1 e2 e3 => h M' x g e1 ((FM.Q M 3 0).trans e2) e3
    · rw [show (3 : Int32).toNatClampNeg = 3 from rfl, upd, if_pos rfl]
abbrev Rest3 (Ψ : Int32 → pJ) : pJ := fun x_126 g_126 => (wX9_at x_126 g_126 (x_126 1) (fun r_139 => ((r_139 = 45 → (jX9_readsIf_152 (KIf Ψ) x_126 g_126 1)) ∧ (¬ r_139 = 45 → (jX9_readsIf_152 (KIf Ψ) x_126 g_126 0)))))
set_option maxRecDepth 4096 in
theorem B3 {n : Nat} {c : Nat → Nat} {p : Nat} {Q : PQ} {q : Nat → Int32} (hn : n ≤ 60) (hp : p ≤ n) (a0 : A0 Q q) (h1 : q 1 = nI (Q.cmp - 3)) (c1 : 3 ≤ Q.cmp) (c2 : Q.cmp ≤ 6) (d3 : Q.jn = 0) (d : DW Q) : ∃ r Q', OC n c 3 p Q r Q' ∧ OR n c p q Rest3 r Q' := by
  have h3 : isNum 3 := .inl rfl
  have z3 : zOK 3 = true := rfl
  have hdA := dgA_le (n := n) (c := c) (s := 3) (p := p)
  have hng : ngF (sg n c) 3 p = decide (sg n c p = 45) := by
    unfold ngF
    by_cases e : sg n c p = 45 <;> simp [CS.mk_R, CS.mk_cap, CS.mk_x, CS.mk_y, CS.mk_g, CS.mk_eta, MS.mk_x, MS.mk_g, MS.mk_V, MS.mk_T, MS.mk_eta, GD.mk_n, GD.mk_rd, GD.mk_c, GD.mk_tk, GD.mk_sz, GD.mk_sl, GD.mk_lt, GD.mk_eta, PQ.mk_fold, PQ.mk_cmp, PQ.mk_lim, PQ.mk_jn, PQ.mk_shape, PQ.mk_sz, PQ.mk_sl, PQ.mk_lt, PQ.mk_mode, PQ.mk_eta, e]
  have pre : ∀ {M : MS} {Ψ : Int32 → pJ} {x g}, RM M x g → RT M n c → M.x 1 = nI p → M.g 7 = q → (∀ e, nmF (sg n c) true (dgA n c 3 p) = .inl e → ∀ M' x g, RM M' x g → FM M M' → M'.x 2 = nI e → jX9_reads_65 Ψ x g) → (∀ v e, nmF (sg n c) true (dgA n c 3 p) = .inr (v, e) → ∀ M' x g, RM M' x g → FM M M' → M'.g 7 = upd q 2 (if ngF (sg n c) 3 p then -(nI v) else nI v) → M'.x 1 = nI e → wX9_blanks x g (fun r x g => KIf Ψ r x g)) → Rest3 Ψ x g := by
    intro M Ψ x g hm t hx1 h7 k1 k2
    show wX9_at x g (x 1) _
    have e1 : x 1 = nI p := by rw [hm.hx]; exact hx1
    have body : ∀ s0 : Int32, (s0 = if ngF (sg n c) 3 p then 1 else 0) → jX9_readsIf_152 (KIf Ψ) x g s0 := by
      intro s0 hs0
      have main : ∀ w : Int32, x 1 + w = nI (dgA n c 3 p) → jX9_readsIf_167 (KIf Ψ) x g s0 (x 1) w := by
        intro w hw
        unfold jX9_readsIf_167
        rw [hw]
        have hm1 := hm.X 1 (nI (dgA n c 3 p))
        have f1 := FM.X M (k := 1) (by omega) (by omega) (nI (dgA n c 3 p))
        refine m_number (zb := true) rfl hm1 (t.fr f1) (by simp only [CS.mk_R, CS.mk_cap, CS.mk_x, CS.mk_y, CS.mk_g, CS.mk_eta, MS.mk_x, MS.mk_g, MS.mk_V, MS.mk_T, MS.mk_eta, GD.mk_n, GD.mk_rd, GD.mk_c, GD.mk_tk, GD.mk_sz, GD.mk_sl, GD.mk_lt, GD.mk_eta, PQ.mk_fold, PQ.mk_cmp, PQ.mk_lim, PQ.mk_jn, PQ.mk_shape, PQ.mk_sz, PQ.mk_sl, PQ.mk_lt, PQ.mk_mode, PQ.mk_eta, mX, p_ug]) (by omega) (fun e he M' x g m1 m2 m3 => ite0 (ite0 (k1 e he M' x g m1 (f1.trans m2) m3))) (fun v e he M' x g m1 m2 m3 m4 m5 => ite1 ?_)
        have e3 : x 3 = nI v := by rw [m1.hx]; exact m4
        rw [e3]
        cases hc : ngF (sg n c) 3 p
        · rw [hc] at hs0 k2
          refine ⟨fun _ => ⟨p_v9 (by decide), ?_⟩, fun z => absurd (hs0.trans rfl) z⟩
          exact k2 v e he _ _ _ (m1.G (k := 7) (i := 2) (v := nI v) (by omega) (by omega)) ((f1.trans m2).trans (FM.Q M' 2 _)) (by simp only [CS.mk_R, CS.mk_cap, CS.mk_x, CS.mk_y, CS.mk_g, CS.mk_eta, MS.mk_x, MS.mk_g, MS.mk_V, MS.mk_T, MS.mk_eta, GD.mk_n, GD.mk_rd, GD.mk_c, GD.mk_tk, GD.mk_sz, GD.mk_sl, GD.mk_lt, GD.mk_eta, PQ.mk_fold, PQ.mk_cmp, PQ.mk_lim, PQ.mk_jn, PQ.mk_shape, PQ.mk_sz, PQ.mk_sl, PQ.mk_lt, PQ.mk_mode, PQ.mk_eta, mG, p_ug]; rw [m3]; show upd (M.g 7) 2 _ = _; rw [h7]; simp) m5
        · rw [hc] at hs0 k2
          refine ⟨fun z => absurd (hs0.symm.trans z) (by decide), fun _ => ⟨p_v9 (by decide), ?_⟩⟩
          exact k2 v e he _ _ _ (m1.G (k := 7) (i := 2) (v := -(nI v)) (by omega) (by omega)) ((f1.trans m2).trans (FM.Q M' 2 _)) (by simp only [CS.mk_R, CS.mk_cap, CS.mk_x, CS.mk_y, CS.mk_g, CS.mk_eta, MS.mk_x, MS.mk_g, MS.mk_V, MS.mk_T, MS.mk_eta, GD.mk_n, GD.mk_rd, GD.mk_c, GD.mk_tk, GD.mk_sz, GD.mk_sl, GD.mk_lt, GD.mk_eta, PQ.mk_fold, PQ.mk_cmp, PQ.mk_lim, PQ.mk_jn, PQ.mk_shape, PQ.mk_sz, PQ.mk_sl, PQ.mk_lt, PQ.mk_mode, PQ.mk_eta, mG, p_ug]; rw [m3]; show upd (M.g 7) 2 _ = _; rw [h7]; simp) m5
      unfold jX9_readsIf_152
      cases hc : ngF (sg n c) 3 p
      · rw [hc] at hs0
        refine ⟨fun _ => main 0 ?_, fun z => absurd (hs0.trans rfl) z⟩
        rw [e1, Int32.add_zero]; unfold dgA; rw [hc]; rfl
      · rw [hc] at hs0
        refine ⟨fun z => absurd (hs0.symm.trans z) (by decide), fun _ => main 1 ?_⟩
        rw [e1, nI_1]; unfold dgA; rw [hc]; rfl
    refine m_atE hm t hx1 (by omega) ⟨fun e => body 1 ?_, fun e => body 0 ?_⟩
    · have := (atv_eq t (w := 45) (by omega) (by omega)).1 e
      rw [hng, this]; rfl
    · have : sg n c p ≠ 45 := fun z => e ((atv_eq t (w := 45) (by omega) (by omega)).2 z)
      rw [hng, decide_eq_false this]; rfl
  rcases num_cases (n := n) (c := c) (zb := true) (a := dgA n c 3 p) with ⟨e, hnm⟩ | ⟨v, e, hnm⟩
  · refine ⟨some e, Q, OC.numF hp (by omega) h3 (.inl (by rw [z3]; exact hnm)), ?_⟩
    intro M Ψ x g hm t hx1 h7 h
    refine pre hm t hx1 h7 (fun e' he M' x g m1 m2 m3 => ?_) (fun v' e' he => absurd (hnm.symm.trans he) (by simp))
    obtain rfl : e = e' := by rw [hnm] at he; injection he
    exact m_stop m1 m2 m3 h
  · have hb := nmF_n2 hnm
    have htq : tnQ 3 v (ngF (sg n c) 3 p) Q = (PQ.mk Q.fold Q.cmp (if ngF (sg n c) 3 p then -(nI v) else nI v) Q.jn Q.shape Q.sz Q.sl Q.lt Q.mode) := rfl
    have hts : tnS 3 Q = 4 := rfl
    by_cases he : sg n c e = 32 ∧ e < n
    · obtain ⟨r, Q', a, b⟩ := B4 (n := n) (c := c) (s := 4) (p := skip n c e) (Q := (PQ.mk Q.fold Q.cmp (if ngF (sg n c) 3 p then -(nI v) else nI v) Q.jn Q.shape Q.sz Q.sl Q.lt Q.mode)) (q := upd q 2 (if ngF (sg n c) 3 p then -(nI v) else nI v)) hn (.inl rfl) (skip_le.2.1 hb.2) ((a0.up (by omega)).q rfl) ⟨by rw [upd, if_neg (by omega)]; exact h1, c1, c2, by rw [upd, if_pos rfl]⟩ d3 d
      have hc32 : c e = 32 := by have := he.1; unfold sg at this; rwa [if_pos he.2] at this
      refine ⟨r, Q', OC.num (v := v) (e := e) hp (by omega) h3 (by rw [z3]; exact hnm) he.1 (by rw [hts, htq]; exact a), ?_⟩
      intro M Ψ x g hm t hx1 h7 h
      refine pre hm t hx1 h7 (fun e' he' => absurd (hnm.symm.trans he') (by simp)) (fun v' e' he' M' x g m1 m2 m3 m5 => ?_)
      rw [hnm] at he'; injection he' with he'; injection he' with y1 y2; subst y1 y2
      refine m_blanks m1 (t.fr m2) m5 hb.2 (fun _ M'' x g e1 e2 e3 e4 _ => ite1 ?_) (fun z => absurd ⟨he.2, hc32⟩ z)
      exact b M'' Ψ x g e1 ((t.fr m2).fr e2) e3 (by rw [e4, m3]) fun M3 x g f1 f2 f3 => h M3 x g f1 ((m2.trans e2).trans f2) f3
    · have hcl : ∃ Q', OC n c 3 p Q (some e) Q' := by
        by_cases h32 : sg n c e = 32
        · have : e = n := by omega
          subst this
          exact ⟨_, OC.num (v := v) (e := e) hp (by omega) h3 (by rw [z3]; exact hnm) h32 (by rw [hts, skip_stop (by omega)]; exact OC.endNo (by omega) (by decide))⟩
        · exact ⟨Q, OC.numF hp (by omega) h3 (.inr ⟨v, by rw [z3]; exact hnm, h32⟩)⟩
      obtain ⟨Q', a⟩ := hcl
      refine ⟨some e, Q', a, ?_⟩
      intro M Ψ x g hm t hx1 h7 h
      refine pre hm t hx1 h7 (fun e' he' => absurd (hnm.symm.trans he') (by simp)) (fun v' e' he' M' x g m1 m2 m3 m5 => ?_)
      rw [hnm] at he'; injection he' with he'; injection he' with y1 y2; subst y1 y2
      refine m_blanks m1 (t.fr m2) m5 hb.2 (fun z => absurd ⟨by unfold sg; rw [if_pos z.1]; exact z.2, z.1⟩ he) (fun _ x g e1 => ite0 ?_)
      exact m_stop e1 (m2.trans (FM.X _ (by omega) (by omega) _)) (by simp only [CS.mk_R, CS.mk_cap, CS.mk_x, CS.mk_y, CS.mk_g, CS.mk_eta, MS.mk_x, MS.mk_g, MS.mk_V, MS.mk_T, MS.mk_eta, GD.mk_n, GD.mk_rd, GD.mk_c, GD.mk_tk, GD.mk_sz, GD.mk_sl, GD.mk_lt, GD.mk_eta, PQ.mk_fold, PQ.mk_cmp, PQ.mk_lim, PQ.mk_jn, PQ.mk_shape, PQ.mk_sz, PQ.mk_sl, PQ.mk_lt, PQ.mk_mode, PQ.mk_eta, mX, p_ug]) h
abbrev Rest2 (Ψ : Int32 → pJ) : pJ := fun x_46 g_46 => (wX9_at x_46 g_46 (x_46 1) (fun r_59 => ((r_59 = 60 → (jX9_readsIf_99 (KIf Ψ) x_46 g_46 1 1)) ∧ (¬ r_59 = 60 → ((r_59 = 61 → (jX9_readsIf_99 (KIf Ψ) x_46 g_46 1 2)) ∧ (¬ r_59 = 61 → ((r_59 = 62 → (jX9_readsIf_99 (KIf Ψ) x_46 g_46 1 3)) ∧ (¬ r_59 = 62 → (jX9_readsIf_99 (KIf Ψ) x_46 g_46 1 0)))))))))
set_option maxRecDepth 4096 in
theorem lcp_c {f : Nat → Nat} {p k : Nat} (h : 4 ≤ k) (h2 : k ≤ 6) : lcp f (spN k) p = if f p = 56 + k then 1 else 0 := by
  have : k = 4 ∨ k = 5 ∨ k = 6 := by omega
  rcases this with rfl | rfl | rfl <;> rfl
set_option maxRecDepth 4096 in
theorem len_c {k : Nat} (h : 4 ≤ k) (h2 : k ≤ 6) : (spN k).length = 1 ∧ wN k = 3 := by
  have : k = 4 ∨ k = 5 ∨ k = 6 := by omega
  rcases this with rfl | rfl | rfl <;> exact ⟨rfl, rfl⟩
set_option maxRecDepth 4096 in
theorem may2x : ∀ k, k < 15 → (may 2 k ↔ k = 4 ∨ k = 5 ∨ k = 6) := by decide
set_option maxRecDepth 4096 in
theorem B2 {n : Nat} {c : Nat → Nat} {p : Nat} {Q : PQ} {q : Nat → Int32} (hn : n ≤ 60) (hp : p ≤ n) (a0 : A0 Q q) (d3 : Q.jn = 0) (d : DW Q) (h10 : q 1 = 0) : ∃ r Q', OC n c 2 p Q r Q' ∧ OR n c p q Rest2 r Q' := by
  have hns : ¬ isNum 2 := by decide
  have hne : ¬ isEnd 2 := by decide
  have go : ∀ k0 : Nat, 4 ≤ k0 → k0 ≤ 6 → sg n c p = 56 + k0 → ∃ r Q', OC n c 2 p Q r Q' ∧ OR n c p q (fun Ψ x g => jX9_readsIf_99 (KIf Ψ) x g 1 (nI (k0 - 3))) r Q' := by
    intro k0 hk1 hk2 hf
    have hlt : p < n := by
      rcases Nat.lt_or_ge p n with z | z
      · exact z
      · rw [sg_n z] at hf; omega
    obtain ⟨hlen, hwn⟩ := len_c hk1 hk2
    have hl1 : lcp (sg n c) (spN k0) p = 1 := by rw [lcp_c hk1 hk2, if_pos hf]
    have hrw := rw_one (f := sg n c) (s := 2) (p := p) (k0 := k0) (by omega) ((may2x k0 (by omega)).2 (by omega)) (fun k hk hm hne => by
      have := (may2x k hk).1 hm
      rw [lcp_c (by omega) (by omega), if_neg (by omega)])
    have htw : twQ 2 k0 Q = (PQ.mk Q.fold (k0) Q.lim Q.jn Q.shape Q.sz Q.sl Q.lt Q.mode) := rfl
    have hnz : ∀ q' : Nat → Int32, upd q' 1 (nI (k0 - 3)) 1 ≠ 0 := fun q' e => by
      rw [upd, if_pos rfl] at e
      have := (nI_eq (a := k0 - 3) (b := 0) (by omega) (by omega)).1 e
      omega
    have pre : ∀ {M : MS} {Ψ : Int32 → pJ} {x g}, RM M x g → RT M n c → M.x 1 = nI p → M.g 7 = q → ((p + 1 < n ∧ c (p + 1) = 32) → ∀ M' x g, RM M' x g → FM M M' → M'.x 1 = nI (skip n c (p + 1)) → M'.g 7 = upd q 1 (nI (k0 - 3)) → Rest3 Ψ x g) → (¬ (p + 1 < n ∧ c (p + 1) = 32) → ∀ M' x g, RM M' x g → FM M M' → M'.x 2 = nI (p + 1) → jX9_reads_65 Ψ x g) → jX9_readsIf_99 (KIf Ψ) x g 1 (nI (k0 - 3)) := by
      intro M Ψ x g hm t h1 h7 k1 k2
      have hm2 := (hm.G (k := 7) (i := 1) (v := nI (k0 - 3)) (by omega) (by omega)).X 1 (nI (p + 1))
      have f1 := (FM.Q M 1 (nI (k0 - 3))).trans (FM.X (mG M 7 1 (nI (k0 - 3))) (k := 1) (by omega) (by omega) (nI (p + 1)))
      refine ⟨p_v9 (by decide), p_v9 (by decide), fun e => absurd e (hnz _), fun _ => ?_⟩
      rw [show x 1 = nI p by rw [hm.hx]; exact h1, nI_1]
      refine m_blanks hm2 (t.fr f1) (by simp only [CS.mk_R, CS.mk_cap, CS.mk_x, CS.mk_y, CS.mk_g, CS.mk_eta, MS.mk_x, MS.mk_g, MS.mk_V, MS.mk_T, MS.mk_eta, GD.mk_n, GD.mk_rd, GD.mk_c, GD.mk_tk, GD.mk_sz, GD.mk_sl, GD.mk_lt, GD.mk_eta, PQ.mk_fold, PQ.mk_cmp, PQ.mk_lim, PQ.mk_jn, PQ.mk_shape, PQ.mk_sz, PQ.mk_sl, PQ.mk_lt, PQ.mk_mode, PQ.mk_eta, mX, p_ug]) hlt (fun z M' x g e1 e2 e3 e4 _ => ite1 (k1 z M' x g e1 (f1.trans e2) e3 ?_)) (fun z x g e1 => ite0 (ite0 (k2 z _ x g e1 (f1.trans (FM.X _ (by omega) (by omega) _)) (by simp only [CS.mk_R, CS.mk_cap, CS.mk_x, CS.mk_y, CS.mk_g, CS.mk_eta, MS.mk_x, MS.mk_g, MS.mk_V, MS.mk_T, MS.mk_eta, GD.mk_n, GD.mk_rd, GD.mk_c, GD.mk_tk, GD.mk_sz, GD.mk_sl, GD.mk_lt, GD.mk_eta, PQ.mk_fold, PQ.mk_cmp, PQ.mk_lim, PQ.mk_jn, PQ.mk_shape, PQ.mk_sz, PQ.mk_sl, PQ.mk_lt, PQ.mk_mode, PQ.mk_eta, mX, p_ug]))))
      rw [e4]; simp only [CS.mk_R, CS.mk_cap, CS.mk_x, CS.mk_y, CS.mk_g, CS.mk_eta, MS.mk_x, MS.mk_g, MS.mk_V, MS.mk_T, MS.mk_eta, GD.mk_n, GD.mk_rd, GD.mk_c, GD.mk_tk, GD.mk_sz, GD.mk_sl, GD.mk_lt, GD.mk_eta, PQ.mk_fold, PQ.mk_cmp, PQ.mk_lim, PQ.mk_jn, PQ.mk_shape, PQ.mk_sz, PQ.mk_sl, PQ.mk_lt, PQ.mk_mode, PQ.mk_eta, mX, mG, p_ug]; rw [h7]
    by_cases he : p + 1 < n ∧ c (p + 1) = 32
    · have hf2 : wFull (sg n c) p k0 := ⟨by rw [hl1, hlen], by rw [hlen]; unfold sg; rw [if_pos he.1]; exact he.2⟩
      rw [if_pos hf2] at hrw
      obtain ⟨r, Q', a, b⟩ := B3 (n := n) (c := c) (p := skip n c (p + 1)) (Q := (PQ.mk Q.fold (k0) Q.lim Q.jn Q.shape Q.sz Q.sl Q.lt Q.mode)) (q := upd q 1 (nI (k0 - 3))) hn (skip_le.2.1 (by omega)) ((a0.up (by omega)).q rfl) (by rw [upd, if_pos rfl]) (by show 3 ≤ k0; omega) hk2 d3 d
      refine ⟨r, Q', OC.word hp (by omega) hns hrw (by rw [hwn, hlen, htw]; exact a), ?_⟩
      intro M Ψ x g hm t h1 h7 h
      refine pre hm t h1 h7 (fun _ M' x g e1 e2 e3 e4 => ?_) (fun z => absurd he z)
      exact b M' Ψ x g e1 (t.fr e2) e3 e4 fun M3 x g f1 f2 f3 => h M3 x g f1 (e2.trans f2) f3
    · have hcl : ∃ Q', OC n c 2 p Q (some (p + 1)) Q' := by
        by_cases hf2 : wFull (sg n c) p k0
        · rw [if_pos hf2] at hrw
          have : p + 1 = n := by
            have := hf2.2
            rw [hlen] at this
            rcases sg_32 this with z | z
            · omega
            · exact absurd z he
          exact ⟨_, OC.word hp (by omega) hns hrw (by rw [hwn, hlen, this, skip_stop (by omega)]; exact OC.endNo (by omega) (by decide))⟩
        · rw [if_neg hf2, hl1] at hrw
          exact ⟨Q, OC.wordF hp (by omega) hns (fun _ => hne) hrw⟩
      obtain ⟨Q', a⟩ := hcl
      refine ⟨some (p + 1), Q', a, ?_⟩
      intro M Ψ x g hm t h1 h7 h
      exact pre hm t h1 h7 (fun z => absurd z he) (fun _ M' x g e1 e2 e3 => m_stop e1 e2 e3 h)
  by_cases f1 : sg n c p = 60
  · obtain ⟨r, Q', a, b⟩ := go 4 (by omega) (by omega) f1
    refine ⟨r, Q', a, fun M Ψ x g hm t h1 h7 h => ?_⟩
    have z := (atv_eq t (w := 60) (by omega) (by omega)).2 f1
    show wX9_at x g (x 1) _
    exact m_atE hm t h1 (by omega) ⟨fun _ => b M Ψ x g hm t h1 h7 h, fun e => absurd z e⟩
  · by_cases f2 : sg n c p = 61
    · obtain ⟨r, Q', a, b⟩ := go 5 (by omega) (by omega) f2
      refine ⟨r, Q', a, fun M Ψ x g hm t h1 h7 h => ?_⟩
      have z1 : ¬ atv n c p = 60 := fun e => f1 ((atv_eq t (w := 60) (by omega) (by omega)).1 e)
      have z := (atv_eq t (w := 61) (by omega) (by omega)).2 f2
      show wX9_at x g (x 1) _
      exact m_atE hm t h1 (by omega) ⟨fun e => absurd e z1, fun _ => ⟨fun _ => b M Ψ x g hm t h1 h7 h, fun e => absurd z e⟩⟩
    · by_cases f3 : sg n c p = 62
      · obtain ⟨r, Q', a, b⟩ := go 6 (by omega) (by omega) f3
        refine ⟨r, Q', a, fun M Ψ x g hm t h1 h7 h => ?_⟩
        have z1 : ¬ atv n c p = 60 := fun e => f1 ((atv_eq t (w := 60) (by omega) (by omega)).1 e)
        have z2 : ¬ atv n c p = 61 := fun e => f2 ((atv_eq t (w := 61) (by omega) (by omega)).1 e)
        have z := (atv_eq t (w := 62) (by omega) (by omega)).2 f3
        show wX9_at x g (x 1) _
        exact m_atE hm t h1 (by omega) ⟨fun e => absurd e z1, fun _ => ⟨fun e => absurd e z2, fun _ => ⟨fun _ => b M Ψ x g hm t h1 h7 h, fun e => absurd z e⟩⟩⟩
      · have hrw := rw_none (f := sg n c) (s := 2) (p := p) (fun k hk hm => by
          have := (may2x k hk).1 hm
          rw [lcp_c (by omega) (by omega), if_neg (by omega)])
        refine ⟨some p, Q, OC.wordF hp (by omega) hns (fun _ => hne) hrw, fun M Ψ x g hm t h1 h7 h => ?_⟩
        have z1 : ¬ atv n c p = 60 := fun e => f1 ((atv_eq t (w := 60) (by omega) (by omega)).1 e)
        have z2 : ¬ atv n c p = 61 := fun e => f2 ((atv_eq t (w := 61) (by omega) (by omega)).1 e)
        have z3 : ¬ atv n c p = 62 := fun e => f3 ((atv_eq t (w := 62) (by omega) (by omega)).1 e)
        show wX9_at x g (x 1) _
        refine m_atE hm t h1 (by omega) ⟨fun e => absurd e z1, fun _ => ⟨fun e => absurd e z2, fun _ => ⟨fun e => absurd e z3, fun _ => ⟨p_v9 (by decide), p_v9 (by decide), fun _ => ?_, fun e => absurd ?_ e⟩⟩⟩⟩
        · have hm2 := hm.G (k := 7) (i := 1) (v := 0) (by omega) (by omega)
          refine m_fails hm2 (p := p) h1 fun x g f => ite0 ?_
          exact m_stop f ((FM.Q M 1 0).trans (FM.X _ (by omega) (by omega) _)) (by simp only [CS.mk_R, CS.mk_cap, CS.mk_x, CS.mk_y, CS.mk_g, CS.mk_eta, MS.mk_x, MS.mk_g, MS.mk_V, MS.mk_T, MS.mk_eta, GD.mk_n, GD.mk_rd, GD.mk_c, GD.mk_tk, GD.mk_sz, GD.mk_sl, GD.mk_lt, GD.mk_eta, PQ.mk_fold, PQ.mk_cmp, PQ.mk_lim, PQ.mk_jn, PQ.mk_shape, PQ.mk_sz, PQ.mk_sl, PQ.mk_lt, PQ.mk_mode, PQ.mk_eta, mX, p_ug]) h
        · rw [show (1 : Int32).toNatClampNeg = 1 from rfl, upd, if_pos rfl]
abbrev Rest1 (Ψ : Int32 → pJ) : pJ := fun x g => wX9_readsIf x g (KIf Ψ)
set_option maxRecDepth 4096 in
theorem B1 {n : Nat} {c : Nat → Nat} {p : Nat} {Q : PQ} {q : Nat → Int32} (hn : n ≤ 60) (hp : p ≤ n) (a0 : A0 Q q) (d1 : Q.cmp = 3) (d2 : Q.lim = 0) (d3 : Q.jn = 0) (d : DW Q) : ∃ r Q', OC n c 1 p Q r Q' ∧ OR n c p q Rest1 r Q' := by
  have hns : ¬ isNum 1 := by decide
  have hne : ¬ isEnd 1 := by decide
  have z1 : ∀ k, k < 15 → may 1 k → k = 3 ∨ k = 7 ∨ k = 8 ∨ k = 9 ∨ k = 10 := by decide
  by_cases f1 : sg n c p = 105
  · obtain ⟨r, Q', a, b⟩ := WB (n := n) (c := c) (s := 1) (k0 := 3) (p := p) (Q := Q) (q := upd (upd q 1 0) 2 0) (F := fun Ψ => KIf Ψ 0) (Rest := Rest2) hn (by omega) hp (by omega) hns (fun _ => hne) (by decide) (rw_one (by omega) (by decide) (fun k hk hm hne => by
      rcases z1 k hk hm with rfl | rfl | rfl | rfl | rfl
      · exact absurd rfl hne
      · exact lcp_0 (by omega) (by rw [f1]; decide)
      · exact lcp_0 (by omega) (by rw [f1]; decide)
      · exact lcp_0 (by omega) (by rw [f1]; decide)
      · exact lcp_0 (by omega) (by rw [f1]; decide))) (fun Ψ x g h => ite0 h) (fun p' hp' => by
      rw [show wN 3 = 2 from rfl, show twQ 1 3 Q = Q from rfl]
      exact B2 hn hp' ((a0.up (by omega)).up (by omega)) d3 d (by rw [upd, if_neg (by omega), upd, if_pos rfl]))
    refine ⟨r, Q', a, fun M Ψ x g hm t h1 h7 h => ?_⟩
    have z := (atv_eq t (w := 105) (by omega) (by omega)).2 f1
    have hm2 := (hm.G (k := 7) (i := 1) (v := 0) (by omega) (by omega)).G (k := 7) (i := 2) (v := 0) (by omega) (by omega)
    have fm := (FM.Q M 1 0).trans (FM.Q (mG M 7 1 0) 2 0)
    show wX9_readsIf x g (KIf Ψ)
    unfold wX9_readsIf
    refine ⟨p_v9 (by decide), p_v9 (by decide), m_atE hm2 (t.fr fm) h1 (by omega) ⟨fun _ => ?_, fun e => absurd z e⟩⟩
    exact b _ Ψ _ _ hm2 (t.fr fm) h1 (by simp only [CS.mk_R, CS.mk_cap, CS.mk_x, CS.mk_y, CS.mk_g, CS.mk_eta, MS.mk_x, MS.mk_g, MS.mk_V, MS.mk_T, MS.mk_eta, GD.mk_n, GD.mk_rd, GD.mk_c, GD.mk_tk, GD.mk_sz, GD.mk_sl, GD.mk_lt, GD.mk_eta, PQ.mk_fold, PQ.mk_cmp, PQ.mk_lim, PQ.mk_jn, PQ.mk_shape, PQ.mk_sz, PQ.mk_sl, PQ.mk_lt, PQ.mk_mode, PQ.mk_eta, mG, p_ug]; rw [h7]) fun M' x g e1 e2 e3 => h M' x g e1 (fm.trans e2) e3
  · obtain ⟨r, Q', a, b⟩ := B4 (n := n) (c := c) (s := 1) (p := p) (Q := Q) (q := upd (upd q 1 0) 2 0) hn (.inr ⟨rfl, f1⟩) hp ((a0.up (by omega)).up (by omega)) ⟨by rw [upd, if_neg (by omega), upd, if_pos rfl, d1]; rfl, by omega, by omega, by rw [upd, if_pos rfl, d2]⟩ d3 d
    refine ⟨r, Q', a, fun M Ψ x g hm t h1 h7 h => ?_⟩
    have z : ¬ atv n c p = 105 := fun e => f1 ((atv_eq t (w := 105) (by omega) (by omega)).1 e)
    have hm2 := (hm.G (k := 7) (i := 1) (v := 0) (by omega) (by omega)).G (k := 7) (i := 2) (v := 0) (by omega) (by omega)
    have fm := (FM.Q M 1 0).trans (FM.Q (mG M 7 1 0) 2 0)
    show wX9_readsIf x g (KIf Ψ)
    unfold wX9_readsIf
    refine ⟨p_v9 (by decide), p_v9 (by decide), m_atE hm2 (t.fr fm) h1 (by omega) ⟨fun e => absurd e z, fun _ => ite1 ?_⟩⟩
    exact b _ Ψ _ _ hm2 (t.fr fm) h1 (by simp only [CS.mk_R, CS.mk_cap, CS.mk_x, CS.mk_y, CS.mk_g, CS.mk_eta, MS.mk_x, MS.mk_g, MS.mk_V, MS.mk_T, MS.mk_eta, GD.mk_n, GD.mk_rd, GD.mk_c, GD.mk_tk, GD.mk_sz, GD.mk_sl, GD.mk_lt, GD.mk_eta, PQ.mk_fold, PQ.mk_cmp, PQ.mk_lim, PQ.mk_jn, PQ.mk_shape, PQ.mk_sz, PQ.mk_sl, PQ.mk_lt, PQ.mk_mode, PQ.mk_eta, mG, p_ug]; rw [h7]) fun M' x g e1 e2 e3 => h M' x g e1 (fm.trans e2) e3
abbrev KF (Ψ : Int32 → pJ) : Int32 → pJ := fun r_6 x_6 g_6 => ((r_6 = 0 → (jX9_reads_65 Ψ x_6 g_6)) ∧ (¬ r_6 = 0 → Rest1 Ψ x_6 g_6))
abbrev Rest0 (Ψ : Int32 → pJ) : pJ := fun x g => wX9_readsFirst x g (KF Ψ)
def Q00 : PQ := ⟨0, 3, 0, 0, 8, 1, 1, 0, 12⟩
set_option maxRecDepth 4096 in
theorem B0 {n : Nat} {c : Nat → Nat} {q : Nat → Int32} (hn : n ≤ 60) : ∃ r Q', OC n c 0 0 Q00 r Q' ∧ OR n c 0 q Rest0 r Q' := by
  have hns : ¬ isNum 0 := by decide
  have hne : ¬ isEnd 0 := by decide
  have z0 : ∀ k, k < 15 → may 0 k → k = 0 ∨ k = 1 ∨ k = 2 := by decide
  have l0 : sg n c 0 ≠ 115 → lcp (sg n c) (spN 0) 0 = 0 := fun e => lcp_0 (by omega) e
  have l1 : sg n c 0 ≠ 99 → lcp (sg n c) (spN 1) 0 = 0 := fun e => lcp_0 (by omega) e
  have l2 : sg n c 0 ≠ 109 → lcp (sg n c) (spN 2) 0 = 0 := fun e => lcp_0 (by omega) e
  have go : ∀ k0 : Nat, k0 ≤ 2 → (∀ k, k < 15 → may 0 k → k ≠ k0 → lcp (sg n c) (spN k) 0 = 0) → ∃ r Q', OC n c 0 0 Q00 r Q' ∧ ∀ (M : MS) (Ψ : Int32 → pJ) x g, RM M x g → RT M n c → M.x 1 = nI 0 → M.g 7 = q → (∀ M' x g, RM M' x g → FM M M' → (r = none → QM Q' (M'.g 7)) → Ψ (rI r) x g) → rW x (va_up g 7 (upd (g 7) 0 (nI k0))) k0 (fun r x g => ((r = 0 → KF Ψ 0 x g) ∧ (¬ r = 0 → wX9_blanks x g (fun r x g => ((r = 0 → KF Ψ 0 x g) ∧ (¬ r = 0 → KF Ψ 1 x g)))))) := by
    intro k0 hk ho
    have hw : wN k0 = 1 ∧ may 0 k0 := by
      have : k0 = 0 ∨ k0 = 1 ∨ k0 = 2 := by omega
      rcases this with rfl | rfl | rfl <;> decide
    obtain ⟨r, Q', a, b⟩ := WB (n := n) (c := c) (s := 0) (k0 := k0) (p := 0) (Q := Q00) (q := upd q 0 (nI k0)) (F := fun Ψ => KF Ψ 0) (Rest := fun Ψ => KF Ψ 1) hn (by omega) (by omega) (by omega) hns (fun _ => hne) (by rw [hw.1]; decide) (rw_one (by omega) hw.2 ho) (fun Ψ x g h => ite0 h) (fun p' hp' => by
      rw [hw.1, show twQ 0 k0 Q00 = (PQ.mk (k0) Q00.cmp Q00.lim Q00.jn Q00.shape Q00.sz Q00.sl Q00.lt Q00.mode) from rfl]
      obtain ⟨r, Q', u1, u2⟩ := B1 (n := n) (c := c) (p := p') (Q := (PQ.mk (k0) Q00.cmp Q00.lim Q00.jn Q00.shape Q00.sz Q00.sl Q00.lt Q00.mode)) (q := upd q 0 (nI k0)) hn hp' ⟨by rw [upd, if_pos rfl], hk⟩ rfl rfl rfl ⟨rfl, rfl, rfl, rfl, rfl⟩
      exact ⟨r, Q', u1, u2.k fun Ψ x g h => ite1 h⟩)
    refine ⟨r, Q', a, fun M Ψ x g hm t h1 h7 h => ?_⟩
    have hm2 := hm.G (k := 7) (i := 0) (v := nI k0) (by omega) (by omega)
    have fm := FM.Q M 0 (nI k0)
    exact b _ Ψ _ _ hm2 (t.fr fm) h1 (by simp only [CS.mk_R, CS.mk_cap, CS.mk_x, CS.mk_y, CS.mk_g, CS.mk_eta, MS.mk_x, MS.mk_g, MS.mk_V, MS.mk_T, MS.mk_eta, GD.mk_n, GD.mk_rd, GD.mk_c, GD.mk_tk, GD.mk_sz, GD.mk_sl, GD.mk_lt, GD.mk_eta, PQ.mk_fold, PQ.mk_cmp, PQ.mk_lim, PQ.mk_jn, PQ.mk_shape, PQ.mk_sz, PQ.mk_sl, PQ.mk_lt, PQ.mk_mode, PQ.mk_eta, mG, p_ug]; rw [h7]) fun M' x g e1 e2 e3 => h M' x g e1 (fm.trans e2) e3
  have pre : ∀ {M : MS} {x g} {Ψ : Int32 → pJ}, RM M x g → RT M n c → ((atv n c 0 = 99 → (jX9_readsFirst_32 (KF Ψ) x g (atv n c 0) 0 1)) ∧ (¬ atv n c 0 = 99 → ((atv n c 0 = 109 → (jX9_readsFirst_32 (KF Ψ) x g (atv n c 0) 0 2)) ∧ (¬ atv n c 0 = 109 → (jX9_readsFirst_32 (KF Ψ) x g (atv n c 0) 0 0))))) → Rest0 Ψ x g := by
    intro M x g Ψ hm t h
    show wX9_readsFirst x g (KF Ψ)
    unfold wX9_readsFirst
    exact m_at (i := 0) hm t (by omega) h
  by_cases f1 : sg n c 0 = 99
  · obtain ⟨r, Q', a, b⟩ := go 1 (by omega) (fun k hk hm hne => by
      rcases z0 k hk hm with rfl | rfl | rfl
      · exact l0 (by omega)
      · exact absurd rfl hne
      · exact l2 (by omega))
    refine ⟨r, Q', a, fun M Ψ x g hm t h1 h7 h => pre hm t ?_⟩
    have z := (atv_eq t (w := 99) (by omega) (by omega)).2 f1
    exact ⟨fun _ => ⟨p_v9 (by decide), fun _ => b M Ψ x g hm t h1 h7 h, fun e => absurd z e⟩, fun e => absurd z e⟩
  · by_cases f2 : sg n c 0 = 109
    · obtain ⟨r, Q', a, b⟩ := go 2 (by omega) (fun k hk hm hne => by
        rcases z0 k hk hm with rfl | rfl | rfl
        · exact l0 (by omega)
        · exact l1 (by omega)
        · exact absurd rfl hne)
      refine ⟨r, Q', a, fun M Ψ x g hm t h1 h7 h => pre hm t ?_⟩
      have z1 : ¬ atv n c 0 = 99 := fun e => f1 ((atv_eq t (w := 99) (by omega) (by omega)).1 e)
      have z := (atv_eq t (w := 109) (by omega) (by omega)).2 f2
      exact ⟨fun e => absurd e z1, fun _ => ⟨fun _ => ⟨p_v9 (by decide), fun e => absurd e z1, fun _ => ⟨fun _ => b M Ψ x g hm t h1 h7 h, fun e => absurd z e⟩⟩, fun e => absurd z e⟩⟩
    · obtain ⟨r, Q', a, b⟩ := go 0 (by omega) (fun k hk hm hne => by
        rcases z0 k hk hm with rfl | rfl | rfl
        · exact absurd rfl hne
        · exact l1 f1
        · exact l2 f2)
      refine ⟨r, Q', a, fun M Ψ x g hm t h1 h7 h => pre hm t ?_⟩
      have z1 : ¬ atv n c 0 = 99 := fun e => f1 ((atv_eq t (w := 99) (by omega) (by omega)).1 e)
      have z2 : ¬ atv n c 0 = 109 := fun e => f2 ((atv_eq t (w := 109) (by omega) (by omega)).1 e)
      exact ⟨fun e => absurd e z1, fun _ => ⟨fun e => absurd e z2, fun _ => ⟨p_v9 (by decide), fun e => absurd e z1, fun _ => ⟨fun e => absurd e z2, fun _ => b M Ψ x g hm t h1 h7 h⟩⟩⟩⟩
set_option maxRecDepth 4096 in
theorem both_read {n : Nat} {c : Nat → Nat} (q : Nat → Int32) (hn : n ≤ 60) : ∃ r Q', OC n c 0 0 Q00 r Q' ∧ ∀ (M : MS) (Ψ : Int32 → pJ) x g, RM M x g → RT M n c → M.g 7 = q → (∀ M' x g, RM M' x g → FM M M' → (r = none → QM Q' (M'.g 7)) → Ψ (rI r) x g) → wX9_reads x g Ψ := by
  obtain ⟨r, Q', a, b⟩ := B0 (n := n) (c := c) (q := q) hn
  refine ⟨r, Q', a, fun M Ψ x g hm t h7 h => ?_⟩
  have f := FM.X M (k := 1) (by omega) (by omega) (nI 0)
  exact b (mX M 1 (nI 0)) Ψ _ _ (hm.X 1 (nI 0)) (t.fr f) (by simp only [CS.mk_R, CS.mk_cap, CS.mk_x, CS.mk_y, CS.mk_g, CS.mk_eta, MS.mk_x, MS.mk_g, MS.mk_V, MS.mk_T, MS.mk_eta, GD.mk_n, GD.mk_rd, GD.mk_c, GD.mk_tk, GD.mk_sz, GD.mk_sl, GD.mk_lt, GD.mk_eta, PQ.mk_fold, PQ.mk_cmp, PQ.mk_lim, PQ.mk_jn, PQ.mk_shape, PQ.mk_sz, PQ.mk_sl, PQ.mk_lt, PQ.mk_mode, PQ.mk_eta, mX, p_ug]) h7 fun M' x g e1 e2 e3 => h M' x g e1 (f.trans e2) e3
set_option maxRecDepth 4096 in
theorem Rel.fq {S M S' M' d i} (h : Rel S M d i) (a : FQ S S') (b : FM M M') : Rel S' M' d i := by
  have ex : ∀ k i, ¬ (8 ≤ k ∧ k ≤ 12 ∧ i = 1) → ¬ ((k = 20 ∨ k = 21) ∧ i = 0) → S'.x k i = S.x k i := a.x
  have ey : ∀ k i, ¬ (3 ≤ k ∧ k ≤ 6 ∧ i = 1) → S'.y k i = S.y k i := a.y
  have mx : ∀ k, k ≠ 1 → k ≠ 2 → k ≠ 3 → M'.x k = M.x k := b.x
  have mg : ∀ k, k ≠ 7 → M'.g k = M.g k := b.g
  have y5 : S'.y 5 0 = S.y 5 0 := ey 5 0 (by omega)
  have str : ∀ {c p rd m}, STR S M d.sz (decide (S.y 5 0 = 10)) c p rd m → STR S' M' d.sz (decide (S'.y 5 0 = 10)) c p rd m := fun {c p rd m} s => by
    rw [y5]
    exact s.fr (by rw [a.R]) (fun k _ _ => ex k c (by omega) (by omega)) (fun k _ _ => by rw [a.g]) (by rw [b.V]) (fun k _ _ => by rw [mg k (by omega)]) (fun k j _ _ _ => by rw [mg k (by omega)])
  refine ⟨?_, ?_, ?_, ?_, ?_, ?_, ?_, (by rw [b.T]; exact str h.st0), ?_, ?_, ?_, h.tki, ?_⟩
  · obtain ⟨n, t⟩ := h.tx
    exact ⟨n, t.fl (fun k _ _ => ex k 0 (by omega) (by omega)) (ey 9 0 (by omega)) (by rw [a.g]) (mx 0 (by omega) (by omega) (by omega)) (mg 4 (by omega))⟩
  · exact h.ev.fr (fun p _ => by rw [a.R]) (fun k _ _ => mg k (by omega)) (mx 8 (by omega) (by omega) (by omega)) (by rw [mg 6 (by omega)])
  · exact h.tb.fl (by rw [a.R]) (mx 19 (by omega) (by omega) (by omega)) (fun k _ _ => mg k (by omega))
  · intro p hp
    rw [ex 6 p (by omega) (by omega), mg 17 (by omega)]; exact h.lag p hp
  · intro p hp
    rw [ex 7 p (by omega) (by omega), mg 18 (by omega)]; exact h.idle p hp
  · have m5 := mx 5 (by omega) (by omega) (by omega)
    refine ⟨by rw [m5]; exact h.pl.b, by rw [m5, ex 15 0 (by omega) (by omega)]; exact h.pl.s15, fun e => ?_, fun e => ?_⟩
    · rw [m5] at e
      exact (h.pl.q e).fl (fun k _ _ => ex k 0 (by omega) (by omega)) (fun k _ _ => ey k 0 (by omega)) (mg 6 (by omega))
    · rw [m5] at e
      rw [b.V]; exact h.pl.z e
  · rw [a.R, b.T]; exact h.tt
  · obtain ⟨rd, m, s, p, q⟩ := h.st1
    exact ⟨rd, m, str s, p, by rw [b.T]; exact q⟩
  · have y7 : ∀ k, S'.y 7 k = S.y 7 k := fun k => ey 7 k (by omega)
    have x5 : ∀ k, S'.x 5 k = S.x 5 k := fun k => ex 5 k (by omega) (by omega)
    refine ⟨h.sn.c5, by rw [ex 13 0 (by omega) (by omega)]; exact h.sn.s13, by rw [mx 35 (by omega) (by omega) (by omega)]; exact h.sn.m35, by rw [ex 14 0 (by omega) (by omega)]; exact h.sn.s14, by rw [mx 37 (by omega) (by omega) (by omega)]; exact h.sn.m37, fun k hk => by rw [y7]; exact h.sn.y7 k hk, fun j k hj hk e => ?_, fun k hk => ?_, fun j k hj hk => ?_⟩
    · rw [y7, y7] at e; exact h.sn.inj j k hj hk e
    · rw [y7, x5, mg 36 (by omega)]; exact h.sn.num k hk
    · rw [y7, y7, x5, x5]; exact h.sn.inc j k hj hk
  · intro k hk
    obtain ⟨rd, m, s, p, q⟩ := h.std k hk
    rw [ey 7 k (by omega)]
    exact ⟨rd, m, str s, p, by rw [b.T]; exact q⟩
  · rw [ex 16 0 (by omega) (by omega), mx 43 (by omega) (by omega) (by omega)]; exact h.wk
def Sq (S : CS) : CS := cY (cY (cY (cY (uX (uX (uX (uX (uX (uX (uX S 8 1 0) 9 1 0) 10 1 1) 11 1 1) 12 1 0) 20 0 0) 21 0 0) 3 1 0) 4 1 3) 5 1 8) 6 1 12
set_option maxRecDepth 4096 in
theorem Sq.rc {S x y g} (h : RC S x y g) : RC (Sq S) (qx x) (qy y) g :=
  ((((((((((h.X (k := 8) (i := 1) (v := 0) (by omega)).X (k := 9) (i := 1) (v := 0) (by omega)).X (k := 10) (i := 1) (v := 1) (by omega)).X (k := 11) (i := 1) (v := 1) (by omega)).X (k := 12) (i := 1) (v := 0) (by omega)).X (k := 20) (i := 0) (v := 0) (by omega)).X (k := 21) (i := 0) (v := 0) (by omega)).Y (k := 3) (i := 1) (v := 0) (by omega)).Y (k := 4) (i := 1) (v := 3) (by omega)).Y (k := 5) (i := 1) (v := 8) (by omega)).Y (k := 6) (i := 1) (v := 12) (by omega)
set_option maxRecDepth 4096 in
theorem Sq.fq (S : CS) : FQ S (Sq S) :=
  ((((((((((FQ.xq S (j := 8) (by omega) (by omega) 0).trans (FQ.xq _ (j := 9) (by omega) (by omega) 0)).trans (FQ.xq _ (j := 10) (by omega) (by omega) 1)).trans (FQ.xq _ (j := 11) (by omega) (by omega) 1)).trans (FQ.xq _ (j := 12) (by omega) (by omega) 0)).trans (FQ.x20 _ 0)).trans (FQ.x21 _ 0)).trans (FQ.yq _ (j := 3) (by omega) (by omega) 0)).trans (FQ.yq _ (j := 4) (by omega) (by omega) 3)).trans (FQ.yq _ (j := 5) (by omega) (by omega) 8)).trans (FQ.yq _ (j := 6) (by omega) (by omega) 12)
set_option maxRecDepth 4096 in
theorem Sq.px (S : CS) : PXS (Sq S) 0 0 Q00 := ⟨rfl, rfl, rfl, rfl, rfl, rfl, rfl, rfl, rfl, rfl, rfl⟩
def tc (M : MS) (i : Nat) : Nat := (M.g 4 i).toInt.toNat
set_option maxRecDepth 4096 in
theorem TX.tp {S M n} (t : TX S M n) : TP S n (tc M) :=
  ⟨t.n60, t.s17, t.s19, t.cap, by have := t.c70; omega, fun i hi => by
    obtain ⟨e, c, h1, h2, h3⟩ := t.ch i hi
    have : tc M i = c := by unfold tc; rw [h3, nI_back (by omega)]
    rw [this, ← e]; exact ⟨h3, h1, h2⟩⟩
set_option maxRecDepth 4096 in
theorem TX.rt {S M n} (t : TX S M n) : RT M n (tc M) :=
  ⟨t.n60, t.m0, fun i hi => by
    obtain ⟨e, c, h1, h2, h3⟩ := t.ch i hi
    have : tc M i = c := by unfold tc; rw [h3, nI_back (by omega)]
    rw [this]; exact ⟨h3, h1, h2⟩⟩
set_option maxRecDepth 4096 in
theorem both {S M n x y g xm gm} (hc : RC S x y g) (hm : RM M xm gm) (t : TX S M n) : ∃ (r : Option Nat) (Q' : PQ), (∀ e, r = some e → e ≤ 68) ∧ (r = none → ∃ q, QM Q' q) ∧ (∀ Φ : Int32 → pK, (∀ S' p' s' x y g, RC S' x y g → FQ S S' → PXS S' p' s' Q' → Φ (rI r) x y g) → wX3_readAll (qx x) (qy y) g Φ) ∧ ∀ Ψ : Int32 → pJ, (∀ M' x g, RM M' x g → FM M M' → (r = none → QM Q' (M'.g 7)) → Ψ (rI r) x g) → wX9_reads xm gm Ψ := by
  obtain ⟨r, Q', a, b⟩ := both_read (n := n) (c := tc M) (M.g 7) t.n60
  have hn := t.n60
  refine ⟨r, Q', fun e he => by have := a.1.1 e he; omega, a.1.2, fun Φ h => ⟨n + 1, ?_⟩, fun Ψ h => b M Ψ xm gm hm t.rt rfl h⟩
  exact a.2 (Sq S) Φ (n + 1) 0 _ _ _ (Sq.rc hc) (t.tp.fr (Sq.fq S)) (Sq.px S) (by omega) (by omega) fun S' p' s' x y g a1 a2 a3 => h S' p' s' x y g a1 ((Sq.fq S).trans a2) a3
set_option maxRecDepth 4096 in
theorem case2 {i x y g f xm gm bc bs} (hi : i + 5 ≤ 2560) (h : lInv i x y g f xm gm bc bs) : wlc2 x y g f xm gm bc bs (lInv (i + 5)) := by
  obtain ⟨S, M, d, hc, hm, hr, hb⟩ := h
  have hB := hb.min hc.capM hi
  obtain ⟨n, t⟩ := hr.tx
  have t2 : TX S (mX M 44 0) n := ⟨t.n60, t.m0, t.s19, t.s17, t.cap, t.c16, t.c70, t.by_, t.ch⟩
  obtain ⟨r, Q', _, _, a, b⟩ := both hc (hm.X 44 0) t2
  refine ⟨5, 100, bc - 5, bs - 100, by omega, by omega, by omega, by omega, a _ fun S' p' s' x1 y1 g1 h1 h2 h3 => b _ fun M' xm1 gm1 m1 m2 _ => ⟨rfl, S', M', d, m1 |> fun _ => h1, m1, ?_, ?_⟩⟩
  · exact ((hr.thrown 0).fq h2 m2).later (by omega)
  · exact hb.same h2.cap hc.capM hi
