def rI : Option Nat → Int32
  | none => -1
  | some e => nI e
abbrev A0 (Q : PQ) (q : Nat → Int32) : Prop := (q 0 = nI Q.fold) ∧ (Q.fold ≤ 2)
set_option maxRecDepth 4096 in
theorem A0.f0 {Q : PQ} {q : Nat → Int32} (h_ : A0 Q q) : q 0 = nI Q.fold := h_.1
set_option maxRecDepth 4096 in
theorem A0.f2 {Q : PQ} {q : Nat → Int32} (h_ : A0 Q q) : Q.fold ≤ 2 := h_.2
abbrev A1 (Q : PQ) (q : Nat → Int32) : Prop := (q 1 = nI (Q.cmp - 3)) ∧ (3 ≤ Q.cmp) ∧ (Q.cmp ≤ 6) ∧ (q 2 = Q.lim)
set_option maxRecDepth 4096 in
theorem A1.c0 {Q : PQ} {q : Nat → Int32} (h_ : A1 Q q) : q 1 = nI (Q.cmp - 3) := h_.1
set_option maxRecDepth 4096 in
theorem A1.c1 {Q : PQ} {q : Nat → Int32} (h_ : A1 Q q) : 3 ≤ Q.cmp := h_.2.1
set_option maxRecDepth 4096 in
theorem A1.c2 {Q : PQ} {q : Nat → Int32} (h_ : A1 Q q) : Q.cmp ≤ 6 := h_.2.2.1
set_option maxRecDepth 4096 in
theorem A1.lim {Q : PQ} {q : Nat → Int32} (h_ : A1 Q q) : q 2 = Q.lim := h_.2.2.2
abbrev A3 (Q : PQ) (q : Nat → Int32) : Prop := (q 3 = nI Q.jn) ∧ (Q.jn ≤ 1)
set_option maxRecDepth 4096 in
theorem A3.jn {Q : PQ} {q : Nat → Int32} (h_ : A3 Q q) : q 3 = nI Q.jn := h_.1
set_option maxRecDepth 4096 in
theorem A3.jb {Q : PQ} {q : Nat → Int32} (h_ : A3 Q q) : Q.jn ≤ 1 := h_.2
abbrev A4 (Q : PQ) (q : Nat → Int32) : Prop := (q 4 = nI (Q.shape - 8)) ∧ (8 ≤ Q.shape) ∧ (Q.shape ≤ 10) ∧ (q 5 = nI Q.sz) ∧ (1 ≤ Q.sz) ∧ (Q.sz ≤ 99) ∧ (1 ≤ Q.sl) ∧ (Q.sl ≤ 99) ∧ (Q.shape = 9 → q 6 = nI Q.sl) ∧ (Q.shape ≠ 9 → q 6 = 0 ∧ Q.sl = Q.sz)
set_option maxRecDepth 4096 in
theorem A4.sh {Q : PQ} {q : Nat → Int32} (h_ : A4 Q q) : q 4 = nI (Q.shape - 8) := h_.1
set_option maxRecDepth 4096 in
theorem A4.sh1 {Q : PQ} {q : Nat → Int32} (h_ : A4 Q q) : 8 ≤ Q.shape := h_.2.1
set_option maxRecDepth 4096 in
theorem A4.sh2 {Q : PQ} {q : Nat → Int32} (h_ : A4 Q q) : Q.shape ≤ 10 := h_.2.2.1
set_option maxRecDepth 4096 in
theorem A4.zm {Q : PQ} {q : Nat → Int32} (h_ : A4 Q q) : q 5 = nI Q.sz := h_.2.2.2.1
set_option maxRecDepth 4096 in
theorem A4.z1 {Q : PQ} {q : Nat → Int32} (h_ : A4 Q q) : 1 ≤ Q.sz := h_.2.2.2.2.1
set_option maxRecDepth 4096 in
theorem A4.z2 {Q : PQ} {q : Nat → Int32} (h_ : A4 Q q) : Q.sz ≤ 99 := h_.2.2.2.2.2.1
set_option maxRecDepth 4096 in
theorem A4.s1 {Q : PQ} {q : Nat → Int32} (h_ : A4 Q q) : 1 ≤ Q.sl := h_.2.2.2.2.2.2.1
set_option maxRecDepth 4096 in
theorem A4.s2 {Q : PQ} {q : Nat → Int32} (h_ : A4 Q q) : Q.sl ≤ 99 := h_.2.2.2.2.2.2.2.1
set_option maxRecDepth 4096 in
theorem A4.s9 {Q : PQ} {q : Nat → Int32} (h_ : A4 Q q) : Q.shape = 9 → q 6 = nI Q.sl := h_.2.2.2.2.2.2.2.2.1
set_option maxRecDepth 4096 in
theorem A4.s8 {Q : PQ} {q : Nat → Int32} (h_ : A4 Q q) : Q.shape ≠ 9 → q 6 = 0 ∧ Q.sl = Q.sz := h_.2.2.2.2.2.2.2.2.2
abbrev A7 (Q : PQ) (q : Nat → Int32) : Prop := (q 7 = nI Q.lt) ∧ (Q.lt ≤ 99)
set_option maxRecDepth 4096 in
theorem A7.lm {Q : PQ} {q : Nat → Int32} (h_ : A7 Q q) : q 7 = nI Q.lt := h_.1
set_option maxRecDepth 4096 in
theorem A7.l2 {Q : PQ} {q : Nat → Int32} (h_ : A7 Q q) : Q.lt ≤ 99 := h_.2
abbrev A8 (Q : PQ) (q : Nat → Int32) : Prop := (q 8 = nI (Q.mode - 12)) ∧ (12 ≤ Q.mode) ∧ (Q.mode ≤ 14)
set_option maxRecDepth 4096 in
theorem A8.md {Q : PQ} {q : Nat → Int32} (h_ : A8 Q q) : q 8 = nI (Q.mode - 12) := h_.1
set_option maxRecDepth 4096 in
theorem A8.m1 {Q : PQ} {q : Nat → Int32} (h_ : A8 Q q) : 12 ≤ Q.mode := h_.2.1
set_option maxRecDepth 4096 in
theorem A8.m2 {Q : PQ} {q : Nat → Int32} (h_ : A8 Q q) : Q.mode ≤ 14 := h_.2.2
abbrev QM (Q : PQ) (q : Nat → Int32) : Prop := (A0 Q q) ∧ (A1 Q q) ∧ (A3 Q q) ∧ (A4 Q q) ∧ (A7 Q q) ∧ (A8 Q q)
set_option maxRecDepth 4096 in
theorem QM.a0 {Q : PQ} {q : Nat → Int32} (h_ : QM Q q) : A0 Q q := h_.1
set_option maxRecDepth 4096 in
theorem QM.a1 {Q : PQ} {q : Nat → Int32} (h_ : QM Q q) : A1 Q q := h_.2.1
set_option maxRecDepth 4096 in
theorem QM.a3 {Q : PQ} {q : Nat → Int32} (h_ : QM Q q) : A3 Q q := h_.2.2.1
set_option maxRecDepth 4096 in
theorem QM.a4 {Q : PQ} {q : Nat → Int32} (h_ : QM Q q) : A4 Q q := h_.2.2.2.1
set_option maxRecDepth 4096 in
theorem QM.a7 {Q : PQ} {q : Nat → Int32} (h_ : QM Q q) : A7 Q q := h_.2.2.2.2.1
set_option maxRecDepth 4096 in
theorem QM.a8 {Q : PQ} {q : Nat → Int32} (h_ : QM Q q) : A8 Q q := h_.2.2.2.2.2
def OC (n : Nat) (c : Nat → Nat) (s p : Nat) (Q : PQ) (r : Option Nat) (Q' : PQ) : Prop := ((∀ e, r = some e → e ≤ n + 8) ∧ (r = none → ∃ q, QM Q' q)) ∧ ∀ (S : CS) (Φ : Int32 → pK) (f j : Nat) x y g, RC S x y g → TP S n c → PXS S p s Q → j ≤ p → n < f + p → (∀ S' p' s' x y g, RC S' x y g → FQ S S' → PXS S' p' s' Q' → Φ (rI r) x y g) → lX3_readAll_2 Φ f x y g (nI j)
def OR (n : Nat) (c : Nat → Nat) (p : Nat) (q : Nat → Int32) (Rest : (Int32 → pJ) → pJ) (r : Option Nat) (Q' : PQ) : Prop := ∀ (M : MS) (Ψ : Int32 → pJ) x g, RM M x g → RT M n c → M.x 1 = nI p → M.g 7 = q → (∀ M' x g, RM M' x g → FM M M' → (r = none → QM Q' (M'.g 7)) → Ψ (rI r) x g) → Rest Ψ x g
set_option maxRecDepth 4096 in
theorem OC.endOk {n c s Q} (hs : s ≤ 11) (he : isEnd s) (hq : ∃ q, QM Q q) : OC n c s n Q none Q := by
  refine ⟨⟨fun e h => absurd h (by simp), fun _ => hq⟩, ?_⟩
  intro S Φ f j x y g hc t px hj hf h
  obtain ⟨f, rfl⟩ : ∃ n', f = n' + 1 := ⟨f - 1, by omega⟩
  refine c_allEnd hc t px hs hj ?_
  rw [if_pos he]
  exact h S _ _ x y g hc FQ.rfl' px
set_option maxRecDepth 4096 in
theorem OC.endNo {n c s Q} (hs : s ≤ 11) (he : ¬ isEnd s) : OC n c s n Q (some n) Q := by
  refine ⟨⟨fun e h => by injection h with h; omega, fun h => absurd h (by simp)⟩, ?_⟩
  intro S Φ f j x y g hc t px hj hf h
  obtain ⟨f, rfl⟩ : ∃ n', f = n' + 1 := ⟨f - 1, by omega⟩
  refine c_allEnd hc t px hs hj ?_
  rw [if_neg he]
  exact h S _ _ x y g hc FQ.rfl' px
set_option maxRecDepth 4096 in
theorem sg_n {n : Nat} {c : Nat → Nat} {i : Nat} (h : n ≤ i) : sg n c i = 32 := by unfold sg; rw [if_neg (by omega)]
set_option maxRecDepth 4096 in
theorem spN_head : ∀ k, k < 15 → ∃ w ws, spN k = w :: ws ∧ w ≠ 32 := by
  have h : ∀ k, k < 15 → spN k = (spN k).getD 0 0 :: (spN k).tail ∧ (spN k).getD 0 0 ≠ 32 := by decide
  exact fun k hk => ⟨_, _, h k hk⟩
set_option maxRecDepth 4096 in
theorem lcp_0 {f : Nat → Nat} {k p : Nat} (hk : k < 15) (h : f p ≠ (spN k).getD 0 0) : lcp f (spN k) p = 0 := by
  obtain ⟨w, ws, e, _⟩ := spN_head k hk
  rw [e] at h ⊢
  simp only [CS.mk_R, CS.mk_cap, CS.mk_x, CS.mk_y, CS.mk_g, CS.mk_eta, MS.mk_x, MS.mk_g, MS.mk_V, MS.mk_T, MS.mk_eta, GD.mk_n, GD.mk_rd, GD.mk_c, GD.mk_tk, GD.mk_sz, GD.mk_sl, GD.mk_lt, GD.mk_eta, PQ.mk_fold, PQ.mk_cmp, PQ.mk_lim, PQ.mk_jn, PQ.mk_shape, PQ.mk_sz, PQ.mk_sl, PQ.mk_lt, PQ.mk_mode, PQ.mk_eta, lcp]
  rw [if_neg (by simpa using h)]
set_option maxRecDepth 4096 in
theorem rw_end {n : Nat} {c : Nat → Nat} {s : Nat} : rw0 (sg n c) s n = .inr n :=
  rw_none fun k hk _ => by
    obtain ⟨w, ws, e, h⟩ := spN_head k hk
    refine lcp_0 hk ?_
    rw [sg_n (Nat.le_refl _), e]
    simpa using Ne.symm h
set_option maxRecDepth 4096 in
theorem rwF_bd {f : Nat → Nat} {s p : Nat} : ∀ (m k b : Nat), b ≤ 7 → ∀ e, rwF f s p m k b = .inr e → k + m = 15 → e ≤ p + 7 := by
  intro m
  induction m with
  | zero => intro k b hb e h _; simp only [CS.mk_R, CS.mk_cap, CS.mk_x, CS.mk_y, CS.mk_g, CS.mk_eta, MS.mk_x, MS.mk_g, MS.mk_V, MS.mk_T, MS.mk_eta, GD.mk_n, GD.mk_rd, GD.mk_c, GD.mk_tk, GD.mk_sz, GD.mk_sl, GD.mk_lt, GD.mk_eta, PQ.mk_fold, PQ.mk_cmp, PQ.mk_lim, PQ.mk_jn, PQ.mk_shape, PQ.mk_sz, PQ.mk_sl, PQ.mk_lt, PQ.mk_mode, PQ.mk_eta, rwF] at h; injection h with h; omega
  | succ m ih =>
    intro k b hb e h hkm
    simp only [CS.mk_R, CS.mk_cap, CS.mk_x, CS.mk_y, CS.mk_g, CS.mk_eta, MS.mk_x, MS.mk_g, MS.mk_V, MS.mk_T, MS.mk_eta, GD.mk_n, GD.mk_rd, GD.mk_c, GD.mk_tk, GD.mk_sz, GD.mk_sl, GD.mk_lt, GD.mk_eta, PQ.mk_fold, PQ.mk_cmp, PQ.mk_lim, PQ.mk_jn, PQ.mk_shape, PQ.mk_sz, PQ.mk_sl, PQ.mk_lt, PQ.mk_mode, PQ.mk_eta, rwF] at h
    have hl := lcp_le f (spN k) p
    have hl7 := spN_len k (by omega)
    split at h
    · split at h
      · exact absurd h (by simp)
      · exact ih _ _ (by omega) e h (by omega)
    · exact ih _ _ hb e h (by omega)
set_option maxRecDepth 4096 in
theorem OC.wordF {n c s p Q e} (hp : p ≤ n) (hs : s ≤ 11) (hns : ¬ isNum s) (he : p = n → ¬ isEnd s) (h : rw0 (sg n c) s p = .inr e) : OC n c s p Q (some e) Q := by
  rcases Nat.lt_or_ge p n with hlt | hge
  · refine ⟨⟨fun e' h' => by injection h' with h'; have := rwF_bd 15 0 0 (by omega) e h (by omega); omega, fun h => absurd h (by simp)⟩, ?_⟩
    intro S Φ f j x y g hc t px hj hf hΦ
    obtain ⟨f, rfl⟩ : ∃ n', f = n' + 1 := ⟨f - 1, by omega⟩
    refine c_allWord hc t px hlt hs hns hj (fun e' q => ?_) (fun k q => ?_)
    · rw [h] at q; injection q with q; subst q
      exact hΦ S _ _ x y g hc FQ.rfl' px
    · rw [h] at q; exact absurd q (by simp)
  · obtain rfl : p = n := by omega
    rw [rw_end] at h; injection h with h; subst h
    exact OC.endNo hs (he rfl)
set_option maxRecDepth 4096 in
theorem OC.word {n c s p Q k r Q'} (hp : p ≤ n) (hs : s ≤ 11) (hns : ¬ isNum s) (h : rw0 (sg n c) s p = .inl k) (ih : OC n c (wN k) (skip n c (p + (spN k).length)) (twQ s k Q) r Q') : OC n c s p Q r Q' := by
  rcases Nat.lt_or_ge p n with hlt | hge
  · refine ⟨ih.1, ?_⟩
    intro S Φ f j x y g hc t px hj hf hΦ
    obtain ⟨f, rfl⟩ : ∃ n', f = n' + 1 := ⟨f - 1, by omega⟩
    refine c_allWord hc t px hlt hs hns hj (fun e' q => ?_) (fun k' q hk S' x y g hS fq hpx hle => ?_)
    · rw [h] at q; exact absurd q (by simp)
    · rw [h] at q; injection q with q; subst q
      have := (spN_len k hk).1
      have hsk := (skip_le (n := n) (c := c) (p := p + (spN k).length)).1
      exact ih.2 S' Φ f (j + 1) x y g hS (t.fr fq) hpx (by omega) (by omega) fun S2 p2 s2 x y g a1 a2 a3 => hΦ S2 p2 s2 x y g a1 (fq.trans a2) a3
  · obtain rfl : p = n := by omega
    rw [rw_end] at h; exact absurd h (by simp)
set_option maxRecDepth 4096 in
theorem nmF_n2 {n : Nat} {c : Nat → Nat} {z : Bool} {a v e : Nat} (h : nmF (sg n c) z a = .inr (v, e)) : a < e ∧ e ≤ n := by
  have dig : ∀ q, 48 ≤ sg n c q → q < n := fun q hq => by
    rcases Nat.lt_or_ge q n with z | z
    · exact z
    · unfold sg at hq; rw [if_neg (by omega)] at hq; omega
  unfold nmF at h
  split at h
  · exact absurd h (by simp)
  · next hn =>
    have h1 := dig a (by omega)
    split at h
    · next h2 => have := dig (a + 1) h2.2.1; injection h with h; injection h with _ h; omega
    · injection h with h; injection h with _ h; omega
set_option maxRecDepth 4096 in
theorem nmF_end {n : Nat} {c : Nat → Nat} {z : Bool} {a : Nat} (h : n ≤ a) : nmF (sg n c) z a = .inl a := by
  unfold nmF
  rw [if_pos]
  rw [sg_n h]; omega
set_option maxRecDepth 4096 in
theorem isNum_end {s : Nat} (h : isNum s) : ¬ isEnd s := by unfold isNum isEnd at *; omega
def dgA (n : Nat) (c : Nat → Nat) (s p : Nat) : Nat := if ngF (sg n c) s p then p + 1 else p
set_option maxRecDepth 4096 in
theorem dgA_le {n c s p} : p ≤ dgA n c s p ∧ dgA n c s p ≤ p + 1 := by unfold dgA; split <;> omega
set_option maxRecDepth 4096 in
theorem dgA_end {n c s} : dgA n c s n = n := by
  unfold dgA ngF
  rw [sg_n (Nat.le_refl _)]; simp
set_option maxRecDepth 4096 in
theorem OC.numF {n c s p Q e} (hp : p ≤ n) (hs : s ≤ 11) (hns : isNum s) (h : nmF (sg n c) (zOK s) (dgA n c s p) = .inl e ∨ ∃ v, nmF (sg n c) (zOK s) (dgA n c s p) = .inr (v, e) ∧ sg n c e ≠ 32) : OC n c s p Q (some e) Q := by
  rcases Nat.lt_or_ge p n with hlt | hge
  · refine ⟨⟨fun e' h' => ?_, fun h => absurd h (by simp)⟩, ?_⟩
    · injection h' with h'
      subst h'
      rcases h with h | ⟨v, h, _⟩
      · have hd := dgA_le (n := n) (c := c) (s := s) (p := p)
        generalize dgA n c s p = a at h hd
        unfold nmF at h
        by_cases q : sg n c a < 48 ∨ 57 < sg n c a ∨ (sg n c a = 48 ∧ zOK s = false)
        · rw [if_pos q] at h; injection h with h; omega
        · rw [if_neg q] at h; split at h <;> exact absurd h (by simp)
      · have := nmF_n2 h; omega
    intro S Φ f j x y g hc t px hj hf hΦ
    obtain ⟨f, rfl⟩ : ∃ n', f = n' + 1 := ⟨f - 1, by omega⟩
    refine c_allNum hc t px hlt hs hns hj (fun e' q => ?_) (fun v' e' q hq => ?_) (fun v' e' q hq => ?_)
    · rcases h with h | ⟨v, h, _⟩
      · rw [show (if ngF (sg n c) s p then p + 1 else p) = dgA n c s p from rfl, h] at q; injection q with q; subst q
        exact hΦ S _ _ x y g hc FQ.rfl' px
      · rw [show (if ngF (sg n c) s p then p + 1 else p) = dgA n c s p from rfl, h] at q; exact absurd q (by simp)
    · rcases h with h | ⟨v, h, _⟩
      · rw [show (if ngF (sg n c) s p then p + 1 else p) = dgA n c s p from rfl, h] at q; exact absurd q (by simp)
      · rw [show (if ngF (sg n c) s p then p + 1 else p) = dgA n c s p from rfl, h] at q; injection q with q; injection q with q q2; subst q2
        exact hΦ S _ _ x y g hc FQ.rfl' px
    · rcases h with h | ⟨v, h, h2⟩
      · rw [show (if ngF (sg n c) s p then p + 1 else p) = dgA n c s p from rfl, h] at q; exact absurd q (by simp)
      · rw [show (if ngF (sg n c) s p then p + 1 else p) = dgA n c s p from rfl, h] at q; injection q with q; injection q with q q2; subst q2
        exact absurd hq h2
  · obtain rfl : p = n := by omega
    rw [dgA_end, nmF_end (Nat.le_refl _)] at h
    rcases h with h | ⟨v, h, _⟩
    · injection h with h; subst h
      exact OC.endNo hs (isNum_end hns)
    · exact absurd h (by simp)
set_option maxRecDepth 4096 in
theorem OC.num {n c s p Q v e r Q'} (hp : p ≤ n) (hs : s ≤ 11) (hns : isNum s) (h : nmF (sg n c) (zOK s) (dgA n c s p) = .inr (v, e)) (h2 : sg n c e = 32) (ih : OC n c (tnS s Q) (skip n c e) (tnQ s v (ngF (sg n c) s p) Q) r Q') : OC n c s p Q r Q' := by
  have hd := dgA_le (n := n) (c := c) (s := s) (p := p)
  have hb := nmF_n2 h
  have hsk := (skip_le (n := n) (c := c) (p := e)).1
  refine ⟨ih.1, ?_⟩
  intro S Φ f j x y g hc t px hj hf hΦ
  obtain ⟨f, rfl⟩ : ∃ n', f = n' + 1 := ⟨f - 1, by omega⟩
  refine c_allNum hc t px (by omega) hs hns hj (fun e' q => ?_) (fun v' e' q hq => ?_) (fun v' e' q hq S' x y g hS fq hpx => ?_)
  · rw [show (if ngF (sg n c) s p then p + 1 else p) = dgA n c s p from rfl, h] at q; exact absurd q (by simp)
  · rw [show (if ngF (sg n c) s p then p + 1 else p) = dgA n c s p from rfl, h] at q; injection q with q; injection q with q q2; subst q2
    exact absurd h2 hq
  · rw [show (if ngF (sg n c) s p then p + 1 else p) = dgA n c s p from rfl, h] at q; injection q with q; injection q with q q2; subst q q2
    exact ih.2 S' Φ f (j + 1) x y g hS (t.fr fq) hpx (by omega) (by omega) fun S2 p2 s2 x y g a1 a2 a3 => hΦ S2 p2 s2 x y g a1 (fq.trans a2) a3
set_option maxRecDepth 4096 in
theorem lcp_n {n : Nat} {c : Nat → Nat} : ∀ (ws : List Nat) (q : Nat), lcp (sg n c) ws q = ws.length → (∀ w, w ∈ ws → w ≠ 32) → q + ws.length ≤ n ∨ ws = [] := by
  intro ws
  induction ws with
  | nil => intro q _ _; exact .inr rfl
  | cons w ws ih =>
    intro q h hw
    simp only [CS.mk_R, CS.mk_cap, CS.mk_x, CS.mk_y, CS.mk_g, CS.mk_eta, MS.mk_x, MS.mk_g, MS.mk_V, MS.mk_T, MS.mk_eta, GD.mk_n, GD.mk_rd, GD.mk_c, GD.mk_tk, GD.mk_sz, GD.mk_sl, GD.mk_lt, GD.mk_eta, PQ.mk_fold, PQ.mk_cmp, PQ.mk_lim, PQ.mk_jn, PQ.mk_shape, PQ.mk_sz, PQ.mk_sl, PQ.mk_lt, PQ.mk_mode, PQ.mk_eta, lcp, List.length_cons] at h
    by_cases e : sg n c q = w
    · rw [if_pos e] at h
      have hq : q < n := by
        rcases Nat.lt_or_ge q n with z | z
        · exact z
        · exact absurd (e.symm.trans (sg_n z)) (hw w List.mem_cons_self)
      rcases ih (q + 1) (by omega) (fun v hv => hw v (List.mem_cons_of_mem _ hv)) with z | z
      · left; simp only [CS.mk_R, CS.mk_cap, CS.mk_x, CS.mk_y, CS.mk_g, CS.mk_eta, MS.mk_x, MS.mk_g, MS.mk_V, MS.mk_T, MS.mk_eta, GD.mk_n, GD.mk_rd, GD.mk_c, GD.mk_tk, GD.mk_sz, GD.mk_sl, GD.mk_lt, GD.mk_eta, PQ.mk_fold, PQ.mk_cmp, PQ.mk_lim, PQ.mk_jn, PQ.mk_shape, PQ.mk_sz, PQ.mk_sl, PQ.mk_lt, PQ.mk_mode, PQ.mk_eta, List.length_cons]; omega
      · left; subst z; simp; omega
    · rw [if_neg e] at h; omega
set_option maxRecDepth 4096 in
theorem spN_ch : ∀ k, k < 15 → 4 ≤ k ∧ k ≤ 6 ∨ ∀ w, w ∈ spN k → 32 < w ∧ w < 127 := by decide
set_option maxRecDepth 4096 in
theorem spN_ch2 : ∀ k, k < 15 → ∀ w, w ∈ spN k → 32 < w ∧ w < 127 := by decide
set_option maxRecDepth 4096 in
theorem lcp_sp {n : Nat} {c : Nat → Nat} {k p : Nat} (hk : k < 15) (h : lcp (sg n c) (spN k) p = (spN k).length) : p + (spN k).length ≤ n ∧ p < n := by
  have := (spN_len k hk).1
  rcases lcp_n (spN k) p h (fun w hw => by have := spN_ch2 k hk w hw; omega) with z | z
  · omega
  · rw [z] at this; simp at this
set_option maxRecDepth 4096 in
theorem sg_32 {n : Nat} {c : Nat → Nat} {e : Nat} (h : sg n c e = 32) : n ≤ e ∨ (e < n ∧ c e = 32) := by
  unfold sg at h
  by_cases q : e < n
  · rw [if_pos q] at h; exact .inr ⟨q, h⟩
  · exact .inl (by omega)
set_option maxRecDepth 4096 in
theorem isEnd11 : isEnd 11 := .inr (.inr rfl)
set_option maxRecDepth 4096 in
theorem may11 : ∀ k, k < 15 → ¬ may 11 k := by decide
set_option maxRecDepth 4096 in
theorem A0.up {Q q i v} (h : A0 Q q) (hi : i ≠ 0) : A0 Q (upd q i v) := ⟨by rw [upd, if_neg (Ne.symm hi)]; exact h.f0, h.f2⟩
set_option maxRecDepth 4096 in
theorem A1.up {Q q i v} (h : A1 Q q) (h1 : i ≠ 1) (h2 : i ≠ 2) : A1 Q (upd q i v) := ⟨by rw [upd, if_neg (Ne.symm h1)]; exact h.c0, h.c1, h.c2, by rw [upd, if_neg (Ne.symm h2)]; exact h.lim⟩
set_option maxRecDepth 4096 in
theorem A3.up {Q q i v} (h : A3 Q q) (h1 : i ≠ 3) : A3 Q (upd q i v) := ⟨by rw [upd, if_neg (Ne.symm h1)]; exact h.jn, h.jb⟩
set_option maxRecDepth 4096 in
theorem A4.up {Q q i v} (h : A4 Q q) (h1 : i ≠ 4) (h2 : i ≠ 5) (h3 : i ≠ 6) : A4 Q (upd q i v) := ⟨by rw [upd, if_neg (Ne.symm h1)]; exact h.sh, h.sh1, h.sh2, by rw [upd, if_neg (Ne.symm h2)]; exact h.zm, h.z1, h.z2, h.s1, h.s2, by rw [upd, if_neg (Ne.symm h3)]; exact h.s9, by rw [upd, if_neg (Ne.symm h3)]; exact h.s8⟩
set_option maxRecDepth 4096 in
theorem A7.up {Q q i v} (h : A7 Q q) (h1 : i ≠ 7) : A7 Q (upd q i v) := ⟨by rw [upd, if_neg (Ne.symm h1)]; exact h.lm, h.l2⟩
set_option maxRecDepth 4096 in
theorem num_cases {n : Nat} {c : Nat → Nat} {zb : Bool} {a : Nat} : (∃ e, nmF (sg n c) zb a = .inl e) ∨ (∃ v e, nmF (sg n c) zb a = .inr (v, e)) := by
  cases h : nmF (sg n c) zb a with
  | inl e => exact .inl ⟨e, rfl⟩
  | inr r => exact .inr ⟨r.1, r.2, rfl⟩
set_option maxRecDepth 4096 in
theorem dgA_3 {n c s p} (h : s ≠ 3) : dgA n c s p = p ∧ ngF (sg n c) s p = false := by
  have : ngF (sg n c) s p = false := by unfold ngF; simp [CS.mk_R, CS.mk_cap, CS.mk_x, CS.mk_y, CS.mk_g, CS.mk_eta, MS.mk_x, MS.mk_g, MS.mk_V, MS.mk_T, MS.mk_eta, GD.mk_n, GD.mk_rd, GD.mk_c, GD.mk_tk, GD.mk_sz, GD.mk_sl, GD.mk_lt, GD.mk_eta, PQ.mk_fold, PQ.mk_cmp, PQ.mk_lim, PQ.mk_jn, PQ.mk_shape, PQ.mk_sz, PQ.mk_sl, PQ.mk_lt, PQ.mk_mode, PQ.mk_eta, h]
  exact ⟨by unfold dgA; rw [this]; rfl, this⟩
set_option maxRecDepth 4096 in
theorem may8x : ∀ k, k < 15 → may 8 k → k = 11 ∨ k = 12 ∨ k = 13 ∨ k = 14 := by decide
