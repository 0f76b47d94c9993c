set_option maxRecDepth 4096 in
theorem A0.q {Q Q' q} (h : A0 Q q) (e : Q'.fold = Q.fold) : A0 Q' q := ⟨by rw [e]; exact h.1, by rw [e]; exact h.2⟩
set_option maxRecDepth 4096 in
theorem A1.q {Q Q' q} (h : A1 Q q) (e : Q'.cmp = Q.cmp) (e2 : Q'.lim = Q.lim) : A1 Q' q := ⟨by rw [e]; exact h.c0, by rw [e]; exact h.c1, by rw [e]; exact h.c2, by rw [e2]; exact h.lim⟩
set_option maxRecDepth 4096 in
theorem A3.q {Q Q' q} (h : A3 Q q) (e : Q'.jn = Q.jn) : A3 Q' q := ⟨by rw [e]; exact h.1, by rw [e]; exact h.2⟩
def DW (Q : PQ) : Prop := Q.shape = 8 ∧ Q.sz = 1 ∧ Q.sl = 1 ∧ Q.lt = 0 ∧ Q.mode = 12
def S5 (n : Nat) (c : Nat → Nat) (s p : Nat) : Prop := s = 5 ∨ s = 4 ∧ sg n c p ≠ 106 ∨ s = 1 ∧ sg n c p ≠ 105 ∧ sg n c p ≠ 106
set_option maxRecDepth 4096 in
theorem S5.may_ {n c s p} (h : S5 n c s p) : ∀ k, k < 15 → may s k → (k = 8 ∨ k = 9 ∨ k = 10) ∨ lcp (sg n c) (spN k) p = 0 := by
  have z1 : ∀ k, k < 15 → may 1 k → k = 3 ∨ k = 7 ∨ k = 8 ∨ k = 9 ∨ k = 10 := by decide
  have z4 : ∀ k, k < 15 → may 4 k → k = 7 ∨ k = 8 ∨ k = 9 ∨ k = 10 := by decide
  have z5 : ∀ k, k < 15 → may 5 k → k = 8 ∨ k = 9 ∨ k = 10 := by decide
  intro k hk hm
  rcases h with rfl | ⟨rfl, h⟩ | ⟨rfl, h, h'⟩
  · exact .inl (z5 k hk hm)
  · rcases z4 k hk hm with rfl | h2
    · exact .inr (lcp_0 (by omega) h)
    · exact .inl h2
  · rcases z1 k hk hm with rfl | rfl | h2
    · exact .inr (lcp_0 (by omega) h)
    · exact .inr (lcp_0 (by omega) h')
    · exact .inl h2
set_option maxRecDepth 4096 in
theorem may_w : ∀ s, s < 12 → (s = 5 ∨ s = 4 ∨ s = 1) → may s 8 ∧ may s 9 ∧ may s 10 := by decide
set_option maxRecDepth 4096 in
theorem tw_w {s k : Nat} {Q : PQ} (hs : s = 5 ∨ s = 4 ∨ s = 1) (hk : k = 8 ∨ k = 9 ∨ k = 10) : twQ s k Q = (PQ.mk Q.fold Q.cmp Q.lim Q.jn (k) Q.sz Q.sl Q.lt Q.mode) ∧ wN k = 6 := by
  have : wN k = 6 := by rcases hk with rfl | rfl | rfl <;> rfl
  exact ⟨by unfold twQ; rw [if_neg (by omega), if_neg (by omega), if_neg (by omega), if_pos this], this⟩
set_option maxRecDepth 4096 in
theorem lcp_sl {f : Nat → Nat} {p : Nat} : lcp f (spN 9) p = if f p = 115 then (if f (p + 1) = 108 then lcp f [105, 100, 105, 110, 103] (p + 1 + 1) + 1 else 0) + 1 else 0 := rfl
set_option maxRecDepth 4096 in
theorem lcp_se {f : Nat → Nat} {p : Nat} : lcp f (spN 10) p = if f p = 115 then (if f (p + 1) = 101 then lcp f [115, 115, 105, 111, 110] (p + 1 + 1) + 1 else 0) + 1 else 0 := rfl
set_option maxRecDepth 4096 in
theorem OR.k {n c p q R R' r Q'} (h : OR n c p q R r Q') (hR : ∀ Ψ x g, R Ψ x g → R' Ψ x g) : OR n c p q R' r Q' := fun M Ψ x g a b d e f => hR _ _ _ (h M Ψ x g a b d e f)
set_option maxRecDepth 4096 in
theorem lcp_c {f : Nat → Nat} {p k : Nat} (h : 4 ≤ k) (h2 : k ≤ 6) : lcp f (spN k) p = if f p = 56 + k then 1 else 0 := by
  have : k = 4 ∨ k = 5 ∨ k = 6 := by omega
  rcases this with rfl | rfl | rfl <;> rfl
set_option maxRecDepth 4096 in
theorem len_c {k : Nat} (h : 4 ≤ k) (h2 : k ≤ 6) : (spN k).length = 1 ∧ wN k = 3 := by
  have : k = 4 ∨ k = 5 ∨ k = 6 := by omega
  rcases this with rfl | rfl | rfl <;> exact ⟨rfl, rfl⟩
set_option maxRecDepth 4096 in
theorem may2x : ∀ k, k < 15 → (may 2 k ↔ k = 4 ∨ k = 5 ∨ k = 6) := by decide
def Q00 : PQ := ⟨0, 3, 0, 0, 8, 1, 1, 0, 12⟩
set_option maxRecDepth 4096 in
theorem Rel.fq {S M S' M' d i} (h : Rel S M d i) (a : FQ S S') (b : FM M M') : Rel S' M' d i := by
  have ex : ∀ k i, ¬ (8 ≤ k ∧ k ≤ 12 ∧ i = 1) → ¬ ((k = 20 ∨ k = 21) ∧ i = 0) → S'.x k i = S.x k i := a.x
  have ey : ∀ k i, ¬ (3 ≤ k ∧ k ≤ 6 ∧ i = 1) → S'.y k i = S.y k i := a.y
  have mx : ∀ k, k ≠ 1 → k ≠ 2 → k ≠ 3 → M'.x k = M.x k := b.x
  have mg : ∀ k, k ≠ 7 → M'.g k = M.g k := b.g
  have y5 : S'.y 5 0 = S.y 5 0 := ey 5 0 (by omega)
  have str : ∀ {c p rd m}, STR S M d.sz (decide (S.y 5 0 = 10)) c p rd m → STR S' M' d.sz (decide (S'.y 5 0 = 10)) c p rd m := fun {c p rd m} s => by
    rw [y5]
    exact s.fr (by rw [a.R]) (fun k _ _ => ex k c (by omega) (by omega)) (fun k _ _ => by rw [a.g]) (by rw [b.V]) (fun k _ _ => by rw [mg k (by omega)]) (fun k j _ _ _ => by rw [mg k (by omega)])
  refine ⟨?_, ?_, ?_, ?_, ?_, ?_, ?_, (by rw [b.T]; exact str h.st0), ?_, ?_, ?_, h.tki, ?_⟩
  · obtain ⟨n, t⟩ := h.tx
    exact ⟨n, t.fl (fun k _ _ => ex k 0 (by omega) (by omega)) (ey 9 0 (by omega)) (by rw [a.g]) (mx 0 (by omega) (by omega) (by omega)) (mg 4 (by omega))⟩
  · exact h.ev.fr (fun p _ => by rw [a.R]) (fun k _ _ => mg k (by omega)) (mx 8 (by omega) (by omega) (by omega)) (by rw [mg 6 (by omega)])
  · exact h.tb.fl (by rw [a.R]) (mx 19 (by omega) (by omega) (by omega)) (fun k _ _ => mg k (by omega))
  · intro p hp
    rw [ex 6 p (by omega) (by omega), mg 17 (by omega)]; exact h.lag p hp
  · intro p hp
    rw [ex 7 p (by omega) (by omega), mg 18 (by omega)]; exact h.idle p hp
  · have m5 := mx 5 (by omega) (by omega) (by omega)
    refine ⟨by rw [m5]; exact h.pl.b, by rw [m5, ex 15 0 (by omega) (by omega)]; exact h.pl.s15, fun e => ?_, fun e => ?_⟩
    · rw [m5] at e
      exact (h.pl.q e).fl (fun k _ _ => ex k 0 (by omega) (by omega)) (fun k _ _ => ey k 0 (by omega)) (mg 6 (by omega))
    · rw [m5] at e
      rw [b.V]; exact h.pl.z e
  · rw [a.R, b.T]; exact h.tt
  · obtain ⟨rd, m, s, p, q⟩ := h.st1
    exact ⟨rd, m, str s, p, by rw [b.T]; exact q⟩
  · have y7 : ∀ k, S'.y 7 k = S.y 7 k := fun k => ey 7 k (by omega)
    have x5 : ∀ k, S'.x 5 k = S.x 5 k := fun k => ex 5 k (by omega) (by omega)
    refine ⟨h.sn.c5, by rw [ex 13 0 (by omega) (by omega)]; exact h.sn.s13, by rw [mx 35 (by omega) (by omega) (by omega)]; exact h.sn.m35, by rw [ex 14 0 (by omega) (by omega)]; exact h.sn.s14, by rw [mx 37 (by omega) (by omega) (by omega)]; exact h.sn.m37, fun k hk => by rw [y7]; exact h.sn.y7 k hk, fun j k hj hk e => ?_, fun k hk => ?_, fun j k hj hk => ?_⟩
    · rw [y7, y7] at e; exact h.sn.inj j k hj hk e
    · rw [y7, x5, mg 36 (by omega)]; exact h.sn.num k hk
    · rw [y7, y7, x5, x5]; exact h.sn.inc j k hj hk
  · intro k hk
    obtain ⟨rd, m, s, p, q⟩ := h.std k hk
    rw [ey 7 k (by omega)]
    exact ⟨rd, m, str s, p, by rw [b.T]; exact q⟩
  · rw [ex 16 0 (by omega) (by omega), mx 43 (by omega) (by omega) (by omega)]; exact h.wk
def Sq (S : CS) : CS := cY (cY (cY (cY (uX (uX (uX (uX (uX (uX (uX S 8 1 0) 9 1 0) 10 1 1) 11 1 1) 12 1 0) 20 0 0) 21 0 0) 3 1 0) 4 1 3) 5 1 8) 6 1 12
set_option maxRecDepth 4096 in
theorem Sq.rc {S x y g} (h : RC S x y g) : RC (Sq S) (qx x) (qy y) g :=
  ((((((((((h.X (k := 8) (i := 1) (v := 0) (by omega)).X (k := 9) (i := 1) (v := 0) (by omega)).X (k := 10) (i := 1) (v := 1) (by omega)).X (k := 11) (i := 1) (v := 1) (by omega)).X (k := 12) (i := 1) (v := 0) (by omega)).X (k := 20) (i := 0) (v := 0) (by omega)).X (k := 21) (i := 0) (v := 0) (by omega)).Y (k := 3) (i := 1) (v := 0) (by omega)).Y (k := 4) (i := 1) (v := 3) (by omega)).Y (k := 5) (i := 1) (v := 8) (by omega)).Y (k := 6) (i := 1) (v := 12) (by omega)
set_option maxRecDepth 4096 in
theorem Sq.fq (S : CS) : FQ S (Sq S) :=
  ((((((((((FQ.xq S (j := 8) (by omega) (by omega) 0).trans (FQ.xq _ (j := 9) (by omega) (by omega) 0)).trans (FQ.xq _ (j := 10) (by omega) (by omega) 1)).trans (FQ.xq _ (j := 11) (by omega) (by omega) 1)).trans (FQ.xq _ (j := 12) (by omega) (by omega) 0)).trans (FQ.x20 _ 0)).trans (FQ.x21 _ 0)).trans (FQ.yq _ (j := 3) (by omega) (by omega) 0)).trans (FQ.yq _ (j := 4) (by omega) (by omega) 3)).trans (FQ.yq _ (j := 5) (by omega) (by omega) 8)).trans (FQ.yq _ (j := 6) (by omega) (by omega) 12)
set_option maxRecDepth 4096 in
theorem Sq.px (S : CS) : PXS (Sq S) 0 0 Q00 := ⟨rfl, rfl, rfl, rfl, rfl, rfl, rfl, rfl, rfl, rfl, rfl⟩
def tc (M : MS) (i : Nat) : Nat := (M.g 4 i).toInt.toNat
set_option maxRecDepth 4096 in
theorem TX.tp {S M n} (t : TX S M n) : TP S n (tc M) :=
  ⟨t.n60, t.s17, t.s19, t.cap, by have := t.c70; omega, fun i hi => by
    obtain ⟨e, c, h1, h2, h3⟩ := t.ch i hi
    have : tc M i = c := by unfold tc; rw [h3, nI_back (by omega)]
    rw [this, ← e]; exact ⟨h3, h1, h2⟩⟩
set_option maxRecDepth 4096 in
theorem TX.rt {S M n} (t : TX S M n) : RT M n (tc M) :=
  ⟨t.n60, t.m0, fun i hi => by
    obtain ⟨e, c, h1, h2, h3⟩ := t.ch i hi
    have : tc M i = c := by unfold tc; rw [h3, nI_back (by omega)]
    rw [this]; exact ⟨h3, h1, h2⟩⟩
