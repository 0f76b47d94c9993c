/-! ===== what comes of the invariant when a query is typed, and planned ===== -/
theorem EXT.sm {S0 S M0 d i} (h : EXT S0 d) (hr : Rel S0 M0 d i) (sm : SM S0 S) : EXT S d := by
  obtain ⟨eR, ec, ex, ey, eg⟩ := sm
  refine h.kept (d' := d) hr ?_ rfl rfl rfl (fun q _ => by rw [eR]) ⟨[], by rw [eR, List.append_nil]⟩ (fun p _ n _ => by rw [eR]) (fun a _ => ex 2 a (by omega)) (fun a _ => ex 4 a (by omega)) (ex 10 0 (by omega)) (fun a _ => by rw [ex 12 0 (by omega)]; exact Int32.le_refl _) (ey 3 0 (by omega)) (ey 5 0 (by omega)) (funext fun j => ey 7 j (by omega)) (fun a _ => by rw [eg])
  have := h.1
  unfold TS0 at this ⊢
  rw [ey 5 0 (by omega), ey 3 0 (by omega), eR, ex 2 0 (by omega), ex 12 0 (by omega), ex 10 0 (by omega), show EV S d.rd = EV S0 d.rd from EV_congr fun p hp => by rw [eR]]
  exact this
theorem CI.sm {S0 S M0 M d k} {cf : Nat → Int32} (h : CI S0 M0 d k cf) (sm : SM S0 S) (m5 : M.x 5 = M0.x 5) : CI S M d k cf := by
  obtain ⟨eR, ec, ex, ey, eg⟩ := sm
  obtain ⟨c0, c1, c2, c3, c4, c5, c6, c7, c8, c9⟩ := h
  refine ⟨c0, c1, by rw [eR]; exact c2, c3, c4, by rw [ex 4 1 (by omega)]; exact c5, fun b hb => ?_, by rw [m5]; exact c7, by rw [ex 16 0 (by omega)]; exact c8, by rw [ex 2 0 (by omega)]; exact c9⟩
  rw [c6 b hb]
  have e5 : ∀ j, S.x 5 (S.y 7 j) = S0.x 5 (S0.y 7 j) := fun j => by rw [ex 5 _ (by omega), ey 7 j (by omega)]
  simp only [e5]
theorem LI.calm {k W V W' V' S0 S M0 M d x y g qf qf' cf bc bs x' y' g' b2 s2} (h : LI k W V S0 M0 d x y g qf cf bc bs) (hS : RC S x' y' g') (hr' : Rel S M d 2000) (sm : SM S0 S) (m5 : M.x 5 = M0.x 5) (h19 : S.x 19 0 = 0) (hB : BG28 S0 W' V' b2 s2) (hq : ∀ j, j < 6 → qf' j = qf j) : LI k W' V' S M d x' y' g' qf' cf b2 s2 ∧ NEWR S0 S := by
  obtain ⟨hc, hr, hC, hb, hP, hT0, hL, hI⟩ := h
  have sm0 := sm
  obtain ⟨eR, ec, ex, ey, eg⟩ := sm
  refine ⟨⟨hS, hr', hC.same ec, hB.same ec, fun z => ?_, h19, fun a ha => ?_, hI.sm sm0 m5⟩, NEWR.same (by rw [eR]; exact Nat.le_refl _)⟩
  · obtain ⟨hE, hQ, hsz, hsl⟩ := hP (by rw [← m5]; exact z)
    refine ⟨hE.sm hr sm0, ?_, hsz, hsl⟩
    obtain ⟨a0, a1, a2, a3, a3', a4, a5⟩ := hQ
    refine ⟨?_, ?_, ?_, fun e => ?_, fun e => ?_, ?_, ?_⟩
    · rw [hq 0 (by omega), ey 3 0 (by omega)]; exact a0
    · rw [hq 1 (by omega), ey 5 0 (by omega)]; exact a1
    · rw [hq 2 (by omega)]; exact a2
    · rw [hq 3 (by omega)]; exact a3 (by rw [← ey 5 0 (by omega)]; exact e)
    · rw [hq 3 (by omega)]; exact a3' (by rw [← ey 5 0 (by omega)]; exact e)
    · rw [hq 4 (by omega)]; exact a4
    · rw [hq 5 (by omega), ey 6 0 (by omega)]; exact a5
  · rw [ex 3 a (by omega)]
    exact hL a ha
theorem Sxy_q (S : CS) (v : Int32) (rq : Nat) (Q : PQ) : (Sy (Sx S v Q) rq Q).y 3 0 = Q.fold ∧ (Sy (Sx S v Q) rq Q).y 5 0 = Q.shape ∧ (Sy (Sx S v Q) rq Q).y 6 0 = Q.mode := by
  obtain ⟨a, b, c, e⟩ := Sy_q (Sx S v Q) rq Q
  exact ⟨a, c, e⟩
/-- what the law keeps in q is the query -/
def QFq (Q : PQ) (qf : Nat → Int32) : Prop := qf 0 = nI Q.fold ∧ qf 1 = nI (Q.shape - 8) ∧ qf 2 = nI Q.sz ∧ (Q.shape = 9 → qf 3 = nI Q.sl) ∧ (Q.shape ≠ 9 → qf 3 = 0) ∧ qf 4 = nI Q.lt ∧ ((Q.mode = 12 ∧ (qf 5 = 0 ∨ qf 5 = 1)) ∨ (Q.mode ≠ 12 ∧ (qf 5 = 2 ∨ qf 5 = 3)))
theorem M3_5 (M : MS) : (M3 M).x 5 = 1 := by
  unfold M3 mX
  simp only [MS.mk_x]
  rw [p_un _ _ (by omega), p_ug]
theorem LI.keep {k W V W' V' S0 S M0 M d x y g qf qf' cf bc bs x' y' g' b2 s2} {v : Int32} {rq : Nat} {Q : PQ} (h : LI k W V S0 M0 d x y g qf cf bc bs) (h5 : M0.x 5 = 1) (hr1 : Rel S M d 2000) (sm : SM S0 S) (m5 : M.x 5 = M0.x 5) (hqm : QM Q (M.g 7)) (hf : Fit Q) (hF : Fol Q S0 d) (hS : RC (Sy (Sx S v Q) rq Q) x' y' g') (hB : BG28 S0 W' V' b2 s2) (hq : QFq Q qf') :
    LI (k + 1) W' V' (Sy (Sx S v Q) rq Q) (M3 M) (GD.mk d.n d.rd d.c d.tk d.sz d.sl Q.lt) x' y' g' qf' (upd cf 6 1) b2 s2 ∧ NEWR S0 (Sy (Sx S v Q) rq Q) := by
  obtain ⟨hc, hr, hC, hb, hP, hT0, hL, hI⟩ := h
  have z1 : M.x 5 = 1 := m5.trans h5
  have hF1 := hF.ms sm
  have hr' := hr1.keep (v := v) (rq := rq) z1 hqm hf hF1
  obtain ⟨hE, hQ, hsz, hsl⟩ := hP h5
  have hE1 := (hE.sm hr sm).keep (v := v) (rq := rq) hr1 z1 hF1 hqm.a7.l2
  have sm0 := sm
  obtain ⟨eR, ec, ex, ey, eg⟩ := sm
  have xx : ∀ k i, ¬ (8 ≤ k ∧ k ≤ 12 ∧ i = 0) → ¬ (18 ≤ k ∧ k ≤ 19) → (Sy (Sx S v Q) rq Q).x k i = S.x k i := fun k i a b => Sxy_x S v rq Q a b
  have hR := Sxy_R S v rq Q
  have ey7 : ∀ k, (Sy (Sx S v Q) rq Q).y 7 k = S0.y 7 k := fun k => (Sxy_y S v rq Q (by omega)).trans (ey 7 k (by omega))
  have ecap : (Sy (Sx S v Q) rq Q).cap = S0.cap := (Sxy_c S v rq Q).trans ec
  obtain ⟨y3, y5, y6⟩ := Sxy_q S v rq Q
  obtain ⟨c0, c1, c2, c3, c4, c5, c6, c7, c8, c9⟩ := hI
  refine ⟨⟨hS, hr', hC.same ecap, hB.same ecap, fun _ => ⟨hE1, ?_, hsz, hsl⟩, ?_, fun a ha => ?_, ?_⟩, NEWR.same (by rw [hR, eR]; exact Nat.le_refl _)⟩
  · obtain ⟨f1, f2, f3, f4, f5⟩ := hF
    obtain ⟨a0, a1, a2, a3, a3', a4, a5⟩ := hq
    refine ⟨by rw [y3]; exact a0, by rw [y5]; exact a1, by show qf' 2 = nI d.sz; rw [← f3]; exact a2, fun e => ?_, fun e => a3' (by rw [← y5]; exact e), a4, by rw [y6]; exact a5⟩
    show qf' 3 = nI d.sl
    rw [← f4]
    exact a3 (by rw [← y5]; exact e)
  · rw [Sy_x]; exact (Sx_q S v Q).2
  · rw [xx 3 a (by omega) (by omega), ex 3 a (by omega)]
    exact (hL.more (Nat.le_succ k)) a ha
  · have eu : ∀ j, j ≠ 6 → upd cf 6 1 j = cf j := fun j hj => by unfold upd; rw [if_neg hj]
    refine ⟨fun q hq => by rw [eu q (by omega)]; exact c0 q hq, by show d.n 0 + d.n 1 + d.n 2 ≤ k + 1; omega, by rw [hR, eR]; omega, by rw [eu 3 (by omega)]; exact c3, c4, by rw [eu 4 (by omega), xx 4 1 (by omega) (by omega), ex 4 1 (by omega)]; exact c5, fun b hb => ?_, by rw [M3_5]; rfl, by rw [eu 7 (by omega), xx 16 0 (by omega) (by omega), ex 16 0 (by omega)]; exact c8, by rw [eu 8 (by omega), xx 2 0 (by omega) (by omega), ex 2 0 (by omega)]; exact c9⟩
    rw [eu 5 (by omega), c6 b hb]
    have e5 : ∀ j, (Sy (Sx S v Q) rq Q).x 5 ((Sy (Sx S v Q) rq Q).y 7 j) = S0.x 5 (S0.y 7 j) := fun j => by rw [ey7, xx 5 _ (by omega) (by omega), ex 5 _ (by omega)]
    simp only [e5]
theorem S4_a (S : CS) (v : Int32) (rq : Nat) (Q : PQ) : ∀ a, a < 2 → (S4 S v rq Q).x 2 a = -1 ∧ (S4 S v rq Q).x 3 a = 0 ∧ (S4 S v rq Q).x 4 a = 0 := by
  intro a ha
  have : a = 0 ∨ a = 1 := by omega
  rcases this with rfl | rfl
  · obtain ⟨a1, a2, a3⟩ := cBeg_xi (cCut (S3a S v rq Q) 4 0) 0
    unfold S4
    refine ⟨?_, ?_, ?_⟩
    · rw [cBeg_x _ _ (by omega), cX_x _ _ (by omega), cX_x _ _ (by omega)]; exact a1
    · rw [cBeg_x _ _ (by omega), cX_x _ _ (by omega), cX_x _ _ (by omega)]; exact a2
    · rw [cBeg_x _ _ (by omega), cX_x _ _ (by omega), cX_x _ _ (by omega)]; exact a3
  · exact cBeg_xi (uX (uX (cBeg (cCut (S3a S v rq Q) 4 0) 0) 13 0 0) 14 0 0) 1
theorem LI.anew {k W V W' V' S0 S M0 M d x y g qf qf' cf cf' bc bs x' y' g' b2 s2} {v : Int32} {rq : Nat} {Q : PQ} (h : LI k W V S0 M0 d x y g qf cf bc bs) (hr1 : Rel S M d 2000) (sm : SM S0 S) (hqm : QM Q (M.g 7)) (hf : Fit Q) (hz : Q.sz ≤ 12 ∧ Q.sl ≤ 12) (hS : RC (S4 S v rq Q) x' y' g') (hB : BG28 S0 W' V' b2 s2) (hq : QFq Q qf')
    (f1 : ∀ j, j < 3 ∨ j = 7 → cf' j = cf j) (f2 : cf' 3 = 0 ∧ cf' 4 = 0 ∧ cf' 5 = 0 ∧ cf' 6 = 1 ∧ cf' 8 = -1) :
    LI (k + 1) W' V' (S4 S v rq Q) (M4 M) ⟨d.n, fun _ => 0, 0, 0, Q.sz, Q.sl, Q.lt⟩ x' y' g' qf' cf' b2 s2 ∧ NEWR S0 (S4 S v rq Q) := by
  obtain ⟨hc, hr, hC, hb, hP, hT0, hL, hI⟩ := h
  have hr' := hr1.anew (v := v) (rq := rq) hqm hf
  obtain ⟨eR, ec, ex, ey, eg⟩ := sm
  have ecap : (S4 S v rq Q).cap = S0.cap := (S4_cap S v rq Q).trans ec
  have y0 : ∀ k i, (S4 S v rq Q).y k i = (Sy (Sx S v Q) rq Q).y k i := fun k i => by rw [S4_y]; rfl
  obtain ⟨y3, y5, y6⟩ := Sxy_q S v rq Q
  have hxx : ∀ k i, ¬ (2 ≤ k ∧ k ≤ 5 ∧ i ≤ 1) → k ≠ 13 → k ≠ 14 → ¬ (8 ≤ k ∧ k ≤ 12 ∧ i = 0) → ¬ (18 ≤ k ∧ k ≤ 19) → k ≠ 15 → (S4 S v rq Q).x k i = S.x k i := fun k i a b c e f j => by
    rw [S4_x S v rq Q a b c, S3a_x S v rq Q e f j]
  obtain ⟨c0, c1, c2, c3, c4, c5, c6, c7, c8, c9⟩ := hI
  obtain ⟨g3, g4, g5, g6, g8⟩ := f2
  have m5 : (M4 M).x 5 = 1 := by rw [M4_x _ (by omega) (by omega)]; exact M3_5 M
  have R4 : (S4 S v rq Q).R 4 = [] := by rw [S4_R, if_pos (by omega)]
  have R3 : (S4 S v rq Q).R 3 = S0.R 3 := by rw [S4_R, if_neg (by omega), eR]
  refine ⟨⟨hS, hr', hC.same ecap, hB.same ecap, fun _ => ⟨EXT.anew, ?_, hz.1, hz.2⟩, ?_, fun a ha => ?_, ?_⟩, NEWR.same (by rw [R4]; exact Nat.zero_le _)⟩
  · obtain ⟨a0, a1, a2, a3, a3', a4, a5⟩ := hq
    refine ⟨by rw [y0, y3]; exact a0, by rw [y0, y5]; exact a1, a2, fun e => a3 (by rw [← y5, ← y0]; exact e), fun e => a3' (by rw [← y5, ← y0]; exact e), a4, by rw [y0, y6]; exact a5⟩
  · rw [S4_x _ _ _ _ (by omega) (by omega) (by omega)]; unfold S3a; rw [Sy_x, cX_x _ _ (by omega)]; exact (Sx_q S v Q).2
  · by_cases e : a < 2
    · rw [(S4_a S v rq Q a e).2.1]; exact ⟨0, Nat.zero_le _, rfl⟩
    · rw [hxx 3 a (by omega) (by omega) (by omega) (by omega) (by omega) (by omega), ex 3 a (by omega)]
      exact (hL.more (Nat.le_succ k)) a ha
  · refine ⟨fun q hq => by rw [f1 q (by omega)]; exact c0 q hq, by show d.n 0 + d.n 1 + d.n 2 ≤ k + 1; omega, by rw [R3]; omega, g3, Nat.zero_le _, by rw [g4, (S4_a S v rq Q 1 (by omega)).2.2], fun b hb => ?_, by rw [g6, m5], by rw [f1 7 (by omega), hxx 16 0 (by omega) (by omega) (by omega) (by omega) (by omega) (by omega), ex 16 0 (by omega)]; exact c8, by rw [g8, (S4_a S v rq Q 0 (by omega)).1]⟩
    rw [g5]
    constructor
    · intro z
      have : dbit 0 b = false := by
        unfold dbit
        show (0#32).getLsbD b = false
        simp
      rw [this] at z
      exact absurd z (by decide)
    · rintro ⟨j, hj, -⟩
      exact absurd hj (Nat.not_lt_zero j)
