/-! ===== the law's steps ===== -/
abbrev pLB := Int32 → (Nat → Nat → Int32) → (Nat → Nat → Nat) → (Nat → Nat → Nat → Int32) → (Nat → Int32) → (Nat → Int32) → Nat → Nat → Prop
theorem getD_app {A B : List pRow} {j : Nat} (h : A.length ≤ j) (h2 : j < (A ++ B).length) : (A ++ B).getD j pz ∈ B := by
  rw [List.length_append] at h2
  have : (A ++ B).getD j pz = B.getD (j - A.length) pz := by
    simp only [List.getD, List.getElem?_append_right h]
  rw [this]
  exact p_at_mem (by omega)
theorem EXT.stp {S M d i} (h : EXT S d) (hr : Rel S M d i) (h5 : M.x 5 = 1) {p : Nat} (hp : p < 3) (hrd : d.rd p < d.n p) : ∃ (M' : MS) (a : Nat), M'.x 5 = 1 ∧ Rel (cFind (cStep S p (d.rd p))) M' (dRd d p) i ∧ EXT (cFind (cStep S p (d.rd p))) (dRd d p) ∧ NEWR S (cFind (cStep S p (d.rd p))) ∧ ((cFind (cStep S p (d.rd p))).R 4).length = (S.R 4).length + a ∧ FrS (cRead S p (d.rd p)) (cFind (cStep S p (d.rd p))) ∧ S.x 2 0 ≤ (cFind (cStep S p (d.rd p))).x 2 0 := by
  obtain ⟨M1, m5, mR, mT, ⟨rs, r4, rnp⟩, fS, x2⟩ := step28 hr h5 hp hrd h.1
  obtain ⟨M2, m2x, mR2, mT2, ⟨rs2, r42, rnp2⟩, fS2, hle⟩ := find28 mR m5 mT
  have fS3 := fS.trans fS2
  obtain ⟨cR1, cR2, cRx, cRy⟩ := cRead_R S p (d.rd p)
  have hle2 : S.x 2 0 ≤ (cFind (cStep S p (d.rd p))).x 2 0 := by rw [← x2]; exact hle
  have ex : ∀ k a, ¬ (a = 0 ∧ (k = 2 ∨ k = 3)) → (cFind (cStep S p (d.rd p))).x k a = S.x k a := fun k a hh => by rw [fS3.x k a hh, cRx]
  have ey : (cFind (cStep S p (d.rd p))).y = S.y := by rw [fS3.y, cRy]
  have hy6 : (cStep S p (d.rd p)).y 6 0 = S.y 6 0 := by rw [fS.y, cRy]
  have e4 : (cFind (cStep S p (d.rd p))).R 4 = S.R 4 ++ (rs ++ rs2) := by rw [r42, r4, List.append_assoc]
  refine ⟨M2, (rs ++ rs2).length, by rw [m2x]; exact m5, mR2, ?_, ?_, by rw [e4, List.length_append], fS3, hle2⟩
  · refine h.kept (d' := dRd d p) hr mT2 rfl rfl rfl (fun q hq => ?_) ⟨_, e4⟩ (fun q hq n hn => ?_) (fun a ha => ex 2 a (by omega)) (fun a _ => ex 4 a (by omega)) (ex 10 0 (by omega)) (fun a _ => by rw [ex 12 0 (by omega)]; exact Int32.le_refl _) (by rw [ey]) (by rw [ey]) (by rw [ey]) (fun a ha => ?_)
    · rw [fS3.R q (by omega) (by omega), cR2 q (by omega)]
    · rw [fS3.R q (by omega) (by omega)]
      by_cases e : q = p
      · subst e
        rw [cR1, take_set hn]
      · rw [cR2 q e]
    · rw [fS3.g]
      unfold cRead
      dsimp only
      rw [cRw_g]
      simp only [CS.mk_R, CS.mk_cap, CS.mk_x, CS.mk_y, CS.mk_g, CS.mk_eta, cG, p_ug, p_un _ _ ha]
      rw [p_un _ _ (show (1 : Nat) ≠ 2 by decide)]
  · intro j h1 h2
    rw [e4] at h2 ⊢
    rw [ey]
    have := getD_app h1 h2
    rw [List.mem_append] at this
    rcases this with z | z
    · exact (rnp _ z).mono hle2
    · have := rnp2 _ z
      rw [hy6] at this
      exact this
theorem h_steps {k W V S M d x y g qf cf bc bs} (h : LI k W V S M d x y g qf cf bc bs) (hk : k ≤ 110) (hW : 20 ≤ W) (hV : 200 ≤ V) {p : Nat} (hp : p < 3) {Q : pLB}
    (hQ : ∀ S' M' d' x y g cf' b2 s2, LI (k + 1) (W - 20) (V - 200) S' M' d' x y g qf cf' b2 s2 → NEWR S S' → Q 1 x y g qf cf' b2 s2) :
    ∃ kc ks b2 s2 : Nat, kc + b2 ≤ bc ∧ ks + s2 ≤ bs ∧ wL_steps x y g qf cf (nI p) kc ks (fun r x y g qf cf => Q r x y g qf cf b2 s2) := by
  obtain ⟨m, hm, hml⟩ := h.m1
  have h0 := h
  obtain ⟨hc, hr, hC, hb, hP, hT0, hL, hI⟩ := h
  have hT := hr.t2400
  rw [hr.tt] at hT
  have hrd300 := hr.rd300 p hp
  have hrdn := hr.ev.rdn p hp
  have htot := hr.ev.tot
  have hn300 : d.n p ≤ 300 := by
    have : p = 0 ∨ p = 1 ∨ p = 2 := by omega
    rcases this with e | e | e <;> subst e <;> omega
  obtain ⟨c0, c1, c2, c3, c4, c5, c6, c7, c8, c9⟩ := hI
  have same : ∀ b2 s2, bc ≤ 20 + b2 → bs ≤ 200 + s2 → Q 1 x y g qf cf b2 s2 := fun b2 s2 z1 z2 => hQ S M d x y g cf b2 s2 ⟨hc, hr, hC, hb.less (by omega) (by omega), hP, hT0, hL.more (by omega), c0, by omega, by omega, c3, c4, c5, c6, c7, c8, c9⟩ (NEWR.same (Nat.le_refl _))
  have hcs := hC.sum
  have hb1 := hb.1
  have hb2 := hb.2
  by_cases hA : M.x 5 = 1 ∧ nI M.T.length - cClosed S d.c < 30 ∧ d.rd p < d.n p
  · obtain ⟨z, ho, hrd⟩ := hA
    obtain ⟨hE, hq, hsz, hsl⟩ := hP z
    obtain ⟨M', a, n5, nR, nE, nN, n4, nF, n2⟩ := hE.stp hr z hp hrd
    have hCT := step_capB hr hC z hp hrd hE.1
    have hmon : pSum S.cap ≤ pSum (cFind (cStep S p (d.rd p))).cap := Nat.le_trans (cStep_mon p (d.rd p)) (cFindT_mon _ _)
    obtain ⟨kc, ks, b2, s2, q1, q2, q3, q4, q5, -, q7⟩ := hb.call hmon hCT (w := 5) (v := 50) (by omega) (by omega)
    obtain ⟨u, hu, hl⟩ := late_step hr z hp hrd
    have hT2 := nR.t2400
    obtain ⟨cR1, cR2, cRx, cRy⟩ := cRead_R S p (d.rd p)
    have ex : ∀ k a, ¬ (a = 0 ∧ (k = 2 ∨ k = 3)) → (cFind (cStep S p (d.rd p))).x k a = S.x k a := fun k a hh => by rw [nF.x k a hh, cRx]
    have ey : (cFind (cStep S p (d.rd p))).y = S.y := by rw [nF.y, cRy]
    have f6 : ¬ cf 6 = 0 := by rw [c7, z]; decide
    have e4 : (S.R 4).length = M.T.length := by rw [hr.tt]
    refine ⟨kc, ks, b2, s2, q1, q2, ?_⟩
    unfold wL_steps
    refine ⟨0, 0, kc, ks, by omega, by omega, q_read hc hr hp ?_⟩
    unfold wX8_results wX8_tooLate
    try dsimp only
    rw [hc.len (q := 4) (by omega), hc.hx 3 (by omega), e4]
    refine ⟨kc, ks, 0, 0, by omega, by omega, asks_0 (q_step hc hr hp (by omega) (by omega) (fun c => ?_) (fun _ _ c => absurd hrd (by omega)) fun _ _ _ => ⟨hE.1, q5, fun x2 y2 g2 hS => ?_⟩)⟩
    · rcases c with c | ⟨-, c⟩
      · rw [z] at c; exact absurd c (by decide)
      · exact absurd ho c
    · have x14 : x2 1 4 = nI (M.T.length + a) := by rw [hS.len (by omega), n4, e4]
      have er : x2 1 4 - nI M.T.length = nI a := by rw [x14, p_sub (by omega), Nat.add_sub_cancel_left]
      have new : Q 1 x2 y2 g2 qf (upd cf 8 (x2 2 0)) b2 s2 := by
        refine hQ _ M' (dRd d p) x2 y2 g2 _ b2 s2 ⟨hS, nR, hCT, q7.less (by omega) (by omega), fun _ => ⟨nE, ?_, hsz, hsl⟩, by rw [ex 19 0 (by omega)]; exact hT0, fun b hb' => ?_, ?_⟩ nN
        · unfold QCp at hq ⊢
          rw [ey]
          exact hq
        · by_cases e : b = 0
          · subst e
            obtain ⟨t, t1, t2⟩ := hL 0 (by omega)
            exact ⟨t + u, by omega, by rw [hl, t2, nI_add]⟩
          · rw [ex 3 b (by omega)]
            obtain ⟨t, t1, t2⟩ := hL b hb'
            exact ⟨t, by omega, t2⟩
        · have eu : ∀ j, j ≠ 8 → upd cf 8 (x2 2 0) j = cf j := fun j hj => by unfold upd; rw [if_neg hj]
          refine ⟨fun q hq => by rw [eu q (by omega)]; exact c0 q hq, by show d.n 0 + d.n 1 + d.n 2 ≤ k + 1; omega, by rw [nF.R 3 (by omega) (by omega), cR2 3 (by omega)]; omega, by rw [eu 3 (by omega)]; exact c3, c4, by rw [eu 4 (by omega), ex 4 1 (by omega)]; exact c5, fun b hb' => ?_, by rw [eu 6 (by omega), c7, z, n5], ?_, ?_⟩
          · rw [eu 5 (by omega), ey, c6 b hb']
            show (∃ j, j < d.c ∧ _) ↔ (∃ j, j < d.c ∧ _)
            have e5 : ∀ q, (cFind (cStep S p (d.rd p))).x 5 q = S.x 5 q := fun q => ex 5 q (by omega)
            simp only [e5]
          · rw [eu 7 (by omega), ex 16 0 (by omega)]; exact c8
          · rw [hS.hx 2 (by omega)]
            unfold upd
            rw [if_pos rfl]
      try dsimp only
      rw [er]
      refine ifn f6 (ifn (nI_neg (by omega) (by decide)) ⟨vp_in_nI (by omega) (by omega), ifn ?_ (ifn (nI_pos (by omega)) (ify ?_ ⟨0, 0, 0, 0, by omega, by omega, q_read hS nR hp (ify ?_ (ifn ?_ (ifn ?_ ?_)))⟩))⟩)
      · rw [p_cl (by omega), c0 p hp]
        intro e
        have := nI_inj (by omega) (by omega) e
        omega
      · rw [x14, nI_add]
      · show nI (va_up d.rd p (d.rd p + 1) p) = _
        rw [p_ug, nI_1]
      · rw [hS.hx 3 (by omega), hl]
        obtain ⟨t, t1, t2⟩ := hL 0 (by omega)
        rw [t2, nI_add]
        exact nI_nlt (by omega) (by omega)
      · rw [hS.hx 2 (by omega), c9]
        exact Int32.not_lt.2 n2
      · unfold jL_steps_162 wX8_watermark
        rintro _ rfl
        exact ⟨.inr rfl, new⟩
  · refine ⟨20, 200, bc - 20, bs - 200, by omega, by omega, ?_⟩
    have sm := same (bc - 20) (bs - 200) (by omega) (by omega)
    have e4 : (S.R 4).length = M.T.length := by rw [hr.tt]
    unfold wL_steps
    refine ⟨0, 0, 20, 200, by omega, by omega, q_read hc hr hp ?_⟩
    unfold wX8_results wX8_tooLate
    try dsimp only
    rw [hc.len (q := 4) (by omega), hc.hx 3 (by omega), e4]
    refine ⟨10, 100, 10, 100, by omega, by omega, asks_0 (q_step hc hr hp (by omega) (by omega) (fun c => AX.ise ?_) (fun z _ c => AX.nse ?_) fun z1 z2 z3 => absurd ⟨z1, z2, z3⟩ hA)⟩
    · try dsimp only
      rcases c with z | ⟨z, ho⟩
      · exact ify (by rw [c7, z]) (ify rfl sm)
      · have f6 : ¬ cf 6 = 0 := by rw [c7, z]; decide
        obtain ⟨hE, -⟩ := hP z
        have := clos28 hr hE hm hml ho
        refine ifn f6 (ify rfl (ifn (by rw [c5, hm]; exact this) ⟨0, 0, 0, 0, by omega, by omega, q_read hc hr hp (ify rfl sm)⟩))
    · have f6 : ¬ cf 6 = 0 := by rw [c7, z]; decide
      try dsimp only
      refine ifn f6 (ifn (by decide) ⟨vp_in_nI (by omega) (by omega), ify ?_ (ify rfl ?_)⟩)
      · rw [p_cl (by omega), c0 p hp]
        congr 1
        omega
      · rw [hc.len (q := 4) (by omega), e4]
        exact ify rfl sm
