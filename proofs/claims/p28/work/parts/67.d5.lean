/-! ===== the law's snapshots ===== -/
theorem LI.stay {k W V S M d x y g qf cf bc bs b2 s2} (h : LI k W V S M d x y g qf cf bc bs) {W' V' : Nat} (h1 : W' + bc ≤ W + b2) (h2 : V' + bs ≤ V + s2) : LI (k + 1) W' V' S M d x y g qf cf b2 s2 := by
  obtain ⟨hc, hr, hC, hb, hP, hT0, hL, hI⟩ := h
  obtain ⟨c0, c1, c2, c3, c4, c5, c6, c7, c8, c9⟩ := hI
  exact ⟨hc, hr, hC, hb.less h1 h2, hP, hT0, hL.more (by omega), c0, by omega, by omega, c3, c4, c5, c6, c7, c8, c9⟩
theorem LI.room {k W V S M d x y g qf cf bc bs} (h : LI k W V S M d x y g qf cf bc bs) : W ≤ bc ∧ V ≤ bs := by
  obtain ⟨hc, hr, hC, ⟨hb1, hb2⟩, -⟩ := h
  have := hC.sum
  exact ⟨by omega, by omega⟩
theorem h_bar {k W V S M d x y g qf cf bc bs} (h : LI k W V S M d x y g qf cf bc bs) (hW : 20 ≤ W) (hV : 200 ≤ V) {X : Nat} (hX : X < 2 ^ 30) (h3 : X % 3 = 0) {Q : pLB}
    (hQ : ∀ S' M' d' x y g cf' b2 s2, LI (k + 1) (W - 20) (V - 200) S' M' d' x y g qf cf' b2 s2 → NEWR S S' → Q 1 x y g qf cf' b2 s2) :
    ∃ kc ks b2 s2 : Nat, kc + b2 ≤ bc ∧ ks + s2 ≤ bs ∧ wL_snaps x y g qf cf (nI X) kc ks (fun r x y g qf cf => Q r x y g qf cf b2 s2) := by
  have h0 := h
  obtain ⟨rW, rV⟩ := h.room
  have same : ∀ b2 s2, bc ≤ 20 + b2 → bs ≤ 200 + s2 → Q 1 x y g qf cf b2 s2 := fun b2 s2 z1 z2 => hQ S M d x y g cf b2 s2 (h0.stay (by omega) (by omega)) (NEWR.same (Nat.le_refl _))
  have sm := same (bc - 20) (bs - 200) (by omega) (by omega)
  obtain ⟨hc, hr, hC, hb, hP, hT0, hL, hI⟩ := h
  obtain ⟨c0, c1, c2, c3, c4, c5, c6, c7, c8, c9⟩ := hI
  have hc5 := hr.sn.c5
  have e3 : nI X - nI X / 3 * 3 = 0 := by
    rw [show (3 : Int32) = nI 3 from rfl, p_rem (by omega) (by omega) (by omega), h3]; rfl
  have hbits := bits_c hr c4 c6
  unfold wL_snaps
  by_cases h30 : d.tk = 30
  · refine ⟨20, 200, bc - 20, bs - 200, by omega, by omega, ify e3 (ify (by rw [c3, h30]; rfl) sm)⟩
  · have n30 : ¬ cf 3 = 30 := fun e => h30 (nI_inj (b := 30) (by omega) (by omega) (c3.symm.trans e))
    by_cases hA : M.x 5 = 1 ∧ d.c < 5
    · obtain ⟨z, hlt⟩ := hA
      have f6 : ¬ cf 6 = 0 := by rw [c7, z]; decide
      have h7 := hr.sn.y7 d.c hlt
      have hw : (S.R 5).length ≤ 1400 := by
        have := hr.sizes
        have e : (S.R 5).length = (M.V 6).length := hr.st0.wr.len
        omega
      have hCT : CapB (cTake S d.c M.T.length) := (hC.cps (i := S.y 7 d.c) (j := 0) h7.2 hw).same rfl
      have hmon : pSum S.cap ≤ pSum (cTake S d.c M.T.length).cap := cCpS_mon S (i := S.y 7 d.c) (j := 0) h7.2
      obtain ⟨kc, ks, b2, s2, q1, q2, q3, q4, q5, -, q7⟩ := hb.call hmon hCT (w := 20) (v := 200) (by omega) (by omega)
      refine ⟨kc, ks, b2, s2, q1, q2, ify e3 (ifn n30 ?_)⟩
      unfold jL_snaps_16
      refine ify e3 ⟨kc, ks, 0, 0, by omega, by omega, asks_1 (q_barrier hc hr (by omega) (by omega) (fun c => ?_) fun _ _ => ⟨q5, fun x2 y2 g2 hS => ?_⟩)⟩
      · rcases c with c | c
        · rw [z] at c; exact absurd c (by decide)
        · omega
      · obtain ⟨hN, hNR⟩ := h0.bar z hlt (by omega) hS q7
        have hN0 := hN
        obtain ⟨-, nR, -, -, -, -, -, n0, n1, n2, n3, n4, n5, n6, n7, n8, n9⟩ := hN
        have nb := bits_c nR n4 n6
        try dsimp only
        refine ifn f6 ⟨0, 0, 0, 0, by omega, by omega, q_bits (ifn ?_ ?_)⟩
        · rw [hbits]
          intro e
          have := nI_inj (b := 5) (by omega) (by omega) e
          omega
        · rintro _ rfl _ rfl
          refine ify ?_ ?_
          · rw [show upd cf 5 ((cf 5) ||| ((1 : Int32) <<< (((cf 3) &&& 31) : Int32))) 3 = cf 3 from rfl, n3]
            show nI d.tk = nI (d.tk + 1) - 1
            rw [← nI_1, Int32.add_sub_cancel]
          · unfold wX8_doubtful
            refine ⟨0, 0, 0, 0, by omega, by omega, q_bits (ify ?_ ?_)⟩
            · rw [hS.hx 13 (by omega), nR.sn.s13]
              exact congrArg nI nb.symm
            · exact hQ _ _ _ _ _ _ _ _ _ hN0 hNR
    · refine ⟨20, 200, bc - 20, bs - 200, by omega, by omega, ify e3 (ifn n30 ?_)⟩
      unfold jL_snaps_16
      refine ify e3 ⟨10, 100, 10, 100, by omega, by omega, asks_1 (q_barrier hc hr (by omega) (by omega) (fun c => AX.ise ?_) fun z1 z2 => absurd ⟨z1, z2⟩ hA)⟩
      try dsimp only
      rcases hr.pl.b with z | z
      · exact ify (by rw [c7, z]) (ify rfl sm)
      · have e5 : d.c = 5 := by
          rcases c with c | c
          · rw [z] at c; exact absurd c (by decide)
          · exact c
        exact ifn (by rw [c7, z]; decide) ⟨0, 0, 10, 100, by omega, by omega, q_bits (ify (by rw [hbits, e5]; rfl) (ify rfl sm))⟩
theorem h_compl {k W V S M d x y g qf cf bc bs} (h : LI k W V S M d x y g qf cf bc bs) (hW : 20 ≤ W) (hV : 200 ≤ V) {w : Nat} (hw : w < 30) {Q : pLB}
    (hQ : ∀ S' M' d' x y g cf' b2 s2, LI (k + 1) (W - 20) (V - 200) S' M' d' x y g qf cf' b2 s2 → NEWR S S' → Q 1 x y g qf cf' b2 s2) :
    ∃ kc ks b2 s2 : Nat, kc + b2 ≤ bc ∧ ks + s2 ≤ bs ∧ jL_snaps_129 (fun r x y g qf cf => Q r x y g qf cf b2 s2) x y g qf cf (nI w) kc ks := by
  have h0 := h
  obtain ⟨rW, rV⟩ := h.room
  have same : ∀ b2 s2, bc ≤ 20 + b2 → bs ≤ 200 + s2 → Q 1 x y g qf cf b2 s2 := fun b2 s2 z1 z2 => hQ S M d x y g cf b2 s2 (h0.stay (by omega) (by omega)) (NEWR.same (Nat.le_refl _))
  have sm := same (bc - 20) (bs - 200) (by omega) (by omega)
  obtain ⟨hc, hr, hC, hb, hP, hT0, hL, hI⟩ := h
  obtain ⟨c0, c1, c2, c3, c4, c5, c6, c7, c8, c9⟩ := hI
  have hc5 := hr.sn.c5
  by_cases hA : ∃ p, p < d.c ∧ S.x 5 (S.y 7 p) = nI w
  · obtain ⟨p, hp, hv⟩ := hA
    have h5 : M.x 5 = 1 := hr.pl.b.resolve_left fun z => by have := (hr.pl.z z).1; omega
    have h7p := hr.sn.y7 p (by omega)
    have hw2 : (S.R (5 + S.y 7 p)).length ≤ 1400 := by
      obtain ⟨rd, m2, s, b1, -⟩ := hr.std p hp
      have e : (S.R (5 + S.y 7 p)).length = (M.V p).length := s.wr.len
      have := s.cw
      have := b1 0; have := b1 1; have := b1 2
      have := hr.sizes
      omega
    obtain ⟨-, -, -, s4, -⟩ := cRot_same (p + 1) (cCpS S 1 (S.y 7 p)) (d.c - (p + 1)) 0
    have ecap : (cCompl S d.c p).cap = (cCpS S 1 (S.y 7 p)).cap := by unfold cCompl; exact s4
    have hCT : CapB (cCompl S d.c p) := (hC.cps (i := 1) (j := S.y 7 p) (by omega) hw2).same ecap
    have hmon : pSum S.cap ≤ pSum (cCompl S d.c p).cap := by rw [ecap]; exact cCpS_mon S (i := 1) (j := S.y 7 p) (by omega)
    obtain ⟨kc, ks, b2, s2, q1, q2, q3, q4, q5, -, q7⟩ := hb.call hmon hCT (w := 20) (v := 200) (by omega) (by omega)
    have q5' : cOK S (cCpS S 1 (S.y 7 p)) kc ks := ⟨by rw [← ecap]; exact q5.c, by rw [← ecap]; exact q5.s⟩
    refine ⟨kc, ks, b2, s2, q1, q2, ?_⟩
    unfold jL_snaps_129
    have eb : (((cf 5) : Int32) >>> ((nI w &&& 31) : Int32)) &&& 1 = 1 := by
      rw [b_get (by omega), if_pos ((c6 w (by omega)).2 ⟨p, hp, hv⟩)]
    refine ify eb ?_
    unfold jL_snaps_146
    refine ⟨kc, ks, 0, 0, by omega, by omega, asks_2 (q_complete hc hr (by omega) (by omega) (fun c => absurd hv (c p hp)) fun p2 hp2 hv2 => ?_)⟩
    have ep : p2 = p := by
      rcases Nat.lt_trichotomy p2 p with q | q | q
      · have := hr.sn.inc p2 p q hp
        rw [hv, hv2] at this
        omega
      · exact q
      · have := hr.sn.inc p p2 q hp2
        rw [hv, hv2] at this
        omega
    subst ep
    refine ⟨q5', fun x2 y2 g2 hS => ?_⟩
    obtain ⟨⟨M', m5, hN⟩, hNR, hneg⟩ := h0.compl (v := x2 4 1 - S.x 4 1) h5 hp hv hw (by rw [hS.hx 4 (by omega)]) hS q7
    have hN0 := hN
    obtain ⟨-, nR, -, -, -, -, -, n0, n1, n2, n3, n4, n5, n6, n7, n8, n9⟩ := hN
    have nb := bits_c nR n4 n6
    try dsimp only
    refine ifn (by decide) ?_
    rintro _ rfl _ rfl
    refine ifn hneg ?_
    unfold wX8_committed wX8_doubtful
    refine ify ?_ ⟨0, 0, 0, 0, by omega, by omega, q_bits (ify ?_ ?_)⟩
    · exact (show x2 4 1 = (cCompl S d.c p2).x 4 1 by rw [hS.hx 4 (by omega)]).trans n5.symm
    · rw [hS.hx 13 (by omega), nR.sn.s13]
      exact congrArg nI nb.symm
    · exact hQ _ _ _ _ _ _ _ _ _ hN0 hNR
  · refine ⟨20, 200, bc - 20, bs - 200, by omega, by omega, ?_⟩
    unfold jL_snaps_129
    have eb : ¬ (((cf 5) : Int32) >>> ((nI w &&& 31) : Int32)) &&& 1 = 1 := by
      rw [b_get (by omega), if_neg fun e => hA ((c6 w (by omega)).1 e)]
      decide
    refine ifn eb ?_
    unfold jL_snaps_146
    refine ⟨10, 100, 10, 100, by omega, by omega, asks_2 (q_complete hc hr (by omega) (by omega) (fun c => AX.iob (ify rfl (ify rfl sm))) fun p hp hv => absurd ⟨p, hp, hv⟩ hA)⟩
theorem h_snaps {k W V S M d x y g qf cf bc bs} (h : LI k W V S M d x y g qf cf bc bs) (hW : 20 ≤ W) (hV : 200 ≤ V) {X : Nat} (hX : X < 2 ^ 30) {Q : pLB}
    (hQ : ∀ S' M' d' x y g cf' b2 s2, LI (k + 1) (W - 20) (V - 200) S' M' d' x y g qf cf' b2 s2 → NEWR S S' → Q 1 x y g qf cf' b2 s2) :
    ∃ kc ks b2 s2 : Nat, kc + b2 ≤ bc ∧ ks + s2 ≤ bs ∧ wL_snaps x y g qf cf (nI X) kc ks (fun r x y g qf cf => Q r x y g qf cf b2 s2) := by
  have e3 : nI X - nI X / 3 * 3 = nI (X % 3) := by
    rw [show (3 : Int32) = nI 3 from rfl, p_rem (by omega) (by omega) (by omega)]
  have hlt : X % 3 < 3 := Nat.mod_lt _ (by omega)
  by_cases h3 : X % 3 = 0
  · exact h_bar h hW hV hX h3 hQ
  have n0 : ¬ nI X - nI X / 3 * 3 = 0 := by
    rw [e3]
    intro e
    exact h3 (nI_inj (b := 0) (by omega) (by omega) e)
  obtain ⟨rW, rV⟩ := h.room
  have htk : cf 3 = nI d.tk ∧ d.tk ≤ 30 := ⟨h.2.2.2.2.2.2.2.2.2.2.1, h.2.2.2.2.2.2.2.2.2.2.2.1⟩
  by_cases h1 : X % 3 = 1
  · have key : ∃ w, w < 30 ∧ (d.tk = 0 ∧ w = 0 ∨ d.tk ≠ 0 ∧ w = X / 3 % d.tk) := by
      by_cases z : d.tk = 0
      · exact ⟨0, by omega, .inl ⟨z, rfl⟩⟩
      · exact ⟨X / 3 % d.tk, by have := Nat.mod_lt (X / 3) (show d.tk > 0 by omega); omega, .inr ⟨z, rfl⟩⟩
    obtain ⟨w, hw, hwe⟩ := key
    obtain ⟨kc, ks, b2, s2, q1, q2, q3⟩ := h_compl h hW hV hw hQ
    refine ⟨kc, ks, b2, s2, q1, q2, ?_⟩
    unfold wL_snaps jL_snaps_16
    refine ifn n0 (ifn n0 (ify (by rw [e3, h1]; rfl) ?_))
    rcases hwe with ⟨z, rfl⟩ | ⟨z, rfl⟩
    · exact ify (by rw [htk.1, z]; rfl) q3
    · have nz : ¬ cf 3 = 0 := by
        rw [htk.1]
        intro e
        exact z (nI_inj (b := 0) (by omega) (by omega) e)
      refine ifn nz ⟨nz, ?_⟩
      rw [htk.1, show (3 : Int32) = nI 3 from rfl, p_div (by omega) (by omega) (by omega), p_rem (by omega) (by omega) (by omega)]
      exact q3
  · have h2 : X % 3 = 2 := by omega
    have h0 := h
    obtain ⟨m, hm, hml⟩ := h.m1
    have same : ∀ b2 s2, bc ≤ 20 + b2 → bs ≤ 200 + s2 → Q 1 x y g qf cf b2 s2 := fun b2 s2 z1 z2 => hQ S M d x y g cf b2 s2 (h0.stay (by omega) (by omega)) (NEWR.same (Nat.le_refl _))
    obtain ⟨hc, hr, hC, hb, hP, hT0, hL, hI⟩ := h
    obtain ⟨c0, c1, c2, c3, c4, c5, c6, c7, c8, c9⟩ := hI
    have hT := hr.t2400
    have e4 : (S.R 4).length = M.T.length := by rw [hr.tt]
    have n1 : ¬ nI X - nI X / 3 * 3 = 1 := by
      rw [e3, h2]; decide
    rcases hr.pl.b with z | z
    · have sm := same (bc - 20) (bs - 200) (by omega) (by omega)
      refine ⟨20, 200, bc - 20, bs - 200, by omega, by omega, ?_⟩
      unfold wL_snaps jL_snaps_16 wX8_results
      refine ifn n0 (ifn n0 (ifn n1 ⟨10, 100, 10, 100, by omega, by omega, asks_3 (q_crash hc hr (by omega) (by omega) hm hml (fun _ => AX.ise (ify (by rw [c7, z]) (ify rfl sm))) fun z1 => ?_)⟩))
      rw [z] at z1
      exact absurd z1 (by decide)
    · have f6 : ¬ cf 6 = 0 := by rw [c7, z]; decide
      have hw : (S.R 6).length ≤ 1400 := by
        obtain ⟨rd, m1, s, hrd, -⟩ := hr.st1
        have e : (S.R 6).length = (M.V 5).length := s.wr.len
        have := s.cw
        have := hrd 0; have := hrd 1; have := hrd 2
        have := hr.sizes
        omega
      have h1 : CapB (uX S 13 0 0) := hC
      have h2' := h1.cps (i := 0) (j := 1) (by omega) hw
      have ecap : (cCrash S m).cap = (cCpS (uX S 13 0 0) 0 1).cap := by
        unfold cCrash cCut; simp only [CS.mk_R, CS.mk_cap, CS.mk_x, CS.mk_y, CS.mk_g, CS.mk_eta, cRw, p_us]
      have hCT : CapB (cCrash S m) := h2'.same ecap
      have hmon : pSum S.cap ≤ pSum (cCrash S m).cap := by rw [ecap]; exact cCpS_mon (uX S 13 0 0) (i := 0) (j := 1) (by omega)
      obtain ⟨kc, ks, b2, s2, q1, q2, q3, q4, q5, -, q7⟩ := hb.call hmon hCT (w := 20) (v := 200) (by omega) (by omega)
      have q5' : cOK S (cCpS (uX S 13 0 0) 0 1) kc ks := ⟨by rw [← ecap]; exact q5.c, by rw [← ecap]; exact q5.s⟩
      refine ⟨kc, ks, b2, s2, q1, q2, ?_⟩
      unfold wL_snaps jL_snaps_16 wX8_results
      refine ifn n0 (ifn n0 (ifn n1 ⟨kc, ks, 0, 0, by omega, by omega, asks_3 (q_crash hc hr (by omega) (by omega) hm hml (fun z1 => ?_) fun _ => ⟨q5', fun x2 y2 g2 hS => ?_⟩)⟩))
      · rw [z] at z1
        exact absurd z1 (by decide)
      · obtain ⟨⟨M', d', m5, dc, hN⟩, hNR, eR4⟩ := h0.crash z hm hml hS q7
        have hN0 := hN
        obtain ⟨-, nR, -, -, -, -, -, k0, k1, k2, k3, k4, k5, k6, k7, k8, k9⟩ := hN
        try dsimp only
        refine ifn f6 ?_
        rintro _ rfl
        unfold wX8_watermark
        rintro _ rfl
        unfold wX8_doubtful
        have e44 : (cCrash S m).x 4 1 = nI m := by
          show (cCpS (uX S 13 0 0) 0 1).x 4 1 = _
          rw [cps_xn _ _ _ (.inl (by omega)), cX_x _ _ (by omega)]
          exact hm
        have l4 : x2 1 4 = nI m := by
          rw [hS.len (q := 4) (by omega), eR4, List.length_take, Nat.min_eq_left (by omega)]
        refine ify ?_ (ify ?_ (ify ?_ ?_))
        · rw [k5, e44, hc.len (q := 4) (by omega), e4]
        · rw [k5, e44, l4]
        · rw [hS.hx 13 (by omega), nR.sn.s13, dc]; rfl
        · exact hQ _ _ _ _ _ _ _ _ _ hN0 hNR
