/-! ===== the law's begins: every way through it ===== -/
section BEG
variable {k W V W' V' : Nat} {S : CS} {M : MS} {d : GD} {x0 : Nat → Nat → Int32} {y0 : Nat → Nat → Nat} {g0 : Nat → Nat → Nat → Int32} {x : Nat → Nat → Int32} {y : Nat → Nat → Nat} {g : Nat → Nat → Nat → Int32} {q0 qf cf wf : Nat → Int32} {bc0 bs0 bc bs b2 s2 : Nat} {Φ : pL} {X Y : Nat}
/-- what is wanted in the end -/
def BQ (k W' V' : Nat) (S : CS) (b2 s2 : Nat) (Φ : pL) : Prop := ∀ S' M' d' x y g qf' cf', LI (k + 1) W' V' S' M' d' x y g qf' cf' b2 s2 → NEWR S S' → Φ 1 x y g qf' cf'
theorem b_back (h : LI k W V S M d x0 y0 g0 q0 cf bc0 bs0) (hB : BG28 S W' V' b2 s2) (hw : ∀ j, j < 7 → wf j = q0 j) (hΦ : BQ k W' V' S b2 s2 Φ) (q : TJ S M d (text28 X Y) x y g) {v6 r : Int32} (hr : r = if v6 = 0 then -70009 else -70008) : ∃ n169 : Nat, lL_begins_169 Φ n169 x y g qf cf wf v6 1 r 0 bc bs := by
  refine ⟨8, begins169 7 8 0 qf rfl (by omega) (fun j hj => absurd hj (Nat.not_lt_zero j)) fun qf' hq' => ?_⟩
  have h210 : ∀ s1 : Int32, r = s1 → jL_begins_210 Φ x y g qf' cf wf r s1 bc bs := fun s1 e => by
    unfold jL_begins_210
    refine ify e ⟨bc, bs, 0, 0, by omega, by omega, c_wipe q fun x y g q2 => ifn ?_ ?_⟩
    · have h1 := text28_pos X Y
      have h2 := text28_len q
      exact nI_ge (a := 0) h1 (by omega)
    · obtain ⟨S', M', sm, hL⟩ := h.wiped q2 (qf' := qf') (fun j hj => (hq' j (by omega)).trans (hw j (by omega))) hB
      exact hΦ S' M' d x y g qf' cf (hL.stay (by omega) (by omega)) ((NEWR.same (Nat.le_refl _)).sm sm)
  simp only [lL_begins_169]
  refine ify (by decide) (ifn (by decide) ⟨fun z => ?_, fun z => ?_⟩)
  · exact h210 _ (by rw [hr, if_pos z])
  · exact h210 _ (by rw [hr, if_neg z])
theorem b_anew (h : LI k W V S M d x0 y0 g0 q0 cf bc0 bs0) (hB : BG28 S W' V' b2 s2) (hΦ : BQ k W' V' S b2 s2 Φ) {S1 : CS} {M1 : MS} {v : Int32} {rq : Nat} {Q : PQ} (hr1 : Rel S1 M1 d 2000) (sm : SM S S1) (hqm : QM Q (M1.g 7)) (hf : Fit Q) (hz : Q.sz ≤ 12 ∧ Q.sl ≤ 12) (hS : RC (S4 S1 v rq Q) x y g) (hq : QFq Q qf) {v8 : Int32} : jL_begins_226 Φ x y g qf cf wf 0 v8 1 0 bc bs := by
  obtain ⟨hL, hN⟩ := h.anew (cf' := upd (upd (upd (upd (upd cf 3 0) 4 0) 5 0) 8 (-1)) 6 1) hr1 sm hqm hf hz hS hB hq (fun j hj => by
    unfold upd
    rw [if_neg (by omega), if_neg (by omega), if_neg (by omega), if_neg (by omega), if_neg (by omega)]) ⟨rfl, rfl, rfl, rfl, rfl⟩
  have tj := TJ.of hL
  have R5 : (S4 S1 v rq Q).R 5 = [] := by rw [S4_R, if_pos (by omega)]
  have R4 : (S4 S1 v rq Q).R 4 = [] := by rw [S4_R, if_pos (by omega)]
  have w0 : x 1 5 = 0 := by rw [hS.len (by omega), R5]; rfl
  unfold jL_begins_226 jL_begins_244 wX8_windows
  refine ifn (by decide) (ify rfl (ify rfl (ify w0 ⟨bc, bs, bc - bc, bs - bs, by omega, by omega, c_wipe tj fun x y g q2 => ify rfl ?_⟩)))
  obtain ⟨S', M', sm', hL'⟩ := hL.wiped q2 (qf' := qf) (fun j _ => rfl) (hL.2.2.2.1)
  have hL0 := hL'
  obtain ⟨hc, hr, -, -, -, -, -, hI⟩ := hL'
  obtain ⟨eR, ec, ex, ey, eg⟩ := sm'
  obtain ⟨z1, z2, z3⟩ := S4_a S1 v rq Q 0 (by omega)
  unfold jL_begins_268 wX8_results wX8_watermark wX8_tooLate wX8_doubtful
  refine ify rfl ?_
  rintro _ rfl _ rfl _ rfl _ rfl
  have a4 : x 1 4 = 0 := by rw [hc.len (by omega), eR, R4]; rfl
  have a2 : x 2 0 = -1 := by rw [hc.hx 2 (by omega), ex 2 0 (by omega)]; exact z1
  have a3 : x 3 0 = 0 := by rw [hc.hx 3 (by omega), ex 3 0 (by omega)]; exact z2
  have a13 : x 13 0 = 0 := by rw [hc.hx 13 (by omega), hr.sn.s13]; rfl
  refine ifn (by decide) (ify a4 (ify a2 (ify a3 ⟨0, 0, 0, 0, by omega, by omega, q_read (p := 0) hc hr (by omega) ⟨0, 0, 0, 0, by omega, by omega, q_read (p := 1) hc hr (by omega) ⟨0, 0, 0, 0, by omega, by omega, q_read (p := 2) hc hr (by omega) (ify rfl (ify a13 ?_))⟩⟩⟩)))
  rintro _ rfl
  exact hΦ S' M' _ x y g qf _ hL0 (hN.sm ⟨eR, ec, ex, ey, eg⟩)
theorem b_keep (h : LI k W V S M d x0 y0 g0 q0 cf bc0 bs0) (h5 : M.x 5 = 1) (hB : BG28 S W' V' b2 s2) (hΦ : BQ k W' V' S b2 s2 Φ) {S1 : CS} {M1 : MS} {v : Int32} {rq : Nat} {Q : PQ} (hr1 : Rel S1 M1 d 2000) (sm : SM S S1) (m5 : M1.x 5 = M.x 5) (hqm : QM Q (M1.g 7)) (hf : Fit Q) (hF : Fol Q S d) (hS : RC (Sy (Sx S1 v Q) rq Q) x y g) (hq : QFq Q qf) : jL_begins_226 Φ x y g qf cf wf 1 (nI (S.R 5).length) 1 (nI (S1.R 5).length) bc bs := by
  obtain ⟨hL, hN⟩ := h.keep h5 hr1 sm m5 hqm hf hF hS hB hq
  have tj := TJ.of hL
  have e1 : (S1.R 5).length = (S.R 5).length := by rw [sm.1]
  have w0 : x 1 5 = nI (S1.R 5).length := by rw [hS.len (by omega), Sxy_R]
  unfold jL_begins_226 jL_begins_244 wX8_windows
  refine ifn (by decide) (ifn (by decide) (ify (by rw [e1]) (ify w0 ⟨bc, bs, bc - bc, bs - bs, by omega, by omega, c_wipe tj fun x y g q2 => ify rfl ?_⟩)))
  obtain ⟨S', M', sm', hL'⟩ := hL.wiped q2 (qf' := qf) (fun j _ => rfl) (hL.2.2.2.1)
  unfold jL_begins_268
  refine ifn (by decide) ?_
  rintro _ rfl
  exact ⟨.inr rfl, hΦ S' M' _ x y g qf _ hL' (hN.sm sm')⟩
theorem b_141 (h : LI k W V S M d x0 y0 g0 q0 cf bc0 bs0) (hB : BG28 S W' V' b2 s2) (hw : ∀ j, j < 7 → wf j = q0 j) (hΦ : BQ k W' V' S b2 s2 Φ) (q : TJ S M d (text28 X Y) x y g) (hq : QFq (Qf28 X Y) qf) {kp lk : Int32} (hkp : kp = 0 ∨ kp = 1) (hlk : lk = 1 ∧ (M.x 5 = 1 ∧ Fol (Qf28 X Y) S d) ∨ lk = 0 ∧ ¬ (M.x 5 = 1 ∧ Fol (Qf28 X Y) S d)) (h1 : 5 ≤ bc) (h2 : 100 ≤ bs) : jL_begins_141 Φ x y g qf cf wf (iOf (fitX Y)) kp (nI (S.R 5).length) lk 1 bc bs := by
  obtain ⟨hR, hqm, hz⟩ := Qf28_rd X Y
  have hfit := Qf28_fit X Y
  unfold jL_begins_141 wL_plans
  refine ⟨5, 100, bc - 5, bs - 100, by omega, by omega, hkp, q_plan q hR hqm (Nat.le_refl _) (Nat.le_refl _) (fun hF x y g q2 => .inl ⟨rfl, ?_⟩) (fun hF z hn x y g q2 => .inr ⟨rfl, ?_⟩) (fun hF z S1 M1 v rq x y g hr1 sm m5 hqm1 hS => ?_) (fun hF z h5 hFo S1 M1 v rq x y g hr1 sm m5 hqm1 hS => ?_)⟩
  · have e : fitX Y = false := by
      cases e : fitX Y
      · rfl
      · exact absurd (hfit.2 e) hF
    rw [e]
    exact ify rfl (b_back h hB hw hΦ q2 (by rw [if_pos]; rfl))
  · rw [hfit.1 hF]
    have e0 : lk = 0 := hlk.elim (fun w => absurd w.2 hn) (fun w => w.1)
    exact ifn (by decide) (ifn z (ify e0 (b_back h hB hw hΦ q2 (by rw [if_neg (by decide)]))))
  · rw [hfit.1 hF]
    subst z
    exact ifn (by decide) (ify rfl (b_anew h hB hΦ hr1 sm hqm1 hF hz hS hq))
  · rw [hfit.1 hF]
    have e1 : lk = 1 := hlk.elim (fun w => w.1) (fun w => absurd ⟨h5, hFo⟩ w.2)
    have ek : kp = 1 := hkp.resolve_left z
    subst e1 ek
    exact ifn (by decide) (ifn (by decide) (ifn (by decide) (b_keep h h5 hB hΦ hr1 sm m5 hqm1 hF hFo hS hq)))
theorem b_54 (h : LI k W V S M d x0 y0 g0 q0 cf bc0 bs0) (hB : BG28 S W' V' b2 s2) (hw : ∀ j, j < 7 → wf j = q0 j) (hΦ : BQ k W' V' S b2 s2 Φ) (q : TJ S M d (text28 X Y) x y g) (hq : QFq (Qf28 X Y) qf) {kp : Int32} (hkp : kp = 0 ∨ kp = 1) (h1 : 15 ≤ bc) (h2 : 200 ≤ bs) : jL_begins_54 Φ x y g qf cf wf (iOf (fitX Y)) kp bc bs := by
  obtain ⟨hR, hqm, hz⟩ := Qf28_rd X Y
  have j126 : ∀ lk : Int32, (lk = 1 ∧ (M.x 5 = 1 ∧ Fol (Qf28 X Y) S d) ∨ lk = 0 ∧ ¬ (M.x 5 = 1 ∧ Fol (Qf28 X Y) S d)) → jL_begins_126 Φ x y g qf cf wf (iOf (fitX Y)) kp (nI (S.R 5).length) lk bc bs := fun lk hlk => by
    unfold jL_begins_126
    exact ⟨5, 50, bc - 5, bs - 50, by omega, by omega, c_fault q hR (by omega) (by omega) fun x2 y2 g2 q2 => ify rfl (b_141 h hB hw hΦ q2 hq hkp hlk (by omega) (by omega))⟩
  have no : ¬ (M.x 5 = 1 ∧ Fol (Qf28 X Y) S d) → jL_begins_125 Φ x y g qf cf wf (iOf (fitX Y)) kp (nI (S.R 5).length) bc bs := fun hn => j126 0 (.inr ⟨rfl, hn⟩)
  have c7 : cf 6 = M.x 5 := h.2.2.2.2.2.2.2.2.2.2.2.2.2.2.1
  have hr := h.2.1
  unfold jL_begins_54 wX8_windows
  rw [q.win]
  rcases hr.pl.b with z | z
  · refine ifn (by rw [c7, z]; decide) (no fun w => ?_)
    rw [z] at w; exact absurd w.1 (by decide)
  · obtain ⟨hE, hQ, hsz, hsl⟩ := h.2.2.2.2.1 z
    have hQ1 := hr.pl.q z
    have f2 := hQ1.f2
    have sh1 := hQ1.sh1
    have sh2 := hQ1.sh2
    have l2 := hQ1.l2
    obtain ⟨a0, a1, a2, a3, a3', a4, a5⟩ := hQ
    obtain ⟨b0, b1, b2', b3, b3', b4, b5⟩ := hq
    obtain ⟨qq, hqq⟩ := hqm
    have v0 := hqq.a0.2
    have v1 := hqq.a4.2.1
    have v2 := hqq.a4.2.2.1
    have v8 := hqq.a4.s8
    have vl := hqq.a7.l2
    refine ify (by rw [c7, z]) ?_
    rw [hw 0 (by omega), hw 1 (by omega), hw 2 (by omega), hw 3 (by omega), hw 4 (by omega), a0, a1, a2, a4, b0, b1, b2', b4]
    refine ⟨fun w0 => ⟨fun w1 => ⟨fun w2 => ?_, fun w2 => no fun ⟨_, f⟩ => w2 (by rw [f.2.2.1])⟩, fun w1 => no fun ⟨_, f⟩ => w1 (by rw [f.2.1])⟩, fun w0 => no fun ⟨_, f⟩ => w0 (by rw [f.1])⟩
    have w0 := nI_inj (by omega) (by omega) w0
    have w1 : (Qf28 X Y).shape = S.y 5 0 := by
      have := nI_inj (by omega) (by omega) w1
      omega
    have w2 := nI_inj (by omega) (by omega) w2
    have e3 : qf 3 = q0 3 ↔ (Qf28 X Y).sl = d.sl := by
      by_cases e9 : S.y 5 0 = 9
      · rw [a3 e9, b3 (w1.trans e9)]
        exact ⟨fun w => nI_inj (by omega) (by omega) w, fun w => by rw [w]⟩
      · rw [a3' e9, b3' (fun w => e9 (w1.symm.trans w))]
        have s8 := (hQ1.s8 e9).2
        have := (v8 (fun w => e9 (w1.symm.trans w))).2
        exact ⟨fun _ => by omega, fun _ => rfl⟩
    rw [e3]
    refine ⟨fun w3 => ⟨fun w4 => no fun ⟨_, f⟩ => f.2.2.2.2 ((nI_ltI (by omega) (by omega)).1 w4), fun w4 => j126 1 (.inl ⟨rfl, z, w0, w1, w2, w3, fun w => w4 (nI_lt w (by omega))⟩)⟩, fun w3 => no fun ⟨_, f⟩ => w3 f.2.2.2.1⟩
theorem h_begins (h : LI k W V S M d x y g qf cf bc bs) (hW : 140 ≤ W) (hV : 9000 ≤ V) (hX : X < 2 ^ 30) (hY : Y < 2 ^ 30) {Q : pLB} (hQ : ∀ S' M' d' x y g qf' cf' b2 s2, LI (k + 1) (W - 140) (V - 9000) S' M' d' x y g qf' cf' b2 s2 → NEWR S S' → Q 1 x y g qf' cf' b2 s2) :
    ∃ kc ks b2 s2 : Nat, kc + b2 ≤ bc ∧ ks + s2 ≤ bs ∧ wL_begins x y g qf cf (nI X) (nI Y) kc ks (fun r x y g qf cf => Q r x y g qf cf b2 s2) := by
  obtain ⟨rW, rV⟩ := h.room
  have hB : BG28 S (W - 140) (V - 9000) (bc - 140) (bs - 9000) := (h.2.2.2.1).less (by omega) (by omega)
  have hΦ : BQ k (W - 140) (V - 9000) S (bc - 140) (bs - 9000) (fun r x y g qf cf => Q r x y g qf cf (bc - 140) (bs - 9000)) := fun S' M' d' x y g qf' cf' a b => hQ S' M' d' x y g qf' cf' _ _ a b
  refine ⟨140, 9000, bc - 140, bs - 9000, by omega, by omega, 139, 8993, by omega, by omega, 8, begins9 7 8 0 _ rfl (by omega) (fun j hj => absurd hj (Nat.not_lt_zero j)) fun wf hwf => ?_⟩
  simp only [lL_begins_9]
  refine ify (by decide) ⟨100, 7000, 39, 1993, by omega, by omega, h_queries hX hY (TJ.of h) (by omega) (by omega) fun x1 y1 g1 qf1 q e0 eq => ?_⟩
  have hq := Qf28_q e0 eq
  exact ⟨fun _ => b_54 h hB hwf hΦ q hq (.inr rfl) (by omega) (by omega), fun _ => b_54 h hB hwf hΦ q hq (.inl rfl) (by omega) (by omega)⟩
end BEG
