/-! ===== the law's snapshots: what comes of the invariant ===== -/
theorem bits_c {S M d i} (hr : Rel S M d i) (htk : d.tk ≤ 30) {c : Int32} (h : ∀ b, b < 31 → (dbit c b = true ↔ ∃ j, j < d.c ∧ S.x 5 (S.y 7 j) = nI b)) : cnt (dbit c) 31 = d.c := by
  have hv : ∀ j, j < d.c → S.x 5 (S.y 7 j) = nI (S.x 5 (S.y 7 j)).toInt.toNat ∧ (S.x 5 (S.y 7 j)).toInt.toNat < 30 := fun j hj => by
    obtain ⟨v, v1, v2, -⟩ := hr.sn.num j hj
    rw [v2, nI_back (by omega)]
    exact ⟨rfl, by omega⟩
  have := cnt_set (v := fun j => (S.x 5 (S.y 7 j)).toInt.toNat) (m := 31) d.c (fun j hj => by have := (hv j hj).2; omega) (fun i j hij hj => by
    have h1 := hr.sn.inc i j hij hj
    obtain ⟨v, v1, v2, -⟩ := hr.sn.num i (by omega)
    obtain ⟨w, w1, w2, -⟩ := hr.sn.num j hj
    show (S.x 5 (S.y 7 i)).toInt.toNat < (S.x 5 (S.y 7 j)).toInt.toNat
    rw [v2, w2, nI_toInt (by omega), nI_toInt (by omega)] at h1
    rw [v2, w2, nI_back (by omega), nI_back (by omega)]
    omega)
  rw [← this]
  refine cnt_congr 31 fun b hb => ?_
  rw [Bool.eq_iff_iff, h b hb, List.any_eq_true]
  constructor
  · rintro ⟨j, hj, e⟩
    refine ⟨j, List.mem_range.2 hj, decide_eq_true ?_⟩
    rw [e, nI_back (by omega)]
  · rintro ⟨j, hj, e⟩
    have hj := List.mem_range.1 hj
    have e := of_decide_eq_true e
    refine ⟨j, hj, ?_⟩
    rw [(hv j hj).1, e]
theorem LI.bar {k W V W' V' S M d x y g qf cf bc bs x' y' g' b2 s2} (h : LI k W V S M d x y g qf cf bc bs) (h5 : M.x 5 = 1) (hc5 : d.c < 5) (htk : d.tk < 30) (hS : RC (cTake S d.c M.T.length) x' y' g') (hB : BG28 (cTake S d.c M.T.length) W' V' b2 s2) :
    LI (k + 1) W' V' (cTake S d.c M.T.length) (mBar M d.c d.tk) (GD.mk d.n d.rd (d.c + 1) (d.tk + 1) d.sz d.sl d.lt) x' y' g' qf (upd (upd cf 5 ((cf 5) ||| ((1 : Int32) <<< (((cf 3) &&& 31) : Int32)))) 3 (cf 3 + 1)) b2 s2 ∧ NEWR S (cTake S d.c M.T.length) := by
  obtain ⟨hc, hr, hC, hb, hP, hT0, hL, hI⟩ := h
  obtain ⟨hE, hq, hsz, hsl⟩ := hP h5
  obtain ⟨c0, c1, c2, c3, c4, c5, c6, c7, c8, c9⟩ := hI
  have h7 := hr.sn.y7 d.c hc5
  have hinj := hr.sn.inj
  have hr' := hr.bar h5 hc5 (by omega) (by omega)
  have hE' := hE.bar hr hc5
  obtain ⟨a, ha⟩ : ∃ a, a = S.y 7 d.c := ⟨_, rfl⟩
  have hne : ∀ k, k < d.c → S.y 7 k ≠ a := fun k hk e => by
    have := hinj k d.c (by omega) (by omega) (by rw [e, ha])
    omega
  have eR : ∀ q, q ≠ 5 + a → (cTake S d.c M.T.length).R q = S.R q := fun q hq => by
    rw [cTake_Rq, ← ha]; exact cps_Rn S a 0 hq
  have ey : (cTake S d.c M.T.length).y = S.y := cTake_yq _ _ _
  have ex : ∀ k b, k ≠ 13 → k ≠ 14 → b ≠ a → (cTake S d.c M.T.length).x k b = S.x k b := fun k b h1 h2 h3 => by
    unfold cTake
    rw [← ha, cX_x _ _ (by omega), cX_x _ _ (by omega), cX_x _ _ (by omega), cX_x _ _ (by omega), cps_xn S a 0 (.inl h3)]
  have ex6 : ∀ k, 6 ≤ k → k ≠ 13 → k ≠ 14 → ∀ b, (cTake S d.c M.T.length).x k b = S.x k b := fun k h0 h1 h2 b => by
    unfold cTake
    rw [← ha, cX_x _ _ (by omega), cX_x _ _ (by omega), cX_x _ _ (by omega), cX_x _ _ (by omega), cps_xn S a 0 (.inr (.inr (by omega)))]
  have ex3 : (cTake S d.c M.T.length).x 3 a = S.x 3 0 := by
    unfold cTake
    rw [← ha, cX_x _ _ (by omega), cX_x _ _ (by omega), cX_x _ _ (by omega), cX_x _ _ (by omega), cps_x S a 0 (by omega) (by omega)]
  have ex5 : (cTake S d.c M.T.length).x 5 a = nI d.tk := by
    unfold cTake
    rw [← ha, cX_x _ _ (by omega), cX_x _ _ (by omega), cX_s]
    exact hr.sn.s14
  refine ⟨⟨hS, hr', ?_, hB, fun _ => ⟨hE', ?_, hsz, hsl⟩, by rw [ex6 19 (by omega) (by omega) (by omega)]; exact hT0, ?_, ?_⟩, NEWR.same (by rw [eR 4 (by omega)]; exact Nat.le_refl _)⟩
  · have := (hr.t2400)
    have hw : (S.R 5).length ≤ 1400 := by
      have := hr.sizes
      have := hr.st0.wr.len
      have e : (S.R 5).length = (M.V 6).length := this
      omega
    exact (hC.cps (i := S.y 7 d.c) (j := 0) h7.2 hw).same rfl
  · unfold QCp at hq ⊢
    rw [ey]; exact hq
  · intro b hb'
    by_cases e : b = a
    · rw [e, ex3]
      obtain ⟨t, t1, t2⟩ := hL 0 (by omega)
      exact ⟨t, by omega, t2⟩
    · rw [ex 3 b (by omega) (by omega) e]
      obtain ⟨t, t1, t2⟩ := hL b hb'
      exact ⟨t, by omega, t2⟩
  · have eu : ∀ j, j ≠ 5 → j ≠ 3 → upd (upd cf 5 ((cf 5) ||| ((1 : Int32) <<< (((cf 3) &&& 31) : Int32)))) 3 (cf 3 + 1) j = cf j := fun j h1 h2 => by unfold upd; rw [if_neg h2, if_neg h1]
    refine ⟨fun q hq => by rw [eu q (by omega) (by omega)]; exact c0 q hq, by show d.n 0 + d.n 1 + d.n 2 ≤ k + 1; omega, by rw [eR 3 (by omega)]; omega, ?_, by show d.tk + 1 ≤ 30; omega, by rw [eu 4 (by omega) (by omega), ex 4 1 (by omega) (by omega) (by omega)]; exact c5, fun b hb' => ?_, by rw [eu 6 (by omega) (by omega)]; exact c7, by rw [eu 7 (by omega) (by omega), ex6 16 (by omega) (by omega) (by omega)]; exact c8, by rw [eu 8 (by omega) (by omega), ex 2 0 (by omega) (by omega) (by omega)]; exact c9⟩
    · show upd _ 3 _ 3 = nI (d.tk + 1)
      unfold upd
      rw [if_pos rfl, c3, nI_1]
    · have e5 : upd (upd cf 5 ((cf 5) ||| ((1 : Int32) <<< (((cf 3) &&& 31) : Int32)))) 3 (cf 3 + 1) 5 = (cf 5) ||| ((1 : Int32) <<< ((nI d.tk &&& 31) : Int32)) := by
        unfold upd; rw [if_neg (by omega), if_pos rfl, c3]
      rw [e5, b_or, b_one d.tk (by omega) b (by omega), Bool.or_eq_true, c6 b hb', decide_eq_true_eq, ey]
      constructor
      · rintro (⟨j, hj, e⟩ | e)
        · refine ⟨j, Nat.lt_succ_of_lt hj, ?_⟩
          rw [ex 5 _ (by omega) (by omega) (hne j hj)]; exact e
        · refine ⟨d.c, Nat.lt_succ_self _, ?_⟩
          rw [← ha, ex5, e]
      · rintro ⟨j, hj, e⟩
        have hj : j < d.c + 1 := hj
        by_cases z : j = d.c
        · right
          rw [z, ← ha, ex5] at e
          exact (nI_inj (by omega) (by omega) e).symm
        · left
          rw [ex 5 _ (by omega) (by omega) (hne j (by omega))] at e
          exact ⟨j, by omega, e⟩
theorem LI.compl {k W V W' V' S M d x y g qf cf bc bs x' y' g' b2 s2} {p w : Nat} (h : LI k W V S M d x y g qf cf bc bs) (h5 : M.x 5 = 1) (hp : p < d.c) (hw : S.x 5 (S.y 7 p) = nI w) (hw2 : w < 30) {v : Int32} (hv : v = (cCompl S d.c p).x 4 1 - S.x 4 1) (hS : RC (cCompl S d.c p) x' y' g') (hB : BG28 (cCompl S d.c p) W' V' b2 s2) :
    (∃ M', M'.x 5 = 1 ∧ LI (k + 1) W' V' (cCompl S d.c p) M' (GD.mk d.n d.rd (d.c - (p + 1)) d.tk d.sz d.sl d.lt) x' y' g' qf (upd (upd cf 5 ((cf 5) &&& (((((1 : Int32) <<< ((nI w &&& 31) : Int32)) - 1) ||| ((1 : Int32) <<< ((nI w &&& 31) : Int32))) ^^^ (-1)))) 4 (cf 4 + v)) b2 s2) ∧ NEWR S (cCompl S d.c p) ∧ ¬ v < 0 := by
  obtain ⟨m, hm, hml⟩ := h.m1
  obtain ⟨hc, hr, hC, hb, hP, hT0, hL, hI⟩ := h
  obtain ⟨hE, hq, hsz, hsl⟩ := hP h5
  obtain ⟨c0, c1, c2, c3, c4, c5, c6, c7, c8, c9⟩ := hI
  obtain ⟨M1, hM1⟩ := sh_ex (mCp M p 5 M.T) (p + 1) (by omega) (d.c - (p + 1))
  have hr' := hr.compl h5 hp hM1
  have hE' := hE.compl hr hp
  have hc5 := hr.sn.c5
  have h7 := hr.sn.y7
  have hT := hr.t2400
  rw [hr.tt] at hT
  obtain ⟨s1, s2', s3, s4, s5⟩ := cRot_same (p + 1) (cCpS S 1 (S.y 7 p)) (d.c - (p + 1)) 0
  obtain ⟨r1, r2, r3⟩ := cRot_spec (p + 1) d.c (by omega) (d.c - (p + 1)) 0 (cCpS S 1 (S.y 7 p)) (S.y 7) (by omega) hc5 (fun k hk => absurd hk (Nat.not_lt_zero k)) (fun k _ => rfl) (fun k hk => h7 k hk) (fun j k hj hk e => hr.sn.inj j k hj hk e)
  have eR : ∀ q, q ≠ 6 → (cCompl S d.c p).R q = S.R q := fun q hq => by
    unfold cCompl; rw [cX_R, s3]; exact cps_Rn S 1 (S.y 7 p) hq
  have ex : ∀ k b, k ≠ 13 → b ≠ 1 → (cCompl S d.c p).x k b = S.x k b := fun k b h1 h2 => by
    unfold cCompl; rw [cX_x _ _ (by omega), s1]; exact cps_xn S 1 (S.y 7 p) (.inl h2)
  have ex1 : ∀ k, 2 ≤ k → k ≤ 5 → (cCompl S d.c p).x k 1 = S.x k (S.y 7 p) := fun k h1 h2 => by
    unfold cCompl; rw [cX_x _ _ (by omega), s1]; exact cps_x S 1 (S.y 7 p) h1 h2
  have ey : ∀ k, k ≠ 7 → (cCompl S d.c p).y k = S.y k := fun k hk => by
    unfold cCompl; rw [cX_yy', s5 k hk]; rfl
  have ey7 : ∀ k, k < d.c - (p + 1) → (cCompl S d.c p).y 7 k = S.y 7 (k + (p + 1)) := fun k hk => by
    unfold cCompl; rw [cX_yy']; exact r1 k (by omega)
  have x5 : (mX M1 35 (nI (d.c - (p + 1)))).x 5 = 1 := by
    unfold mX
    simp only [MS.mk_x]
    rw [p_un _ _ (by omega), hM1.x]
    exact h5
  refine ⟨⟨_, x5, hS, hr', ?_, hB, fun _ => ⟨hE', ?_, hsz, hsl⟩, by rw [ex 19 0 (by omega) (by omega)]; exact hT0, ?_, ?_⟩, NEWR.same (by rw [eR 4 (by omega)]; exact Nat.le_refl _), ?_⟩
  · have hw : (S.R (5 + S.y 7 p)).length ≤ 1400 := by
      obtain ⟨rd, m2, s, b1, -⟩ := hr.std p hp
      have e : (S.R (5 + S.y 7 p)).length = (M.V p).length := s.wr.len
      have := s.cw
      have := b1 0; have := b1 1; have := b1 2
      have := hr.sizes
      omega
    exact (hC.cps (i := 1) (j := S.y 7 p) (by omega) hw).same (by unfold cCompl; exact s4)
  · unfold QCp at hq ⊢
    rw [ey 3 (by omega), ey 5 (by omega), ey 6 (by omega)]; exact hq
  · intro b hb'
    by_cases e : b = 1
    · rw [e, ex1 3 (by omega) (by omega)]
      obtain ⟨t, t1, t2⟩ := hL (S.y 7 p) (h7 p (by omega)).2
      exact ⟨t, by omega, t2⟩
    · rw [ex 3 b (by omega) e]
      obtain ⟨t, t1, t2⟩ := hL b hb'
      exact ⟨t, by omega, t2⟩
  · obtain ⟨U, hU⟩ : ∃ U, U = ((cf 5) &&& (((((1 : Int32) <<< ((nI w &&& 31) : Int32)) - 1) ||| ((1 : Int32) <<< ((nI w &&& 31) : Int32))) ^^^ (-1))) := ⟨_, rfl⟩
    rw [← hU]
    have eu : ∀ j, j ≠ 5 → j ≠ 4 → upd (upd cf 5 U) 4 (cf 4 + v) j = cf j := fun j h1 h2 => by unfold upd; rw [if_neg h2, if_neg h1]
    refine ⟨fun q hq => by rw [eu q (by omega) (by omega)]; exact c0 q hq, by show d.n 0 + d.n 1 + d.n 2 ≤ k + 1; omega, by rw [eR 3 (by omega)]; omega, by rw [eu 3 (by omega) (by omega)]; exact c3, c4, ?_, fun b hb' => ?_, by rw [eu 6 (by omega) (by omega), c7, h5, x5], by rw [eu 7 (by omega) (by omega), ex 16 0 (by omega) (by omega)]; exact c8, by rw [eu 8 (by omega) (by omega), ex 2 0 (by omega) (by omega)]; exact c9⟩
    · unfold upd
      rw [if_pos rfl, c5, hv, Int32.add_comm, Int32.sub_add_cancel]
    · have e5 : upd (upd cf 5 U) 4 (cf 4 + v) 5 = U := by
        unfold upd; rw [if_neg (by omega), if_pos rfl]
      rw [e5, hU, b_and, b_mask w (by omega) b (by omega), Bool.and_eq_true, c6 b hb', decide_eq_true_eq]
      constructor
      · rintro ⟨⟨j, hj, e⟩, hwb⟩
        have hpj : p < j := by
          rcases Nat.lt_trichotomy j p with q | q | q
          · have := hr.sn.inc j p q hp
            rw [e, hw, nI_toInt (by omega), nI_toInt (by omega)] at this
            omega
          · rw [q, hw] at e
            have := nI_inj (by omega) (by omega) e
            omega
          · exact q
        refine ⟨j - (p + 1), by show j - (p + 1) < d.c - (p + 1); omega, ?_⟩
        have := (h7 j (by omega)).1
        rw [ey7 _ (by omega), Nat.sub_add_cancel (by omega), ex 5 _ (by omega) (by omega)]
        exact e
      · rintro ⟨j, hj, e⟩
        have hj : j < d.c - (p + 1) := hj
        have := (h7 (j + (p + 1)) (by omega)).1
        rw [ey7 j hj, ex 5 _ (by omega) (by omega)] at e
        refine ⟨⟨j + (p + 1), by omega, e⟩, ?_⟩
        have := hr.sn.inc p (j + (p + 1)) (by omega) (by omega)
        rw [e, hw, nI_toInt (by omega), nI_toInt (by omega)] at this
        omega
  · obtain ⟨rd, mp, sp, -, bp⟩ := hr.std p hp
    have h7p := h7 p (by omega)
    have e4 := sp.x4 (by omega)
    obtain ⟨-, -, -, a3, -⟩ := hE
    have := a3 p hp
    rw [hm, e4, nI_toInt (by omega), nI_toInt (by omega)] at this
    rw [hv, ex1 4 (by omega) (by omega), e4, hm, p_sub (by omega)]
    exact nI_pos (by omega)
theorem LI.crash {k W V W' V' S M d x y g qf cf bc bs x' y' g' b2 s2} {m : Nat} (h : LI k W V S M d x y g qf cf bc bs) (h5 : M.x 5 = 1) (hm : S.x 4 1 = nI m) (hml : m ≤ M.T.length) (hS : RC (cCrash S m) x' y' g') (hB : BG28 (cCrash S m) W' V' b2 s2) :
    (∃ M' d', M'.x 5 = 1 ∧ d'.c = 0 ∧ LI (k + 1) W' V' (cCrash S m) M' d' x' y' g' qf (upd (upd cf 5 0) 8 (x' 2 0)) b2 s2) ∧ NEWR S (cCrash S m) ∧ (cCrash S m).R 4 = (S.R 4).take m := by
  obtain ⟨hc, hr, hC, hb, hP, hT0, hL, hI⟩ := h
  obtain ⟨hE, hq, hsz, hsl⟩ := hP h5
  obtain ⟨c0, c1, c2, c3, c4, c5, c6, c7, c8, c9⟩ := hI
  have hT := hr.t2400
  rw [hr.tt] at hT
  obtain ⟨rd, m1, s, hrd, hm1⟩ := hr.st1
  have em : m1 = m := nI_inj (by omega) (by omega) ((s.x4 (by omega)).symm.trans hm)
  subst em
  have hr' := hr.crash h5 s hrd hm1
  have hE' := hE.crash hr s hrd hm1
  have eR : ∀ q, q ≠ 4 → q ≠ 5 → (cCrash S m1).R q = S.R q := fun q h4 h5 => by
    unfold cCrash cCut
    rw [cRw_Rn _ _ _ h4, cps_Rn _ 0 1 h5]; rfl
  have eR4 : (cCrash S m1).R 4 = (S.R 4).take m1 := by
    unfold cCrash cCut
    rw [cRw_R, cps_Rn _ 0 1 (by decide)]; rfl
  have ex1 : ∀ k b, k ≠ 13 → b ≠ 0 → (cCrash S m1).x k b = S.x k b := fun k b h1 h2 => by
    show (cCpS (uX S 13 0 0) 0 1).x k b = S.x k b
    rw [cps_xn _ _ _ (.inl h2), cX_x _ _ (by omega)]
  have ex6 : ∀ k b, k ≠ 13 → 6 ≤ k → (cCrash S m1).x k b = S.x k b := fun k b h1 h2 => by
    show (cCpS (uX S 13 0 0) 0 1).x k b = S.x k b
    rw [cps_xn _ _ _ (.inr (.inr (by omega))), cX_x _ _ (by omega)]
  have ex3 : (cCrash S m1).x 3 0 = S.x 3 1 := by
    show (cCpS (uX S 13 0 0) 0 1).x 3 0 = S.x 3 1
    rw [cps_x _ _ _ (by omega) (by omega), cX_x _ _ (by omega)]
  refine ⟨⟨mCrash M m1, _, h5, rfl, hS, hr', ?_, hB, fun _ => ⟨hE', hq, hsz, hsl⟩, by rw [ex6 19 0 (by omega) (by omega)]; exact hT0, ?_, ?_⟩, NEWR.same (by rw [eR4, List.length_take]; exact Nat.min_le_right _ _), eR4⟩
  · have hw : (S.R 6).length ≤ 1400 := by
      have e : (S.R 6).length = (M.V 5).length := s.wr.len
      have := s.cw
      have := hrd 0; have := hrd 1; have := hrd 2
      have := hr.sizes
      omega
    have h1 : CapB (uX S 13 0 0) := hC
    have h2 := h1.cps (i := 0) (j := 1) (by omega) hw
    exact CapB.rw h2 (h2 4 (by omega))
  · intro b hb'
    by_cases e : b = 0
    · rw [e, ex3]
      obtain ⟨t, t1, t2⟩ := hL 1 (by omega)
      exact ⟨t, by omega, t2⟩
    · rw [ex1 3 b (by omega) e]
      obtain ⟨t, t1, t2⟩ := hL b hb'
      exact ⟨t, by omega, t2⟩
  · have eu : ∀ j, j ≠ 5 → j ≠ 8 → upd (upd cf 5 0) 8 (x' 2 0) j = cf j := fun j h1 h2 => by unfold upd; rw [if_neg h2, if_neg h1]
    refine ⟨fun q hq => by rw [eu q (by omega) (by omega)]; exact c0 q hq, by show d.n 0 + d.n 1 + d.n 2 ≤ k + 1; omega, by rw [eR 3 (by omega) (by omega)]; omega, by rw [eu 3 (by omega) (by omega)]; exact c3, c4, by rw [eu 4 (by omega) (by omega), ex1 4 1 (by omega) (by omega)]; exact c5, fun b hb' => ?_, by rw [eu 6 (by omega) (by omega)]; exact c7, by rw [eu 7 (by omega) (by omega), ex6 16 0 (by omega) (by omega)]; exact c8, ?_⟩
    · have e5 : upd (upd cf 5 0) 8 (x' 2 0) 5 = 0 := by
        unfold upd; rw [if_neg (by omega), if_pos rfl]
      rw [e5]
      constructor
      · intro z
        have : dbit 0 b = false := by
          unfold dbit
          show (0#32).getLsbD b = false
          simp
        rw [this] at z
        exact absurd z (by decide)
      · rintro ⟨j, hj, -⟩
        exact absurd hj (Nat.not_lt_zero j)
    · rw [hS.hx 2 (by omega)]
      unfold upd
      rw [if_pos rfl]
