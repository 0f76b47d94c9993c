/-! ===== barrier, completion, crash, a plan: what holds of the states ===== -/
theorem cTake_Rq (S : CS) (c m q : Nat) : (cTake S c m).R q = (cCpS S (S.y 7 c) 0).R q := by
  unfold cTake; rw [cX_R, cX_R, cX_R, cX_R]
theorem cTake_gq (S : CS) (c m : Nat) : (cTake S c m).g = (cCpS S (S.y 7 c) 0).g := by
  unfold cTake; rw [cX_gg, cX_gg, cX_gg, cX_gg]
theorem cTake_yq (S : CS) (c m : Nat) : (cTake S c m).y = S.y := by
  unfold cTake; rw [cX_yy', cX_yy', cX_yy', cX_yy']; exact cps_y _ _ _
theorem EXT.bar {S M d i} (h : EXT S d) (hr : Rel S M d i) (hc : d.c < 5) : EXT (cTake S d.c M.T.length) (GD.mk d.n d.rd (d.c + 1) (d.tk + 1) d.sz d.sl d.lt) := by
  have h7 := hr.sn.y7 d.c (by omega)
  have hinj := hr.sn.inj
  obtain ⟨a0, a1, a2, a3, a4⟩ := h
  obtain ⟨a, ha⟩ : ∃ a, a = S.y 7 d.c := ⟨_, rfl⟩
  have hne : ∀ k, k < d.c → S.y 7 k ≠ a := fun k hk e => by
    have := hinj k d.c (by omega) (by omega) (by rw [e, ha])
    omega
  have eR : ∀ q, q ≠ 5 + a → (cTake S d.c M.T.length).R q = S.R q := fun q hq => by
    rw [cTake_Rq, ← ha]; exact cps_Rn S a 0 hq
  have eRa : (cTake S d.c M.T.length).R (5 + a) = S.R 5 := by
    rw [cTake_Rq, ← ha]; exact cps_R S a 0
  have ey : (cTake S d.c M.T.length).y = S.y := cTake_yq _ _ _
  have ex : ∀ k b, k ≠ 13 → k ≠ 14 → b ≠ a → (cTake S d.c M.T.length).x k b = S.x k b := fun k b h1 h2 h3 => by
    unfold cTake
    rw [← ha, cX_x _ _ (by omega), cX_x _ _ (by omega), cX_x _ _ (by omega), cX_x _ _ (by omega), cps_xn S a 0 (.inl h3)]
  have ex6 : ∀ k, 6 ≤ k → k ≠ 13 → k ≠ 14 → ∀ b, (cTake S d.c M.T.length).x k b = S.x k b := fun k h0 h1 h2 b => by
    unfold cTake
    rw [← ha, cX_x _ _ (by omega), cX_x _ _ (by omega), cX_x _ _ (by omega), cX_x _ _ (by omega), cps_xn S a 0 (.inr (.inr (by omega)))]
  have ex2 : (cTake S d.c M.T.length).x 2 a = S.x 2 0 := by
    unfold cTake
    rw [← ha, cX_x _ _ (by omega), cX_x _ _ (by omega), cX_x _ _ (by omega), cX_x _ _ (by omega), cps_x S a 0 (by omega) (by omega)]
  have ex4 : (cTake S d.c M.T.length).x 4 a = nI M.T.length := by
    unfold cTake
    rw [← ha, cX_x _ _ (by omega), cX_x _ _ (by omega), cX_x _ _ (by omega), cX_s]
  have eg : ∀ b, b ≠ a → (cTake S d.c M.T.length).g 1 b = S.g 1 b := fun b hb => by
    rw [cTake_gq, ← ha]; exact cps_gn S a 0 (.inl hb)
  have ega : ∀ i, i < 3 → (cTake S d.c M.T.length).g 1 a i = S.g 1 0 i := fun i hi => by
    rw [cTake_gq, ← ha]; exact cps_g S a 0 (by omega) (by omega) hi
  have hT := hr.t2400
  have hlen : (S.R 4).length = M.T.length := by rw [hr.tt]
  have keep : ∀ b, b ≠ a → b ≠ 0 → TSx S d.sz d.sl b → TSx (cTake S d.c M.T.length) d.sz d.sl b := fun b hb hb0 hx =>
    hx.mv (eR _ (by omega)) (ex 2 b (by omega) (by omega) hb) (ex 4 b (by omega) (by omega) hb) (fun i _ => by rw [eg b hb]) (by rw [ey]) (by rw [ey]) (ex6 10 (by omega) (by omega) (by omega) 0) (by rw [ex6 12 (by omega) (by omega) (by omega) 0]; exact Int32.le_refl _) fun rd m _ => ⟨fun p hp => by rw [eR p (by omega)], by rw [eR 4 (by omega)]⟩
  have x4m : ∀ k, k < d.c → (S.x 4 (S.y 7 k)).toInt ≤ (M.T.length : Int) := fun k hk => by
    obtain ⟨rd, m, s, -, b2⟩ := hr.std k hk
    have := (hr.sn.y7 k (by omega)).1
    rw [s.x4 (by omega), nI_toInt (by omega)]
    omega
  have x41 : (S.x 4 1).toInt ≤ (M.T.length : Int) := by
    obtain ⟨rd, m, s, -, b2⟩ := hr.st1
    rw [s.x4 (by omega), nI_toInt (by omega)]
    omega
  refine ⟨?_, keep 1 (by omega) (by omega) a1, fun k hk => ?_, fun k hk => ?_, fun j k hjk hk => ?_⟩
  · unfold TS0 at a0 ⊢
    rw [ey, eR 5 (by omega), ex 2 0 (by omega) (by omega) (by omega), ex6 12 (by omega) (by omega) (by omega) 0, ex6 10 (by omega) (by omega) (by omega) 0, eR 4 (by omega)]
    rw [show EV (cTake S d.c M.T.length) (GD.mk d.n d.rd (d.c + 1) (d.tk + 1) d.sz d.sl d.lt).rd = EV S d.rd from EV_congr fun p hp => by rw [eR p (by omega)]]
    exact a0
  · rw [ey]
    have hk : k < d.c + 1 := hk
    by_cases e : k = d.c
    · rw [e, ← ha]
      intro rd m hm
      have hm1 : ∀ i, i < 3 → rd i = d.rd i := fun i hi => by
        obtain ⟨b1, b2⟩ := hm.1 i hi
        rw [ega i hi, (hr.st0.rs i hi).1] at b2
        exact (nI_inj (by have := hr.rd300 i hi; omega) (by omega) b2).symm
      have hm2 : m = M.T.length := by
        have b2 := hm.2.1
        rw [ex4] at b2
        exact (nI_inj (by omega) (by have := hm.2.2; omega) b2).symm
      unfold TSa
      unfold TS0 at a0
      rw [ey, eRa, ex2, ex6 12 (by omega) (by omega) (by omega) 0, ex6 10 (by omega) (by omega) (by omega) 0, eR 4 (by omega), hm2, ← hlen, List.take_length]
      rw [show EV (cTake S d.c (S.R 4).length) rd = EV S d.rd from EV_congr fun p hp => by rw [hlen, eR p (by omega), hm1 p hp]]
      exact a0
    · exact keep _ (hne k (by omega)) (by have := (hr.sn.y7 k (by omega)).1; omega) (a2 k (by omega))
  · have hk : k < d.c + 1 := hk
    rw [ey, ex 4 1 (by omega) (by omega) (by omega)]
    by_cases e : k = d.c
    · rw [e, ← ha, ex4, nI_toInt (by omega)]
      exact x41
    · rw [ex 4 _ (by omega) (by omega) (hne k (by omega))]
      exact a3 k (by omega)
  · have hk : k < d.c + 1 := hk
    rw [ey, ex 4 _ (by omega) (by omega) (hne j (by omega))]
    by_cases e : k = d.c
    · rw [e, ← ha, ex4, nI_toInt (by omega)]
      exact x4m j (by omega)
    · rw [ex 4 _ (by omega) (by omega) (hne k (by omega))]
      exact a4 j k hjk (by omega)
theorem EXT.crash {S M d i} (h : EXT S d) (hr : Rel S M d i) {rd : Nat → Nat} {m : Nat} (s : STR S M d.sz (decide (S.y 5 0 = 10)) 1 5 rd m) (hrd : ∀ i, rd i ≤ d.rd i) (hm : m ≤ M.T.length) : EXT (cCrash S m) (GD.mk d.n rd 0 d.tk d.sz d.sl d.lt) := by
  obtain ⟨a0, a1, a2, a3, a4⟩ := h
  have hT := hr.t2400
  have hlen : (S.R 4).length = M.T.length := by rw [hr.tt]
  have his : rdIs S 1 rd m := ⟨fun i hi => ⟨Nat.le_trans (hrd i) (hr.rd300 i hi), (s.rs i hi).1⟩, s.x4 (by decide), by omega⟩
  have t1 := a1 rd m his
  have eR : ∀ q, q ≠ 4 → q ≠ 5 → (cCrash S m).R q = S.R q := fun q h4 h5 => by
    unfold cCrash cCut
    rw [cRw_Rn _ _ _ h4, cps_Rn _ 0 1 h5]; rfl
  have eR4 : (cCrash S m).R 4 = (S.R 4).take m := by
    unfold cCrash cCut
    rw [cRw_R, cps_Rn _ 0 1 (by decide)]; rfl
  have eR5 : (cCrash S m).R 5 = S.R 6 := by
    unfold cCrash cCut
    rw [cRw_Rn _ _ _ (by decide)]
    exact cps_R (uX S 13 0 0) 0 1
  have ey : (cCrash S m).y = S.y := rfl
  have ex1 : ∀ k b, k ≠ 13 → b ≠ 0 → (cCrash S m).x k b = S.x k b := fun k b h1 h2 => by
    show (cCpS (uX S 13 0 0) 0 1).x k b = S.x k b
    rw [cps_xn _ _ _ (.inl h2), cX_x _ _ (by omega)]
  have ex6 : ∀ k b, k ≠ 13 → 6 ≤ k → (cCrash S m).x k b = S.x k b := fun k b h1 h2 => by
    show (cCpS (uX S 13 0 0) 0 1).x k b = S.x k b
    rw [cps_xn _ _ _ (.inr (.inr (by omega))), cX_x _ _ (by omega)]
  have ex2 : (cCrash S m).x 2 0 = S.x 2 1 := by
    show (cCpS (uX S 13 0 0) 0 1).x 2 0 = S.x 2 1
    rw [cps_x _ _ _ (by omega) (by omega), cX_x _ _ (by omega)]
  have eg : ∀ b, b ≠ 0 → (cCrash S m).g 1 b = S.g 1 b := fun b hb => by
    show (cCpS (uX S 13 0 0) 0 1).g 1 b = S.g 1 b
    rw [cps_gn _ _ _ (.inl hb)]; rfl
  refine ⟨?_, ?_, fun k hk => absurd hk (Nat.not_lt_zero k), fun k hk => absurd hk (Nat.not_lt_zero k), fun j k _ hk => absurd hk (Nat.not_lt_zero k)⟩
  · unfold TS0
    unfold TSa at t1
    rw [ey, eR5, ex2, ex6 12 0 (by omega) (by omega), ex6 10 0 (by omega) (by omega), eR4]
    rw [show EV (cCrash S m) (GD.mk d.n rd 0 d.tk d.sz d.sl d.lt).rd = EV S rd from EV_congr fun p hp => by rw [eR p (by omega) (by omega)]]
    exact t1
  · refine a1.mv (eR 6 (by omega) (by omega)) (ex1 2 1 (by omega) (by omega)) (ex1 4 1 (by omega) (by omega)) (fun i _ => by rw [eg 1 (by omega)]) (by rw [ey]) (by rw [ey]) (ex6 10 0 (by omega) (by omega)) (by rw [ex6 12 0 (by omega) (by omega)]; exact Int32.le_refl _) fun rd2 m2 h2 => ⟨fun p hp => by rw [eR p (by omega) (by omega)], ?_⟩
    obtain ⟨-, e⟩ := h2.eq his
    rw [eR4, List.take_take, e, Nat.min_self]
