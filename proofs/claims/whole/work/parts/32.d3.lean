def cCrash (S : CS) (m : Nat) : CS := cCut (cCpS (uX S 13 0 0) 0 1) 4 m
def mCrash (M : MS) (m : Nat) : MS := mX (mCp M 5 6 (M.T.take m)) 35 0
theorem Rel.crash {S M d i} (h : Rel S M d i) (h5 : M.x 5 = 1) {rd : Nat → Nat} {m : Nat} (s : STR S M d.sz (decide (S.y 5 0 = 10)) 1 5 rd m) (hrd : ∀ i, rd i ≤ d.rd i) (hm : m ≤ M.T.length) : Rel (cCrash S m) (mCrash M m) (GD.mk d.n (rd) (0) d.tk d.sz d.sl d.lt) i := by
  have eR4 : (cCrash S m).R 4 = (S.R 4).take m := by
    unfold cCrash cCut; rw [cRw_R, cps_Rn _ 0 1 (by decide)]; rfl
  have eR : ∀ q, q ≠ 4 → q ≠ 5 → (cCrash S m).R q = S.R q := fun q a b => by
    unfold cCrash cCut; rw [cRw_Rn _ _ _ a, cps_Rn _ 0 1 (by omega)]; rfl
  have eR5 : (cCrash S m).R 5 = S.R 6 := by
    unfold cCrash cCut; rw [cRw_Rn _ _ _ (by decide)]; exact cps_R _ 0 1
  have ex : (cCrash S m).x = (cCpS (uX S 13 0 0) 0 1).x := rfl
  have eg : (cCrash S m).g = (cCpS (uX S 13 0 0) 0 1).g := rfl
  have x0 : ∀ k a, a ≠ 0 ∨ 5 < k → k ≠ 13 → (cCrash S m).x k a = S.x k a := fun k a h1 h2 => by
    rw [ex, cps_xn _ 0 1 (by omega)]; simp only [CS.mk_R, CS.mk_cap, CS.mk_x, CS.mk_y, CS.mk_g, CS.mk_eta, MS.mk_x, MS.mk_g, MS.mk_V, MS.mk_T, MS.mk_eta, GD.mk_n, GD.mk_rd, GD.mk_c, GD.mk_tk, GD.mk_sz, GD.mk_sl, GD.mk_lt, GD.mk_eta, uX, p_un _ _ h2]
  have x13 : (cCrash S m).x 13 0 = 0 := by
    rw [ex, cps_xn _ 0 1 (.inr (.inr (by omega)))]; simp only [CS.mk_R, CS.mk_cap, CS.mk_x, CS.mk_y, CS.mk_g, CS.mk_eta, MS.mk_x, MS.mk_g, MS.mk_V, MS.mk_T, MS.mk_eta, GD.mk_n, GD.mk_rd, GD.mk_c, GD.mk_tk, GD.mk_sz, GD.mk_sl, GD.mk_lt, GD.mk_eta, uX, p_ug]
  have mg : (mCrash M m).g = (mCp M 5 6 (M.T.take m)).g := rfl
  have mV : (mCrash M m).V = (mCp M 5 6 (M.T.take m)).V := rfl
  have mT : (mCrash M m).T = M.T.take m := rfl
  have mTl : (M.T.take m).length = m := by rw [List.length_take]; omega
  have mo : ∀ k, k < 23 ∨ 27 < k → (mCrash M m).g k = M.g k := fun k hk => by rw [mg]; exact mcp_o M 5 6 _ hk
  have mx : ∀ k, k ≠ 35 → (mCrash M m).x k = M.x k := fun k a => by simp only [CS.mk_R, CS.mk_cap, CS.mk_x, CS.mk_y, CS.mk_g, CS.mk_eta, MS.mk_x, MS.mk_g, MS.mk_V, MS.mk_T, MS.mk_eta, GD.mk_n, GD.mk_rd, GD.mk_c, GD.mk_tk, GD.mk_sz, GD.mk_sl, GD.mk_lt, GD.mk_eta, mCrash, mX, p_un _ _ a]; rfl
  have new : STR (cCrash S m) (mCrash M m) d.sz (decide (S.y 5 0 = 10)) 0 6 rd m := s.mv eR5 (fun k h1 h2 => by rw [ex, cps_x _ 0 1 h1 (by omega)]; simp only [CS.mk_R, CS.mk_cap, CS.mk_x, CS.mk_y, CS.mk_g, CS.mk_eta, MS.mk_x, MS.mk_g, MS.mk_V, MS.mk_T, MS.mk_eta, GD.mk_n, GD.mk_rd, GD.mk_c, GD.mk_tk, GD.mk_sz, GD.mk_sl, GD.mk_lt, GD.mk_eta, uX, p_un _ _ (show k ≠ 13 by omega)]) (fun k j h1 h2 hj => by rw [eg, cps_g _ 0 1 h1 h2 hj]; rfl) (by rw [mV]; exact mcp_V M 5 6 _) (fun k h1 h2 => by rw [mg]; exact mcp_g M 5 6 _ h1 h2) (fun k j h1 h2 hj => by rw [mg]; exact mcp_r M 5 6 _ h1 h2 hj) (fun e => absurd rfl e)
  have old : STR (cCrash S m) (mCrash M m) d.sz (decide (S.y 5 0 = 10)) 1 5 rd m := s.mv (eR 6 (by decide) (by decide)) (fun k h1 h2 => x0 k 1 (.inl (by decide)) (by omega)) (fun k j h1 h2 hj => by rw [eg, cps_gn _ 0 1 (.inl (by decide))]; rfl) (by rw [mV]; exact mcp_Vn M 5 6 _ (by decide)) (fun k h1 h2 => by rw [mg]; exact mcp_gn M 5 6 _ h1 h2 (by decide)) (fun k j h1 h2 hj => by rw [mg]; exact mcp_rn M 5 6 _ h1 h2 hj (by decide)) (fun e => by rw [x0 4 1 (.inl (by decide)) (by decide)]; exact s.x4 e)
  have ev0 : EVR (cCrash S m) (mCrash M m) d.n d.rd := h.ev.fr (fun p hp => eR p (by omega) (by omega)) (fun k h1 h2 => mo k (by omega)) (mx 8 (by decide)) (by rw [mo 6 (by omega)])
  refine ⟨?_, ?_, ?_, ?_, ?_, ?_, ?_, ?_, ?_, ?_, ?_, h.tki, ?_⟩
  · obtain ⟨n, t⟩ := h.tx
    exact ⟨n, t.fl (fun k h1 h2 => x0 k 0 (.inr (by omega)) (by omega)) rfl (by rw [eg, cps_gn _ 0 1 (.inr (.inr (by omega)))]; rfl) (mx 0 (by decide)) (mo 4 (by omega))⟩
  · exact ⟨ev0.len, ev0.cnt, ev0.tot, ev0.m8, ev0.row, fun p hp => Nat.le_trans (hrd p) (ev0.rdn p hp), fun p hp r hr => ev0.done p hp r (Nat.lt_of_lt_of_le hr (hrd p))⟩
  · exact h.tb.fl (eR 3 (by decide) (by decide)) (mx 19 (by decide)) (fun k h1 h2 => mo k (by omega))
  · intro p hp; rw [x0 6 p (.inr (by omega)) (by decide), mo 17 (by omega)]; exact h.lag p hp
  · intro p hp; rw [x0 7 p (.inr (by omega)) (by decide), mo 18 (by omega)]; exact h.idle p hp
  · refine ⟨by rw [mx 5 (by decide)]; exact h.pl.b, by rw [x0 15 0 (.inr (by omega)) (by decide), mx 5 (by decide)]; exact h.pl.s15, fun e => ?_, fun e => ?_⟩
    · exact (h.pl.q h5).fl (fun k h1 h2 => x0 k 0 (.inr (by omega)) (by omega)) (fun _ _ _ => rfl) (mo 6 (by omega))
    · rw [mx 5 (by decide)] at e; exact absurd (h5.symm.trans e) (by decide)
  · rw [eR4, mT, h.tt]
  · rw [mT, mTl]; exact new
  · exact ⟨rd, m, old, fun _ => Nat.le_refl _, by rw [mT, mTl]; exact Nat.le_refl _⟩
  · exact ⟨Nat.zero_le _, x13, by simp only [CS.mk_R, CS.mk_cap, CS.mk_x, CS.mk_y, CS.mk_g, CS.mk_eta, MS.mk_x, MS.mk_g, MS.mk_V, MS.mk_T, MS.mk_eta, GD.mk_n, GD.mk_rd, GD.mk_c, GD.mk_tk, GD.mk_sz, GD.mk_sl, GD.mk_lt, GD.mk_eta, mCrash, mX, p_ug]; rfl, by rw [x0 14 0 (.inr (by omega)) (by decide)]; exact h.sn.s14, by rw [mx 37 (by decide)]; exact h.sn.m37, h.sn.y7, h.sn.inj, fun k hk => absurd hk (Nat.not_lt_zero k), fun j k _ hk => absurd hk (Nat.not_lt_zero k)⟩
  · exact fun k hk => absurd hk (Nat.not_lt_zero k)
  · rw [x0 16 0 (.inr (by omega)) (by decide), mx 43 (by decide)]; exact h.wk
theorem case22 {i x y g f xm gm bc bs} (hi : i + 5 ≤ 2560) (h : lInv i x y g f xm gm bc bs) : wlc22 x y g f xm gm bc bs (lInv (i + 5)) := by
  obtain ⟨S, M, d, hc, hm, hr, hb⟩ := h
  have hB := hb.min hc.capM hi
  unfold wlc22 wL_crash wX8_crash wX9_crash jX9_crash_13 wX5_forgetDoubtful
  rcases hr.pl.b with z | z
  · have zx : x 15 0 = 0 := by rw [hc.hx 15 (by omega), hr.pl.s15]; exact z
    exact ⟨5, 100, bc - 5, bs - 100, by omega, by omega, fun _ => ⟨by omega, by omega, rfl, fun _ => m_no (by decide) (end_exc hi hc hm hr hb (by decide)), fun c => absurd (show xm 5 = 0 by rw [hm.hx]; exact z) c⟩, fun c => absurd zx c⟩
  · have zx : ¬ x 15 0 = 0 := by rw [hc.hx 15 (by omega), hr.pl.s15, z]; decide
    have zm : ¬ xm 5 = 0 := by rw [hm.hx, z]; decide
    have hr2 := hr.thrown 0
    have hm2 := hm.X 44 0
    obtain ⟨rd, m, s, hrd, hmT⟩ := hr2.st1
    have hc1 := hc.X (k := 13) (i := 0) (v := 0) (by omega)
    have hTl : (S.R 4).length = M.T.length := by rw [hr.tt]
    have hcapT : CapOK (cCpS (uX S 13 0 0) 0 1) := cps_cap (i := 0) (j := 1) hc1.ok (by omega) (hc1.n (q := 6) (by omega))
    have hmon : pSum S.cap ≤ pSum (cCpS (uX S 13 0 0) 0 1).cap := cCpS_mon (uX S 13 0 0) (i := 0) (j := 1) (by omega)
    obtain ⟨kc, ks, b2, s2, h1, h2, h3, h4, h5', h6'⟩ := hb.call hmon hcapT.sum hi
    refine ⟨kc, ks, b2, s2, h1, h2, fun c => absurd c zx, fun _ => ?_⟩
    rintro _ rfl
    refine ⟨kc, ks, 0, 0, by omega, by omega, c_copyS hc1 (i := 0) (j := 1) (by omega) (by omega) (by decide) ⟨by have := h5'.c; show _ ≤ pSum S.cap + _; omega, by have := h5'.s; show _ ≤ 2 * pSum S.cap + _; omega⟩ fun x2 y2 g2 hS => ?_⟩
    have e4 : x2 4 1 = nI m := by
      rw [hS.hx 4 (by omega), cps_xn _ 0 1 (.inl (by decide))]
      exact s.x4 (by decide)
    have eR4 : (cCpS (uX S 13 0 0) 0 1).R 4 = S.R 4 := by rw [cps_Rn _ 0 1 (by decide)]; rfl
    rw [e4, hc.len (q := 4) (by omega)]
    refine c_cutTo hS (q := 4) (by omega) (by rw [eR4, hTl]; exact hmT) fun x3 y3 g3 hS3 => ?_
    refine ⟨fun c => absurd c zm, fun _ => m_yes ⟨p_vin6, ?_⟩⟩
    rw [p_6, hm.W 27 (by omega) (by omega), hm.n27]
    rintro _ rfl
    refine m_copies hm2 (a := 5) (b := 6) (by omega) (by omega) (by decide) (T := (mX M 44 0).T.take m) ⟨by rw [List.length_take]; exact Nat.min_le_right _ _, fun j hj => ?_⟩ ?_ fun g4 hG => ⟨p_vin6, ?_⟩
    · simp only [CS.mk_R, CS.mk_cap, CS.mk_x, CS.mk_y, CS.mk_g, CS.mk_eta, MS.mk_x, MS.mk_g, MS.mk_V, MS.mk_T, MS.mk_eta, GD.mk_n, GD.mk_rd, GD.mk_c, GD.mk_tk, GD.mk_sz, GD.mk_sl, GD.mk_lt, GD.mk_eta, List.getD, List.getElem?_take]
      rw [List.length_take] at hj
      rw [if_pos (by omega)]
    · rw [mcp_g _ _ _ _ (by omega) (by omega), s.m27, List.length_take]
      congr 1
      exact (Nat.min_eq_left hmT).symm
    · have hR := ((hr2.later (j := i + 5) (by omega)).crash z s hrd hmT)
      have hG2 := hG.X 35 0
      have hS4 : RC (cCrash S m) x3 y3 g3 := hS3
      have hmT' : m ≤ M.T.length := hmT
      refine end_ok ?_ hS4 hG2 rfl hR ?_
      · rw [hG.W 27 (by omega) (by omega), hG.n27, hS4.len (q := 4) (by omega), hR.tt, hTl]
        rfl
      · have e : (cCrash S m).cap = (cCpS (uX S 13 0 0) 0 1).cap := by
          unfold cCrash cCut; simp only [CS.mk_R, CS.mk_cap, CS.mk_x, CS.mk_y, CS.mk_g, CS.mk_eta, MS.mk_x, MS.mk_g, MS.mk_V, MS.mk_T, MS.mk_eta, GD.mk_n, GD.mk_rd, GD.mk_c, GD.mk_tk, GD.mk_sz, GD.mk_sl, GD.mk_lt, GD.mk_eta, cRw, p_us]
        exact ⟨by rw [e]; exact h6'.c, by rw [e]; exact h6'.s⟩
theorem cRot_spec (d c : Nat) (hd : 1 ≤ d) : ∀ (m i : Nat) (S : CS) (y0 : Nat → Nat), i + d + m ≤ c → c ≤ 5 → (∀ k, k < i → S.y 7 k = y0 (k + d)) → (∀ k, i + d ≤ k → S.y 7 k = y0 k) → (∀ k, k < 5 → 2 ≤ S.y 7 k ∧ S.y 7 k < 7) → (∀ j k, j < 5 → k < 5 → S.y 7 j = S.y 7 k → j = k) → (∀ k, k < i + m → (cRot d S m i).y 7 k = y0 (k + d)) ∧ (∀ k, k < 5 → 2 ≤ (cRot d S m i).y 7 k ∧ (cRot d S m i).y 7 k < 7) ∧ (∀ j k, j < 5 → k < 5 → (cRot d S m i).y 7 j = (cRot d S m i).y 7 k → j = k) := by
  intro m
  induction m with
  | zero => intro i S y0 _ _ h1 _ h3 h4; exact ⟨fun k hk => h1 k (by omega), h3, h4⟩
  | succ m ih =>
    intro i S y0 hic hc5 h1 h2 h3 h4
    have e : ∀ k, (cSwap S i (i + d)).y 7 k = if k = i + d then S.y 7 i else if k = i then S.y 7 (i + d) else S.y 7 k := fun k => by
      simp only [CS.mk_R, CS.mk_cap, CS.mk_x, CS.mk_y, CS.mk_g, CS.mk_eta, MS.mk_x, MS.mk_g, MS.mk_V, MS.mk_T, MS.mk_eta, GD.mk_n, GD.mk_rd, GD.mk_c, GD.mk_tk, GD.mk_sz, GD.mk_sl, GD.mk_lt, GD.mk_eta, cSwap, cY, p_ug]
      rfl
    have := ih (i + 1) (cSwap S i (i + d)) y0 (by omega) hc5 (fun k hk => ?_) (fun k hk => ?_) (fun k hk => ?_) (fun j k hj hk hjk => ?_)
    · rw [show i + 1 + m = i + (m + 1) by omega] at this
      exact this
    · rw [e, if_neg (by omega)]
      by_cases a : k = i
      · rw [if_pos a, a]; exact h2 _ (Nat.le_refl _)
      · rw [if_neg a]; exact h1 k (by omega)
    · rw [e, if_neg (by omega), if_neg (by omega)]; exact h2 k (by omega)
    · rw [e]
      split
      · exact h3 i (by omega)
      · split
        · exact h3 (i + d) (by omega)
        · exact h3 k hk
    · rw [e, e] at hjk
      by_cases a : j = i + d
      · rw [if_pos a] at hjk
        by_cases b : k = i + d
        · omega
        · rw [if_neg b] at hjk
          by_cases b2 : k = i
          · rw [if_pos b2] at hjk
            have := h4 i (i + d) (by omega) (by omega) hjk
            omega
          · rw [if_neg b2] at hjk
            have := h4 i k (by omega) hk hjk
            omega
      · rw [if_neg a] at hjk
        by_cases a2 : j = i
        · rw [if_pos a2] at hjk
          by_cases b : k = i + d
          · rw [if_pos b] at hjk
            have := h4 (i + d) i (by omega) (by omega) hjk
            omega
          · rw [if_neg b] at hjk
            by_cases b2 : k = i
            · omega
            · rw [if_neg b2] at hjk
              have := h4 (i + d) k (by omega) hk hjk
              omega
        · rw [if_neg a2] at hjk
          by_cases b : k = i + d
          · rw [if_pos b] at hjk
            have := h4 j i hj (by omega) hjk
            omega
          · rw [if_neg b] at hjk
            by_cases b2 : k = i
            · rw [if_pos b2] at hjk
              have := h4 j (i + d) hj (by omega) hjk
              omega
            · rw [if_neg b2] at hjk
              exact h4 j k hj hk hjk
abbrev Sh (M0 M : MS) (d i : Nat) : Prop := (M.x = M0.x) ∧ (M.T = M0.T) ∧ (∀ q, M.V q = if q < i then M0.V (q + d) else M0.V q) ∧ (∀ k q l, 23 ≤ k → k ≤ 24 → l < 3 → M.g k (3 * q + l) = if q < i then M0.g k (3 * (q + d) + l) else M0.g k (3 * q + l)) ∧ (∀ k q, 25 ≤ k → k ≤ 27 → M.g k q = if q < i then M0.g k (q + d) else M0.g k q) ∧ (∀ q, M.g 36 q = if q < i then M0.g 36 (q + d) else M0.g 36 q) ∧ (∀ k, k < 23 ∨ 27 < k → k ≠ 36 → M.g k = M0.g k)
theorem Sh.x {M0 M : MS} {d i : Nat} (h_ : Sh M0 M d i) : M.x = M0.x := h_.1
theorem Sh.T {M0 M : MS} {d i : Nat} (h_ : Sh M0 M d i) : M.T = M0.T := h_.2.1
theorem Sh.V {M0 M : MS} {d i : Nat} (h_ : Sh M0 M d i) : ∀ q, M.V q = if q < i then M0.V (q + d) else M0.V q := h_.2.2.1
theorem Sh.r {M0 M : MS} {d i : Nat} (h_ : Sh M0 M d i) : ∀ k q l, 23 ≤ k → k ≤ 24 → l < 3 → M.g k (3 * q + l) = if q < i then M0.g k (3 * (q + d) + l) else M0.g k (3 * q + l) := h_.2.2.2.1
theorem Sh.s {M0 M : MS} {d i : Nat} (h_ : Sh M0 M d i) : ∀ k q, 25 ≤ k → k ≤ 27 → M.g k q = if q < i then M0.g k (q + d) else M0.g k q := h_.2.2.2.2.1
theorem Sh.n {M0 M : MS} {d i : Nat} (h_ : Sh M0 M d i) : ∀ q, M.g 36 q = if q < i then M0.g 36 (q + d) else M0.g 36 q := h_.2.2.2.2.2.1
theorem Sh.o {M0 M : MS} {d i : Nat} (h_ : Sh M0 M d i) : ∀ k, k < 23 ∨ 27 < k → k ≠ 36 → M.g k = M0.g k := h_.2.2.2.2.2.2
theorem Sh.step {M0 M : MS} {d i : Nat} (h : Sh M0 M d i) (hd : 1 ≤ d) {v : Int32} (hv : v = M.g 36 (i + d)) : Sh M0 (mG (mCp M (i + d) i M.T) 36 i v) d (i + 1) := by
  have eg : ∀ k, k ≠ 36 → (mG (mCp M (i + d) i M.T) 36 i v).g k = (mCp M (i + d) i M.T).g k := fun k hk => by simp only [CS.mk_R, CS.mk_cap, CS.mk_x, CS.mk_y, CS.mk_g, CS.mk_eta, MS.mk_x, MS.mk_g, MS.mk_V, MS.mk_T, MS.mk_eta, GD.mk_n, GD.mk_rd, GD.mk_c, GD.mk_tk, GD.mk_sz, GD.mk_sl, GD.mk_lt, GD.mk_eta, mG, p_un _ _ hk]
  refine ⟨h.x, h.T, fun q => ?_, fun k q l h1 h2 hl => ?_, fun k q h1 h2 => ?_, fun q => ?_, fun k h1 h2 => ?_⟩
  · show (mCp M (i + d) i M.T).V q = _
    by_cases e : q = i
    · subst e; rw [mcp_V, h.V, if_neg (by omega), if_pos (by omega)]
    · rw [mcp_Vn _ _ _ _ e, h.V]
      by_cases e2 : q < i
      · rw [if_pos e2, if_pos (by omega)]
      · rw [if_neg e2, if_neg (by omega)]
  · rw [eg k (by omega)]
    by_cases e : q = i
    · subst e; rw [mcp_r _ _ _ _ h1 h2 hl, h.r k _ l h1 h2 hl, if_neg (by omega), if_pos (by omega)]
    · rw [mcp_rn _ _ _ _ h1 h2 hl e, h.r k q l h1 h2 hl]
      by_cases e2 : q < i
      · rw [if_pos e2, if_pos (by omega)]
      · rw [if_neg e2, if_neg (by omega)]
  · rw [eg k (by omega)]
    by_cases e : q = i
    · subst e; rw [mcp_g _ _ _ _ h1 h2, h.s k _ h1 h2, if_neg (by omega), if_pos (by omega)]
    · rw [mcp_gn _ _ _ _ h1 h2 e, h.s k q h1 h2]
      by_cases e2 : q < i
      · rw [if_pos e2, if_pos (by omega)]
      · rw [if_neg e2, if_neg (by omega)]
  · have e36 : (mG (mCp M (i + d) i M.T) 36 i v).g 36 = upd (M.g 36) i v := by
      simp only [CS.mk_R, CS.mk_cap, CS.mk_x, CS.mk_y, CS.mk_g, CS.mk_eta, MS.mk_x, MS.mk_g, MS.mk_V, MS.mk_T, MS.mk_eta, GD.mk_n, GD.mk_rd, GD.mk_c, GD.mk_tk, GD.mk_sz, GD.mk_sl, GD.mk_lt, GD.mk_eta, mG, p_ug]; rw [mcp_o _ _ _ _ (by omega)]
    rw [e36, upd]
    by_cases e : q = i
    · subst e; rw [if_pos rfl, hv, h.n, if_neg (by omega), if_pos (by omega)]
    · rw [if_neg e, h.n]
      by_cases e2 : q < i
      · rw [if_pos e2, if_pos (by omega)]
      · rw [if_neg e2, if_neg (by omega)]
  · rw [eg k h2, mcp_o _ _ _ _ h1]; exact h.o k h1 h2
theorem m_shL {M0 : MS} {x : Nat → Int32} {c p : Nat} {v3 : Int32} (hc : c ≤ 5) (hp : p < c) (hx : M0.x 35 = nI c) {Φ : Int32 → pJ} (hΦ : ∀ M g, RM M x g → Sh M0 M (p + 1) (c - (p + 1)) → Φ (M.g 27 5 - v3) (va_up x 35 (nI (c - (p + 1)))) g) : ∀ (m n i : Nat) (M : MS) (g : Nat → Nat → Int32), RM M x g → Sh M0 M (p + 1) i → i + (p + 1) + m = c → m < n → lX9_complete_71 Φ n x g (nI p) v3 (nI (i + (p + 1))) := by
  intro m
  induction m with
  | zero =>
    intro n i M g hm hs him hmn
    obtain ⟨n, rfl⟩ : ∃ n', n = n' + 1 := ⟨n - 1, by omega⟩
    have ex : x 35 = nI c := by rw [hm.hx, hs.x]; exact hx
    simp only [CS.mk_R, CS.mk_cap, CS.mk_x, CS.mk_y, CS.mk_g, CS.mk_eta, MS.mk_x, MS.mk_g, MS.mk_V, MS.mk_T, MS.mk_eta, GD.mk_n, GD.mk_rd, GD.mk_c, GD.mk_tk, GD.mk_sz, GD.mk_sl, GD.mk_lt, GD.mk_eta, lX9_complete_71, ex]
    rw [p_5, hm.W 27 (by omega) (by omega), nI_1, p_sub (by omega)]
    have := hΦ M g hm (by rwa [show i = c - (p + 1) by omega] at hs)
    exact ⟨fun _ => ⟨by unfold vp_in; decide, this⟩, fun e => absurd (nI_le (by omega) (by omega)) e⟩
  | succ m ih =>
    intro n i M g hm hs him hmn
    obtain ⟨n, rfl⟩ : ∃ n', n = n' + 1 := ⟨n - 1, by omega⟩
    have ex : x 35 = nI c := by rw [hm.hx, hs.x]; exact hx
    have e1 : nI (i + (p + 1)) - nI p - 1 = nI i := by
      rw [p_sub (by omega), show i + (p + 1) - p = i + 1 by omega]; exact nI_pred i
    simp only [CS.mk_R, CS.mk_cap, CS.mk_x, CS.mk_y, CS.mk_g, CS.mk_eta, MS.mk_x, MS.mk_g, MS.mk_V, MS.mk_T, MS.mk_eta, GD.mk_n, GD.mk_rd, GD.mk_c, GD.mk_tk, GD.mk_sz, GD.mk_sl, GD.mk_lt, GD.mk_eta, lX9_complete_71, ex]
    rw [e1]
    refine ⟨fun e => absurd e (nI_ge (by omega) (by omega)), fun _ => m_copies hm (a := i + (p + 1)) (b := i) (by omega) (by omega) (by omega) (T := M.T) ⟨Nat.le_refl _, fun _ _ => rfl⟩ (by rw [mcp_gn _ _ _ _ (by omega) (by omega) (by omega)]; exact hm.n27) fun g2 hG => ?_⟩
    rw [p_cl (show i + (p + 1) < 2 ^ 31 by omega), p_cl (show i < 2 ^ 31 by omega)]
    refine ⟨vp_in_nI (by omega) (by omega), vp_in_nI (by omega) (by omega), ?_⟩
    rintro _ rfl
    rw [nI_1]
    have hG2 := hG.G (k := 36) (i := i) (v := g2 36 (i + (p + 1))) (by omega) (by omega)
    have hv : g2 36 (i + (p + 1)) = M.g 36 (i + (p + 1)) := by rw [hG.W 36 (by omega) (by omega), mcp_o _ _ _ _ (by omega)]
    have := ih n (i + 1) _ _ hG2 (hs.step (by omega) hv) (by omega) (by omega)
    rwa [show i + 1 + (p + 1) = i + (p + 1) + 1 by omega] at this
theorem m_numL {S M d i x g} (hr : Rel S M d i) (hm : RM M x g) (htk : d.tk < 2 ^ 31) {v : Int32} {Φ : Int32 → pJ} (h1 : cPlace S v d.c 0 = none → jX9_complete_45 Φ x g (-1) 1) (h2 : ∀ p, p < d.c → cPlace S v d.c 0 = some p → jX9_complete_45 Φ x g (nI p) 0) : wX9_complete x g v Φ := by
  have hc5 := hr.sn.c5
  have hinc := hr.sn.inc
  have num : ∀ k, k < d.c → g 36 k = S.x 5 (S.y 7 k) := fun k hk => by
    obtain ⟨w, _, a, b⟩ := hr.sn.num k hk
    rw [hm.W 36 (by omega) (by omega), a, b]
  have pl : ∀ (m i : Nat), i + m = d.c → (∀ p, p < d.c → i ≤ p → S.x 5 (S.y 7 p) = v → cPlace S v m i = some p) ∧ ((∀ p, p < d.c → i ≤ p → S.x 5 (S.y 7 p) ≠ v) → cPlace S v m i = none) := by
    intro m
    induction m with
    | zero => intro i hi; exact ⟨fun p a b => by omega, fun _ => rfl⟩
    | succ m ih =>
      intro i hi
      obtain ⟨a, b⟩ := ih (i + 1) (by omega)
      simp only [CS.mk_R, CS.mk_cap, CS.mk_x, CS.mk_y, CS.mk_g, CS.mk_eta, MS.mk_x, MS.mk_g, MS.mk_V, MS.mk_T, MS.mk_eta, GD.mk_n, GD.mk_rd, GD.mk_c, GD.mk_tk, GD.mk_sz, GD.mk_sl, GD.mk_lt, GD.mk_eta, cPlace]
      by_cases e : S.x 5 (S.y 7 i) = v
      · rw [if_pos e]
        refine ⟨fun p q1 q2 q3 => ?_, fun q => absurd e (q i (by omega) (Nat.le_refl _))⟩
        by_cases e2 : p = i
        · rw [e2]
        · have := hinc i p (by omega) q1
          rw [e, q3] at this
          exact absurd this (Int.lt_irrefl _)
      · rw [if_neg e]
        refine ⟨fun p q1 q2 q3 => a p q1 ?_ q3, fun q => b fun p q1 q2 => q p q1 (by omega)⟩
        by_cases e2 : p = i
        · rw [e2] at q3; exact absurd q3 e
        · omega
  have key : ∀ (m n i : Nat) (f : Option Nat), i + m = d.c → m < n → (match f with | none => ∀ p, p < i → S.x 5 (S.y 7 p) ≠ v | some p => p < i ∧ S.x 5 (S.y 7 p) = v) → lX9_complete_4 Φ n x g v (oI f) (nI i) := by
    intro m
    induction m with
    | zero =>
      intro n i f him hmn hf
      obtain ⟨n, rfl⟩ : ∃ n', n = n' + 1 := ⟨n - 1, by omega⟩
      have hi : i = d.c := by omega
      subst hi
      simp only [CS.mk_R, CS.mk_cap, CS.mk_x, CS.mk_y, CS.mk_g, CS.mk_eta, MS.mk_x, MS.mk_g, MS.mk_V, MS.mk_T, MS.mk_eta, GD.mk_n, GD.mk_rd, GD.mk_c, GD.mk_tk, GD.mk_sz, GD.mk_sl, GD.mk_lt, GD.mk_eta, lX9_complete_4, hm.hx, hr.sn.m35]
      rw [← hm.hx]
      refine ⟨fun _ => ?_, fun c => absurd (nI_le (Nat.le_refl _) (by omega)) c⟩
      cases f with
      | none => exact ⟨fun _ => h1 ((pl d.c 0 (by omega)).2 fun p a _ => hf p a), fun c => absurd rfl c⟩
      | some p => exact ⟨fun c => absurd c (p_m1 (by have := hf.1; omega)), fun _ => h2 p hf.1 ((pl d.c 0 (by omega)).1 p hf.1 (Nat.zero_le _) hf.2)⟩
    | succ m ih =>
      intro n i f him hmn hf
      obtain ⟨n, rfl⟩ : ∃ n', n = n' + 1 := ⟨n - 1, by omega⟩
      simp only [CS.mk_R, CS.mk_cap, CS.mk_x, CS.mk_y, CS.mk_g, CS.mk_eta, MS.mk_x, MS.mk_g, MS.mk_V, MS.mk_T, MS.mk_eta, GD.mk_n, GD.mk_rd, GD.mk_c, GD.mk_tk, GD.mk_sz, GD.mk_sl, GD.mk_lt, GD.mk_eta, lX9_complete_4, hm.hx, hr.sn.m35]
      rw [← hm.hx, p_cl (show i < 2 ^ 31 by omega), num i (by omega)]
      refine ⟨fun c => absurd c (nI_ge (by omega) (by omega)), fun _ => ⟨vp_in_nI (by omega) (by omega), fun e => ?_, fun e => ?_⟩⟩
      · rintro _ rfl
        rw [nI_1]
        exact ih n (i + 1) (some i) (by omega) (by omega) ⟨by omega, e⟩
      · rintro _ rfl
        rw [nI_1]
        refine ih n (i + 1) f (by omega) (by omega) ?_
        cases f with
        | none =>
          intro p hp
          by_cases e2 : p = i
          · rw [e2]; exact e
          · exact hf p (by omega)
        | some p => exact ⟨by have := hf.1; omega, hf.2⟩
  exact ⟨d.c + 1, key d.c _ 0 none (by omega) (by omega) fun p hp => absurd hp (Nat.not_lt_zero p)⟩
theorem Rel.compl {S M M1 d i} {p : Nat} (h : Rel S M d i) (h5 : M.x 5 = 1) (hp : p < d.c) (hs : Sh (mCp M p 5 M.T) M1 (p + 1) (d.c - (p + 1))) : Rel (cCompl S d.c p) (mX M1 35 (nI (d.c - (p + 1)))) (GD.mk d.n d.rd (d.c - (p + 1)) d.tk d.sz d.sl d.lt) i := by
  have hc5 := h.sn.c5
  have y7p := h.sn.y7 p (by omega)
  generalize hq : S.y 7 p = q at y7p
  obtain ⟨r1, r2, r3, r4, r5⟩ := cRot_same (p + 1) (cCpS S 1 q) (d.c - (p + 1)) 0
  have hrot := cRot_spec (p + 1) d.c (by omega) (d.c - (p + 1)) 0 (cCpS S 1 q) (S.y 7) (by omega) hc5 (fun k hk => absurd hk (Nat.not_lt_zero k)) (fun k _ => rfl) h.sn.y7 h.sn.inj
  have eS : cCompl S d.c p = uX (cRot (p + 1) (cCpS S 1 q) (d.c - (p + 1)) 0) 13 0 (nI (d.c - (p + 1))) := by unfold cCompl; rw [hq]
  have eR : (cCompl S d.c p).R = (cCpS S 1 q).R := by rw [eS]; exact r3
  have eg : (cCompl S d.c p).g = (cCpS S 1 q).g := by rw [eS]; exact r2
  have ey7 : (cCompl S d.c p).y 7 = (cRot (p + 1) (cCpS S 1 q) (d.c - (p + 1)) 0).y 7 := by rw [eS]; rfl
  have ey : ∀ k, k ≠ 7 → (cCompl S d.c p).y k = S.y k := fun k hk => by rw [eS]; show (cRot _ _ _ _).y k = _; rw [r5 k hk]; rfl
  have ex : ∀ k, k ≠ 13 → (cCompl S d.c p).x k = (cCpS S 1 q).x k := fun k hk => by rw [eS]; simp only [CS.mk_R, CS.mk_cap, CS.mk_x, CS.mk_y, CS.mk_g, CS.mk_eta, MS.mk_x, MS.mk_g, MS.mk_V, MS.mk_T, MS.mk_eta, GD.mk_n, GD.mk_rd, GD.mk_c, GD.mk_tk, GD.mk_sz, GD.mk_sl, GD.mk_lt, GD.mk_eta, uX, p_un _ _ hk, r1]
  have x0 : ∀ k a, a ≠ 1 ∨ 5 < k → k ≠ 13 → (cCompl S d.c p).x k a = S.x k a := fun k a h1 h2 => by
    rw [ex k h2]; exact cps_xn S 1 q (by omega)
  obtain ⟨k1, k2, k3⟩ := hrot
  rw [Nat.zero_add] at k1
  rw [← ey7] at k1 k2 k3
  have yk : ∀ k, k < d.c - (p + 1) → (cCompl S d.c p).y 7 k = S.y 7 (k + (p + 1)) := k1
  have mo : ∀ k, k < 23 ∨ 27 < k → k ≠ 36 → M1.g k = M.g k := fun k hk h2 => by rw [hs.o k hk h2]; exact mcp_o M p 5 M.T hk
  have mx : ∀ k, k ≠ 35 → (mX M1 35 (nI (d.c - (p + 1)))).x k = M.x k := fun k hk => by
    simp only [CS.mk_R, CS.mk_cap, CS.mk_x, CS.mk_y, CS.mk_g, CS.mk_eta, MS.mk_x, MS.mk_g, MS.mk_V, MS.mk_T, MS.mk_eta, GD.mk_n, GD.mk_rd, GD.mk_c, GD.mk_tk, GD.mk_sz, GD.mk_sl, GD.mk_lt, GD.mk_eta, mX, p_un _ _ hk]; rw [hs.x]; rfl
  have mT : M1.T = M.T := by rw [hs.T]; rfl
  have sesy : (cCompl S d.c p).y 5 0 = S.y 5 0 := by rw [ey 5 (by decide)]
  have now : STR (cCompl S d.c p) (mX M1 35 (nI (d.c - (p + 1)))) d.sz (decide (S.y 5 0 = 10)) 0 6 d.rd M.T.length := h.st0.mv (by rw [eR]; exact cps_Rn S 1 q (by decide)) (fun k a b => x0 k 0 (.inl (by decide)) (by omega)) (fun k l a b c => by rw [eg, cps_gn S 1 q (.inl (by decide))]) (by show M1.V 6 = _; rw [hs.V, if_neg (by omega), mcp_Vn _ _ _ _ (by decide)]) (fun k a b => by show M1.g k 6 = _; rw [hs.s k 6 a b, if_neg (by omega), mcp_gn _ _ _ _ a b (by decide)]) (fun k l a b c => by show M1.g k _ = _; rw [hs.r k 6 l a b c, if_neg (by omega), mcp_rn _ _ _ _ a b c (by decide)]) (fun e => absurd rfl e)
  obtain ⟨rdp, mp, sp, ap, bp⟩ := h.std p hp
  rw [hq] at sp
  have done : STR (cCompl S d.c p) (mX M1 35 (nI (d.c - (p + 1)))) d.sz (decide (S.y 5 0 = 10)) 1 5 rdp mp := sp.mv (by rw [eR]; exact cps_R S 1 q) (fun k a b => by rw [ex k (by omega)]; exact cps_x S 1 q a (by omega)) (fun k l a b c => by rw [eg]; exact cps_g S 1 q a b c) (by show M1.V 5 = _; rw [hs.V, if_neg (by omega), mcp_V]) (fun k a b => by show M1.g k 5 = _; rw [hs.s k 5 a b, if_neg (by omega), mcp_g _ _ _ _ a b]) (fun k l a b c => by show M1.g k _ = _; rw [hs.r k 5 l a b c, if_neg (by omega), mcp_r _ _ _ _ a b c]) (fun _ => by rw [ex 4 (by decide), cps_x S 1 q (by omega) (by omega)]; exact sp.x4 (by omega))
  have doubt : ∀ k, k < d.c - (p + 1) → ∀ {rd m}, STR S M d.sz (decide (S.y 5 0 = 10)) (S.y 7 (k + (p + 1))) (k + (p + 1)) rd m → STR (cCompl S d.c p) (mX M1 35 (nI (d.c - (p + 1)))) d.sz (decide (S.y 5 0 = 10)) (S.y 7 (k + (p + 1))) k rd m := fun k hk {rd m} s => by
    have y2 := h.sn.y7 (k + (p + 1)) (by omega)
    exact s.mv (by rw [eR]; exact cps_Rn S 1 q (by omega)) (fun j a b => x0 j _ (.inl (by omega)) (by omega)) (fun j l a b c => by rw [eg, cps_gn S 1 q (.inl (by omega))]) (by show M1.V k = _; rw [hs.V, if_pos hk, mcp_Vn _ _ _ _ (by omega)]) (fun j a b => by show M1.g j k = _; rw [hs.s j k a b, if_pos hk, mcp_gn _ _ _ _ a b (by omega)]) (fun j l a b c => by show M1.g j _ = _; rw [hs.r j k l a b c, if_pos hk, mcp_rn _ _ _ _ a b c (by omega)]) (fun e => by rw [x0 4 _ (.inl (by omega)) (by decide)]; exact s.x4 e)
  refine ⟨?_, ?_, ?_, ?_, ?_, ?_, ?_, ?_, ?_, ?_, ?_, h.tki, ?_⟩
  · obtain ⟨n, t⟩ := h.tx
    exact ⟨n, t.fl (fun k h1 h2 => x0 k 0 (.inl (by decide)) (by omega)) (by rw [ey 9 (by decide)]) (by rw [eg, cps_gn S 1 q (.inl (by decide))]) (mx 0 (by decide)) (mo 4 (by omega) (by decide))⟩
  · exact h.ev.fr (fun j hj => by rw [eR]; exact cps_Rn S 1 q (by omega)) (fun k h1 h2 => mo k (by omega) (by omega)) (mx 8 (by decide)) (by show M1.g 6 0 = _; rw [mo 6 (by omega) (by decide)])
  · exact h.tb.fl (by rw [eR]; exact cps_Rn S 1 q (by decide)) (mx 19 (by decide)) (fun k h1 h2 => mo k (by omega) (by omega))
  · intro j hj
    rw [x0 6 j (.inr (by omega)) (by decide)]
    show _ = M1.g 17 j ∧ _
    rw [mo 17 (by omega) (by decide)]; exact h.lag j hj
  · intro j hj
    rw [x0 7 j (.inr (by omega)) (by decide)]
    show _ = M1.g 18 j
    rw [mo 18 (by omega) (by decide)]; exact h.idle j hj
  · refine ⟨by rw [mx 5 (by decide)]; exact h.pl.b, by rw [x0 15 0 (.inl (by decide)) (by decide), mx 5 (by decide)]; exact h.pl.s15, fun e => ?_, fun e => ?_⟩
    · exact (h.pl.q h5).fl (fun k h1 h2 => x0 k 0 (.inl (by decide)) (by omega)) (fun k h1 h2 => by rw [ey k (by omega)]) (mo 6 (by omega) (by decide))
    · rw [mx 5 (by decide)] at e; exact absurd (h5.symm.trans e) (by decide)
  · rw [eR, cps_Rn S 1 q (by decide)]; show _ = M1.T; rw [mT]; exact h.tt
  · rw [sesy]; show STR _ _ _ _ 0 6 _ M1.T.length; rw [mT]; exact now
  · rw [sesy]; exact ⟨rdp, mp, done, ap, by show mp ≤ M1.T.length; rw [mT]; exact bp⟩
  · refine ⟨by show d.c - (p + 1) ≤ 5; omega, by rw [eS]; simp only [CS.mk_R, CS.mk_cap, CS.mk_x, CS.mk_y, CS.mk_g, CS.mk_eta, MS.mk_x, MS.mk_g, MS.mk_V, MS.mk_T, MS.mk_eta, GD.mk_n, GD.mk_rd, GD.mk_c, GD.mk_tk, GD.mk_sz, GD.mk_sl, GD.mk_lt, GD.mk_eta, uX, p_ug], by simp only [CS.mk_R, CS.mk_cap, CS.mk_x, CS.mk_y, CS.mk_g, CS.mk_eta, MS.mk_x, MS.mk_g, MS.mk_V, MS.mk_T, MS.mk_eta, GD.mk_n, GD.mk_rd, GD.mk_c, GD.mk_tk, GD.mk_sz, GD.mk_sl, GD.mk_lt, GD.mk_eta, mX, p_ug], by rw [x0 14 0 (.inl (by decide)) (by decide)]; exact h.sn.s14, by rw [mx 37 (by decide)]; exact h.sn.m37, k2, k3, fun k hk => ?_, fun j k hjk hk => ?_⟩
    · change k < d.c - (p + 1) at hk
      have y2 := h.sn.y7 (k + (p + 1)) (by omega)
      obtain ⟨v, v1, v2, v3⟩ := h.sn.num (k + (p + 1)) (by omega)
      rw [yk k hk, x0 5 _ (.inl (by omega)) (by decide)]
      refine ⟨v, v1, v2, ?_⟩
      show M1.g 36 k = _
      rw [hs.n, if_pos hk, mcp_o _ _ _ _ (by omega)]; exact v3
    · change k < d.c - (p + 1) at hk
      have y2 := h.sn.y7 (k + (p + 1)) (by omega)
      have y3 := h.sn.y7 (j + (p + 1)) (by omega)
      rw [yk k hk, yk j (by omega), x0 5 _ (.inl (by omega)) (by decide), x0 5 _ (.inl (by omega)) (by decide)]
      exact h.sn.inc _ _ (by omega) (by omega)
  · intro k hk
    change k < d.c - (p + 1) at hk
    obtain ⟨rd, m, s, a, b⟩ := h.std (k + (p + 1)) (by omega)
    rw [sesy, yk k hk]
    exact ⟨rd, m, doubt k hk s, a, by show m ≤ M1.T.length; rw [mT]; exact b⟩
  · rw [x0 16 0 (.inl (by decide)) (by decide), mx 43 (by decide)]; exact h.wk
theorem case20 {i x y g f xm gm bc bs p1} (hi : i + 5 ≤ 2560) (h : lInv i x y g f xm gm bc bs) : wlc20 x y g f xm gm p1 bc bs (lInv (i + 5)) := by
  obtain ⟨S, M, d, hc, hm, hr, hb⟩ := h
  have hB := hb.min hc.capM hi
  have hc5 := hr.sn.c5
  have htk := hr.tki
  have hy7 : ∀ i, i < 5 → S.y 7 i < 7 := fun i hi => (hr.sn.y7 i hi).2
  unfold wlc20 wL_complete wX8_complete
  cases hpl : cPlace S p1 d.c 0 with
  | none =>
    refine ⟨5, 100, bc - 5, bs - 100, by omega, by omega, c_placeOf hc hc5 hr.sn.s13 hy7 ?_⟩
    rw [hpl]
    refine ⟨fun _ => ⟨by omega, by omega, rfl, m_numL hr hm (by omega) (fun _ => ?_) (fun p _ e => ?_)⟩, fun c => absurd rfl c⟩
    · unfold jX9_complete_45
      exact m_no (by decide) (end_exc hi hc hm hr hb (by decide))
    · rw [hpl] at e; exact absurd e (by simp)
  | some p =>
    have hpc : p < d.c := by
      have aux : ∀ (m i : Nat), cPlace S p1 m i = some p → p < i + m := by
        intro m
        induction m with
        | zero => intro i e; simp [CS.mk_R, CS.mk_cap, CS.mk_x, CS.mk_y, CS.mk_g, CS.mk_eta, MS.mk_x, MS.mk_g, MS.mk_V, MS.mk_T, MS.mk_eta, GD.mk_n, GD.mk_rd, GD.mk_c, GD.mk_tk, GD.mk_sz, GD.mk_sl, GD.mk_lt, GD.mk_eta, cPlace] at e
        | succ m ih =>
          intro i e
          simp only [CS.mk_R, CS.mk_cap, CS.mk_x, CS.mk_y, CS.mk_g, CS.mk_eta, MS.mk_x, MS.mk_g, MS.mk_V, MS.mk_T, MS.mk_eta, GD.mk_n, GD.mk_rd, GD.mk_c, GD.mk_tk, GD.mk_sz, GD.mk_sl, GD.mk_lt, GD.mk_eta, cPlace] at e
          split at e
          · injection e; omega
          · have := ih _ e; omega
      have := aux _ _ hpl
      omega
    have h5 : M.x 5 = 1 := hr.pl.b.resolve_left fun z => by have := (hr.pl.z z).1; omega
    have y7p := hr.sn.y7 p (by omega)
    have hr2 := hr.thrown 0
    have hm2 := hm.X 44 0
    obtain ⟨rdp, mp, sp, ap, bp⟩ := hr.std p hpc
    obtain ⟨rd1, m1, s1, a1, b1⟩ := hr.st1
    have hcapT : CapOK (cCpS S 1 (S.y 7 p)) := cps_cap (i := 1) (j := S.y 7 p) hc.ok (by omega) (hc.n (q := 5 + S.y 7 p) (by omega))
    have hmon : pSum S.cap ≤ pSum (cCpS S 1 (S.y 7 p)).cap := cCpS_mon S (i := 1) (j := S.y 7 p) (by omega)
    obtain ⟨kc, ks, b2, s2, h1, h2, h3, h4, h5', h6'⟩ := hb.call hmon hcapT.sum hi
    refine ⟨kc, ks, b2, s2, h1, h2, c_placeOf hc hc5 hr.sn.s13 hy7 ?_⟩
    rw [hpl]
    refine ⟨fun c => absurd c (p_m1 (by omega)), fun _ => ?_⟩
    rintro _ rfl
    refine ⟨kc, ks, 0, 0, by omega, by omega, c_completeAt hc hc5 hpc hr.sn.s13 hy7 (by omega) (h5'.mono (by omega) (by omega)) fun x2 y2 g2 hS => ?_⟩
    refine m_numL hr hm (by omega) (fun e => ?_) (fun p2 hp2 e => ?_)
    · rw [hpl] at e; exact absurd e (by simp)
    · have ep : p2 = p := by rw [hpl] at e; injection e with e; exact e.symm
      subst ep
      unfold jX9_complete_45
      refine m_yes ⟨by unfold vp_in; decide, ?_⟩
      rw [p_5, hm.W 27 (by omega) (by omega), s1.m27]
      rintro _ rfl
      refine m_copies hm2 (a := p2) (b := 5) (by omega) (by omega) (by omega) (T := (mX M 44 0).T) ⟨Nat.le_refl _, fun _ _ => rfl⟩ (by rw [mcp_gn _ _ _ _ (by omega) (by omega) (by omega)]; exact hm2.n27) fun g3 hG => ?_
      rintro _ rfl
      rw [nI_1]
      refine ⟨d.c + 1, ?_⟩
      have sh0 : Sh (mCp (mX M 44 0) p2 5 (mX M 44 0).T) (mCp (mX M 44 0) p2 5 (mX M 44 0).T) (p2 + 1) 0 := ⟨rfl, rfl, fun q => (if_neg (Nat.not_lt_zero q)).symm, fun k q l _ _ _ => (if_neg (Nat.not_lt_zero q)).symm, fun k q _ _ => (if_neg (Nat.not_lt_zero q)).symm, fun q => (if_neg (Nat.not_lt_zero q)).symm, fun k _ _ => rfl⟩
      have hx35 : (mCp (mX M 44 0) p2 5 (mX M 44 0).T).x 35 = nI d.c := hr.sn.m35
      have := m_shL (M0 := mCp (mX M 44 0) p2 5 (mX M 44 0).T) (x := va_up xm 44 0) (c := d.c) (p := p2) (v3 := nI m1) hc5 hpc hx35 (Φ := fun r xm1 gm1 => wX9_thrown xm1 gm1 (fun t => t = 0 ∧ ((0 : Int32) = 0 → vp_updL f (0 : Int32).toNatClampNeg (x2 4 1 - x 4 1).toInt64 (0 : Int32).toNatClampNeg = r.toInt64) ∧ lInv (i + 5) x2 y2 g2 (vp_updL f (0 : Int32).toNatClampNeg (x2 4 1 - x 4 1).toInt64) xm1 gm1 b2 s2)) (fun M1 g4 hG4 hs4 => ?_) (d.c - (p2 + 1)) (d.c + 1) 0 _ g3 hG sh0 (by omega) (by omega)
      · rw [Nat.zero_add] at this
        exact this
      · have hR := (hr2.later (j := i + 5) (by omega)).compl h5 hpc hs4
        refine end_ok ?_ hS (hG4.X 35 (nI (d.c - (p2 + 1)))) ?_ hR ?_
        · rw [hS.hx 4 (by omega), hc.hx 4 (by omega), s1.x4 (by decide)]
          obtain ⟨rd9, m9, s9, _, _⟩ := hR.st1
          rw [s9.x4 (by decide)]
          have : M1.g 27 5 = nI m9 := s9.m27
          rw [this]
        · simp only [CS.mk_R, CS.mk_cap, CS.mk_x, CS.mk_y, CS.mk_g, CS.mk_eta, MS.mk_x, MS.mk_g, MS.mk_V, MS.mk_T, MS.mk_eta, GD.mk_n, GD.mk_rd, GD.mk_c, GD.mk_tk, GD.mk_sz, GD.mk_sl, GD.mk_lt, GD.mk_eta, mX, p_un _ _ (show (44 : Nat) ≠ 35 by decide)]
          rw [hs4.x]; rfl
        · have e : (cCompl S d.c p2).cap = (cCpS S 1 (S.y 7 p2)).cap := by
            unfold cCompl
            exact (cRot_same (p2 + 1) (cCpS S 1 (S.y 7 p2)) (d.c - (p2 + 1)) 0).2.2.2.1
          exact ⟨by rw [e]; exact h6'.c, by rw [e]; exact h6'.s⟩
set_option maxRecDepth 4096 in
theorem p_and31 : (0 : Int32) &&& 31 = 0 := by decide
set_option maxRecDepth 4096 in
theorem p_shl0 (a : Int32) : a <<< ((0 : Int32) &&& 31) = a := by rw [p_and31]; simp
set_option maxRecDepth 4096 in
theorem p_shr0 (a : Int32) : a >>> ((0 : Int32) &&& 31) = a := by rw [p_and31]; simp
set_option maxRecDepth 4096 in
theorem p_byte : ∀ w, w < 127 → vp_nar .byte ((nI w).toInt8.toInt32) = nI w := by decide
set_option maxRecDepth 4096 in
theorem p_fits : ∀ w, w < 127 → fits .byte (.int (nI w)) = true := by decide
set_option maxRecDepth 4096 in
theorem c_ensure {S M n x y g} (hc : RC S x y g) (t : TX S M n) (hn : n < 60) {bc bs : Nat} (hbc : 1 ≤ bc) (hbs : 70 ≤ bs) {Φ : pK} (hΦ : ∀ S' x y g, RC S' x y g → (∃ (q N : Nat) (f : Nat → Int32), S' = cG (cY (cY S 8 0 q) 9 0 N) 3 0 f ∧ n < N ∧ (N = 16 ∨ N = 34 ∨ N = 70) ∧ (∀ i, i < n → f i = S.g 3 0 i) ∧ ∀ i, ∃ c : Nat, c < 127 ∧ f i = nI c) → Φ x y g) : wJ5_ensureCapacityInternal_d00df x y g (nI (n + 1)) bc bs Φ := by
  have h1 := t.cap
  have h2 := t.c16
  have h3 := t.c70
  unfold wJ5_ensureCapacityInternal_d00df
  rw [hc.hy 9 (by omega), hc.hx 17 (by omega), t.s17, p_shr0]
  rintro _ rfl
  refine ⟨fun c => ?_, fun c => ?_⟩
  · have hlt : n < S.y 9 0 := by
      rcases Nat.lt_or_ge n (S.y 9 0) with h | h
      · exact h
      · refine absurd c ?_
        rw [i_le, i_sub (by rw [nI_toInt (by omega), nI_toInt (by omega)]; omega) (by rw [nI_toInt (by omega), nI_toInt (by omega)]; omega), nI_toInt (by omega), nI_toInt (by omega)]
        change ¬ (_ : Int) ≤ 0
        omega
    refine hΦ S x y g hc ⟨S.y 8 0, S.y 9 0, S.g 3 0, ?_, hlt, h3, fun _ _ => rfl, t.by_⟩
    simp only [CS.mk_R, CS.mk_cap, CS.mk_x, CS.mk_y, CS.mk_g, CS.mk_eta, MS.mk_x, MS.mk_g, MS.mk_V, MS.mk_T, MS.mk_eta, GD.mk_n, GD.mk_rd, GD.mk_c, GD.mk_tk, GD.mk_sz, GD.mk_sl, GD.mk_lt, GD.mk_eta, cG, cY, p_us]
  · have hge : S.y 9 0 = n := by
      rcases Nat.lt_or_ge n (S.y 9 0) with h | h
      · refine absurd ?_ c
        rw [i_le, i_sub (by rw [nI_toInt (by omega), nI_toInt (by omega)]; omega) (by rw [nI_toInt (by omega), nI_toInt (by omega)]; omega), nI_toInt (by omega), nI_toInt (by omega)]
        change (_ : Int) ≤ 0
        omega
      · omega
    unfold wJ5_newCapacity_0f7a4 wJ8_newLength_cabcc
    rw [hc.hy 9 (by omega), hc.hx 17 (by omega), t.s17, hge, p_shl0]
    rintro _ rfl _ rfl _ rfl
    have e1 : nI (n + 1) - nI n = nI 1 := by rw [p_sub (by omega)]; congr 1; omega
    have e2 : nI n + (2 : Int32) <<< ((0 : Int32) &&& 31) = nI (n + 2) := by rw [p_shl0, show (2 : Int32) = nI 2 from rfl, nI_add]
    rw [e1, e2, if_pos (nI_lt (by omega) (by omega)), nI_add]
    rintro _ rfl
    refine ⟨fun c => absurd c (nI_nle (by omega) (by omega)), fun _ => ⟨fun c => ?_, fun _ => ⟨fun c => ?_, fun _ => ⟨bc, bs, 0, 0, by omega, by omega, ?_⟩⟩⟩⟩
    · rw [i_lt, nI_toInt (by omega)] at c
      change (2147483639 : Int) < _ at c
      omega
    · have := congrArg Int32.toInt c
      rw [nI_toInt (by omega)] at this
      change _ = (2147483647 : Int) at this
      omega
    · rw [p_shr0, p_shl0]
      unfold wJ7_copyOf_9075b
      rw [hc.hy 9 (by omega), hge]
      refine ⟨fun c => absurd ((nI_eq (by omega) (by omega)).1 c) (by omega), fun _ => ⟨nI_pos (by omega), by rw [p_cl (by omega)]; omega, bc - 1, bs - 70, by omega, by rw [p_cl (by omega)]; omega, ?_⟩⟩
      rw [if_neg (nI_nlt (by omega) (by omega)), p_tn0, p_cl (by omega), p_cl (by omega)]
      refine ⟨by decide, by decide, nI_pos (by omega), by omega, by omega, fun i hi => ?_, fun q => ?_⟩
      · rw [Nat.zero_add, hc.hg 3 (by omega)]
        obtain ⟨c, hc1, hc2⟩ := t.by_ i
        rw [hc2]; exact p_fits c hc1
      · have h4 := ((hc.Y (k := 8) (i := 0) (v := q) (by omega)).Y (k := 9) (i := 0) (v := n + (n + 2)) (by omega)).G (k := 3) (i := 0) (f := va_cpy (g 3 0) (fun _ => 0) 0 0 n) (by omega)
        rw [p_un _ _ (show (9 : Nat) ≠ 8 by decide), hc.hy 9 (by omega)] at h4
        refine hΦ _ _ _ _ h4 ⟨q, n + (n + 2), _, rfl, by omega, by omega, fun i hi => ?_, fun i => ?_⟩
        · rw [p_cpy, if_pos (by omega), hc.hg 3 (by omega)]; congr 1; omega
        · rw [p_cpy]
          split
          · rw [hc.hg 3 (by omega)]; exact t.by_ _
          · exact ⟨0, by omega, rfl⟩
def mTyp (M : MS) (n : Nat) (v : Int32) : MS := mG (mX M 0 (nI (n + 1))) 4 n v
set_option maxRecDepth 4096 in
theorem Rel.typ {S M d i} (h : Rel S M d i) {n w q N : Nat} {f : Nat → Int32} (t : TX S M n) (hn : n < 60) (hw : 32 ≤ w) (hw2 : w < 127) (hN : n < N) (hN2 : N = 16 ∨ N = 34 ∨ N = 70) (hf : ∀ i, i < n → f i = S.g 3 0 i) (hb : ∀ i, ∃ c : Nat, c < 127 ∧ f i = nI c) : Rel (cG (uX (cG (cY (cY S 8 0 q) 9 0 N) 3 0 f) 19 0 (nI (n + 1))) 3 0 (upd f n (nI w))) (mTyp M n (nI w)) d i := by
  have tx : ∃ m, TX (cG (uX (cG (cY (cY S 8 0 q) 9 0 N) 3 0 f) 19 0 (nI (n + 1))) 3 0 (upd f n (nI w))) (mTyp M n (nI w)) m := by
    refine ⟨n + 1, by omega, rfl, rfl, t.s17, (show n + 1 ≤ N by omega), (show 16 ≤ N by omega), hN2, fun i => ?_, fun i hi => ?_⟩
    · show ∃ c : Nat, c < 127 ∧ upd f n (nI w) i = nI c
      unfold upd
      split
      · exact ⟨w, hw2, rfl⟩
      · exact hb i
    · show upd (M.g 4) n (nI w) i = upd f n (nI w) i ∧ ∃ c : Nat, 32 ≤ c ∧ c < 127 ∧ upd (M.g 4) n (nI w) i = nI c
      unfold upd
      by_cases e : i = n
      · rw [if_pos e, if_pos e]; exact ⟨rfl, w, hw, hw2, rfl⟩
      · rw [if_neg e, if_neg e, hf i (by omega)]; exact t.ch i (by omega)
  have q5 : QR S M d.sz d.sl d.lt → QR (cG (uX (cG (cY (cY S 8 0 q) 9 0 N) 3 0 f) 19 0 (nI (n + 1))) 3 0 (upd f n (nI w))) (mTyp M n (nI w)) d.sz d.sl d.lt := fun h =>
    ⟨h.f0, h.f2, h.c0, h.c1, h.c2, h.lim, h.jn, h.jb, h.sh, h.sh1, h.sh2, h.zm, h.zc, h.z1, h.z2, h.sc, h.s1, h.s2, h.s9, h.s8, h.lm, h.lc, h.l2, h.m, h.m1, h.m2⟩
  exact ⟨tx, ⟨h.ev.len, h.ev.cnt, h.ev.tot, h.ev.m8, h.ev.row, h.ev.rdn, h.ev.done⟩, ⟨h.tb.n60, h.tb.m19, h.tb.row⟩, h.lag, h.idle, ⟨h.pl.b, h.pl.s15, fun e => q5 (h.pl.q e), h.pl.z⟩, h.tt, ⟨h.st0.wr, h.st0.mkk, h.st0.mr, h.st0.lc, h.st0.rs, h.st0.gr, h.st0.g0, h.st0.m27, h.st0.x4, h.st0.cw, h.st0.pt⟩, h.st1.elim fun rd s => s.elim fun m s => ⟨rd, m, ⟨s.1.wr, s.1.mkk, s.1.mr, s.1.lc, s.1.rs, s.1.gr, s.1.g0, s.1.m27, s.1.x4, s.1.cw, s.1.pt⟩, s.2⟩, ⟨h.sn.c5, h.sn.s13, h.sn.m35, h.sn.s14, h.sn.m37, h.sn.y7, h.sn.inj, h.sn.num, h.sn.inc⟩, fun k hk => (h.std k hk).elim fun rd s => s.elim fun m s => ⟨rd, m, ⟨s.1.wr, s.1.mkk, s.1.mr, s.1.lc, s.1.rs, s.1.gr, s.1.g0, s.1.m27, s.1.x4, s.1.cw, s.1.pt⟩, s.2⟩, h.tki, h.wk⟩
set_option maxRecDepth 4096 in
theorem case0 {i x y g f xm gm bc bs} {w : Nat} (hw : w < 65536) (hi : i + 5 ≤ 2560) (h : lInv i x y g f xm gm bc bs) : wlc0 x y g f xm gm (nI w) bc bs (lInv (i + 5)) := by
  obtain ⟨S, M, d, hc, hm, hr, hb⟩ := h
  have hB := hb.min hc.capM hi
  obtain ⟨n, t⟩ := hr.tx
  have hn60 := t.n60
  refine ⟨5, 100, bc - 5, bs - 100, by omega, by omega, ?_⟩
  unfold wL_type wX8_type wX9_type wJ4_length_8abf5 wJ5_length_8abf5
  rw [hc.hx 19 (by omega), t.s19, hm.hx, t.m0]
  have e32 : nI w < 32 ↔ w < 32 := nI_ltI (b := 32) (by omega) (by omega)
  have e126 : nI w ≤ 126 ↔ w ≤ 126 := nI_leI (b := 126) (by omega) (by omega)
  have l32 : 32 ≤ nI w ↔ 32 ≤ w := nI_leI (a := 32) (by omega) (by omega)
  have bad : ¬ (32 ≤ w ∧ w ≤ 126) → wX9_isIn (nI w) 32 126 (fun r_6 => ((r_6 = 0 → (jX9_type_30 (fun r xm1 gm1 => wX9_thrown xm1 gm1 (fun t => t = 1 ∧ ((1 : Int32) = 0 → f (0 : Int32).toNatClampNeg = r.toInt64) ∧ lInv (i + 5) x y g f xm1 gm1 (bc - 5) (bs - 100))) M.x gm (nI w) 1)) ∧ (¬ r_6 = 0 → ((nI n = 60 → (jX9_type_30 (fun r xm1 gm1 => wX9_thrown xm1 gm1 (fun t => t = 1 ∧ ((1 : Int32) = 0 → f (0 : Int32).toNatClampNeg = r.toInt64) ∧ lInv (i + 5) x y g f xm1 gm1 (bc - 5) (bs - 100))) M.x gm (nI w) 2)) ∧ (¬ nI n = 60 → (jX9_type_30 (fun r xm1 gm1 => wX9_thrown xm1 gm1 (fun t => t = 1 ∧ ((1 : Int32) = 0 → f (0 : Int32).toNatClampNeg = r.toInt64) ∧ lInv (i + 5) x y g f xm1 gm1 (bc - 5) (bs - 100))) M.x gm (nI w) 0)))))) := fun hbad =>
    m_isIn (fun a b => absurd ⟨l32.1 a, e126.1 b⟩ hbad) fun _ => ite0 (m_no (by decide) (by rw [← hm.hx]; exact end_exc hi hc hm hr hb (by decide)))
  refine ⟨fun c => ⟨by omega, by omega, .inl ⟨rfl, bad fun q => by have := e32.1 c; omega⟩⟩, fun c => ⟨fun c2 => ⟨fun c3 => ?_, fun c3 => ?_⟩, fun c2 => ⟨by omega, by omega, .inl ⟨rfl, bad fun q => c2 (e126.2 q.2)⟩⟩⟩⟩
  · have hn : n < 60 := (nI_ltI (b := 60) (by omega) (by omega)).1 c3
    have hw1 : 32 ≤ w := by
      rcases Nat.lt_or_ge w 32 with q | q
      · exact absurd (e32.2 q) c
      · exact q
    have hw2 : w < 127 := by have := e126.1 c2; omega
    refine ⟨5, 100, 0, 0, by omega, by omega, 5, 100, 0, 0, by omega, by omega, 5, 100, 0, 0, by omega, by omega, ?_⟩
    rw [hc.hx 19 (by omega), t.s19, nI_1]
    refine c_ensure hc t hn (by omega) (by omega) fun S' x2 y2 g2 hS => ?_
    rintro ⟨q, N, f2, rfl, hN, hN2, hf, hbt⟩
    unfold wJ5_isLatin1_aae02 wJ1_canEncode_fc78d
    have s19 : x2 19 0 = nI n := by rw [hS.hx 19 (by omega)]; exact t.s19
    have s17 : x2 17 0 = 0 := by rw [hS.hx 17 (by omega)]; exact t.s17
    have y9 : y2 9 0 = N := by rw [hS.hy 9 (by omega)]; simp only [CS.mk_R, CS.mk_cap, CS.mk_x, CS.mk_y, CS.mk_g, CS.mk_eta, MS.mk_x, MS.mk_g, MS.mk_V, MS.mk_T, MS.mk_eta, GD.mk_n, GD.mk_rd, GD.mk_c, GD.mk_tk, GD.mk_sz, GD.mk_sl, GD.mk_lt, GD.mk_eta, cG, cY, p_ug]
    have g3 : g2 3 0 = f2 := by rw [hS.hg 3 (by omega)]; simp only [CS.mk_R, CS.mk_cap, CS.mk_x, CS.mk_y, CS.mk_g, CS.mk_eta, MS.mk_x, MS.mk_g, MS.mk_V, MS.mk_T, MS.mk_eta, GD.mk_n, GD.mk_rd, GD.mk_c, GD.mk_tk, GD.mk_sz, GD.mk_sl, GD.mk_lt, GD.mk_eta, cG, p_ug]
    rw [s17, s19, y9, g3, p_byte w hw2, p_cl (show n < 2 ^ 31 by omega), nI_1]
    refine ⟨fun _ => ite1 ⟨fun c => ?_, fun _ => ite1 ⟨vp_in_nI hN (by omega), ?_⟩⟩, fun c => absurd rfl c⟩
    · rw [i_lt, nI_toInt (by omega)] at c
      change (255 : Int) < _ at c
      omega
    · have hS2 := (hS.X (k := 19) (i := 0) (v := nI (n + 1)) (by omega)).G (k := 3) (i := 0) (f := upd f2 n (nI w)) (by omega)
      try dsimp only [CS.mk_R, CS.mk_cap, CS.mk_x, CS.mk_y, CS.mk_g, CS.mk_eta, MS.mk_x, MS.mk_g, MS.mk_V, MS.mk_T, MS.mk_eta, GD.mk_n, GD.mk_rd, GD.mk_c, GD.mk_tk, GD.mk_sz, GD.mk_sl, GD.mk_lt, GD.mk_eta]
      rw [p_ug, p_ug]
      refine m_isIn (fun _ _ => ite1 ⟨fun e => absurd ((nI_eq (b := 60) (by omega) (by omega)).1 e) (by omega), fun _ => m_yes ?_⟩) fun q => absurd ⟨l32.2 hw1, c2⟩ q
      have e0 : va_up M.x 44 0 0 = nI n := t.m0
      rw [e0, p_cl (show n < 2 ^ 31 by omega), nI_1]
      refine ⟨vp_in_nI hn (by omega), ?_⟩
      have hM := ((hm.X 44 0).X 0 (nI (n + 1))).G (k := 4) (i := n) (v := nI w) (by omega) (by omega)
      rw [hm.hx] at hM
      have t2 : TX S (mX M 44 0) n := ⟨t.n60, t.m0, t.s19, t.s17, t.cap, t.c16, t.c70, t.by_, t.ch⟩
      exact end_ok rfl hS2 hM rfl (((hr.thrown 0).typ t2 hn hw1 hw2 hN hN2 hf hbt).later (by omega)) (hb.same rfl hc.capM hi)
  · have hn : n = 60 := by
      have : ¬ n < 60 := fun q => c3 (show nI n < nI 60 from nI_lt q (by omega))
      omega
    refine ⟨by omega, by omega, .inr ⟨rfl, m_isIn (fun _ _ => ite1 ⟨fun _ => m_no (by decide) ?_, fun e => absurd (by rw [hn]; rfl) e⟩) fun q => absurd ⟨Int32.not_lt.1 c, c2⟩ q⟩⟩
    rw [← hm.hx]
    exact end_exc hi hc hm hr hb (by decide)
set_option maxRecDepth 4096 in
theorem Rel.wip {S M d i} (h : Rel S M d i) {v : Int32} : Rel (uX (uX S 18 0 v) 19 0 0) (mX M 0 0) d i := by
  have tx : ∃ m, TX (uX (uX S 18 0 v) 19 0 0) (mX M 0 0) m := by
    obtain ⟨n, t⟩ := h.tx
    exact ⟨0, by omega, rfl, rfl, t.s17, Nat.zero_le _, t.c16, t.c70, t.by_, fun i hi => absurd hi (Nat.not_lt_zero i)⟩
  have q5 : QR S M d.sz d.sl d.lt → QR (uX (uX S 18 0 v) 19 0 0) (mX M 0 0) d.sz d.sl d.lt := fun h =>
    ⟨h.f0, h.f2, h.c0, h.c1, h.c2, h.lim, h.jn, h.jb, h.sh, h.sh1, h.sh2, h.zm, h.zc, h.z1, h.z2, h.sc, h.s1, h.s2, h.s9, h.s8, h.lm, h.lc, h.l2, h.m, h.m1, h.m2⟩
  exact ⟨tx, ⟨h.ev.len, h.ev.cnt, h.ev.tot, h.ev.m8, h.ev.row, h.ev.rdn, h.ev.done⟩, ⟨h.tb.n60, h.tb.m19, h.tb.row⟩, h.lag, h.idle, ⟨h.pl.b, h.pl.s15, fun e => q5 (h.pl.q e), h.pl.z⟩, h.tt, ⟨h.st0.wr, h.st0.mkk, h.st0.mr, h.st0.lc, h.st0.rs, h.st0.gr, h.st0.g0, h.st0.m27, h.st0.x4, h.st0.cw, h.st0.pt⟩, h.st1.elim fun rd s => s.elim fun m s => ⟨rd, m, ⟨s.1.wr, s.1.mkk, s.1.mr, s.1.lc, s.1.rs, s.1.gr, s.1.g0, s.1.m27, s.1.x4, s.1.cw, s.1.pt⟩, s.2⟩, ⟨h.sn.c5, h.sn.s13, h.sn.m35, h.sn.s14, h.sn.m37, h.sn.y7, h.sn.inj, h.sn.num, h.sn.inc⟩, fun k hk => (h.std k hk).elim fun rd s => s.elim fun m s => ⟨rd, m, ⟨s.1.wr, s.1.mkk, s.1.mr, s.1.lc, s.1.rs, s.1.gr, s.1.g0, s.1.m27, s.1.x4, s.1.cw, s.1.pt⟩, s.2⟩, h.tki, h.wk⟩
set_option maxRecDepth 4096 in
theorem c_empty {S M n x y g} (hc : RC S x y g) (t : TX S M n) {bc bs : Nat} {Φ : pK} (hΦ : ∀ v x y g, RC (uX (uX S 18 0 v) 19 0 0) x y g → Φ x y g) : wJ4_setLength_d00df x y g 0 bc bs Φ := by
  have h1 := t.cap
  have h2 := t.c16
  have h3 := t.c70
  refine ⟨bc, bs, 0, 0, by omega, by omega, ⟨fun _ => ⟨bc, bs, 0, 0, by omega, by omega, ?_⟩, fun c => absurd (by decide) c⟩⟩
  unfold wJ5_ensureCapacityInternal_d00df
  rw [hc.hy 9 (by omega), hc.hx 17 (by omega), t.s17, p_shr0]
  rintro _ rfl
  refine ⟨fun _ => ?_, fun c => absurd ?_ c⟩
  · try dsimp only [CS.mk_R, CS.mk_cap, CS.mk_x, CS.mk_y, CS.mk_g, CS.mk_eta, MS.mk_x, MS.mk_g, MS.mk_V, MS.mk_T, MS.mk_eta, GD.mk_n, GD.mk_rd, GD.mk_c, GD.mk_tk, GD.mk_sz, GD.mk_sl, GD.mk_lt, GD.mk_eta]
    rw [hc.hx 19 (by omega), t.s19]
    refine ⟨fun _ => ⟨fun c => ?_, fun c => ?_⟩, fun c => absurd (show nI 0 ≤ nI n from nI_le (Nat.zero_le _) (by have := t.n60; omega)) c⟩
    · have h5 := (hc.X (k := 18) (i := 0) (v := S.x 18 0) (by omega)).X (k := 19) (i := 0) (v := 0) (by omega)
      have e1 : va_up x 18 (va_up (x 18) 0 (S.x 18 0)) = x := by rw [hc.hx 18 (by omega), p_us, ← hc.hx 18 (by omega), p_us]
      rw [e1, hc.hx 19 (by omega)] at h5
      exact hΦ _ _ _ _ h5
    · have h5 := (hc.X (k := 18) (i := 0) (v := 1) (by omega)).X (k := 19) (i := 0) (v := 0) (by omega)
      rw [p_un _ _ (show (19 : Nat) ≠ 18 by decide), hc.hx 19 (by omega)] at h5
      exact hΦ _ _ _ _ h5
  · rw [i_le, i_sub (by rw [nI_toInt (by omega)]; change _ ≤ (0 : Int) - _; omega) (by rw [nI_toInt (by omega)]; change (0 : Int) - _ < _; omega), nI_toInt (by omega)]
    change (0 : Int) - _ ≤ 0
    omega
set_option maxRecDepth 4096 in
theorem case1 {i x y g f xm gm bc bs} (hi : i + 5 ≤ 2560) (h : lInv i x y g f xm gm bc bs) : wlc1 x y g f xm gm bc bs (lInv (i + 5)) := by
  obtain ⟨S, M, d, hc, hm, hr, hb⟩ := h
  have hB := hb.min hc.capM hi
  obtain ⟨n, t⟩ := hr.tx
  refine ⟨5, 100, bc - 5, bs - 100, by omega, by omega, ?_⟩
  unfold wX8_wipe wX9_wipe wJ4_length_8abf5 wJ5_length_8abf5
  rw [hc.hx 19 (by omega), t.s19]
  refine ⟨5, 100, 0, 0, by omega, by omega, c_empty hc t fun v x2 y2 g2 hS => ?_⟩
  rintro _ rfl
  have hM := (hm.X 44 0).X 0 0
  rw [hm.hx] at hM ⊢
  exact ⟨t.m0.symm, _, _, d, hS, hM, ((hr.thrown 0).wip (v := v)).later (by omega), hb.same rfl hc.capM hi⟩
