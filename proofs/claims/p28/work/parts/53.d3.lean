def cCrash (S : CS) (m : Nat) : CS := cCut (cCpS (uX S 13 0 0) 0 1) 4 m
def mCrash (M : MS) (m : Nat) : MS := mX (mCp M 5 6 (M.T.take m)) 35 0
theorem Rel.crash {S M d i} (h : Rel S M d i) (h5 : M.x 5 = 1) {rd : Nat → Nat} {m : Nat} (s : STR S M d.sz (decide (S.y 5 0 = 10)) 1 5 rd m) (hrd : ∀ i, rd i ≤ d.rd i) (hm : m ≤ M.T.length) : Rel (cCrash S m) (mCrash M m) (GD.mk d.n (rd) (0) d.tk d.sz d.sl d.lt) i := by
  have eR4 : (cCrash S m).R 4 = (S.R 4).take m := by
    unfold cCrash cCut; rw [cRw_R, cps_Rn _ 0 1 (by decide)]; rfl
  have eR : ∀ q, q ≠ 4 → q ≠ 5 → (cCrash S m).R q = S.R q := fun q a b => by
    unfold cCrash cCut; rw [cRw_Rn _ _ _ a, cps_Rn _ 0 1 (by omega)]; rfl
  have eR5 : (cCrash S m).R 5 = S.R 6 := by
    unfold cCrash cCut; rw [cRw_Rn _ _ _ (by decide)]; exact cps_R _ 0 1
  have ex : (cCrash S m).x = (cCpS (uX S 13 0 0) 0 1).x := rfl
  have eg : (cCrash S m).g = (cCpS (uX S 13 0 0) 0 1).g := rfl
  have x0 : ∀ k a, a ≠ 0 ∨ 5 < k → k ≠ 13 → (cCrash S m).x k a = S.x k a := fun k a h1 h2 => by
    rw [ex, cps_xn _ 0 1 (by omega)]; simp only [CS.mk_R, CS.mk_cap, CS.mk_x, CS.mk_y, CS.mk_g, CS.mk_eta, MS.mk_x, MS.mk_g, MS.mk_V, MS.mk_T, MS.mk_eta, GD.mk_n, GD.mk_rd, GD.mk_c, GD.mk_tk, GD.mk_sz, GD.mk_sl, GD.mk_lt, GD.mk_eta, uX, p_un _ _ h2]
  have x13 : (cCrash S m).x 13 0 = 0 := by
    rw [ex, cps_xn _ 0 1 (.inr (.inr (by omega)))]; simp only [CS.mk_R, CS.mk_cap, CS.mk_x, CS.mk_y, CS.mk_g, CS.mk_eta, MS.mk_x, MS.mk_g, MS.mk_V, MS.mk_T, MS.mk_eta, GD.mk_n, GD.mk_rd, GD.mk_c, GD.mk_tk, GD.mk_sz, GD.mk_sl, GD.mk_lt, GD.mk_eta, uX, p_ug]
  have mg : (mCrash M m).g = (mCp M 5 6 (M.T.take m)).g := rfl
  have mV : (mCrash M m).V = (mCp M 5 6 (M.T.take m)).V := rfl
  have mT : (mCrash M m).T = M.T.take m := rfl
  have mTl : (M.T.take m).length = m := by rw [List.length_take]; omega
  have mo : ∀ k, k < 23 ∨ 27 < k → (mCrash M m).g k = M.g k := fun k hk => by rw [mg]; exact mcp_o M 5 6 _ hk
  have mx : ∀ k, k ≠ 35 → (mCrash M m).x k = M.x k := fun k a => by simp only [CS.mk_R, CS.mk_cap, CS.mk_x, CS.mk_y, CS.mk_g, CS.mk_eta, MS.mk_x, MS.mk_g, MS.mk_V, MS.mk_T, MS.mk_eta, GD.mk_n, GD.mk_rd, GD.mk_c, GD.mk_tk, GD.mk_sz, GD.mk_sl, GD.mk_lt, GD.mk_eta, mCrash, mX, p_un _ _ a]; rfl
  have new : STR (cCrash S m) (mCrash M m) d.sz (decide (S.y 5 0 = 10)) 0 6 rd m := s.mv eR5 (fun k h1 h2 => by rw [ex, cps_x _ 0 1 h1 (by omega)]; simp only [CS.mk_R, CS.mk_cap, CS.mk_x, CS.mk_y, CS.mk_g, CS.mk_eta, MS.mk_x, MS.mk_g, MS.mk_V, MS.mk_T, MS.mk_eta, GD.mk_n, GD.mk_rd, GD.mk_c, GD.mk_tk, GD.mk_sz, GD.mk_sl, GD.mk_lt, GD.mk_eta, uX, p_un _ _ (show k ≠ 13 by omega)]) (fun k j h1 h2 hj => by rw [eg, cps_g _ 0 1 h1 h2 hj]; rfl) (by rw [mV]; exact mcp_V M 5 6 _) (fun k h1 h2 => by rw [mg]; exact mcp_g M 5 6 _ h1 h2) (fun k j h1 h2 hj => by rw [mg]; exact mcp_r M 5 6 _ h1 h2 hj) (fun e => absurd rfl e)
  have old : STR (cCrash S m) (mCrash M m) d.sz (decide (S.y 5 0 = 10)) 1 5 rd m := s.mv (eR 6 (by decide) (by decide)) (fun k h1 h2 => x0 k 1 (.inl (by decide)) (by omega)) (fun k j h1 h2 hj => by rw [eg, cps_gn _ 0 1 (.inl (by decide))]; rfl) (by rw [mV]; exact mcp_Vn M 5 6 _ (by decide)) (fun k h1 h2 => by rw [mg]; exact mcp_gn M 5 6 _ h1 h2 (by decide)) (fun k j h1 h2 hj => by rw [mg]; exact mcp_rn M 5 6 _ h1 h2 hj (by decide)) (fun e => by rw [x0 4 1 (.inl (by decide)) (by decide)]; exact s.x4 e)
  have ev0 : EVR (cCrash S m) (mCrash M m) d.n d.rd := h.ev.fr (fun p hp => eR p (by omega) (by omega)) (fun k h1 h2 => mo k (by omega)) (mx 8 (by decide)) (by rw [mo 6 (by omega)])
  refine ⟨?_, ?_, ?_, ?_, ?_, ?_, ?_, ?_, ?_, ?_, ?_, h.tki, ?_⟩
  · obtain ⟨n, t⟩ := h.tx
    exact ⟨n, t.fl (fun k h1 h2 => x0 k 0 (.inr (by omega)) (by omega)) rfl (by rw [eg, cps_gn _ 0 1 (.inr (.inr (by omega)))]; rfl) (mx 0 (by decide)) (mo 4 (by omega))⟩
  · exact ⟨ev0.len, ev0.cnt, ev0.tot, ev0.m8, ev0.row, fun p hp => Nat.le_trans (hrd p) (ev0.rdn p hp), fun p hp r hr => ev0.done p hp r (Nat.lt_of_lt_of_le hr (hrd p))⟩
  · exact h.tb.fl (eR 3 (by decide) (by decide)) (mx 19 (by decide)) (fun k h1 h2 => mo k (by omega))
  · intro p hp; rw [x0 6 p (.inr (by omega)) (by decide), mo 17 (by omega)]; exact h.lag p hp
  · intro p hp; rw [x0 7 p (.inr (by omega)) (by decide), mo 18 (by omega)]; exact h.idle p hp
  · refine ⟨by rw [mx 5 (by decide)]; exact h.pl.b, by rw [x0 15 0 (.inr (by omega)) (by decide), mx 5 (by decide)]; exact h.pl.s15, fun e => ?_, fun e => ?_⟩
    · exact (h.pl.q h5).fl (fun k h1 h2 => x0 k 0 (.inr (by omega)) (by omega)) (fun _ _ _ => rfl) (mo 6 (by omega))
    · rw [mx 5 (by decide)] at e; exact absurd (h5.symm.trans e) (by decide)
  · rw [eR4, mT, h.tt]
  · rw [mT, mTl]; exact new
  · exact ⟨rd, m, old, fun _ => Nat.le_refl _, by rw [mT, mTl]; exact Nat.le_refl _⟩
  · exact ⟨Nat.zero_le _, x13, by simp only [CS.mk_R, CS.mk_cap, CS.mk_x, CS.mk_y, CS.mk_g, CS.mk_eta, MS.mk_x, MS.mk_g, MS.mk_V, MS.mk_T, MS.mk_eta, GD.mk_n, GD.mk_rd, GD.mk_c, GD.mk_tk, GD.mk_sz, GD.mk_sl, GD.mk_lt, GD.mk_eta, mCrash, mX, p_ug]; rfl, by rw [x0 14 0 (.inr (by omega)) (by decide)]; exact h.sn.s14, by rw [mx 37 (by decide)]; exact h.sn.m37, h.sn.y7, h.sn.inj, fun k hk => absurd hk (Nat.not_lt_zero k), fun j k _ hk => absurd hk (Nat.not_lt_zero k)⟩
  · exact fun k hk => absurd hk (Nat.not_lt_zero k)
  · rw [x0 16 0 (.inr (by omega)) (by decide), mx 43 (by decide)]; exact h.wk
theorem cRot_spec (d c : Nat) (hd : 1 ≤ d) : ∀ (m i : Nat) (S : CS) (y0 : Nat → Nat), i + d + m ≤ c → c ≤ 5 → (∀ k, k < i → S.y 7 k = y0 (k + d)) → (∀ k, i + d ≤ k → S.y 7 k = y0 k) → (∀ k, k < 5 → 2 ≤ S.y 7 k ∧ S.y 7 k < 7) → (∀ j k, j < 5 → k < 5 → S.y 7 j = S.y 7 k → j = k) → (∀ k, k < i + m → (cRot d S m i).y 7 k = y0 (k + d)) ∧ (∀ k, k < 5 → 2 ≤ (cRot d S m i).y 7 k ∧ (cRot d S m i).y 7 k < 7) ∧ (∀ j k, j < 5 → k < 5 → (cRot d S m i).y 7 j = (cRot d S m i).y 7 k → j = k) := by
  intro m
  induction m with
  | zero => intro i S y0 _ _ h1 _ h3 h4; exact ⟨fun k hk => h1 k (by omega), h3, h4⟩
  | succ m ih =>
    intro i S y0 hic hc5 h1 h2 h3 h4
    have e : ∀ k, (cSwap S i (i + d)).y 7 k = if k = i + d then S.y 7 i else if k = i then S.y 7 (i + d) else S.y 7 k := fun k => by
      simp only [CS.mk_R, CS.mk_cap, CS.mk_x, CS.mk_y, CS.mk_g, CS.mk_eta, MS.mk_x, MS.mk_g, MS.mk_V, MS.mk_T, MS.mk_eta, GD.mk_n, GD.mk_rd, GD.mk_c, GD.mk_tk, GD.mk_sz, GD.mk_sl, GD.mk_lt, GD.mk_eta, cSwap, cY, p_ug]
      rfl
    have := ih (i + 1) (cSwap S i (i + d)) y0 (by omega) hc5 (fun k hk => ?_) (fun k hk => ?_) (fun k hk => ?_) (fun j k hj hk hjk => ?_)
    · rw [show i + 1 + m = i + (m + 1) by omega] at this
      exact this
    · rw [e, if_neg (by omega)]
      by_cases a : k = i
      · rw [if_pos a, a]; exact h2 _ (Nat.le_refl _)
      · rw [if_neg a]; exact h1 k (by omega)
    · rw [e, if_neg (by omega), if_neg (by omega)]; exact h2 k (by omega)
    · rw [e]
      split
      · exact h3 i (by omega)
      · split
        · exact h3 (i + d) (by omega)
        · exact h3 k hk
    · rw [e, e] at hjk
      by_cases a : j = i + d
      · rw [if_pos a] at hjk
        by_cases b : k = i + d
        · omega
        · rw [if_neg b] at hjk
          by_cases b2 : k = i
          · rw [if_pos b2] at hjk
            have := h4 i (i + d) (by omega) (by omega) hjk
            omega
          · rw [if_neg b2] at hjk
            have := h4 i k (by omega) hk hjk
            omega
      · rw [if_neg a] at hjk
        by_cases a2 : j = i
        · rw [if_pos a2] at hjk
          by_cases b : k = i + d
          · rw [if_pos b] at hjk
            have := h4 (i + d) i (by omega) (by omega) hjk
            omega
          · rw [if_neg b] at hjk
            by_cases b2 : k = i
            · omega
            · rw [if_neg b2] at hjk
              have := h4 (i + d) k (by omega) hk hjk
              omega
        · rw [if_neg a2] at hjk
          by_cases b : k = i + d
          · rw [if_pos b] at hjk
            have := h4 j i hj (by omega) hjk
            omega
          · rw [if_neg b] at hjk
            by_cases b2 : k = i
            · rw [if_pos b2] at hjk
              have := h4 j (i + d) hj (by omega) hjk
              omega
            · rw [if_neg b2] at hjk
              exact h4 j k hj hk hjk
abbrev Sh (M0 M : MS) (d i : Nat) : Prop := (M.x = M0.x) ∧ (M.T = M0.T) ∧ (∀ q, M.V q = if q < i then M0.V (q + d) else M0.V q) ∧ (∀ k q l, 23 ≤ k → k ≤ 24 → l < 3 → M.g k (3 * q + l) = if q < i then M0.g k (3 * (q + d) + l) else M0.g k (3 * q + l)) ∧ (∀ k q, 25 ≤ k → k ≤ 27 → M.g k q = if q < i then M0.g k (q + d) else M0.g k q) ∧ (∀ q, M.g 36 q = if q < i then M0.g 36 (q + d) else M0.g 36 q) ∧ (∀ k, k < 23 ∨ 27 < k → k ≠ 36 → M.g k = M0.g k)
theorem Sh.x {M0 M : MS} {d i : Nat} (h_ : Sh M0 M d i) : M.x = M0.x := h_.1
theorem Sh.T {M0 M : MS} {d i : Nat} (h_ : Sh M0 M d i) : M.T = M0.T := h_.2.1
theorem Sh.V {M0 M : MS} {d i : Nat} (h_ : Sh M0 M d i) : ∀ q, M.V q = if q < i then M0.V (q + d) else M0.V q := h_.2.2.1
theorem Sh.r {M0 M : MS} {d i : Nat} (h_ : Sh M0 M d i) : ∀ k q l, 23 ≤ k → k ≤ 24 → l < 3 → M.g k (3 * q + l) = if q < i then M0.g k (3 * (q + d) + l) else M0.g k (3 * q + l) := h_.2.2.2.1
theorem Sh.s {M0 M : MS} {d i : Nat} (h_ : Sh M0 M d i) : ∀ k q, 25 ≤ k → k ≤ 27 → M.g k q = if q < i then M0.g k (q + d) else M0.g k q := h_.2.2.2.2.1
theorem Sh.n {M0 M : MS} {d i : Nat} (h_ : Sh M0 M d i) : ∀ q, M.g 36 q = if q < i then M0.g 36 (q + d) else M0.g 36 q := h_.2.2.2.2.2.1
theorem Sh.o {M0 M : MS} {d i : Nat} (h_ : Sh M0 M d i) : ∀ k, k < 23 ∨ 27 < k → k ≠ 36 → M.g k = M0.g k := h_.2.2.2.2.2.2
theorem Sh.step {M0 M : MS} {d i : Nat} (h : Sh M0 M d i) (hd : 1 ≤ d) {v : Int32} (hv : v = M.g 36 (i + d)) : Sh M0 (mG (mCp M (i + d) i M.T) 36 i v) d (i + 1) := by
  have eg : ∀ k, k ≠ 36 → (mG (mCp M (i + d) i M.T) 36 i v).g k = (mCp M (i + d) i M.T).g k := fun k hk => by simp only [CS.mk_R, CS.mk_cap, CS.mk_x, CS.mk_y, CS.mk_g, CS.mk_eta, MS.mk_x, MS.mk_g, MS.mk_V, MS.mk_T, MS.mk_eta, GD.mk_n, GD.mk_rd, GD.mk_c, GD.mk_tk, GD.mk_sz, GD.mk_sl, GD.mk_lt, GD.mk_eta, mG, p_un _ _ hk]
  refine ⟨h.x, h.T, fun q => ?_, fun k q l h1 h2 hl => ?_, fun k q h1 h2 => ?_, fun q => ?_, fun k h1 h2 => ?_⟩
  · show (mCp M (i + d) i M.T).V q = _
    by_cases e : q = i
    · subst e; rw [mcp_V, h.V, if_neg (by omega), if_pos (by omega)]
    · rw [mcp_Vn _ _ _ _ e, h.V]
      by_cases e2 : q < i
      · rw [if_pos e2, if_pos (by omega)]
      · rw [if_neg e2, if_neg (by omega)]
  · rw [eg k (by omega)]
    by_cases e : q = i
    · subst e; rw [mcp_r _ _ _ _ h1 h2 hl, h.r k _ l h1 h2 hl, if_neg (by omega), if_pos (by omega)]
    · rw [mcp_rn _ _ _ _ h1 h2 hl e, h.r k q l h1 h2 hl]
      by_cases e2 : q < i
      · rw [if_pos e2, if_pos (by omega)]
      · rw [if_neg e2, if_neg (by omega)]
  · rw [eg k (by omega)]
    by_cases e : q = i
    · subst e; rw [mcp_g _ _ _ _ h1 h2, h.s k _ h1 h2, if_neg (by omega), if_pos (by omega)]
    · rw [mcp_gn _ _ _ _ h1 h2 e, h.s k q h1 h2]
      by_cases e2 : q < i
      · rw [if_pos e2, if_pos (by omega)]
      · rw [if_neg e2, if_neg (by omega)]
  · have e36 : (mG (mCp M (i + d) i M.T) 36 i v).g 36 = upd (M.g 36) i v := by
      simp only [CS.mk_R, CS.mk_cap, CS.mk_x, CS.mk_y, CS.mk_g, CS.mk_eta, MS.mk_x, MS.mk_g, MS.mk_V, MS.mk_T, MS.mk_eta, GD.mk_n, GD.mk_rd, GD.mk_c, GD.mk_tk, GD.mk_sz, GD.mk_sl, GD.mk_lt, GD.mk_eta, mG, p_ug]; rw [mcp_o _ _ _ _ (by omega)]
    rw [e36, upd]
    by_cases e : q = i
    · subst e; rw [if_pos rfl, hv, h.n, if_neg (by omega), if_pos (by omega)]
    · rw [if_neg e, h.n]
      by_cases e2 : q < i
      · rw [if_pos e2, if_pos (by omega)]
      · rw [if_neg e2, if_neg (by omega)]
  · rw [eg k h2, mcp_o _ _ _ _ h1]; exact h.o k h1 h2
theorem Rel.compl {S M M1 d i} {p : Nat} (h : Rel S M d i) (h5 : M.x 5 = 1) (hp : p < d.c) (hs : Sh (mCp M p 5 M.T) M1 (p + 1) (d.c - (p + 1))) : Rel (cCompl S d.c p) (mX M1 35 (nI (d.c - (p + 1)))) (GD.mk d.n d.rd (d.c - (p + 1)) d.tk d.sz d.sl d.lt) i := by
  have hc5 := h.sn.c5
  have y7p := h.sn.y7 p (by omega)
  generalize hq : S.y 7 p = q at y7p
  obtain ⟨r1, r2, r3, r4, r5⟩ := cRot_same (p + 1) (cCpS S 1 q) (d.c - (p + 1)) 0
  have hrot := cRot_spec (p + 1) d.c (by omega) (d.c - (p + 1)) 0 (cCpS S 1 q) (S.y 7) (by omega) hc5 (fun k hk => absurd hk (Nat.not_lt_zero k)) (fun k _ => rfl) h.sn.y7 h.sn.inj
  have eS : cCompl S d.c p = uX (cRot (p + 1) (cCpS S 1 q) (d.c - (p + 1)) 0) 13 0 (nI (d.c - (p + 1))) := by unfold cCompl; rw [hq]
  have eR : (cCompl S d.c p).R = (cCpS S 1 q).R := by rw [eS]; exact r3
  have eg : (cCompl S d.c p).g = (cCpS S 1 q).g := by rw [eS]; exact r2
  have ey7 : (cCompl S d.c p).y 7 = (cRot (p + 1) (cCpS S 1 q) (d.c - (p + 1)) 0).y 7 := by rw [eS]; rfl
  have ey : ∀ k, k ≠ 7 → (cCompl S d.c p).y k = S.y k := fun k hk => by rw [eS]; show (cRot _ _ _ _).y k = _; rw [r5 k hk]; rfl
  have ex : ∀ k, k ≠ 13 → (cCompl S d.c p).x k = (cCpS S 1 q).x k := fun k hk => by rw [eS]; simp only [CS.mk_R, CS.mk_cap, CS.mk_x, CS.mk_y, CS.mk_g, CS.mk_eta, MS.mk_x, MS.mk_g, MS.mk_V, MS.mk_T, MS.mk_eta, GD.mk_n, GD.mk_rd, GD.mk_c, GD.mk_tk, GD.mk_sz, GD.mk_sl, GD.mk_lt, GD.mk_eta, uX, p_un _ _ hk, r1]
  have x0 : ∀ k a, a ≠ 1 ∨ 5 < k → k ≠ 13 → (cCompl S d.c p).x k a = S.x k a := fun k a h1 h2 => by
    rw [ex k h2]; exact cps_xn S 1 q (by omega)
  obtain ⟨k1, k2, k3⟩ := hrot
  rw [Nat.zero_add] at k1
  rw [← ey7] at k1 k2 k3
  have yk : ∀ k, k < d.c - (p + 1) → (cCompl S d.c p).y 7 k = S.y 7 (k + (p + 1)) := k1
  have mo : ∀ k, k < 23 ∨ 27 < k → k ≠ 36 → M1.g k = M.g k := fun k hk h2 => by rw [hs.o k hk h2]; exact mcp_o M p 5 M.T hk
  have mx : ∀ k, k ≠ 35 → (mX M1 35 (nI (d.c - (p + 1)))).x k = M.x k := fun k hk => by
    simp only [CS.mk_R, CS.mk_cap, CS.mk_x, CS.mk_y, CS.mk_g, CS.mk_eta, MS.mk_x, MS.mk_g, MS.mk_V, MS.mk_T, MS.mk_eta, GD.mk_n, GD.mk_rd, GD.mk_c, GD.mk_tk, GD.mk_sz, GD.mk_sl, GD.mk_lt, GD.mk_eta, mX, p_un _ _ hk]; rw [hs.x]; rfl
  have mT : M1.T = M.T := by rw [hs.T]; rfl
  have sesy : (cCompl S d.c p).y 5 0 = S.y 5 0 := by rw [ey 5 (by decide)]
  have now : STR (cCompl S d.c p) (mX M1 35 (nI (d.c - (p + 1)))) d.sz (decide (S.y 5 0 = 10)) 0 6 d.rd M.T.length := h.st0.mv (by rw [eR]; exact cps_Rn S 1 q (by decide)) (fun k a b => x0 k 0 (.inl (by decide)) (by omega)) (fun k l a b c => by rw [eg, cps_gn S 1 q (.inl (by decide))]) (by show M1.V 6 = _; rw [hs.V, if_neg (by omega), mcp_Vn _ _ _ _ (by decide)]) (fun k a b => by show M1.g k 6 = _; rw [hs.s k 6 a b, if_neg (by omega), mcp_gn _ _ _ _ a b (by decide)]) (fun k l a b c => by show M1.g k _ = _; rw [hs.r k 6 l a b c, if_neg (by omega), mcp_rn _ _ _ _ a b c (by decide)]) (fun e => absurd rfl e)
  obtain ⟨rdp, mp, sp, ap, bp⟩ := h.std p hp
  rw [hq] at sp
  have done : STR (cCompl S d.c p) (mX M1 35 (nI (d.c - (p + 1)))) d.sz (decide (S.y 5 0 = 10)) 1 5 rdp mp := sp.mv (by rw [eR]; exact cps_R S 1 q) (fun k a b => by rw [ex k (by omega)]; exact cps_x S 1 q a (by omega)) (fun k l a b c => by rw [eg]; exact cps_g S 1 q a b c) (by show M1.V 5 = _; rw [hs.V, if_neg (by omega), mcp_V]) (fun k a b => by show M1.g k 5 = _; rw [hs.s k 5 a b, if_neg (by omega), mcp_g _ _ _ _ a b]) (fun k l a b c => by show M1.g k _ = _; rw [hs.r k 5 l a b c, if_neg (by omega), mcp_r _ _ _ _ a b c]) (fun _ => by rw [ex 4 (by decide), cps_x S 1 q (by omega) (by omega)]; exact sp.x4 (by omega))
  have doubt : ∀ k, k < d.c - (p + 1) → ∀ {rd m}, STR S M d.sz (decide (S.y 5 0 = 10)) (S.y 7 (k + (p + 1))) (k + (p + 1)) rd m → STR (cCompl S d.c p) (mX M1 35 (nI (d.c - (p + 1)))) d.sz (decide (S.y 5 0 = 10)) (S.y 7 (k + (p + 1))) k rd m := fun k hk {rd m} s => by
    have y2 := h.sn.y7 (k + (p + 1)) (by omega)
    exact s.mv (by rw [eR]; exact cps_Rn S 1 q (by omega)) (fun j a b => x0 j _ (.inl (by omega)) (by omega)) (fun j l a b c => by rw [eg, cps_gn S 1 q (.inl (by omega))]) (by show M1.V k = _; rw [hs.V, if_pos hk, mcp_Vn _ _ _ _ (by omega)]) (fun j a b => by show M1.g j k = _; rw [hs.s j k a b, if_pos hk, mcp_gn _ _ _ _ a b (by omega)]) (fun j l a b c => by show M1.g j _ = _; rw [hs.r j k l a b c, if_pos hk, mcp_rn _ _ _ _ a b c (by omega)]) (fun e => by rw [x0 4 _ (.inl (by omega)) (by decide)]; exact s.x4 e)
  refine ⟨?_, ?_, ?_, ?_, ?_, ?_, ?_, ?_, ?_, ?_, ?_, h.tki, ?_⟩
  · obtain ⟨n, t⟩ := h.tx
    exact ⟨n, t.fl (fun k h1 h2 => x0 k 0 (.inl (by decide)) (by omega)) (by rw [ey 9 (by decide)]) (by rw [eg, cps_gn S 1 q (.inl (by decide))]) (mx 0 (by decide)) (mo 4 (by omega) (by decide))⟩
  · exact h.ev.fr (fun j hj => by rw [eR]; exact cps_Rn S 1 q (by omega)) (fun k h1 h2 => mo k (by omega) (by omega)) (mx 8 (by decide)) (by show M1.g 6 0 = _; rw [mo 6 (by omega) (by decide)])
  · exact h.tb.fl (by rw [eR]; exact cps_Rn S 1 q (by decide)) (mx 19 (by decide)) (fun k h1 h2 => mo k (by omega) (by omega))
  · intro j hj
    rw [x0 6 j (.inr (by omega)) (by decide)]
    show _ = M1.g 17 j ∧ _
    rw [mo 17 (by omega) (by decide)]; exact h.lag j hj
  · intro j hj
    rw [x0 7 j (.inr (by omega)) (by decide)]
    show _ = M1.g 18 j
    rw [mo 18 (by omega) (by decide)]; exact h.idle j hj
  · refine ⟨by rw [mx 5 (by decide)]; exact h.pl.b, by rw [x0 15 0 (.inl (by decide)) (by decide), mx 5 (by decide)]; exact h.pl.s15, fun e => ?_, fun e => ?_⟩
    · exact (h.pl.q h5).fl (fun k h1 h2 => x0 k 0 (.inl (by decide)) (by omega)) (fun k h1 h2 => by rw [ey k (by omega)]) (mo 6 (by omega) (by decide))
    · rw [mx 5 (by decide)] at e; exact absurd (h5.symm.trans e) (by decide)
  · rw [eR, cps_Rn S 1 q (by decide)]; show _ = M1.T; rw [mT]; exact h.tt
  · rw [sesy]; show STR _ _ _ _ 0 6 _ M1.T.length; rw [mT]; exact now
  · rw [sesy]; exact ⟨rdp, mp, done, ap, by show mp ≤ M1.T.length; rw [mT]; exact bp⟩
  · refine ⟨by show d.c - (p + 1) ≤ 5; omega, by rw [eS]; simp only [CS.mk_R, CS.mk_cap, CS.mk_x, CS.mk_y, CS.mk_g, CS.mk_eta, MS.mk_x, MS.mk_g, MS.mk_V, MS.mk_T, MS.mk_eta, GD.mk_n, GD.mk_rd, GD.mk_c, GD.mk_tk, GD.mk_sz, GD.mk_sl, GD.mk_lt, GD.mk_eta, uX, p_ug], by simp only [CS.mk_R, CS.mk_cap, CS.mk_x, CS.mk_y, CS.mk_g, CS.mk_eta, MS.mk_x, MS.mk_g, MS.mk_V, MS.mk_T, MS.mk_eta, GD.mk_n, GD.mk_rd, GD.mk_c, GD.mk_tk, GD.mk_sz, GD.mk_sl, GD.mk_lt, GD.mk_eta, mX, p_ug], by rw [x0 14 0 (.inl (by decide)) (by decide)]; exact h.sn.s14, by rw [mx 37 (by decide)]; exact h.sn.m37, k2, k3, fun k hk => ?_, fun j k hjk hk => ?_⟩
    · change k < d.c - (p + 1) at hk
      have y2 := h.sn.y7 (k + (p + 1)) (by omega)
      obtain ⟨v, v1, v2, v3⟩ := h.sn.num (k + (p + 1)) (by omega)
      rw [yk k hk, x0 5 _ (.inl (by omega)) (by decide)]
      refine ⟨v, v1, v2, ?_⟩
      show M1.g 36 k = _
      rw [hs.n, if_pos hk, mcp_o _ _ _ _ (by omega)]; exact v3
    · change k < d.c - (p + 1) at hk
      have y2 := h.sn.y7 (k + (p + 1)) (by omega)
      have y3 := h.sn.y7 (j + (p + 1)) (by omega)
      rw [yk k hk, yk j (by omega), x0 5 _ (.inl (by omega)) (by decide), x0 5 _ (.inl (by omega)) (by decide)]
      exact h.sn.inc _ _ (by omega) (by omega)
  · intro k hk
    change k < d.c - (p + 1) at hk
    obtain ⟨rd, m, s, a, b⟩ := h.std (k + (p + 1)) (by omega)
    rw [sesy, yk k hk]
    exact ⟨rd, m, doubt k hk s, a, by show m ≤ M1.T.length; rw [mT]; exact b⟩
  · rw [x0 16 0 (.inl (by decide)) (by decide), mx 43 (by decide)]; exact h.wk
set_option maxRecDepth 4096 in
theorem p_and31 : (0 : Int32) &&& 31 = 0 := by decide
set_option maxRecDepth 4096 in
theorem p_shl0 (a : Int32) : a <<< ((0 : Int32) &&& 31) = a := by rw [p_and31]; simp
set_option maxRecDepth 4096 in
theorem p_shr0 (a : Int32) : a >>> ((0 : Int32) &&& 31) = a := by rw [p_and31]; simp
set_option maxRecDepth 4096 in
theorem p_byte : ∀ w, w < 127 → vp_nar .byte ((nI w).toInt8.toInt32) = nI w := by decide
set_option maxRecDepth 4096 in
theorem p_fits : ∀ w, w < 127 → fits .byte (.int (nI w)) = true := by decide
set_option maxRecDepth 4096 in
theorem c_ensure {S M n x y g} (hc : RC S x y g) (t : TX S M n) (hn : n < 60) {bc bs : Nat} (hbc : 1 ≤ bc) (hbs : 70 ≤ bs) {Φ : pK} (hΦ : ∀ S' x y g, RC S' x y g → (∃ (q N : Nat) (f : Nat → Int32), S' = cG (cY (cY S 8 0 q) 9 0 N) 3 0 f ∧ n < N ∧ (N = 16 ∨ N = 34 ∨ N = 70) ∧ (∀ i, i < n → f i = S.g 3 0 i) ∧ ∀ i, ∃ c : Nat, c < 127 ∧ f i = nI c) → Φ x y g) : wJ5_ensureCapacityInternal_d00df x y g (nI (n + 1)) bc bs Φ := by
  have h1 := t.cap
  have h2 := t.c16
  have h3 := t.c70
  unfold wJ5_ensureCapacityInternal_d00df
  rw [hc.hy 9 (by omega), hc.hx 17 (by omega), t.s17, p_shr0]
  rintro _ rfl
  refine ⟨fun c => ?_, fun c => ?_⟩
  · have hlt : n < S.y 9 0 := by
      rcases Nat.lt_or_ge n (S.y 9 0) with h | h
      · exact h
      · refine absurd c ?_
        rw [i_le, i_sub (by rw [nI_toInt (by omega), nI_toInt (by omega)]; omega) (by rw [nI_toInt (by omega), nI_toInt (by omega)]; omega), nI_toInt (by omega), nI_toInt (by omega)]
        change ¬ (_ : Int) ≤ 0
        omega
    refine hΦ S x y g hc ⟨S.y 8 0, S.y 9 0, S.g 3 0, ?_, hlt, h3, fun _ _ => rfl, t.by_⟩
    simp only [CS.mk_R, CS.mk_cap, CS.mk_x, CS.mk_y, CS.mk_g, CS.mk_eta, MS.mk_x, MS.mk_g, MS.mk_V, MS.mk_T, MS.mk_eta, GD.mk_n, GD.mk_rd, GD.mk_c, GD.mk_tk, GD.mk_sz, GD.mk_sl, GD.mk_lt, GD.mk_eta, cG, cY, p_us]
  · have hge : S.y 9 0 = n := by
      rcases Nat.lt_or_ge n (S.y 9 0) with h | h
      · refine absurd ?_ c
        rw [i_le, i_sub (by rw [nI_toInt (by omega), nI_toInt (by omega)]; omega) (by rw [nI_toInt (by omega), nI_toInt (by omega)]; omega), nI_toInt (by omega), nI_toInt (by omega)]
        change (_ : Int) ≤ 0
        omega
      · omega
    unfold wJ5_newCapacity_0f7a4 wJ8_newLength_cabcc
    rw [hc.hy 9 (by omega), hc.hx 17 (by omega), t.s17, hge, p_shl0]
    rintro _ rfl _ rfl _ rfl
    have e1 : nI (n + 1) - nI n = nI 1 := by rw [p_sub (by omega)]; congr 1; omega
    have e2 : nI n + (2 : Int32) <<< ((0 : Int32) &&& 31) = nI (n + 2) := by rw [p_shl0, show (2 : Int32) = nI 2 from rfl, nI_add]
    rw [e1, e2, if_pos (nI_lt (by omega) (by omega)), nI_add]
    rintro _ rfl
    refine ⟨fun c => absurd c (nI_nle (by omega) (by omega)), fun _ => ⟨fun c => ?_, fun _ => ⟨fun c => ?_, fun _ => ⟨bc, bs, 0, 0, by omega, by omega, ?_⟩⟩⟩⟩
    · rw [i_lt, nI_toInt (by omega)] at c
      change (2147483639 : Int) < _ at c
      omega
    · have := congrArg Int32.toInt c
      rw [nI_toInt (by omega)] at this
      change _ = (2147483647 : Int) at this
      omega
    · rw [p_shr0, p_shl0]
      unfold wJ7_copyOf_9075b
      rw [hc.hy 9 (by omega), hge]
      refine ⟨fun c => absurd ((nI_eq (by omega) (by omega)).1 c) (by omega), fun _ => ⟨nI_pos (by omega), by rw [p_cl (by omega)]; omega, bc - 1, bs - 70, by omega, by rw [p_cl (by omega)]; omega, ?_⟩⟩
      rw [if_neg (nI_nlt (by omega) (by omega)), p_tn0, p_cl (by omega), p_cl (by omega)]
      refine ⟨by decide, by decide, nI_pos (by omega), by omega, by omega, fun i hi => ?_, fun q => ?_⟩
      · rw [Nat.zero_add, hc.hg 3 (by omega)]
        obtain ⟨c, hc1, hc2⟩ := t.by_ i
        rw [hc2]; exact p_fits c hc1
      · have h4 := ((hc.Y (k := 8) (i := 0) (v := q) (by omega)).Y (k := 9) (i := 0) (v := n + (n + 2)) (by omega)).G (k := 3) (i := 0) (f := va_cpy (g 3 0) (fun _ => 0) 0 0 n) (by omega)
        rw [p_un _ _ (show (9 : Nat) ≠ 8 by decide), hc.hy 9 (by omega)] at h4
        refine hΦ _ _ _ _ h4 ⟨q, n + (n + 2), _, rfl, by omega, by omega, fun i hi => ?_, fun i => ?_⟩
        · rw [p_cpy, if_pos (by omega), hc.hg 3 (by omega)]; congr 1; omega
        · rw [p_cpy]
          split
          · rw [hc.hg 3 (by omega)]; exact t.by_ _
          · exact ⟨0, by omega, rfl⟩
def mTyp (M : MS) (n : Nat) (v : Int32) : MS := mG (mX M 0 (nI (n + 1))) 4 n v
set_option maxRecDepth 4096 in
theorem Rel.typ {S M d i} (h : Rel S M d i) {n w q N : Nat} {f : Nat → Int32} (t : TX S M n) (hn : n < 60) (hw : 32 ≤ w) (hw2 : w < 127) (hN : n < N) (hN2 : N = 16 ∨ N = 34 ∨ N = 70) (hf : ∀ i, i < n → f i = S.g 3 0 i) (hb : ∀ i, ∃ c : Nat, c < 127 ∧ f i = nI c) : Rel (cG (uX (cG (cY (cY S 8 0 q) 9 0 N) 3 0 f) 19 0 (nI (n + 1))) 3 0 (upd f n (nI w))) (mTyp M n (nI w)) d i := by
  have tx : ∃ m, TX (cG (uX (cG (cY (cY S 8 0 q) 9 0 N) 3 0 f) 19 0 (nI (n + 1))) 3 0 (upd f n (nI w))) (mTyp M n (nI w)) m := by
    refine ⟨n + 1, by omega, rfl, rfl, t.s17, (show n + 1 ≤ N by omega), (show 16 ≤ N by omega), hN2, fun i => ?_, fun i hi => ?_⟩
    · show ∃ c : Nat, c < 127 ∧ upd f n (nI w) i = nI c
      unfold upd
      split
      · exact ⟨w, hw2, rfl⟩
      · exact hb i
    · show upd (M.g 4) n (nI w) i = upd f n (nI w) i ∧ ∃ c : Nat, 32 ≤ c ∧ c < 127 ∧ upd (M.g 4) n (nI w) i = nI c
      unfold upd
      by_cases e : i = n
      · rw [if_pos e, if_pos e]; exact ⟨rfl, w, hw, hw2, rfl⟩
      · rw [if_neg e, if_neg e, hf i (by omega)]; exact t.ch i (by omega)
  have q5 : QR S M d.sz d.sl d.lt → QR (cG (uX (cG (cY (cY S 8 0 q) 9 0 N) 3 0 f) 19 0 (nI (n + 1))) 3 0 (upd f n (nI w))) (mTyp M n (nI w)) d.sz d.sl d.lt := fun h =>
    ⟨h.f0, h.f2, h.c0, h.c1, h.c2, h.lim, h.jn, h.jb, h.sh, h.sh1, h.sh2, h.zm, h.zc, h.z1, h.z2, h.sc, h.s1, h.s2, h.s9, h.s8, h.lm, h.lc, h.l2, h.m, h.m1, h.m2⟩
  exact ⟨tx, ⟨h.ev.len, h.ev.cnt, h.ev.tot, h.ev.m8, h.ev.row, h.ev.rdn, h.ev.done⟩, ⟨h.tb.n60, h.tb.m19, h.tb.row⟩, h.lag, h.idle, ⟨h.pl.b, h.pl.s15, fun e => q5 (h.pl.q e), h.pl.z⟩, h.tt, ⟨h.st0.wr, h.st0.mkk, h.st0.mr, h.st0.lc, h.st0.rs, h.st0.gr, h.st0.g0, h.st0.m27, h.st0.x4, h.st0.cw, h.st0.pt⟩, h.st1.elim fun rd s => s.elim fun m s => ⟨rd, m, ⟨s.1.wr, s.1.mkk, s.1.mr, s.1.lc, s.1.rs, s.1.gr, s.1.g0, s.1.m27, s.1.x4, s.1.cw, s.1.pt⟩, s.2⟩, ⟨h.sn.c5, h.sn.s13, h.sn.m35, h.sn.s14, h.sn.m37, h.sn.y7, h.sn.inj, h.sn.num, h.sn.inc⟩, fun k hk => (h.std k hk).elim fun rd s => s.elim fun m s => ⟨rd, m, ⟨s.1.wr, s.1.mkk, s.1.mr, s.1.lc, s.1.rs, s.1.gr, s.1.g0, s.1.m27, s.1.x4, s.1.cw, s.1.pt⟩, s.2⟩, h.tki, h.wk⟩
set_option maxRecDepth 4096 in
theorem Rel.wip {S M d i} (h : Rel S M d i) {v : Int32} : Rel (uX (uX S 18 0 v) 19 0 0) (mX M 0 0) d i := by
  have tx : ∃ m, TX (uX (uX S 18 0 v) 19 0 0) (mX M 0 0) m := by
    obtain ⟨n, t⟩ := h.tx
    exact ⟨0, by omega, rfl, rfl, t.s17, Nat.zero_le _, t.c16, t.c70, t.by_, fun i hi => absurd hi (Nat.not_lt_zero i)⟩
  have q5 : QR S M d.sz d.sl d.lt → QR (uX (uX S 18 0 v) 19 0 0) (mX M 0 0) d.sz d.sl d.lt := fun h =>
    ⟨h.f0, h.f2, h.c0, h.c1, h.c2, h.lim, h.jn, h.jb, h.sh, h.sh1, h.sh2, h.zm, h.zc, h.z1, h.z2, h.sc, h.s1, h.s2, h.s9, h.s8, h.lm, h.lc, h.l2, h.m, h.m1, h.m2⟩
  exact ⟨tx, ⟨h.ev.len, h.ev.cnt, h.ev.tot, h.ev.m8, h.ev.row, h.ev.rdn, h.ev.done⟩, ⟨h.tb.n60, h.tb.m19, h.tb.row⟩, h.lag, h.idle, ⟨h.pl.b, h.pl.s15, fun e => q5 (h.pl.q e), h.pl.z⟩, h.tt, ⟨h.st0.wr, h.st0.mkk, h.st0.mr, h.st0.lc, h.st0.rs, h.st0.gr, h.st0.g0, h.st0.m27, h.st0.x4, h.st0.cw, h.st0.pt⟩, h.st1.elim fun rd s => s.elim fun m s => ⟨rd, m, ⟨s.1.wr, s.1.mkk, s.1.mr, s.1.lc, s.1.rs, s.1.gr, s.1.g0, s.1.m27, s.1.x4, s.1.cw, s.1.pt⟩, s.2⟩, ⟨h.sn.c5, h.sn.s13, h.sn.m35, h.sn.s14, h.sn.m37, h.sn.y7, h.sn.inj, h.sn.num, h.sn.inc⟩, fun k hk => (h.std k hk).elim fun rd s => s.elim fun m s => ⟨rd, m, ⟨s.1.wr, s.1.mkk, s.1.mr, s.1.lc, s.1.rs, s.1.gr, s.1.g0, s.1.m27, s.1.x4, s.1.cw, s.1.pt⟩, s.2⟩, h.tki, h.wk⟩
set_option maxRecDepth 4096 in
theorem c_empty {S M n x y g} (hc : RC S x y g) (t : TX S M n) {bc bs : Nat} {Φ : pK} (hΦ : ∀ v x y g, RC (uX (uX S 18 0 v) 19 0 0) x y g → Φ x y g) : wJ4_setLength_d00df x y g 0 bc bs Φ := by
  have h1 := t.cap
  have h2 := t.c16
  have h3 := t.c70
  refine ⟨bc, bs, 0, 0, by omega, by omega, ⟨fun _ => ⟨bc, bs, 0, 0, by omega, by omega, ?_⟩, fun c => absurd (by decide) c⟩⟩
  unfold wJ5_ensureCapacityInternal_d00df
  rw [hc.hy 9 (by omega), hc.hx 17 (by omega), t.s17, p_shr0]
  rintro _ rfl
  refine ⟨fun _ => ?_, fun c => absurd ?_ c⟩
  · try dsimp only [CS.mk_R, CS.mk_cap, CS.mk_x, CS.mk_y, CS.mk_g, CS.mk_eta, MS.mk_x, MS.mk_g, MS.mk_V, MS.mk_T, MS.mk_eta, GD.mk_n, GD.mk_rd, GD.mk_c, GD.mk_tk, GD.mk_sz, GD.mk_sl, GD.mk_lt, GD.mk_eta]
    rw [hc.hx 19 (by omega), t.s19]
    refine ⟨fun _ => ⟨fun c => ?_, fun c => ?_⟩, fun c => absurd (show nI 0 ≤ nI n from nI_le (Nat.zero_le _) (by have := t.n60; omega)) c⟩
    · have h5 := (hc.X (k := 18) (i := 0) (v := S.x 18 0) (by omega)).X (k := 19) (i := 0) (v := 0) (by omega)
      have e1 : va_up x 18 (va_up (x 18) 0 (S.x 18 0)) = x := by rw [hc.hx 18 (by omega), p_us, ← hc.hx 18 (by omega), p_us]
      rw [e1, hc.hx 19 (by omega)] at h5
      exact hΦ _ _ _ _ h5
    · have h5 := (hc.X (k := 18) (i := 0) (v := 1) (by omega)).X (k := 19) (i := 0) (v := 0) (by omega)
      rw [p_un _ _ (show (19 : Nat) ≠ 18 by decide), hc.hx 19 (by omega)] at h5
      exact hΦ _ _ _ _ h5
  · rw [i_le, i_sub (by rw [nI_toInt (by omega)]; change _ ≤ (0 : Int) - _; omega) (by rw [nI_toInt (by omega)]; change (0 : Int) - _ < _; omega), nI_toInt (by omega)]
    change (0 : Int) - _ ≤ 0
    omega
