/-! ===== a step, a watermark: the relation, the totals, the results that come ===== -/
theorem uX_2 (S : CS) (v : Int32) : (uX S 3 0 v).x 2 = S.x 2 := p_un S.x (k := 3) (j := 2) (va_up (S.x 3) 0 v) (by decide)
def TS0 (S : CS) (d : GD) : Prop := TSF (S.y 5 0) d.sz d.sl (S.R 5) (S.x 2 0) (S.x 2 0 - S.x 12 0) (FF (S.y 3 0) (S.x 10 0) (EV S d.rd)) (S.R 4)
def dRd (d : GD) (p : Nat) : GD := GD.mk d.n (va_up d.rd p (d.rd p + 1)) d.c d.tk d.sz d.sl d.lt
theorem step28 {S M d i} (h : Rel S M d i) (h5 : M.x 5 = 1) {p : Nat} (hp : p < 3) (hr : d.rd p < d.n p) (hT : TS0 S d) :
    ∃ M' : MS, M'.x 5 = 1 ∧ Rel (cStep S p (d.rd p)) M' (dRd d p) i ∧ TS0 (cStep S p (d.rd p)) (dRd d p) ∧ (∃ rs, (cStep S p (d.rd p)).R 4 = S.R 4 ++ rs ∧ ∀ r, r ∈ rs → RNp (S.y 6 0) (S.x 2 0) r) ∧ FrS (cRead S p (d.rd p)) (cStep S p (d.rd p)) ∧ (cStep S p (d.rd p)).x 2 = S.x 2 := by
  obtain ⟨k, t, hk, ht, r0, g10, r1, g11, r2⟩ := h.ev.row p hp _ hr
  obtain ⟨a, ha⟩ : ∃ a : Int32, a = M.g 12 (300 * p + d.rd p) + (if M.g 6 3 = 1 then mJoin M (S.R 3).length (M.g 10 (300 * p + d.rd p)) (M.g 11 (300 * p + d.rd p)) else 0) := ⟨_, rfl⟩
  have hR : Rel _ _ (GD.mk d.n (va_up d.rd p (d.rd p + 1)) d.c d.tk d.sz d.sl d.lt) i := h.read h5 hp hr (c := mLets M (M.g 12 (300 * p + d.rd p))) rfl ha (gr := if nI t ≤ M.g 24 (18 + p) then M.g 24 (18 + p) else nI t) (by rw [g11])
  have hQ := h.pl.q h5
  have hlen := h.ev.len p hp
  have hsum := va3 (n := d.rd) (v := d.rd p + 1) hp
  have hsz := h.sizes
  have hrdn := h.ev.rdn
  have htot := h.ev.tot
  have s4 : d.rd 0 + d.rd 1 + d.rd 2 + 1 ≤ 300 := by
    have a0 := hrdn 0 (by omega)
    have a1 := hrdn 1 (by omega)
    have a2 := hrdn 2 (by omega)
    have : p = 0 ∨ p = 1 ∨ p = 2 := by omega
    rcases this with e | e | e <;> subst e <;> omega
  have hcw := h.st0.cw
  have hpt := h.st0.pt
  have el : mLets M (M.g 12 (300 * p + d.rd p)) = cLets S (((S.R p).getD (d.rd p) pz) 2) := by rw [hQ.lets, r2]
  have hx : (mG (mRd1 M p (d.rd p) (mLets M (M.g 12 (300 * p + d.rd p))) a) 24 (18 + p) (if nI t ≤ M.g 24 (18 + p) then M.g 24 (18 + p) else nI t)) = mRd M p (d.rd p) (mLets M (M.g 12 (300 * p + d.rd p))) a (if nI t ≤ M.g 24 (18 + p) then M.g 24 (18 + p) else nI t) := rfl
  obtain ⟨cR1, cR2, cRx, cRy⟩ := cRead_R S p (d.rd p)
  have hrl : d.rd p < (S.R p).length := by omega
  obtain ⟨A, B, eA, eB⟩ := EV_read (S := S) (S' := cRead S p (d.rd p)) (rd := d.rd) hp hrl cR1 (fun q _ hq => cR2 q hq)
  have r4e : (cRead S p (d.rd p)).R 4 = S.R 4 := cR2 4 (by omega)
  have r5e : (cRead S p (d.rd p)).R 5 = S.R 5 := cR2 5 (by omega)
  by_cases c0 : cLets S (((S.R p).getD (d.rd p) pz) 2) = 0
  · have ec : cStep S p (d.rd p) = cRead S p (d.rd p) := by unfold cStep; rw [if_pos c0]
    rw [ec]
    refine ⟨_, ?_, hR, ?_, ⟨[], by rw [r4e, List.append_nil], fun r hr => absurd hr List.not_mem_nil⟩, FrS.rfl, by rw [cRx]⟩
    · exact h5
    · unfold TS0 at hT ⊢
      rw [r4e, r5e, cRx, cRy]
      have : FF (S.y 3 0) (S.x 10 0) (EV (cRead S p (d.rd p)) (dRd d p).rd) = FF (S.y 3 0) (S.x 10 0) (EV S d.rd) := funext fun k' => funext fun b' => by
        show FF (S.y 3 0) (S.x 10 0) (EV (cRead S p (d.rd p)) (va_up d.rd p (d.rd p + 1))) k' b' = _
        rw [eB, eA, FF_mid]
        have : tv (S.x 10 0) k' b' (upd (upd (upd ((S.R p).getD (d.rd p) pz) 3 (cLets S (((S.R p).getD (d.rd p) pz) 2))) 4 (cAmt S ((S.R p).getD (d.rd p) pz))) 5 (S.x 2 0 - S.x 12 0)) = none := by
          unfold tv
          rw [if_neg]
          intro q
          have q1 : cLets S (((S.R p).getD (d.rd p) pz) 2) = 1 := q.1
          rw [c0] at q1
          exact absurd q1 (by decide)
        rw [this, oad_none]
      rw [this]
      exact hT
  · have hN0 := hR.nr h5
    rw [← hx] at hN0
    try dsimp only [CS.mk_R, CS.mk_cap, CS.mk_x, CS.mk_y, CS.mk_g, CS.mk_eta, MS.mk_x, MS.mk_g, MS.mk_V, MS.mk_T, MS.mk_eta, GD.mk_n, GD.mk_rd, GD.mk_c, GD.mk_tk, GD.mk_sz, GD.mk_sl, GD.mk_lt, GD.mk_eta] at hN0
    have hN := hN0.ung24
    have e1 := cRead_row (S := S) (p := p) (r := d.rd p) hrl
    have eV : (mRd1 M p (d.rd p) (mLets M (M.g 12 (300 * p + d.rd p))) a).V = M.V := rfl
    have eT : (mRd1 M p (d.rd p) (mLets M (M.g 12 (300 * p + d.rd p))) a).T = M.T := rfl
    have e5 : (mRd1 M p (d.rd p) (mLets M (M.g 12 (300 * p + d.rd p))) a).g 6 = M.g 6 := rfl
    have e00 : (mRd1 M p (d.rd p) (mLets M (M.g 12 (300 * p + d.rd p))) a).x = M.x := rfl
    have q4 : (((cRead S p (d.rd p)).R p).getD (d.rd p) pz) 4 = mIts (mRd1 M p (d.rd p) (mLets M (M.g 12 (300 * p + d.rd p))) a) a := by
      have := (hR.ev.done p hp (d.rd p) (by show d.rd p < va_up d.rd p (d.rd p + 1) p; rw [p_ug]; omega)).2.2.1
      rw [this]
      show mIts M (upd (M.g 14) (300 * p + d.rd p) a (300 * p + d.rd p)) = mIts M a
      rw [upd, if_pos rfl]
    rw [← eV] at hsz hcw hpt
    rw [← eT] at hsz hpt
    generalize hM1 : mRd1 M p (d.rd p) (mLets M (M.g 12 (300 * p + d.rd p))) a = M1 at *
    have z1 : cLets S (((S.R p).getD (d.rd p) pz) 2) = 1 := (cLets_b S _).resolve_left c0
    obtain ⟨b0, b1, b2, b3, b4, b5⟩ := put_rel (p := p) (r := d.rd p) (k := k) (t := t) (v := a) hN hk ht (by rw [e1]; exact r0) (by rw [e1]; exact r1) q4 (by omega) (by omega)
    have hT1 : TSF ((cRead S p (d.rd p)).y 5 0) d.sz d.sl ((cRead S p (d.rd p)).R 5) ((cRead S p (d.rd p)).x 2 0) ((cRead S p (d.rd p)).x 2 0 - (cRead S p (d.rd p)).x 12 0) (FF (S.y 3 0) (S.x 10 0) (EV S d.rd)) ((cRead S p (d.rd p)).R 4) := by
      rw [r4e, r5e, cRx, cRy]; exact hT
    obtain ⟨rs, v1, v2, v3⟩ := put_tsf (p := p) (r := d.rd p) (k := k) (t := t) (v := a) hN hk ht (by rw [e1]; exact r0) (by rw [e1]; exact r1) q4 (by omega) (by omega) (by rw [e1]; exact z1) (by rw [e1, cRx]; rfl) hT1
    have cw' : ((mComes M1 (nI k) a t d.sz d.sl).V 6).length ≤ 4 * (va_up d.rd p (d.rd p + 1) 0 + va_up d.rd p (d.rd p + 1) 1 + va_up d.rd p (d.rd p + 1) 2) := by omega
    have pt' : pW ((mComes M1 (nI k) a t d.sz d.sl).V 6) + (mComes M1 (nI k) a t d.sz d.sl).T.length ≤ 8 * (va_up d.rd p (d.rd p + 1) 0 + va_up d.rd p (d.rd p + 1) 1 + va_up d.rd p (d.rd p + 1) 2) := by omega
    have h5' : M1.x 5 = 1 := by rw [e00]; exact h5
    have ecs : cStep S p (d.rd p) = cPut (cRead S p (d.rd p)) p (d.rd p) := by unfold cStep; rw [if_neg c0]
    rw [ecs]
    have ex2 : (cPut (cRead S p (d.rd p)) p (d.rd p)).x 2 = S.x 2 := by
      by_cases hs : (cRead S p (d.rd p)).y 5 0 = 10
      · have : ∀ k t a, (cSes (cRead S p (d.rd p)) k t a).x 2 = (cRead S p (d.rd p)).x 2 := fun k t a => by
          have hg : ∀ b e tot, (cGrow (cRead S p (d.rd p)) k t b e tot).x 2 = (cRead S p (d.rd p)).x 2 := fun b e tot => by
            unfold cGrow
            rw [(cRipe_same _ _).1, (cAdd_R _ _ _ _ _).2.2.1, (cEnd_R _ _ _).2.2.1]
          unfold cSes
          try dsimp only
          split
          · split
            · exact hg _ _ _
            · exact uX_2 _ _
          · split
            · rw [(cRipe_same _ _).1]; rfl
            · exact hg _ _ _
        unfold cPut
        simp only [if_pos hs]
        rw [this, cRx]
      · have : ∀ (k a : Int32) (bs : List Int32) (S : CS), (cSl k a S bs).x 2 = S.x 2 := fun k a bs => by
          induction bs with
          | nil => exact fun _ => rfl
          | cons b bs ih =>
            intro S
            show (cSl k a (cInto S k b a) bs).x 2 = S.x 2
            rw [ih, (cInto_same S k b a).1 2 (by decide)]
        unfold cPut
        simp only [if_neg hs]
        rw [this, cRx]
    refine ⟨mG (mG (mComes M1 (nI k) a t d.sz d.sl) 27 6 (nI (mComes M1 (nI k) a t d.sz d.sl).T.length)) 24 (18 + p) (if nI t ≤ M.g 24 (18 + p) then M.g 24 (18 + p) else nI t), ?_, ?_, ?_, ⟨rs, by rw [v1, r4e], by rw [cRx, cRy] at v2; exact v2⟩, b2, ex2⟩
    · show (mComes M1 (nI k) a t d.sz d.sl).x 5 = 1
      rw [b3.x]; exact h5'
    · rw [← hx] at hR
      exact hR.of h5' ((b1.g27).g24 (18 + p) (if nI t ≤ M.g 24 (18 + p) then M.g 24 (18 + p) else nI t)) b2 ((b3.g27 _).g24 (18 + p) _) cw' pt' (by simp only [CS.mk_R, CS.mk_cap, CS.mk_x, CS.mk_y, CS.mk_g, CS.mk_eta, MS.mk_x, MS.mk_g, MS.mk_V, MS.mk_T, MS.mk_eta, GD.mk_n, GD.mk_rd, GD.mk_c, GD.mk_tk, GD.mk_sz, GD.mk_sl, GD.mk_lt, GD.mk_eta, mG, p_un _ _ (show (27 : Nat) ≠ 24 by decide), p_ug, upd, if_true])
    · unfold TS0
      have eEV : EV (cPut (cRead S p (d.rd p)) p (d.rd p)) (dRd d p).rd = EV (cRead S p (d.rd p)) (va_up d.rd p (d.rd p + 1)) := EV_congr fun q hq => by
        rw [b2.R q (by omega) (by omega)]; rfl
      have eF : (fun k' b' => oad ((cRead S p (d.rd p)).y 3 0) (FF (S.y 3 0) (S.x 10 0) (EV S d.rd) k' b') (tv ((cRead S p (d.rd p)).x 10 0) k' b' (((cRead S p (d.rd p)).R p).getD (d.rd p) pz))) = FF (S.y 3 0) (S.x 10 0) (EV (cRead S p (d.rd p)) (va_up d.rd p (d.rd p + 1))) := funext fun k' => funext fun b' => by
        rw [eB, eA, FF_mid, e1, cRx, cRy]
      rw [eEV, b2.y, b2.x 10 0 (by omega), b2.x 12 0 (by omega), ex2, v1, cRy, cRx]
      rw [eF] at v3
      rw [cRx, cRy] at v3
      exact v3
theorem find28 {S M d i} (h : Rel S M d i) (h5 : M.x 5 = 1) (hT : TS0 S d) : ∃ M' : MS, M'.x = M.x ∧ Rel (cFind S) M' d i ∧ TS0 (cFind S) d ∧ (∃ rs, (cFind S).R 4 = S.R 4 ++ rs ∧ ∀ r, r ∈ rs → RNp (S.y 6 0) ((cFind S).x 2 0) r) ∧ FrS S (cFind S) ∧ S.x 2 0 ≤ (cFind S).x 2 0 := by
  have hn := h.nr h5
  have hpr := h.pr
  obtain ⟨k1, k2, k3, k4, k5⟩ := find_rel hn hpr
  obtain ⟨rs, v1, v2, v3, v4⟩ := TSF.find hn hpr hT
  refine ⟨mG (mFindT M (findU S) (fwmM M)) 27 6 (nI (mFindT M (findU S) (fwmM M)).T.length), k3.x, h.of h5 k1.g27 k2 (k3.g27 _) (Nat.le_trans k4 h.st0.cw) (Nat.le_trans k5 h.st0.pt) ?_, ?_, ⟨rs, v1, v2⟩, k2, v3⟩
  · simp only [CS.mk_R, CS.mk_cap, CS.mk_x, CS.mk_y, CS.mk_g, CS.mk_eta, MS.mk_x, MS.mk_g, MS.mk_V, MS.mk_T, MS.mk_eta, GD.mk_n, GD.mk_rd, GD.mk_c, GD.mk_tk, GD.mk_sz, GD.mk_sl, GD.mk_lt, GD.mk_eta, mG, p_ug, upd, if_true]
  · unfold TS0
    have eEV : EV (cFind S) d.rd = EV S d.rd := EV_congr fun q hq => by rw [k2.R q (by omega) (by omega)]
    rw [eEV, k2.y, k2.x 10 0 (by omega), k2.x 12 0 (by omega), v1]
    exact v4
