/-! ===== the class's calls, told ===== -/
theorem q_event {S M d i x y g} (hc : RC S x y g) (hr : Rel S M d i) {p k t : Nat} {v : Int32} (hp : p < 3) (hk : k < 8) (ht : t < 1000) (hv : (-99 : Int32) ≤ v ∧ v ≤ 99) (hlt : d.n 0 + d.n 1 + d.n 2 < 300) {bc bs : Nat} (hb : cOK S (cTold S p (nI k) (nI t) v) bc bs) {Φ : Int32 → pK} {Ψ : String → pK} (hΦ : ∀ x y g, RC (cTold S p (nI k) (nI t) v) x y g → Φ (nI (d.n p + 1)) x y g) : wX8_event x y g (nI p) (nI k) (nI t) v bc bs Φ Ψ := by
  have hlen := hr.ev.len p hp
  have hnp2 : d.n p < 300 := by
    have : p = 0 ∨ p = 1 ∨ p = 2 := by omega
    rcases this with e | e | e <;> subst e <;> omega
  have el : (S.R 0).length + (S.R 1).length + (S.R 2).length = d.n 0 + d.n 1 + d.n 2 := by rw [hr.ev.len 0 (by omega), hr.ev.len 1 (by omega), hr.ev.len 2 (by omega)]
  unfold wX8_event
  refine k_in (n := 3) hp (by omega) (ite0 (k_in (n := 8) hk (by omega) (ite0 (k_time (fun _ _ _ => ite1 (k_value (fun _ => ite1 (c_eventCount hc ⟨fun _ => ?_, fun c => absurd (show nI _ < nI 300 from nI_lt (by omega) (by omega)) c⟩)) fun q => absurd hv q)) fun q => absurd (p_time ht) q))))
  rw [p_cl (show p < 2 ^ 31 by omega)]
  refine ⟨vp_in_nI (by omega) (by omega), bc, bs, 0, 0, by omega, by omega, c_putTold hc (by omega) (by omega) hb fun x y g hS => ?_⟩
  rw [hS.len (by omega), show (cTold S p (nI k) (nI t) v).R p = S.R p ++ [upd (upd (upd pz 0 (nI k)) 1 (nI t)) 2 v] from cRw_R _ _ _ _, List.length_append, List.length_singleton, hlen]
  exact hΦ x y g hS
theorem q_bound {S x y g} (hc : RC S x y g) {p : Nat} {v : Int32} (hp : p < 3) (hv : (0 : Int32) ≤ v ∧ v ≤ 99) {bc bs : Nat} {Φ : Int32 → pK} {Ψ : String → pK} (hΦ : ∀ x y g, RC (uX S 6 p v) x y g → Φ (S.x 6 p) x y g) : wX8_bound x y g (nI p) v bc bs Φ Ψ := by
  have hin : vp_in (nI p) 3 := vp_in_nI (by omega) (by omega)
  unfold wX8_bound
  refine k_in (n := 3) hp (by omega) (ite0 (ifn (Int32.not_lt.2 hv.1) (ify hv.2 ⟨hin, ?_⟩)))
  rintro _ rfl
  rw [p_cl (show p < 2 ^ 31 by omega), hc.hx 6 (by omega)]
  have := hΦ _ _ _ (hc.X (k := 6) (i := p) (v := v) (by omega))
  rw [hc.hx 6 (by omega)] at this
  exact ⟨hin, this⟩
theorem q_idle0 {S M d i x y g} (hc : RC S x y g) (hr : Rel S M d i) (h5 : M.x 5 = 0) {p : Nat} {v : Int32} (hp : p < 3) {bc bs : Nat} {Φ : Int32 → pK} {Ψ : String → pK} (hΦ : ∀ x y g, RC (uX S 7 p v) x y g → Φ (S.x 2 0) x y g) : wX8_idle x y g (nI p) v bc bs Φ Ψ := by
  have hin : vp_in (nI p) 3 := vp_in_nI (by omega) (by omega)
  have zx : x 15 0 = 0 := by rw [hc.hx 15 (by omega), hr.pl.s15]; exact h5
  unfold wX8_idle
  refine k_in (n := 3) hp (by omega) (ite0 ⟨hin, ify zx ?_⟩)
  rw [p_cl (show p < 2 ^ 31 by omega)]
  have h := hΦ _ _ _ (hc.X (k := 7) (i := p) (v := v) (by omega))
  rw [hc.hx 2 (by omega)]
  exact h
theorem q_idle1 {S M d i x y g} (hc : RC S x y g) (hr : Rel S M d i) (h5 : M.x 5 = 1) {p : Nat} {v : Int32} (hp : p < 3) {bc bs : Nat} (hb : cOK S (cFind (uX S 7 p v)) bc bs) {Φ : Int32 → pK} {Ψ : String → pK} (hΦ : ∀ x y g, RC (cFind (uX S 7 p v)) x y g → Φ ((cFind (uX S 7 p v)).x 2 0) x y g) : wX8_idle x y g (nI p) v bc bs Φ Ψ := by
  have hin : vp_in (nI p) 3 := vp_in_nI (by omega) (by omega)
  have zx : ¬ x 15 0 = 0 := by rw [hc.hx 15 (by omega), hr.pl.s15, h5]; decide
  unfold wX8_idle
  refine k_in (n := 3) hp (by omega) (ite0 ⟨hin, ifn zx ⟨bc, bs, 0, 0, by omega, by omega, ?_⟩⟩)
  rw [p_cl (show p < 2 ^ 31 by omega)]
  have hr1 : Rel (uX S 7 p v) (mG M 18 p v) d i := hr.idl
  refine c_findR hr1 h5 (hc.X (k := 7) (i := p) (v := v) (by omega)) ⟨hb.c, hb.s⟩ fun x y g hS => ?_
  rw [hS.hx 2 (by omega)]
  exact hΦ x y g hS
theorem q_table {S x y g} (hc : RC S x y g) {k t : Nat} {v : Int32} (hk : k < 8) (ht : t < 1000) (hv : (-99 : Int32) ≤ v ∧ v ≤ 99) (hlt : (S.R 3).length < 60) {bc bs : Nat} (hb : cOK S (cTold S 3 (nI k) (nI t) v) bc bs) {Φ : Int32 → pK} {Ψ : String → pK} (hΦ : ∀ x y g, RC (cTold S 3 (nI k) (nI t) v) x y g → Φ (nI ((S.R 3).length + 1)) x y g) : wX8_table x y g (nI k) (nI t) v bc bs Φ Ψ := by
  unfold wX8_table
  rw [hc.len (q := 3) (by omega)]
  refine k_in (n := 8) hk (by omega) (ite0 (k_time (fun _ _ _ => ite1 (k_value (fun _ => ite1 (ify (show nI (S.R 3).length < nI 60 from nI_lt hlt (by omega)) ⟨bc, bs, 0, 0, by omega, by omega, c_putTold hc (by omega) (by omega) hb fun x y g hS => ?_⟩)) fun q => absurd hv q)) fun q => absurd (p_time ht) q))
  rw [hS.len (by omega), show (cTold S 3 (nI k) (nI t) v).R 3 = S.R 3 ++ [upd (upd (upd pz 0 (nI k)) 1 (nI t)) 2 v] from cRw_R _ _ _ _, List.length_append, List.length_singleton]
  exact hΦ x y g hS
theorem q_workers {S x y g} (hc : RC S x y g) {v : Int32} (hv : (1 : Int32) ≤ v ∧ v ≤ 4) {bc bs : Nat} {Φ : Int32 → pK} {Ψ : String → pK} (hΦ : ∀ x y g, RC (uX S 16 0 v) x y g → Φ (nI ((S.R 5).countP fun r => decide (pWk (r 0) v ≠ pWk (r 0) (S.x 16 0)))) x y g) : wX8_workers x y g v bc bs Φ Ψ := by
  unfold wX8_workers
  exact ifn (Int32.not_lt.2 hv.1) (ify hv.2 ⟨(S.R 5).length + 1, c_wkL hc hΦ (S.R 5) _ 0 0 rfl (by omega) (by omega) (by omega)⟩)
theorem c_step28 {S M d i x y g bc bs} (hr : Rel S M d i) (hc : RC S x y g) (h5 : M.x 5 = 1) {p : Nat} (hp : p < 3) (hrd : d.rd p < d.n p) (hT : TS0 S d) (hb : cOK S (cFind (cStep S p (d.rd p))) bc bs) {Φ : Int32 → pK} {Ψ : String → pK} (hΦ : ∀ x y g, RC (cFind (cStep S p (d.rd p))) x y g → Φ (x 1 4 - nI M.T.length) x y g) : wX0_readNext x y g (nI p) (fun r_108 x_108 y_108 g_108 => ((r_108 = 0 → (jX8_step_122 Φ Ψ x_108 y_108 g_108 (nI M.T.length) bc bs)) ∧ (¬ r_108 = 0 → (∃ kc_119 ks_119 bc_119 bs_119 : Nat, kc_119 + bc_119 ≤ bc ∧ ks_119 + bs_119 ≤ bs ∧ (wX0_putIntoWindows x_108 y_108 g_108 (nI p) kc_119 ks_119 (fun x_119 y_119 g_119 => (jX8_step_122 Φ Ψ x_119 y_119 g_119 (nI M.T.length) bc_119 bs_119))))))) := by
  obtain ⟨k, t, hk, ht, r0, g10, r1, g11, r2⟩ := hr.ev.row p hp _ hrd
  have hQ := hr.pl.q h5
  have z2 := hQ.z2
  have s2 := hQ.s2
  have s1 := hQ.s1
  have hlen := hr.ev.len p hp
  obtain ⟨M', m5, mR, -, -, -, -⟩ := step28 hr h5 hp hrd hT
  have hcapR : pSum (cRead S p (d.rd p)).cap = pSum S.cap := by
    unfold cRead; try dsimp only [CS.mk_R, CS.mk_cap, CS.mk_x, CS.mk_y, CS.mk_g, CS.mk_eta, MS.mk_x, MS.mk_g, MS.mk_V, MS.mk_T, MS.mk_eta, GD.mk_n, GD.mk_rd, GD.mk_c, GD.mk_tk, GD.mk_sz, GD.mk_sl, GD.mk_lt, GD.mk_eta]; simp only [CS.mk_R, CS.mk_cap, CS.mk_x, CS.mk_y, CS.mk_g, CS.mk_eta, MS.mk_x, MS.mk_g, MS.mk_V, MS.mk_T, MS.mk_eta, GD.mk_n, GD.mk_rd, GD.mk_c, GD.mk_tk, GD.mk_sz, GD.mk_sl, GD.mk_lt, GD.mk_eta, cRw, cG, p_us]
  have hsz := hr.sizes
  have hpl := pW_len (M.V 6)
  have htt : (S.R 4).length = M.T.length := by rw [hr.tt]
  have hwl : (S.R 5).length = (M.V 6).length := hr.st0.wr.len
  have R4 : (cRead S p (d.rd p)).R 4 = S.R 4 := cRw_Rn _ _ _ (by omega)
  have R5 : (cRead S p (d.rd p)).R 5 = S.R 5 := cRw_Rn _ _ _ (by omega)
  have e1 := cRead_row (S := S) (p := p) (r := d.rd p) (by omega)
  have grd : S.g 1 0 p = nI (d.rd p) := (hr.st0.rs p hp).1
  refine c_read hc hp (by omega) grd fun x y g h1 => ?_
  have hfm := cFindT_mon (cStep S p (d.rd p)) (fwmS (cStep S p (d.rd p)))
  have tail : ∀ x y g bc bs, RC (cStep S p (d.rd p)) x y g → cOK (cStep S p (d.rd p)) (cFind (cStep S p (d.rd p))) bc bs → jX8_step_122 Φ Ψ x y g (nI M.T.length) bc bs := fun x y g bc bs h2 hb2 =>
    ⟨bc, bs, 0, 0, by omega, by omega, c_findR mR m5 h2 hb2 fun x y g h3 => hΦ x y g h3⟩
  refine ⟨fun l => ?_, fun l => ?_⟩
  · have e : cStep S p (d.rd p) = cRead S p (d.rd p) := by unfold cStep; rw [if_pos l]
    rw [e] at tail hb
    exact tail x y g bc bs h1 (hb.trans0 hcapR)
  · have e : cStep S p (d.rd p) = cPut (cRead S p (d.rd p)) p (d.rd p) := by unfold cStep; rw [if_neg l]
    have hb1 : cOK (cRead S p (d.rd p)) (cFind (cStep S p (d.rd p))) bc bs := hb.trans0 hcapR
    obtain ⟨kc, ks, b2, s2', q1, q2, q3, q4⟩ := hb1.split (cStep S p (d.rd p)) (by rw [e]; exact cPut_mon _ _ _) hfm
    refine ⟨kc, ks, b2, s2', q1, q2, ?_⟩
    rw [e] at q3
    have g1 : (cRead S p (d.rd p)).g 1 0 p = nI (d.rd p + 1) := by
      unfold cRead; try dsimp only [CS.mk_R, CS.mk_cap, CS.mk_x, CS.mk_y, CS.mk_g, CS.mk_eta, MS.mk_x, MS.mk_g, MS.mk_V, MS.mk_T, MS.mk_eta, GD.mk_n, GD.mk_rd, GD.mk_c, GD.mk_tk, GD.mk_sz, GD.mk_sl, GD.mk_lt, GD.mk_eta]; rw [cRw_g]; simp only [CS.mk_R, CS.mk_cap, CS.mk_x, CS.mk_y, CS.mk_g, CS.mk_eta, MS.mk_x, MS.mk_g, MS.mk_V, MS.mk_T, MS.mk_eta, GD.mk_n, GD.mk_rd, GD.mk_c, GD.mk_tk, GD.mk_sz, GD.mk_sl, GD.mk_lt, GD.mk_eta, cG, p_ug, p_un _ _ (show (1 : Nat) ≠ 2 by decide), upd, if_true]
    refine c_put h1 (t := t) (sz := d.sz) (sl := d.sl) hp ?_ g1 (by rw [e1]; exact r1) ht hQ.zc hQ.sc s1 (by omega) (by omega) (by rw [R4, R5]; omega) q3 fun x y g h2 => tail x y g b2 s2' (by rw [e]; exact h2) q4
    rw [show (cRead S p (d.rd p)).R p = (S.R p).set (d.rd p) _ from cRw_R _ _ _ _, List.length_set]; omega
theorem step_capB {S M d i} (hr : Rel S M d i) (hc : CapB S) (h5 : M.x 5 = 1) {p : Nat} (hp : p < 3) (hrd : d.rd p < d.n p) (hT : TS0 S d) : CapB (cFind (cStep S p (d.rd p))) := by
  obtain ⟨k, t, hk, ht, r0, g10, r1, g11, r2⟩ := hr.ev.row p hp _ hrd
  have hQ := hr.pl.q h5
  have z2 := hQ.z2
  have s2 := hQ.s2
  have s1 := hQ.s1
  have hlen := hr.ev.len p hp
  obtain ⟨M', m5, mR, -, -, -, -⟩ := step28 hr h5 hp hrd hT
  have hsz := hr.sizes
  have hpl := pW_len (M.V 6)
  have htt : (S.R 4).length = M.T.length := by rw [hr.tt]
  have hwl : (S.R 5).length = (M.V 6).length := hr.st0.wr.len
  have R4 : (cRead S p (d.rd p)).R 4 = S.R 4 := cRw_Rn _ _ _ (by omega)
  have R5 : (cRead S p (d.rd p)).R 5 = S.R 5 := cRw_Rn _ _ _ (by omega)
  have e1 := cRead_row (S := S) (p := p) (r := d.rd p) (by omega)
  have okR : CapB (cRead S p (d.rd p)) := by
    unfold cRead
    exact CapB.rw (S := cG (cG S 2 0 _) 1 0 _) hc (hc p (by omega))
  have okS : CapB (cStep S p (d.rd p)) := by
    unfold cStep
    split
    · exact okR
    · unfold cPut
      try dsimp only [CS.mk_R, CS.mk_cap, CS.mk_x, CS.mk_y, CS.mk_g, CS.mk_eta, MS.mk_x, MS.mk_g, MS.mk_V, MS.mk_T, MS.mk_eta, GD.mk_n, GD.mk_rd, GD.mk_c, GD.mk_tk, GD.mk_sz, GD.mk_sl, GD.mk_lt, GD.mk_eta]
      split
      · exact okR.ses _ _ _ (by rw [R4, R5]; omega) (by rw [R5]; omega)
      · rw [e1, show (upd (upd (upd ((S.R p).getD (d.rd p) pz) 3 (cLets S (((S.R p).getD (d.rd p) pz) 2))) 4 (cAmt S ((S.R p).getD (d.rd p) pz))) 5 (S.x 2 0 - S.x 12 0)) 1 = nI t from r1, show (cRead S p (d.rd p)).x 11 0 = nI d.sl from hQ.sc, show (cRead S p (d.rd p)).x 10 0 = nI d.sz from hQ.zc, nI_back (by omega), nI_back (by omega), nI_back (by omega)]
        obtain ⟨bs, ebs, lbs, hbs⟩ := pB_nat (t / d.sl * d.sl) d.sl (d.sz / d.sl)
        have : d.sz / d.sl ≤ d.sz := Nat.div_le_self _ _
        rw [ebs]
        exact okR.sl _ _ _ (by rw [List.length_map, R4]; omega) (by rw [List.length_map, R5]; omega)
  have sz2 := mR.sizes
  have hpl2 := pW_len (M'.V 6)
  have tt2 : ((cStep S p (d.rd p)).R 4).length = M'.T.length := by rw [mR.tt]
  have wl2 : ((cStep S p (d.rd p)).R 5).length = (M'.V 6).length := mR.st0.wr.len
  exact okS.find (by omega)
