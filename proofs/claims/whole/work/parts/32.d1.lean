theorem m_trL {M x g} (h : RM M x g) {k b : Int32} {Φ : Int32 → pJ} : ∀ (B : List pRow) (n i : Nat) (v : Int32), M.T.drop i = B → i + B.length = M.T.length → B.length < n → Φ (B.foldl (trStep k b) v) x g → lX9_total_26 Φ n x g k b v (nI i) := by
  have hle := h.tl
  have e27 : g 27 6 = nI M.T.length := by rw [h.W 27 (by omega) (by omega)]; exact h.n27
  intro B
  induction B with
  | nil =>
    intro n i v hd hi hn hΦ
    obtain ⟨n, rfl⟩ : ∃ n', n = n' + 1 := ⟨n - 1, by omega⟩
    simp only [CS.mk_R, CS.mk_cap, CS.mk_x, CS.mk_y, CS.mk_g, CS.mk_eta, MS.mk_x, MS.mk_g, MS.mk_V, MS.mk_T, MS.mk_eta, GD.mk_n, GD.mk_rd, GD.mk_c, GD.mk_tk, GD.mk_sz, GD.mk_sl, GD.mk_lt, GD.mk_eta, List.length_nil, Nat.add_zero] at hi
    simp only [CS.mk_R, CS.mk_cap, CS.mk_x, CS.mk_y, CS.mk_g, CS.mk_eta, MS.mk_x, MS.mk_g, MS.mk_V, MS.mk_T, MS.mk_eta, GD.mk_n, GD.mk_rd, GD.mk_c, GD.mk_tk, GD.mk_sz, GD.mk_sl, GD.mk_lt, GD.mk_eta, lX9_total_26, p_6, e27, hi]
    exact ⟨p_vin6, fun _ => hΦ, fun c => absurd (nI_le (Nat.le_refl _) (by omega)) c⟩
  | cons r B ih =>
    intro n i v hd hi hn hΦ
    simp only [CS.mk_R, CS.mk_cap, CS.mk_x, CS.mk_y, CS.mk_g, CS.mk_eta, MS.mk_x, MS.mk_g, MS.mk_V, MS.mk_T, MS.mk_eta, GD.mk_n, GD.mk_rd, GD.mk_c, GD.mk_tk, GD.mk_sz, GD.mk_sl, GD.mk_lt, GD.mk_eta, List.length_cons] at hi hn
    obtain ⟨n, rfl⟩ : ∃ n', n = n' + 1 := ⟨n - 1, by omega⟩
    obtain ⟨hg, hd2, hlt⟩ := p_dropS hd
    have hin : vp_in (nI i) 8000 := vp_in_nI (by omega) (by omega)
    have c0 : g 38 i = r 0 := by rw [← hg]; exact h.res i 0 hlt (by omega)
    have c1 : g 39 i = r 1 := by rw [← hg]; exact h.res i 1 hlt (by omega)
    have c3 : g 41 i = r 3 := by rw [← hg]; exact h.res i 3 hlt (by omega)
    have c4 : g 42 i = r 4 := by rw [← hg]; exact h.res i 4 hlt (by omega)
    simp only [CS.mk_R, CS.mk_cap, CS.mk_x, CS.mk_y, CS.mk_g, CS.mk_eta, MS.mk_x, MS.mk_g, MS.mk_V, MS.mk_T, MS.mk_eta, GD.mk_n, GD.mk_rd, GD.mk_c, GD.mk_tk, GD.mk_sz, GD.mk_sl, GD.mk_lt, GD.mk_eta, List.foldl_cons] at hΦ
    simp only [CS.mk_R, CS.mk_cap, CS.mk_x, CS.mk_y, CS.mk_g, CS.mk_eta, MS.mk_x, MS.mk_g, MS.mk_V, MS.mk_T, MS.mk_eta, GD.mk_n, GD.mk_rd, GD.mk_c, GD.mk_tk, GD.mk_sz, GD.mk_sl, GD.mk_lt, GD.mk_eta, lX9_total_26, p_6, e27]
    rw [p_cl (show i < 2 ^ 31 by omega), c0, c1, c3, c4]
    have nxt : ∀ v2, trStep k b v r = v2 → ∀ w : Int32, w = nI i + 1 → lX9_total_26 Φ n x g k b v2 w := by
      rintro v2 e _ rfl
      rw [e] at hΦ
      rw [nI_1]
      exact ih n (i + 1) v2 hd2 (by omega) (by omega) hΦ
    refine ⟨p_vin6, fun c => absurd c (nI_ge (by omega) (by omega)), fun _ => ⟨hin, fun a => ⟨hin, fun a2 => ⟨hin, fun c => ⟨hin, ?_⟩, fun c => ⟨hin, fun d => ⟨hin, ?_⟩, fun d => ⟨hin, ?_⟩⟩⟩, fun a2 => nxt v ?_⟩, fun a => nxt v ?_⟩⟩
    · rintro _ rfl
      exact nxt _ (by unfold trStep; rw [if_pos ⟨a, a2⟩, if_pos c])
    · rintro _ rfl
      exact nxt _ (by unfold trStep; rw [if_pos ⟨a, a2⟩, if_neg c, if_pos d])
    · rintro _ rfl
      exact nxt _ (by unfold trStep; rw [if_pos ⟨a, a2⟩, if_neg c, if_neg d])
    · unfold trStep; rw [if_neg (fun e => a2 e.2)]
    · unfold trStep; rw [if_neg (fun e => a e.1)]
theorem case17 {i x y g f xm gm bc bs p1 p2} (hi : i + 5 ≤ 2560) (h : lInv i x y g f xm gm bc bs) : wlc17 x y g f xm gm p1 p2 bc bs (lInv (i + 5)) := by
  obtain ⟨S, M, d, hc, hm, hr, hb⟩ := h
  have hB := hb.min hc.capM hi
  refine ⟨5, 100, bc - 5, bs - 100, by omega, by omega, ?_⟩
  unfold wL_total wX8_total wX9_total
  rcases p_out (a := p1) (n := 8) (by omega) with ⟨k, hk, rfl⟩ | hp
  · refine k_in (n := 8) hk (by omega) (ite0 (c_totalOfResults hc (m_keyY hk (ite1 (m_yes ⟨M.T.length + 1, ?_⟩)))))
    have hm2 := hm.X 44 0
    refine m_trL hm2 M.T _ 0 0 rfl (by show 0 + M.T.length = M.T.length; omega) (by omega) ?_
    rw [hr.tt]
    exact end_ok rfl hc hm2 rfl ((hr.thrown 0).later (by omega)) (hb.same rfl hc.capM hi)
  · exact k_out (n := 8) (by omega) hp (ite1 ⟨by omega, by omega, rfl, m_keyN hp (ite0 (m_no (by decide) (end_exc hi hc hm hr hb (by decide))))⟩)
theorem m_wkL {M x g} (h : RM M x g) {w : Int32} {Φ : Int32 → pJ} (hΦ : Φ (nI ((M.V 6).countP fun r => decide (pWk (r 0) w ≠ pWk (r 0) (M.x 43)))) (va_up x 43 w) g) : ∀ (B : List pRow) (n i c : Nat), (M.V 6).drop i = B → i + B.length = (M.V 6).length → B.length < n → c + (B.countP fun r => decide (pWk (r 0) w ≠ pWk (r 0) (M.x 43))) = ((M.V 6).countP fun r => decide (pWk (r 0) w ≠ pWk (r 0) (M.x 43))) → lX9_workers_30 Φ n x g w (nI c) (nI (7200 + i)) := by
  have hle := h.len 6 (by omega)
  intro B
  induction B with
  | nil =>
    intro n i c hd hi hn hc
    obtain ⟨n, rfl⟩ : ∃ n', n = n' + 1 := ⟨n - 1, by omega⟩
    simp only [CS.mk_R, CS.mk_cap, CS.mk_x, CS.mk_y, CS.mk_g, CS.mk_eta, MS.mk_x, MS.mk_g, MS.mk_V, MS.mk_T, MS.mk_eta, GD.mk_n, GD.mk_rd, GD.mk_c, GD.mk_tk, GD.mk_sz, GD.mk_sl, GD.mk_lt, GD.mk_eta, List.length_nil, Nat.add_zero] at hi
    rw [List.countP_nil, Nat.add_zero] at hc
    simp only [CS.mk_R, CS.mk_cap, CS.mk_x, CS.mk_y, CS.mk_g, CS.mk_eta, MS.mk_x, MS.mk_g, MS.mk_V, MS.mk_T, MS.mk_eta, GD.mk_n, GD.mk_rd, GD.mk_c, GD.mk_tk, GD.mk_sz, GD.mk_sl, GD.mk_lt, GD.mk_eta, lX9_workers_30, wX9_placeOf, p_6, h.g28, hi]
    rw [show (7200 : Int32) = nI 7200 from rfl, nI_add, hc]
    exact ⟨p_vin6, fun _ => hΦ, fun c => absurd (nI_le (Nat.le_refl _) (by omega)) c⟩
  | cons r B ih =>
    intro n i c hd hi hn hc
    simp only [CS.mk_R, CS.mk_cap, CS.mk_x, CS.mk_y, CS.mk_g, CS.mk_eta, MS.mk_x, MS.mk_g, MS.mk_V, MS.mk_T, MS.mk_eta, GD.mk_n, GD.mk_rd, GD.mk_c, GD.mk_tk, GD.mk_sz, GD.mk_sl, GD.mk_lt, GD.mk_eta, List.length_cons] at hi hn
    obtain ⟨n, rfl⟩ : ∃ n', n = n' + 1 := ⟨n - 1, by omega⟩
    obtain ⟨hg, hd2, hlt⟩ := p_dropS hd
    have hin : vp_in (nI (7200 + i)) 8400 := vp_in_nI (by omega) (by omega)
    simp only [CS.mk_R, CS.mk_cap, CS.mk_x, CS.mk_y, CS.mk_g, CS.mk_eta, MS.mk_x, MS.mk_g, MS.mk_V, MS.mk_T, MS.mk_eta, GD.mk_n, GD.mk_rd, GD.mk_c, GD.mk_tk, GD.mk_sz, GD.mk_sl, GD.mk_lt, GD.mk_eta, lX9_workers_30, wX9_placeOf, wX9_workerOf, p_6, h.g28]
    rw [show (7200 : Int32) = nI 7200 from rfl, nI_add, p_cl (show 7200 + i < 2 ^ 31 by omega), show g 29 (7200 + i) = r 0 by rw [← hg]; exact h.w 0 hlt (by omega), h.hx]
    rw [List.countP_cons] at hc
    refine ⟨p_vin6, fun c => absurd c (nI_ge (by omega) (by omega)), fun _ => ⟨hin, hin, fun a => ?_, fun a => ?_⟩⟩
    · rw [if_neg (by simp [CS.mk_R, CS.mk_cap, CS.mk_x, CS.mk_y, CS.mk_g, CS.mk_eta, MS.mk_x, MS.mk_g, MS.mk_V, MS.mk_T, MS.mk_eta, GD.mk_n, GD.mk_rd, GD.mk_c, GD.mk_tk, GD.mk_sz, GD.mk_sl, GD.mk_lt, GD.mk_eta, pWk, a])] at hc
      rintro _ rfl _ rfl
      rw [nI_1, Int32.add_zero]
      have := ih n (i + 1) c hd2 (by omega) (by omega) hc
      rwa [h.hx] at this
    · rw [if_pos (decide_eq_true (show pWk (r 0) w ≠ pWk (r 0) (M.x 43) from a))] at hc
      rintro _ rfl _ rfl
      rw [nI_1, nI_1]
      have := ih n (i + 1) (c + 1) hd2 (by omega) (by omega) (by omega)
      rwa [h.hx] at this
theorem m_ldL {M x g} (h : RM M x g) {w : Int32} {Φ : Int32 → pJ} (hΦ : Φ (nI ((M.V 6).countP fun r => decide (pWk (r 0) (M.x 43) = w))) x g) : ∀ (B : List pRow) (n i c : Nat), (M.V 6).drop i = B → i + B.length = (M.V 6).length → B.length < n → c + (B.countP fun r => decide (pWk (r 0) (M.x 43) = w)) = ((M.V 6).countP fun r => decide (pWk (r 0) (M.x 43) = w)) → lX9_load_35 Φ n x g w (nI c) (nI (7200 + i)) := by
  have hle := h.len 6 (by omega)
  intro B
  induction B with
  | nil =>
    intro n i c hd hi hn hc
    obtain ⟨n, rfl⟩ : ∃ n', n = n' + 1 := ⟨n - 1, by omega⟩
    simp only [CS.mk_R, CS.mk_cap, CS.mk_x, CS.mk_y, CS.mk_g, CS.mk_eta, MS.mk_x, MS.mk_g, MS.mk_V, MS.mk_T, MS.mk_eta, GD.mk_n, GD.mk_rd, GD.mk_c, GD.mk_tk, GD.mk_sz, GD.mk_sl, GD.mk_lt, GD.mk_eta, List.length_nil, Nat.add_zero] at hi
    rw [List.countP_nil, Nat.add_zero] at hc
    simp only [CS.mk_R, CS.mk_cap, CS.mk_x, CS.mk_y, CS.mk_g, CS.mk_eta, MS.mk_x, MS.mk_g, MS.mk_V, MS.mk_T, MS.mk_eta, GD.mk_n, GD.mk_rd, GD.mk_c, GD.mk_tk, GD.mk_sz, GD.mk_sl, GD.mk_lt, GD.mk_eta, lX9_load_35, wX9_placeOf, p_6, h.g28, hi]
    rw [show (7200 : Int32) = nI 7200 from rfl, nI_add, hc]
    exact ⟨p_vin6, fun _ => hΦ, fun c => absurd (nI_le (Nat.le_refl _) (by omega)) c⟩
  | cons r B ih =>
    intro n i c hd hi hn hc
    simp only [CS.mk_R, CS.mk_cap, CS.mk_x, CS.mk_y, CS.mk_g, CS.mk_eta, MS.mk_x, MS.mk_g, MS.mk_V, MS.mk_T, MS.mk_eta, GD.mk_n, GD.mk_rd, GD.mk_c, GD.mk_tk, GD.mk_sz, GD.mk_sl, GD.mk_lt, GD.mk_eta, List.length_cons] at hi hn
    obtain ⟨n, rfl⟩ : ∃ n', n = n' + 1 := ⟨n - 1, by omega⟩
    obtain ⟨hg, hd2, hlt⟩ := p_dropS hd
    have hin : vp_in (nI (7200 + i)) 8400 := vp_in_nI (by omega) (by omega)
    simp only [CS.mk_R, CS.mk_cap, CS.mk_x, CS.mk_y, CS.mk_g, CS.mk_eta, MS.mk_x, MS.mk_g, MS.mk_V, MS.mk_T, MS.mk_eta, GD.mk_n, GD.mk_rd, GD.mk_c, GD.mk_tk, GD.mk_sz, GD.mk_sl, GD.mk_lt, GD.mk_eta, lX9_load_35, wX9_placeOf, wX9_workerOf, p_6, h.g28]
    rw [show (7200 : Int32) = nI 7200 from rfl, nI_add, p_cl (show 7200 + i < 2 ^ 31 by omega), show g 29 (7200 + i) = r 0 by rw [← hg]; exact h.w 0 hlt (by omega), h.hx]
    rw [List.countP_cons] at hc
    refine ⟨p_vin6, fun c => absurd c (nI_ge (by omega) (by omega)), fun _ => ⟨hin, fun a => ?_, fun a => ?_⟩⟩
    · rw [if_pos (decide_eq_true (show pWk (r 0) (M.x 43) = w from a))] at hc
      rintro _ rfl _ rfl
      rw [nI_1, nI_1]
      have := ih n (i + 1) (c + 1) hd2 (by omega) (by omega) (by omega)
      rwa [h.hx] at this
    · rw [if_neg (fun e : decide (pWk (r 0) (M.x 43) = w) = true => a (of_decide_eq_true e))] at hc
      rintro _ rfl _ rfl
      rw [nI_1, Int32.add_zero]
      have := ih n (i + 1) c hd2 (by omega) (by omega) hc
      rwa [h.hx] at this
theorem QR.x16 {S M sz sl lt} (h : QR S M sz sl lt) {v w : Int32} {k : Nat} (hk : k ≠ 6) : QR (uX S 16 0 v) (mX M k w) sz sl lt :=
  ⟨h.f0, h.f2, h.c0, h.c1, h.c2, h.lim, h.jn, h.jb, h.sh, h.sh1, h.sh2, h.zm, h.zc, h.z1, h.z2, h.sc, h.s1, h.s2, h.s9, h.s8, h.lm, h.lc, h.l2, h.m, h.m1, h.m2⟩
theorem Rel.work {S M d i} (h : Rel S M d i) {v : Int32} (hv : 1 ≤ v.toInt ∧ v.toInt ≤ 4) : Rel (uX S 16 0 v) (mX M 43 v) d i :=
  ⟨h.tx.elim fun n t => ⟨n, ⟨t.n60, t.m0, t.s19, t.s17, t.cap, t.c16, t.c70, t.by_, t.ch⟩⟩, ⟨h.ev.len, h.ev.cnt, h.ev.tot, h.ev.m8, h.ev.row, h.ev.rdn, h.ev.done⟩, ⟨h.tb.n60, h.tb.m19, h.tb.row⟩, h.lag, h.idle, ⟨h.pl.b, h.pl.s15, fun e => QR.x16 (h.pl.q e) (by decide), h.pl.z⟩, h.tt, ⟨h.st0.wr, h.st0.mkk, h.st0.mr, h.st0.lc, h.st0.rs, h.st0.gr, h.st0.g0, h.st0.m27, h.st0.x4, h.st0.cw, h.st0.pt⟩, h.st1.elim fun rd s => s.elim fun m s => ⟨rd, m, ⟨s.1.wr, s.1.mkk, s.1.mr, s.1.lc, s.1.rs, s.1.gr, s.1.g0, s.1.m27, s.1.x4, s.1.cw, s.1.pt⟩, s.2⟩, ⟨h.sn.c5, h.sn.s13, h.sn.m35, h.sn.s14, h.sn.m37, h.sn.y7, h.sn.inj, h.sn.num, h.sn.inc⟩, fun k hk => (h.std k hk).elim fun rd s => s.elim fun m s => ⟨rd, m, ⟨s.1.wr, s.1.mkk, s.1.mr, s.1.lc, s.1.rs, s.1.gr, s.1.g0, s.1.m27, s.1.x4, s.1.cw, s.1.pt⟩, s.2⟩, h.tki, ⟨rfl, hv⟩⟩
theorem case23 {i x y g f xm gm bc bs p1} (hi : i + 5 ≤ 2560) (h : lInv i x y g f xm gm bc bs) : wlc23 x y g f xm gm p1 bc bs (lInv (i + 5)) := by
  obtain ⟨S, M, d, hc, hm, hr, hb⟩ := h
  have hB := hb.min hc.capM hi
  refine ⟨5, 100, bc - 5, bs - 100, by omega, by omega, ?_⟩
  unfold wL_workers wX8_workers wX9_workers
  have no : ¬ (1 ≤ p1 ∧ p1 ≤ 4) → wX9_isIn p1 1 4 (fun r_4 => ((r_4 = 0 → (jX9_workers_15 (fun r xm1 gm1 => wX9_thrown xm1 gm1 (fun t => t = 1 ∧ ((1 : Int32) = 0 → f (0 : Int32).toNatClampNeg = r.toInt64) ∧ lInv (i + 5) x y g f xm1 gm1 (bc - 5) (bs - 100))) xm gm p1 1)) ∧ (¬ r_4 = 0 → (jX9_workers_15 (fun r xm1 gm1 => wX9_thrown xm1 gm1 (fun t => t = 1 ∧ ((1 : Int32) = 0 → f (0 : Int32).toNatClampNeg = r.toInt64) ∧ lInv (i + 5) x y g f xm1 gm1 (bc - 5) (bs - 100))) xm gm p1 0)))) := fun q =>
    m_isIn (fun a b => absurd ⟨a, b⟩ q) fun _ => ite0 (m_no (by decide) (end_exc hi hc hm hr hb (by decide)))
  refine ⟨fun c => ⟨by omega, by omega, rfl, no fun q => absurd q.1 (Int32.not_le.2 c)⟩, fun c => ⟨fun c2 => ?_, fun c2 => ⟨by omega, by omega, rfl, no fun q => c2 q.2⟩⟩⟩
  have hm2 := hm.X 44 0
  have hv : 1 ≤ p1.toInt ∧ p1.toInt ≤ 4 := ⟨i_le.1 (Int32.not_lt.1 c), i_le.1 c2⟩
  refine ⟨(S.R 5).length + 1, c_wkL hc (fun x y g h1 => ?_) (S.R 5) _ 0 0 rfl (by omega) (by omega) (by omega)⟩
  refine m_isIn (fun _ _ => ite1 (m_yes ⟨(M.V 6).length + 1, m_wkL hm2 ?_ (M.V 6) _ 0 0 rfl (by show 0 + (M.V 6).length = (M.V 6).length; omega) (by omega) (Nat.zero_add _)⟩)) (fun q => absurd ⟨Int32.not_lt.1 c, c2⟩ q)
  have hwr : WR d.sz (decide (S.y 5 0 = 10)) (S.R 5) (M.V 6) := hr.st0.wr
  have ecnt : ((S.R 5).countP fun r => decide (pWk (r 0) p1 ≠ pWk (r 0) (S.x 16 0))) = ((M.V 6).countP fun r => decide (pWk (r 0) p1 ≠ pWk (r 0) (M.x 43))) := by
    rw [hwr.perm.countP_eq, hr.wk.1]
  exact end_ok (by rw [ecnt]; rfl) h1 (hm2.X 43 p1) rfl (((hr.thrown 0).work hv).later (by omega)) (hb.same rfl hc.capM hi)
theorem case24 {i x y g f xm gm bc bs p1} (hi : i + 5 ≤ 2560) (h : lInv i x y g f xm gm bc bs) : wlc24 x y g f xm gm p1 bc bs (lInv (i + 5)) := by
  obtain ⟨S, M, d, hc, hm, hr, hb⟩ := h
  have hB := hb.min hc.capM hi
  obtain ⟨n, hn, en⟩ : ∃ n : Nat, n < 5 ∧ M.x 43 = nI n := by
    refine p_of (n := 5) (by omega) ⟨?_, ?_⟩
    · rw [i_le]; have := hr.wk.2.1; show (0 : Int) ≤ _; omega
    · rw [i_lt]; have := hr.wk.2.2; show _ < (5 : Int); omega
  have hs : S.x 16 0 = nI n := by rw [hr.wk.1, en]
  refine ⟨5, 100, bc - 5, bs - 100, by omega, by omega, ?_⟩
  unfold wL_load wX8_load wX9_load
  rw [hc.hx 16 (by omega), hs, hm.hx, en]
  have hm2 := hm.X 44 0
  rcases p_out (a := p1) (n := n) (by omega) with ⟨k, hk, rfl⟩ | hp
  · refine k_in hk (by omega) (ite0 ⟨(S.R 5).length + 1, c_ldL hc ?_ (S.R 5) _ 0 0 rfl (by omega) (by omega) (by omega)⟩)
    refine m_in0 hk (by omega) (nI_m1 (by omega)) (ite1 (m_yes ⟨(M.V 6).length + 1, ?_⟩))
    rw [← hm.hx]
    refine m_ldL hm2 ?_ (M.V 6) _ 0 0 rfl (by show 0 + (M.V 6).length = (M.V 6).length; omega) (by omega) (Nat.zero_add _)
    have hwr : WR d.sz (decide (S.y 5 0 = 10)) (S.R 5) (M.V 6) := hr.st0.wr
    have ecnt : ((S.R 5).countP fun r => decide (pWk (r 0) (S.x 16 0) = nI k)) = ((M.V 6).countP fun r => decide (pWk (r 0) (M.x 43) = nI k)) := by
      rw [hwr.perm.countP_eq, hr.wk.1]
    exact end_ok (by rw [ecnt]; rfl) hc hm2 rfl ((hr.thrown 0).later (by omega)) (hb.same rfl hc.capM hi)
  · refine k_out (by omega) hp (ite1 ⟨by omega, by omega, rfl, m_out0 (by omega) hp (nI_m1 (by omega)) (ite0 (m_no (by decide) ?_))⟩)
    rw [← hm.hx]
    exact end_exc hi hc hm hr hb (by decide)
def pAcc3 (acc : Option Int32) (v4 v5 : Int32) : Prop := (acc = none ∧ v5 = 0 ∧ v4 = 0) ∨ (v5 = 1 ∧ acc = some v4)
theorem QR.cnt {S M sz sl lt} (h : QR S M sz sl lt) : (M.g 6 0 = 1 ↔ S.y 3 0 = 1) := by
  rw [h.f0]; have := h.f2; exact nI_eq (b := 1) (by omega) (by omega)
theorem m_te128 {S M x g sz sl lt} {n rd : Nat → Nat} (h : RM M x g) (hq : QR S M sz sl lt) (he : EVR S M n rd) {p : Nat} (hp : p < 3) (hrd : M.g 23 (18 + p) = nI (rd p)) {k b : Nat} (hb : b < 1000) {W114 : (Nat → Int32) → (Nat → Nat → Int32) → Int32 → Int32 → Int32 → Int32 → Int32 → Prop} {Φ : Int32 → pJ} : ∀ (m f i : Nat) (acc : Option Int32) (v4 v5 : Int32), i + m = rd p → m < f → pAcc3 acc v4 v5 → (∀ v4 v5, pAcc3 ((((S.R p).take (rd p)).drop i).foldl (teStep S (nI k) (nI b)) acc) v4 v5 → W114 x g (nI k) (nI b) v4 v5 (nI (p + 1))) → lX9_totalAnew_128 W114 Φ f x g (nI k) (nI b) v4 v5 (nI p) (nI (300 * p + i)) := by
  have hz2 := hq.z2
  have hz1 := hq.z1
  have hrdn := he.rdn p hp
  have hlen := he.len p hp
  have htot := he.tot
  have hn3 : n p ≤ 300 := by
    have : p = 0 ∨ p = 1 ∨ p = 2 := by omega
    rcases this with e | e | e <;> subst e <;> omega
  intro m
  induction m with
  | zero =>
    intro f i acc v4 v5 him hmf ha hW
    obtain ⟨f, rfl⟩ : ∃ n', f = n' + 1 := ⟨f - 1, by omega⟩
    simp only [CS.mk_R, CS.mk_cap, CS.mk_x, CS.mk_y, CS.mk_g, CS.mk_eta, MS.mk_x, MS.mk_g, MS.mk_V, MS.mk_T, MS.mk_eta, GD.mk_n, GD.mk_rd, GD.mk_c, GD.mk_tk, GD.mk_sz, GD.mk_sl, GD.mk_lt, GD.mk_eta, lX9_totalAnew_128]
    rw [show (18 : Int32) = nI 18 from rfl, show (300 : Int32) = nI 300 from rfl, nI_add, p_mul, p_cl (show 18 + p < 2 ^ 31 by omega), h.W 23 (by omega) (by omega), hrd, nI_add]
    refine ⟨vp_in_nI (by omega) (by omega), fun _ => ?_, fun c => absurd (nI_le (by omega) (by omega)) c⟩
    rintro _ rfl
    rw [nI_1]
    refine hW v4 v5 ?_
    rw [List.drop_eq_nil_of_le (by rw [List.length_take]; omega)]
    exact ha
  | succ m ih =>
    intro f i acc v4 v5 him hmf ha hW
    obtain ⟨f, rfl⟩ : ∃ n', f = n' + 1 := ⟨f - 1, by omega⟩
    have hi : i < (S.R p).length := by omega
    have hcons : ((S.R p).take (rd p)).drop i = (S.R p).getD i pz :: ((S.R p).take (rd p)).drop (i + 1) := by
      rw [List.drop_eq_getElem_cons (by rw [List.length_take]; omega), List.getElem_take]
      congr 1
      simp [CS.mk_R, CS.mk_cap, CS.mk_x, CS.mk_y, CS.mk_g, CS.mk_eta, MS.mk_x, MS.mk_g, MS.mk_V, MS.mk_T, MS.mk_eta, GD.mk_n, GD.mk_rd, GD.mk_c, GD.mk_tk, GD.mk_sz, GD.mk_sl, GD.mk_lt, GD.mk_eta, List.getD, hi]
    rw [hcons, List.foldl_cons] at hW
    obtain ⟨kk, t, hk8, ht, r0, g10, r1, g11, r2⟩ := he.row p hp i (by omega)
    obtain ⟨d3, d3b, d4, d5, l1, l2, l3, l4⟩ := he.done p hp i (by omega)
    generalize hr : (S.R p).getD i pz = r at *
    have hin : vp_in (nI (300 * p + i)) 900 := vp_in_nI (by omega) (by omega)
    simp only [CS.mk_R, CS.mk_cap, CS.mk_x, CS.mk_y, CS.mk_g, CS.mk_eta, MS.mk_x, MS.mk_g, MS.mk_V, MS.mk_T, MS.mk_eta, GD.mk_n, GD.mk_rd, GD.mk_c, GD.mk_tk, GD.mk_sz, GD.mk_sl, GD.mk_lt, GD.mk_eta, lX9_totalAnew_128]
    rw [show (18 : Int32) = nI 18 from rfl, show (300 : Int32) = nI 300 from rfl, nI_add, p_mul, p_cl (show 18 + p < 2 ^ 31 by omega), h.W 23 (by omega) (by omega), hrd, nI_add, p_cl (show 300 * p + i < 2 ^ 31 by omega), h.W 13 (by omega) (by omega), h.W 10 (by omega) (by omega), h.W 11 (by omega) (by omega), h.W 6 (by omega) (by omega), h.W 15 (by omega) (by omega), h.W 16 (by omega) (by omega), p_5, hq.zm, nI_add, g10, g11]
    have hIn : pIn (S.x 10 0) (nI k) (nI b) r ↔ (M.g 13 (300 * p + i) ≠ 0 ∧ nI kk = nI k ∧ (nI b ≤ nI t ∧ nI t ≤ nI (b + sz) - 1) ∧ ¬ nI (b + sz) + M.g 16 (300 * p + i) ≤ M.g 15 (300 * p + i)) := by
      unfold pIn
      rw [r0, r1, d3, d5, hq.zc, nI_add]
      have e1 := nI_m1 (n := b + sz) (by omega)
      have e2 := nI_toInt (n := b + sz) (by omega)
      simp only [CS.mk_R, CS.mk_cap, CS.mk_x, CS.mk_y, CS.mk_g, CS.mk_eta, MS.mk_x, MS.mk_g, MS.mk_V, MS.mk_T, MS.mk_eta, GD.mk_n, GD.mk_rd, GD.mk_c, GD.mk_tk, GD.mk_sz, GD.mk_sl, GD.mk_lt, GD.mk_eta, i_lt, i_le, e1, e2, nI_toInt (show t < 2 ^ 31 by omega), nI_toInt (show b < 2 ^ 31 by omega)]
      rw [i_sub (by omega) (by omega), i_add (by omega) (by omega), e2]
      have e3 : M.g 13 (300 * p + i) = 1 ↔ M.g 13 (300 * p + i) ≠ 0 := ⟨fun q => by rw [q]; decide, fun q => d3b.resolve_left q⟩
      rw [e3]
      constructor
      · rintro ⟨a1, a2, a3, a4, a5⟩; exact ⟨a1, a2, ⟨by omega, by omega⟩, by omega⟩
      · rintro ⟨a1, a2, ⟨a3, a4⟩, a5⟩; exact ⟨a1, a2, by omega, by omega, by omega⟩
    have no : ¬ pIn (S.x 10 0) (nI k) (nI b) r → jX9_totalAnew_225 W114 (lX9_totalAnew_128 W114 Φ f) Φ x g (nI k) (nI b) v4 v5 (nI p) (nI (300 * p + i)) := fun q => by
      rw [te_neg q] at hW
      unfold jX9_totalAnew_225 jX9_totalAnew_226 jX9_totalAnew_249 jX9_totalAnew_279
      rw [p_0, h.W 6 (by omega) (by omega)]
      have go : ∀ w : Int32, w = nI (300 * p + i) + 1 → lX9_totalAnew_128 W114 Φ f x g (nI k) (nI b) v4 v5 (nI p) w := by
        rintro _ rfl
        rw [nI_1]
        exact ih f (i + 1) acc v4 v5 (by omega) (by omega) ha hW
      have fin : ∀ s : Int32, ((0 : Int32) = 0 → (v5 = 0 → ((0 : Int32) = 0 → ∀ (v7_298 : Int32), v7_298 = nI (300 * p + i) + 1 → lX9_totalAnew_128 W114 Φ f x g (nI k) (nI b) v4 0 (nI p) v7_298) ∧ (¬ (0 : Int32) = 0 → ∀ (v7_298 : Int32), v7_298 = nI (300 * p + i) + 1 → lX9_totalAnew_128 W114 Φ f x g (nI k) (nI b) v4 1 (nI p) v7_298)) ∧ (¬ v5 = 0 → ∀ (v7_298 : Int32), v7_298 = nI (300 * p + i) + 1 → lX9_totalAnew_128 W114 Φ f x g (nI k) (nI b) v4 1 (nI p) v7_298)) := fun _ _ => by
        rcases ha with ⟨_, e5, _⟩ | ⟨e5, _⟩
        · exact ⟨fun _ => ⟨fun _ w hw => by have := go w hw; rwa [e5] at this, fun c => absurd rfl c⟩, fun c => absurd e5 c⟩
        · exact ⟨fun c => absurd (e5.symm.trans c) (by decide), fun _ w hw => by have := go w hw; rwa [e5] at this⟩
      exact ⟨p_v9 (by decide), fun _ => ⟨fin 0, fun c => absurd rfl c⟩, fun _ => ⟨hin, fin 0, fun c => absurd rfl c⟩⟩
    have yes : pIn (S.x 10 0) (nI k) (nI b) r → jX9_totalAnew_226 W114 (lX9_totalAnew_128 W114 Φ f) Φ x g (nI k) (nI b) v4 v5 (nI p) (nI (300 * p + i)) 1 := fun q => by
      rw [te_pos q] at hW
      unfold jX9_totalAnew_226
      rw [p_0, h.W 6 (by omega) (by omega), h.W 14 (by omega) (by omega), p_cl (show 300 * p + i < 2 ^ 31 by omega)]
      have j : ∀ s : Int32, s = r 4 → jX9_totalAnew_249 W114 (lX9_totalAnew_128 W114 Φ f) Φ x g (nI k) (nI b) v4 v5 (nI p) (nI (300 * p + i)) 1 s := by
        rintro _ rfl
        unfold jX9_totalAnew_249 jX9_totalAnew_279
        refine ⟨fun c => absurd c (by decide), fun _ => ?_⟩
        rcases ha with ⟨rfl, rfl, rfl⟩ | ⟨rfl, rfl⟩
        · refine ⟨fun _ => ⟨fun _ => ⟨fun c => absurd c (by decide), fun _ => ?_⟩, fun c => absurd rfl c⟩, fun c => absurd rfl c⟩
          rintro _ rfl
          rw [nI_1]
          exact ih f (i + 1) _ _ 1 (by omega) (by omega) (.inr ⟨rfl, rfl⟩) hW
        · refine ⟨fun c => absurd c (by decide), fun _ => m_reckoned h ⟨fun c => absurd c (by decide), fun _ => ?_⟩⟩
          rintro _ rfl
          rw [nI_1, hq.fold]
          exact ih f (i + 1) _ _ 1 (by omega) (by omega) (.inr ⟨rfl, rfl⟩) hW
      unfold mIts at d4
      exact ⟨p_v9 (by decide), fun c => j 1 (by rw [d4, if_pos c]), fun c => ⟨hin, j _ (by rw [d4, if_neg c])⟩⟩
    refine ⟨vp_in_nI (by omega) (by omega), fun c => absurd c (nI_ge (by omega) (by omega)), fun _ => ⟨hin, fun a => no fun q => (hIn.1 q).1 a, fun a => ⟨hin, fun a2 => ⟨hin, p_v9 (by decide), m_isIn (fun b1 b2 => ite1 ⟨p_v9 (by decide), hin, hin, fun c => no fun q => (hIn.1 q).2.2.2 c, fun c => yes (hIn.2 ⟨a, a2, ⟨b1, b2⟩, c⟩)⟩) (fun b1 => ite0 (no fun q => b1 (hIn.1 q).2.2.1))⟩, fun a2 => no fun q => a2 (hIn.1 q).2.1⟩⟩⟩
theorem m_te114 {S M x g sz sl lt} {n rd : Nat → Nat} (h : RM M x g) (hq : QR S M sz sl lt) (he : EVR S M n rd) (hrd : ∀ p, p < 3 → M.g 23 (18 + p) = nI (rd p)) {k b : Nat} (hb : b < 1000) {Φ : Int32 → pJ} : ∀ (m f p : Nat) (acc : Option Int32) (v4 v5 : Int32), p + m = 3 → m < f → pAcc3 acc v4 v5 → Φ ((((List.range' p m).flatMap fun p => (S.R p).take (rd p)).foldl (teStep S (nI k) (nI b)) acc).getD 0) x g → lX9_totalAnew_114 Φ f x g (nI k) (nI b) v4 v5 (nI p) := by
  intro m
  induction m with
  | zero =>
    intro f p acc v4 v5 hpm hmf ha hΦ
    obtain ⟨f, rfl⟩ : ∃ n', f = n' + 1 := ⟨f - 1, by omega⟩
    have hp : p = 3 := by omega
    subst hp
    refine ⟨fun _ => ?_, fun c => absurd (show (3 : Int32) ≤ nI 3 from by decide) c⟩
    rcases ha with ⟨rfl, rfl, rfl⟩ | ⟨rfl, rfl⟩
    · exact hΦ
    · exact hΦ
  | succ m ih =>
    intro f p acc v4 v5 hpm hmf ha hΦ
    obtain ⟨f, rfl⟩ : ∃ n', f = n' + 1 := ⟨f - 1, by omega⟩
    rw [List.range'_succ, List.flatMap_cons, List.foldl_append] at hΦ
    refine ⟨fun c => absurd (show nI 3 ≤ nI p from c) (nI_ge (by omega) (by omega)), fun _ => ?_⟩
    rintro _ rfl
    refine ⟨rd p + 1, ?_⟩
    rw [show (300 : Int32) = nI 300 from rfl, p_mul]
    exact m_te128 h hq he (by omega) (hrd p (by omega)) hb (rd p) _ 0 acc v4 v5 (by omega) (by omega) ha fun v4 v5 ha => ih f (p + 1) _ v4 v5 (by omega) (by omega) ha hΦ
theorem QR.m44 {S M sz sl lt} (h : QR S M sz sl lt) (v : Int32) : QR S (mX M 44 v) sz sl lt := h.ofx rfl
theorem case18 {i x y g f xm gm bc bs p1 p2} (hi : i + 5 ≤ 2560) (h : lInv i x y g f xm gm bc bs) : wlc18 x y g f xm gm p1 p2 bc bs (lInv (i + 5)) := by
  obtain ⟨S, M, d, hc, hm, hr, hb⟩ := h
  have hB := hb.min hc.capM hi
  have hm2 := hm.X 44 0
  have hr2 := hr.thrown 0
  refine ⟨5, 100, bc - 5, bs - 100, by omega, by omega, ?_⟩
  unfold wL_totalAnew wX8_totalAnew wX9_totalAnew jX9_totalAnew_29
  rw [hc.hx 15 (by omega), hc.hy 5 (by omega), hr.pl.s15, hm.hx, p_4, hm.W 6 (by omega) (by omega)]
  rcases p_out (a := p1) (n := 8) (by omega) with ⟨k, hk, rfl⟩ | hp
  · refine k_in (n := 8) hk (by omega) (ite0 ⟨fun z => ?_, fun z => ⟨fun s => ?_, fun s => ?_⟩⟩)
    · refine ⟨by omega, by omega, .inr ⟨rfl, m_keyY hk (ite1 ⟨fun _ => m_no (by decide) ?_, fun c => absurd z c⟩)⟩⟩
      rw [← hm.hx]
      exact end_exc hi hc hm hr hb (by decide)
    · have hq := hr.pl.q (hr.pl.b.resolve_left z)
      have e4 : M.g 6 4 = 2 := by rw [hq.sh, s]; rfl
      refine ⟨by omega, by omega, .inr ⟨rfl, m_keyY hk (ite1 ⟨fun c => absurd c z, fun _ => ⟨p_v9 (by decide), fun _ => m_no (by decide) ?_, fun c => absurd e4 c⟩⟩)⟩⟩
      rw [← hm.hx]
      exact end_exc hi hc hm hr hb (by decide)
    · have hq := hr.pl.q (hr.pl.b.resolve_left z)
      have hq2 := hr2.pl.q (hr.pl.b.resolve_left z)
      have s1 := hq.s1
      have s2 := hq.s2
      have z2 := hq.z2
      have e4 : ¬ M.g 6 4 = 2 := fun e => s (by
        rw [hq.sh] at e
        have := hq.sh1
        have := hq.sh2
        have := (nI_eq (a := S.y 5 0 - 8) (b := 2) (by omega) (by omega)).1 e
        omega)
      have hrd : ∀ p, p < 3 → S.g 1 0 p = nI (d.rd p) := fun p hp => (hr.st0.rs p hp).1
      have hrm : ∀ p, p < 3 → (mX M 44 0).g 23 (18 + p) = nI (d.rd p) := fun p hp => by
        have := (hr.st0.rs p hp).2
        rwa [show 3 * 6 + p = 18 + p by omega] at this
      refine c_totalOfEvents hc hq.sc (by omega) (by omega) (rd := d.rd) (fun p hp => by rw [hr.ev.len p hp]; exact hr.ev.rdn p hp) hrd ?_
      refine m_keyY hk (ite1 ⟨fun c => absurd c z, fun _ => ⟨p_v9 (by decide), fun c => absurd c e4, fun _ => m_yes ?_⟩⟩)
      rw [← hm.hx, p_4, p_5, p_6, hm.W 6 (by omega) (by omega)]
      have fin : ∀ v, v = cTotA S d.rd d.sl (nI k) p2 → wX9_thrown (va_up xm 44 0) gm (fun t => t = 0 ∧ ((0 : Int32) = 0 → vp_updL f (0 : Int32).toNatClampNeg (cTotA S d.rd d.sl (nI k) p2).toInt64 (0 : Int32).toNatClampNeg = v.toInt64) ∧ lInv (i + 5) x y g (vp_updL f (0 : Int32).toNatClampNeg (cTotA S d.rd d.sl (nI k) p2).toInt64) (va_up xm 44 0) gm (bc - 5) (bs - 100)) := fun v e =>
        end_ok e.symm hc hm2 rfl ((hr.thrown 0).later (by omega)) (hb.same rfl hc.capM hi)
      have j67 : jX9_totalAnew_67 (fun r xm1 gm1 => wX9_thrown xm1 gm1 (fun t => t = 0 ∧ ((0 : Int32) = 0 → vp_updL f (0 : Int32).toNatClampNeg (cTotA S d.rd d.sl (nI k) p2).toInt64 (0 : Int32).toNatClampNeg = r.toInt64) ∧ lInv (i + 5) x y g (vp_updL f (0 : Int32).toNatClampNeg (cTotA S d.rd d.sl (nI k) p2).toInt64) xm1 gm1 (bc - 5) (bs - 100))) (va_up xm 44 0) gm (nI k) p2 (nI d.sl) := by
        unfold jX9_totalAnew_67
        rw [p_5, p_6, hm.W 6 (by omega) (by omega), hm.W 25 (by omega) (by omega), hq.zm, ← hq.zc, ← hr.st0.mkk]
        refine ⟨fun c => fin 0 (by unfold cTotA; rw [if_pos c]), fun c => ⟨fun d => fin 0 (by unfold cTotA; rw [if_neg c, if_pos d]), fun d' => ⟨nI_ne0 s1 (by omega), fun e => ⟨p_v9 (by decide), p_vin6, fun e2 => ?_, fun e2 => fin 0 (by unfold cTotA; rw [if_neg c, if_neg d', if_pos e, if_neg e2])⟩, fun e => fin 0 (by unfold cTotA; rw [if_neg c, if_neg d', if_neg e])⟩⟩⟩
        obtain ⟨b, hb1, rfl⟩ : ∃ b : Nat, b < 1000 ∧ p2 = nI b := p_of (n := 1000) (by omega) ⟨Int32.not_lt.1 c, by
          have := Int32.not_lt.1 d'
          rw [i_le] at this
          rw [i_lt]
          change _ < (1000 : Int)
          change _ ≤ (999 : Int) at this
          omega⟩
        refine ⟨4, m_te114 hm2 hq2 hr2.ev hrm hb1 3 4 0 none 0 0 (by omega) (by omega) (.inl ⟨rfl, rfl, rfl⟩) (fin _ ?_)⟩
        unfold cTotA
        rw [if_neg c, if_neg d', if_pos e, if_pos e2]
        rfl
      refine ⟨p_v9 (by decide), fun c => ⟨p_v9 (by decide), ?_⟩, fun c => ⟨p_v9 (by decide), ?_⟩⟩
      · have h9 : S.y 5 0 ≠ 9 := fun e => by rw [hq.sh, e] at c; exact absurd c (by decide)
        rw [hq.zm, ← (hq.s8 h9).2]
        exact j67
      · have h9 : S.y 5 0 = 9 := by
          have := hq.sh1
          have := hq.sh2
          have : S.y 5 0 ≠ 8 := fun e => c (by rw [hq.sh, e]; rfl)
          omega
        rw [(hq.s9 h9).1]
        exact j67
  · refine k_out (n := 8) (by omega) hp (ite1 ⟨by omega, by omega, .inl ⟨rfl, m_keyN hp (ite0 (m_no (by decide) ?_))⟩⟩)
    rw [← hm.hx]
    exact end_exc hi hc hm hr hb (by decide)
theorem k_time {a : Int32} {Φ : Int32 → Prop} (h1 : ∀ t, t < 1000 → a = nI t → Φ 1) (h0 : ¬ ((0 : Int32) ≤ a ∧ a ≤ 999) → Φ 0) : wX8_isTime a Φ := by
  unfold wX8_isTime
  refine ⟨fun c => h0 fun q => absurd q.1 (Int32.not_le.2 c), fun c => ⟨fun c2 => h0 fun q => absurd q.2 (Int32.not_le.2 c2), fun c2 => ?_⟩⟩
  obtain ⟨t, ht, e⟩ := p_of (a := a) (n := 1000) (by omega) ⟨Int32.not_lt.1 c, by
    have := Int32.not_lt.1 c2
    rw [i_le] at this
    rw [i_lt]
    change _ < (1000 : Int)
    change _ ≤ (999 : Int) at this
    omega⟩
  exact h1 t ht e
theorem k_value {a : Int32} {Φ : Int32 → Prop} (h1 : (-99 : Int32) ≤ a ∧ a ≤ 99 → Φ 1) (h0 : ¬ ((-99 : Int32) ≤ a ∧ a ≤ 99) → Φ 0) : wX8_isValue a Φ :=
  ⟨fun c => h0 fun q => absurd q.1 (Int32.not_le.2 c), fun c => ⟨fun c2 => h0 fun q => absurd q.2 (Int32.not_le.2 c2), fun c2 => h1 ⟨Int32.not_lt.1 c, Int32.not_lt.1 c2⟩⟩⟩
theorem p_time {t : Nat} (h : t < 1000) : (0 : Int32) ≤ nI t ∧ nI t ≤ 999 := by
  rw [i_le, i_le, nI_toInt (by omega)]
  exact ⟨Int.natCast_nonneg t, by change (t : Int) ≤ 999; omega⟩
theorem cOK.mono {S T : CS} {a b a' b' : Nat} (h : cOK S T a b) (h1 : a ≤ a') (h2 : b ≤ b') : cOK S T a' b' := ⟨by have := h.c; omega, by have := h.s; omega⟩
theorem end_exc2 {S M d i x y g xm gm bc bs f} {k : Int32} {r : Int32} {f1 : Nat → Int64} (hc : RC S x y g) (hm : RM M xm gm) (hr : Rel S M d i) (hb : BG S (i + 5) bc bs) (hk : k ≠ 0) : wX9_thrown (va_up xm 44 k) gm (fun t => t = k ∧ (k = 0 → f1 (0 : Int32).toNatClampNeg = r.toInt64) ∧ lInv (i + 5) x y g f (va_up xm 44 k) gm bc bs) := by
  unfold wX9_thrown
  rw [p_ug]
  exact ⟨rfl, fun e => absurd e hk, S, mX M 44 k, d, hc, hm.X 44 k, (hr.thrown k).later (by omega), hb⟩
theorem STR.fr {S M S' M' sz ses a p rd m} (h : STR S M sz ses a p rd m) (e1 : S'.R (5 + a) = S.R (5 + a)) (e2 : ∀ k, 2 ≤ k → k ≤ 4 → S'.x k a = S.x k a) (e3 : ∀ k, 1 ≤ k → k ≤ 2 → S'.g k a = S.g k a) (e4 : M'.V p = M.V p) (e5 : ∀ k, 25 ≤ k → k ≤ 27 → M'.g k p = M.g k p) (e6 : ∀ k i, 23 ≤ k → k ≤ 24 → i < 3 → M'.g k (3 * p + i) = M.g k (3 * p + i)) : STR S' M' sz ses a p rd m := by
  refine ⟨by rw [e1, e4]; exact h.wr, by rw [e2 2 (by omega) (by omega), e5 25 (by omega) (by omega)]; exact h.mkk, by rw [e2 2 (by omega) (by omega)]; exact h.mr, by rw [e2 3 (by omega) (by omega), e5 26 (by omega) (by omega)]; exact h.lc, fun i hi => ?_, fun i hi hr => ?_, fun i hi hr => ?_, by rw [e5 27 (by omega) (by omega)]; exact h.m27, by rw [e2 4 (by omega) (by omega)]; exact h.x4, by rw [e4]; exact h.cw, by rw [e4]; exact h.pt⟩
  · rw [e3 1 (by omega) (by omega), e6 23 i (by omega) (by omega) hi]; exact h.rs i hi
  · rw [e3 2 (by omega) (by omega), e6 24 i (by omega) (by omega) hi]; exact h.gr i hi hr
  · rw [e6 24 i (by omega) (by omega) hi]; exact h.g0 i hi hr
theorem EVR.fr {S M S' M' n rd} (h : EVR S M n rd) (e1 : ∀ p, p < 3 → S'.R p = S.R p) (e2 : ∀ k, 9 ≤ k → k ≤ 16 → M'.g k = M.g k) (e3 : M'.x 8 = M.x 8) (e4 : M'.g 6 0 = M.g 6 0) : EVR S' M' n rd := by
  have ei : ∀ v, mIts M' v = mIts M v := fun v => by unfold mIts; rw [e4]
  refine ⟨fun p hp => by rw [e1 p hp]; exact h.len p hp, fun p hp => by rw [e2 9 (by omega) (by omega)]; exact h.cnt p hp, h.tot, by rw [e3]; exact h.m8, fun p hp r hr => ?_, h.rdn, fun p hp r hr => ?_⟩
  · rw [e1 p hp, e2 10 (by omega) (by omega), e2 11 (by omega) (by omega), e2 12 (by omega) (by omega)]; exact h.row p hp r hr
  · rw [e1 p hp, e2 13 (by omega) (by omega), e2 14 (by omega) (by omega), e2 15 (by omega) (by omega), e2 16 (by omega) (by omega), ei]; exact h.done p hp r hr
theorem QR.tb {S M sz sl lt} (h : QR S M sz sl lt) {S' : CS} {M' : MS} (ex : S'.x = S.x) (ey : S'.y = S.y) (eg : M'.g 6 = M.g 6) : QR S' M' sz sl lt := by
  refine ⟨?_, ?_, ?_, ?_, ?_, ?_, ?_, ?_, ?_, ?_, ?_, ?_, ?_, ?_, ?_, ?_, ?_, ?_, ?_, ?_, ?_, ?_, ?_, ?_, ?_, ?_⟩
  all_goals try simp only [CS.mk_R, CS.mk_cap, CS.mk_x, CS.mk_y, CS.mk_g, CS.mk_eta, MS.mk_x, MS.mk_g, MS.mk_V, MS.mk_T, MS.mk_eta, GD.mk_n, GD.mk_rd, GD.mk_c, GD.mk_tk, GD.mk_sz, GD.mk_sl, GD.mk_lt, GD.mk_eta, ex, ey, eg]
  · exact h.f0
  · exact h.f2
  · exact h.c0
  · exact h.c1
  · exact h.c2
  · exact h.lim
  · exact h.jn
  · exact h.jb
  · exact h.sh
  · exact h.sh1
  · exact h.sh2
  · exact h.zm
  · exact h.zc
  · exact h.z1
  · exact h.z2
  · exact h.sc
  · exact h.s1
  · exact h.s2
  · exact h.s9
  · exact h.s8
  · exact h.lm
  · exact h.lc
  · exact h.l2
  · exact h.m
  · exact h.m1
  · exact h.m2
def mTab (M : MS) (N : Nat) (k t v : Int32) : MS := mG (mG (mG (mX M 19 (nI (N + 1))) 20 N k) 21 N t) 22 N v
theorem Rel.tab {S M d i} (h : Rel S M d i) {k v : Int32} {t : Nat} (ht : t < 1000) (hN : (S.R 3).length < 60) : Rel (cTold S 3 k (nI t) v) (mTab M (S.R 3).length k (nI t) v) d i := by
  have eR : (cTold S 3 k (nI t) v).R 3 = S.R 3 ++ [upd (upd (upd pz 0 k) 1 (nI t)) 2 v] := cRw_R _ _ _ _
  have en : ∀ q, q ≠ 3 → (cTold S 3 k (nI t) v).R q = S.R q := fun q hq => cRw_Rn _ _ _ hq
  have tb : TBR (cTold S 3 k (nI t) v) (mTab M (S.R 3).length k (nI t) v) := by
    refine ⟨by rw [eR, List.length_append, List.length_singleton]; omega, by rw [eR, List.length_append, List.length_singleton]; rfl, fun r hr => ?_⟩
    rw [eR] at hr ⊢
    rw [List.length_append, List.length_singleton] at hr
    by_cases e : r < (S.R 3).length
    · rw [p_getD_l e]
      obtain ⟨a, b, c, t2, d1, d2⟩ := h.tb.row r e
      refine ⟨?_, ?_, ?_, t2, d1, ?_⟩
      · show _ = upd _ _ _ r; rw [upd, if_neg (by omega)]; exact a
      · show _ = upd _ _ _ r; rw [upd, if_neg (by omega)]; exact b
      · show _ = upd _ _ _ r; rw [upd, if_neg (by omega)]; exact c
      · show upd _ _ _ r = _; rw [upd, if_neg (by omega)]; exact d2
    · have er : r = (S.R 3).length := by omega
      subst er
      rw [p_getD_r (Nat.le_refl _), Nat.sub_self]
      refine ⟨?_, ?_, ?_, t, ht, ?_⟩
      · show _ = upd _ _ _ _; rw [upd, if_pos rfl]; rfl
      · show _ = upd _ _ _ _; rw [upd, if_pos rfl]; rfl
      · show _ = upd _ _ _ _; rw [upd, if_pos rfl]; rfl
      · show upd _ _ _ _ = _; rw [upd, if_pos rfl]
  have ev : EVR (cTold S 3 k (nI t) v) (mTab M (S.R 3).length k (nI t) v) d.n d.rd := h.ev.fr (fun p hp => en p (by omega)) (fun j h1 h2 => by
    simp only [CS.mk_R, CS.mk_cap, CS.mk_x, CS.mk_y, CS.mk_g, CS.mk_eta, MS.mk_x, MS.mk_g, MS.mk_V, MS.mk_T, MS.mk_eta, GD.mk_n, GD.mk_rd, GD.mk_c, GD.mk_tk, GD.mk_sz, GD.mk_sl, GD.mk_lt, GD.mk_eta, mTab, mG, mX, p_un _ _ (show j ≠ 20 by omega), p_un _ _ (show j ≠ 21 by omega), p_un _ _ (show j ≠ 22 by omega)]) rfl rfl
  have fr : ∀ {a p rd m}, STR S M d.sz (decide (S.y 5 0 = 10)) a p rd m → STR (cTold S 3 k (nI t) v) (mTab M (S.R 3).length k (nI t) v) d.sz (decide (S.y 5 0 = 10)) a p rd m := fun {a p rd m} s => s.fr (en _ (by omega)) (fun _ _ _ => rfl) (fun _ _ _ => rfl) rfl (fun j h1 h2 => by
    simp only [CS.mk_R, CS.mk_cap, CS.mk_x, CS.mk_y, CS.mk_g, CS.mk_eta, MS.mk_x, MS.mk_g, MS.mk_V, MS.mk_T, MS.mk_eta, GD.mk_n, GD.mk_rd, GD.mk_c, GD.mk_tk, GD.mk_sz, GD.mk_sl, GD.mk_lt, GD.mk_eta, mTab, mG, mX, p_un _ _ (show j ≠ 20 by omega), p_un _ _ (show j ≠ 21 by omega), p_un _ _ (show j ≠ 22 by omega)]) (fun j _ h1 h2 _ => by
    simp only [CS.mk_R, CS.mk_cap, CS.mk_x, CS.mk_y, CS.mk_g, CS.mk_eta, MS.mk_x, MS.mk_g, MS.mk_V, MS.mk_T, MS.mk_eta, GD.mk_n, GD.mk_rd, GD.mk_c, GD.mk_tk, GD.mk_sz, GD.mk_sl, GD.mk_lt, GD.mk_eta, mTab, mG, mX, p_un _ _ (show j ≠ 20 by omega), p_un _ _ (show j ≠ 21 by omega), p_un _ _ (show j ≠ 22 by omega)])
  exact ⟨h.tx.elim fun n t => ⟨n, ⟨t.n60, t.m0, t.s19, t.s17, t.cap, t.c16, t.c70, t.by_, t.ch⟩⟩, ev, tb, h.lag, h.idle, ⟨h.pl.b, h.pl.s15, fun e => (h.pl.q e).tb rfl rfl rfl, h.pl.z⟩, by rw [en 4 (by decide)]; exact h.tt, fr h.st0, h.st1.elim fun rd s => s.elim fun m s => ⟨rd, m, fr s.1, s.2⟩, ⟨h.sn.c5, h.sn.s13, h.sn.m35, h.sn.s14, h.sn.m37, h.sn.y7, h.sn.inj, h.sn.num, h.sn.inc⟩, fun k hk => (h.std k hk).elim fun rd s => s.elim fun m s => ⟨rd, m, fr s.1, s.2⟩, h.tki, h.wk⟩
theorem cTold_mon (S : CS) {q : Nat} (hq : q < 4) (k t v : Int32) : pSum S.cap ≤ pSum (cTold S q k t v).cap := cMon_rw _ (by omega) (pgrow_ge _ _)
theorem pgrow_cap {c n : Nat} {w : Nat} (h1 : c ≤ 8192 * w) (h2 : n ≤ 4096) : pgrow c (n * w) ≤ 8192 * w := by
  have := Nat.mul_le_mul_right w h2
  exact pgrow_le h1 (by omega) (by omega)
theorem cRw_cap {S x y g} (h : RC S x y g) {q c : Nat} (hq : q < 12) (W : List pRow) (hc : c ≤ 8192 * pwq q) : pSum (cRw S q W c).cap ≤ 557056 := by
  have f : ∀ j, j < 12 → (cRw S q W c).cap j ≤ 8192 * pwq j := fun j hj => by
    by_cases e : j = q
    · subst e; rw [cRw_c]; exact hc
    · rw [cRw_cn _ _ _ e]; exact (h.rows j hj).cm
  have h0 := f 0 (by omega); have h1 := f 1 (by omega); have h2 := f 2 (by omega); have h3 := f 3 (by omega)
  have h4 := f 4 (by omega); have h5 := f 5 (by omega); have h6 := f 6 (by omega); have h7 := f 7 (by omega)
  have h8 := f 8 (by omega); have h9 := f 9 (by omega); have h10 := f 10 (by omega); have h11 := f 11 (by omega)
  simp only [CS.mk_R, CS.mk_cap, CS.mk_x, CS.mk_y, CS.mk_g, CS.mk_eta, MS.mk_x, MS.mk_g, MS.mk_V, MS.mk_T, MS.mk_eta, GD.mk_n, GD.mk_rd, GD.mk_c, GD.mk_tk, GD.mk_sz, GD.mk_sl, GD.mk_lt, GD.mk_eta, pwq] at h0 h1 h2 h3 h4 h5 h6 h7 h8 h9 h10 h11
  simp at h0 h1 h2 h3 h4 h5 h6 h7 h8 h9 h10 h11
  unfold pSum
  omega
theorem case7 {i x y g f xm gm bc bs p1 p2 p3} (hi : i + 5 ≤ 2560) (h : lInv i x y g f xm gm bc bs) : wlc7 x y g f xm gm p1 p2 p3 bc bs (lInv (i + 5)) := by
  obtain ⟨S, M, d, hc, hm, hr, hb⟩ := h
  have hm2 := hm.X 44 0
  have hN := hr.tb.n60
  have exS : ∃ kc ks b2 s2 : Nat, kc + b2 ≤ bc ∧ ks + s2 ≤ bs ∧ 5 ≤ kc ∧ 100 ≤ ks ∧ cOK S S (kc - 5) (ks - 100) ∧ BG S (i + 5) b2 s2 := hb.call (Nat.le_refl _) hc.capM hi
  unfold wlc7 wL_table wX8_table wX9_table jX9_table_26 jX9_table_27 jX9_table_64
  rw [hc.len (q := 3) (by omega), hm.hx, hr.tb.m19]
  rcases p_out (a := p1) (n := 8) (by omega) with ⟨k, hk, rfl⟩ | hp
  · rcases Classical.em (((0 : Int32) ≤ p2 ∧ p2 ≤ 999) ∧ ((-99 : Int32) ≤ p3 ∧ p3 ≤ 99)) with hg | hg
    · rcases Nat.lt_or_ge (S.R 3).length 60 with hlt | hge
      · obtain ⟨kc, ks, b2, s2, h1, h2, h3, h4, h5, h6⟩ := hb.call (T := cTold S 3 (nI k) p2 p3) (cTold_mon S (by omega) _ _ _) (cRw_cap hc (by omega) _ (pgrow_cap (hc.rows 3 (by omega)).cm (by omega))) hi
        refine ⟨kc, ks, b2, s2, h1, h2, k_in (n := 8) hk (by omega) (ite0 (k_time (fun t ht e => ite1 (k_value (fun _ => ite1 ⟨fun _ => ?_, fun c => absurd (show nI (S.R 3).length < nI 60 from nI_lt hlt (by omega)) c⟩) fun q => absurd hg.2 q)) fun q => absurd hg.1 q))⟩
        subst e
        refine ⟨kc, ks, 0, 0, by omega, by omega, c_putTold hc (by omega) (by omega) (h5.mono (by omega) (by omega)) fun x y g hS => ?_⟩
        have hin : vp_in (nI (S.R 3).length) 60 := vp_in_nI hlt (by omega)
        refine m_isIn (fun _ _ => ite1 (m_isIn (fun _ _ => ite1 (m_keyY hk (ite1 (ite1 ⟨fun e => absurd ((nI_eq (b := 60) (by omega) (by omega)).1 e) (by omega), fun _ => m_yes ?_⟩)))) fun q => absurd hg.2 q)) fun q => absurd hg.1 q
        have hx19 : va_up M.x 44 0 19 = nI (S.R 3).length := hr.tb.m19
        rw [hx19, p_cl (by omega), nI_1]
        refine ⟨hin, hin, hin, ?_⟩
        have hM := (((hm2.X 19 (nI ((S.R 3).length + 1))).G (k := 20) (i := (S.R 3).length) (v := nI k) (by omega) (by omega)).G (k := 21) (i := (S.R 3).length) (v := nI t) (by omega) (by omega)).G (k := 22) (i := (S.R 3).length) (v := p3) (by omega) (by omega)
        rw [hm.hx] at hM
        refine end_ok (M := mTab (mX M 44 0) (S.R 3).length (nI k) (nI t) p3) ?_ hS hM rfl (((hr.thrown 0).tab ht hlt).later (by omega)) h6
        rw [hS.len (by omega), show (cTold S 3 (nI k) (nI t) p3).R 3 = S.R 3 ++ [upd (upd (upd pz 0 (nI k)) 1 (nI t)) 2 p3] from cRw_R _ _ _ _, List.length_append, List.length_singleton]
      · obtain ⟨kc, ks, b2, s2, h1, h2, h3, h4, h5, h6⟩ := exS
        have e60 : nI (S.R 3).length = 60 := (nI_eq (b := 60) (by omega) (by omega)).2 (by omega)
        refine ⟨kc, ks, b2, s2, h1, h2, k_in (n := 8) hk (by omega) (ite0 (k_time (fun t ht e => ite1 (k_value (fun _ => ite1 ⟨fun c => absurd c (show ¬ nI (S.R 3).length < nI 60 from nI_nlt hge (by omega)), fun _ => ⟨by omega, by omega, .inr (.inr ⟨rfl, ?_⟩)⟩⟩) fun q => absurd hg.2 q)) fun q => absurd hg.1 q))⟩
        refine m_isIn (fun _ _ => ite1 (m_isIn (fun _ _ => ite1 (m_keyY hk (ite1 (ite1 ⟨fun _ => m_no (by decide) ?_, fun e => absurd e60 e⟩)))) fun q => absurd hg.2 q)) fun q => absurd hg.1 q
        rw [← hm.hx]
        exact end_exc2 hc hm hr h6 (by decide)
    · obtain ⟨kc, ks, b2, s2, h1, h2, h3, h4, h5, h6⟩ := exS
      have h02 : wX9_thrown (va_up xm 44 2) gm (fun t => t = 2 ∧ ((2 : Int32) = 0 → f (0 : Int32).toNatClampNeg = (0 : Int32).toInt64) ∧ lInv (i + 5) x y g f (va_up xm 44 2) gm b2 s2) := end_exc2 hc hm hr h6 (by decide)
      rw [hm.hx] at h02
      have cls : (¬ ((0 : Int32) ≤ p2 ∧ p2 ≤ 999)) ∨ (((0 : Int32) ≤ p2 ∧ p2 ≤ 999) ∧ ¬ ((-99 : Int32) ≤ p3 ∧ p3 ≤ 99)) := by
        rcases Classical.em ((0 : Int32) ≤ p2 ∧ p2 ≤ 999) with q | q
        · exact .inr ⟨q, fun q2 => hg ⟨q, q2⟩⟩
        · exact .inl q
      rcases cls with q | ⟨q1, q2⟩
      · exact ⟨kc, ks, b2, s2, h1, h2, k_in (n := 8) hk (by omega) (ite0 (k_time (fun t ht e => absurd (e ▸ p_time ht) q) fun _ => ite0 ⟨by omega, by omega, .inr (.inl ⟨rfl, m_isIn (fun a b => absurd ⟨a, b⟩ q) fun _ => ite0 (m_keyY hk (ite1 (ite0 (m_no (by decide) h02))))⟩)⟩))⟩
      · exact ⟨kc, ks, b2, s2, h1, h2, k_in (n := 8) hk (by omega) (ite0 (k_time (fun t ht e => ite1 (k_value (fun q => absurd q q2) fun _ => ite0 ⟨by omega, by omega, .inr (.inl ⟨rfl, m_isIn (fun _ _ => ite1 (m_isIn (fun a b => absurd ⟨a, b⟩ q2) fun _ => ite0 (m_keyY hk (ite1 (ite0 (m_no (by decide) h02)))))) fun q => absurd q1 q⟩)⟩)) fun q => absurd q1 q))⟩
  · obtain ⟨kc, ks, b2, s2, h1, h2, h3, h4, h5, h6⟩ := exS
    have h01 : wX9_thrown (va_up xm 44 1) gm (fun t => t = 1 ∧ ((1 : Int32) = 0 → f (0 : Int32).toNatClampNeg = (0 : Int32).toInt64) ∧ lInv (i + 5) x y g f (va_up xm 44 1) gm b2 s2) := end_exc2 hc hm hr h6 (by decide)
    rw [hm.hx] at h01
    refine ⟨kc, ks, b2, s2, h1, h2, k_out (n := 8) (by omega) hp (ite1 ⟨by omega, by omega, .inl ⟨rfl, ?_⟩⟩)⟩
    exact m_isIn (fun _ _ => ite1 (m_isIn (fun _ _ => ite1 (m_keyN hp (ite0 (m_no (by decide) h01)))) fun _ => ite0 (m_keyN hp (ite0 (m_no (by decide) h01))))) fun _ => ite0 (m_keyN hp (ite0 (m_no (by decide) h01)))
theorem va3 {n : Nat → Nat} {p v : Nat} (hp : p < 3) : va_up n p v 0 + va_up n p v 1 + va_up n p v 2 + n p = n 0 + n 1 + n 2 + v := by
  have : p = 0 ∨ p = 1 ∨ p = 2 := by omega
  rcases this with e | e | e <;> subst e <;> simp [CS.mk_R, CS.mk_cap, CS.mk_x, CS.mk_y, CS.mk_g, CS.mk_eta, MS.mk_x, MS.mk_g, MS.mk_V, MS.mk_T, MS.mk_eta, GD.mk_n, GD.mk_rd, GD.mk_c, GD.mk_tk, GD.mk_sz, GD.mk_sl, GD.mk_lt, GD.mk_eta, va_up] <;> omega
def mEvt (M : MS) (p r tot : Nat) (k t v : Int32) : MS := mG (mG (mG (mG (mX M 8 (nI (tot + 1))) 10 (300 * p + r) k) 11 (300 * p + r) t) 12 (300 * p + r) v) 9 p (nI (r + 1))
theorem Rel.evt {S M d i} (h : Rel S M d i) {p k t : Nat} {v : Int32} (hp : p < 3) (hk : k < 8) (ht : t < 1000) (hN : d.n 0 + d.n 1 + d.n 2 < 300) : Rel (cTold S p (nI k) (nI t) v) (mEvt M p (d.n p) (d.n 0 + d.n 1 + d.n 2) (nI k) (nI t) v) (GD.mk (va_up d.n p (d.n p + 1)) d.rd d.c d.tk d.sz d.sl d.lt) i := by
  have hlen := h.ev.len p hp
  have hn3 : ∀ q, q < 3 → d.n q < 300 := fun q hq => by
    have : q = 0 ∨ q = 1 ∨ q = 2 := by omega
    rcases this with e | e | e <;> subst e <;> omega
  have hnp := hn3 p hp
  have eR : (cTold S p (nI k) (nI t) v).R p = S.R p ++ [upd (upd (upd pz 0 (nI k)) 1 (nI t)) 2 v] := cRw_R _ _ _ _
  have en : ∀ q, q ≠ p → (cTold S p (nI k) (nI t) v).R q = S.R q := fun q hq => cRw_Rn _ _ _ hq
  have eg : ∀ j, j ≠ 9 → j ≠ 10 → j ≠ 11 → j ≠ 12 → (mEvt M p (d.n p) (d.n 0 + d.n 1 + d.n 2) (nI k) (nI t) v).g j = M.g j := fun j h1 h2 h3 h4 => by
    simp only [CS.mk_R, CS.mk_cap, CS.mk_x, CS.mk_y, CS.mk_g, CS.mk_eta, MS.mk_x, MS.mk_g, MS.mk_V, MS.mk_T, MS.mk_eta, GD.mk_n, GD.mk_rd, GD.mk_c, GD.mk_tk, GD.mk_sz, GD.mk_sl, GD.mk_lt, GD.mk_eta, mEvt, mG, mX, p_un _ _ h1, p_un _ _ h2, p_un _ _ h3, p_un _ _ h4]
  have ei : ∀ w, mIts (mEvt M p (d.n p) (d.n 0 + d.n 1 + d.n 2) (nI k) (nI t) v) w = mIts M w := fun w => rfl
  have g10 : (mEvt M p (d.n p) (d.n 0 + d.n 1 + d.n 2) (nI k) (nI t) v).g 10 = upd (M.g 10) (300 * p + d.n p) (nI k) := rfl
  have g11 : (mEvt M p (d.n p) (d.n 0 + d.n 1 + d.n 2) (nI k) (nI t) v).g 11 = upd (M.g 11) (300 * p + d.n p) (nI t) := rfl
  have g12 : (mEvt M p (d.n p) (d.n 0 + d.n 1 + d.n 2) (nI k) (nI t) v).g 12 = upd (M.g 12) (300 * p + d.n p) v := rfl
  have g9 : (mEvt M p (d.n p) (d.n 0 + d.n 1 + d.n 2) (nI k) (nI t) v).g 9 = upd (M.g 9) p (nI (d.n p + 1)) := rfl
  have hs := va3 (n := d.n) (v := d.n p + 1) hp
  have ev : EVR (cTold S p (nI k) (nI t) v) (mEvt M p (d.n p) (d.n 0 + d.n 1 + d.n 2) (nI k) (nI t) v) (va_up d.n p (d.n p + 1)) d.rd := by
    refine ⟨fun q hq => ?_, fun q hq => ?_, by omega, ?_, fun q hq r hr => ?_, fun q hq => ?_, fun q hq r hr => ?_⟩
    · by_cases e : q = p
      · subst e; rw [eR, p_ug, List.length_append, hlen]; rfl
      · rw [en q e, p_un _ _ e]; exact h.ev.len q hq
    · rw [g9, upd]
      by_cases e : q = p
      · rw [if_pos e, e, p_ug]
      · rw [if_neg e, p_un _ _ e]; exact h.ev.cnt q hq
    · show nI (d.n 0 + d.n 1 + d.n 2 + 1) = _
      congr 1; omega
    · rw [g10, g11, g12]
      unfold upd
      by_cases e : q = p
      · subst e
        rw [p_ug] at hr
        rw [eR]
        by_cases e2 : r < d.n q
        · rw [p_getD_l (by omega), if_neg (by omega), if_neg (by omega), if_neg (by omega)]
          exact h.ev.row q hq r e2
        · have er : r = d.n q := by omega
          subst er
          rw [p_getD_r (by omega), hlen, Nat.sub_self, if_pos rfl, if_pos rfl, if_pos rfl]
          exact ⟨k, t, hk, ht, rfl, rfl, rfl, rfl, rfl⟩
      · rw [p_un _ _ e] at hr
        have := hn3 q hq
        rw [en q e, if_neg (by omega), if_neg (by omega), if_neg (by omega)]
        exact h.ev.row q hq r hr
    · have := h.ev.rdn q hq
      by_cases e : q = p
      · subst e; rw [p_ug]; omega
      · rw [p_un _ _ e]; exact this
    · have := h.ev.rdn q hq
      have h0 := h.ev.done q hq r hr
      rw [eg 13 (by omega) (by omega) (by omega) (by omega), eg 14 (by omega) (by omega) (by omega) (by omega), eg 15 (by omega) (by omega) (by omega) (by omega), eg 16 (by omega) (by omega) (by omega) (by omega), ei]
      by_cases e : q = p
      · subst e; rw [eR, p_getD_l (by omega)]; exact h0
      · rw [en q e]; exact h0
  have tb : TBR (cTold S p (nI k) (nI t) v) (mEvt M p (d.n p) (d.n 0 + d.n 1 + d.n 2) (nI k) (nI t) v) := by
    have e3 := en 3 (by omega)
    refine ⟨by rw [e3]; exact h.tb.n60, by rw [e3]; exact h.tb.m19, fun r hr => ?_⟩
    rw [e3] at hr ⊢
    exact h.tb.row r hr
  have fr : ∀ {a q rd m}, STR S M d.sz (decide (S.y 5 0 = 10)) a q rd m → STR (cTold S p (nI k) (nI t) v) (mEvt M p (d.n p) (d.n 0 + d.n 1 + d.n 2) (nI k) (nI t) v) d.sz (decide (S.y 5 0 = 10)) a q rd m := fun {a q rd m} s => s.fr (en _ (by omega)) (fun _ _ _ => rfl) (fun _ _ _ => rfl) rfl (fun j h1 h2 => by rw [eg j (by omega) (by omega) (by omega) (by omega)]) (fun j _ h1 h2 _ => by rw [eg j (by omega) (by omega) (by omega) (by omega)])
  exact ⟨h.tx.elim fun n t => ⟨n, ⟨t.n60, t.m0, t.s19, t.s17, t.cap, t.c16, t.c70, t.by_, t.ch⟩⟩, ev, tb, h.lag, h.idle, ⟨h.pl.b, h.pl.s15, fun e => (h.pl.q e).tb rfl rfl rfl, h.pl.z⟩, by rw [en 4 (by omega)]; exact h.tt, fr h.st0, h.st1.elim fun rd s => s.elim fun m s => ⟨rd, m, fr s.1, s.2⟩, ⟨h.sn.c5, h.sn.s13, h.sn.m35, h.sn.s14, h.sn.m37, h.sn.y7, h.sn.inj, h.sn.num, h.sn.inc⟩, fun k hk => (h.std k hk).elim fun rd s => s.elim fun m s => ⟨rd, m, fr s.1, s.2⟩, h.tki, h.wk⟩
section EV19
variable {x : Nat → Int32} {g : Nat → Nat → Int32} {v1 v2 v3 v4 s0 : Int32} {Φ : Int32 → (Nat → Int32) → (Nat → Nat → Int32) → Prop}
theorem m_ev19g (q : ((0 : Int32) ≤ v3 ∧ v3 ≤ 999) ∧ ((-99 : Int32) ≤ v4 ∧ v4 ≤ 99)) (hP : jX9_event_49 Φ x g v1 v2 v3 v4 s0 1) : jX9_event_19 Φ x g v1 v2 v3 v4 s0 :=
  m_isIn (fun _ _ => ite1 (m_isIn (fun _ _ => ite1 hP) fun q2 => absurd q.2 q2)) fun q2 => absurd q.1 q2
theorem m_ev19b (q : ¬ (((0 : Int32) ≤ v3 ∧ v3 ≤ 999) ∧ ((-99 : Int32) ≤ v4 ∧ v4 ≤ 99))) (hP : jX9_event_49 Φ x g v1 v2 v3 v4 s0 0) : jX9_event_19 Φ x g v1 v2 v3 v4 s0 :=
  m_isIn (fun a b => ite1 (m_isIn (fun c d => absurd ⟨⟨a, b⟩, c, d⟩ q) fun _ => ite0 hP)) fun _ => ite0 hP
theorem m_ev19a (h0 : jX9_event_49 Φ x g v1 v2 v3 v4 s0 0) (h1 : jX9_event_49 Φ x g v1 v2 v3 v4 s0 1) : jX9_event_19 Φ x g v1 v2 v3 v4 s0 :=
  m_isIn (fun a b => ite1 (m_isIn (fun c d => ite1 h1) fun _ => ite0 h0)) fun _ => ite0 h0
end EV19
theorem case4 {i x y g f xm gm bc bs p1 p2 p3 p4} (hi : i + 5 ≤ 2560) (h : lInv i x y g f xm gm bc bs) : wlc4 x y g f xm gm p1 p2 p3 p4 bc bs (lInv (i + 5)) := by
  obtain ⟨S, M, d, hc, hm, hr, hb⟩ := h
  have hm2 := hm.X 44 0
  have htot := hr.ev.tot
  have exS : ∃ kc ks b2 s2 : Nat, kc + b2 ≤ bc ∧ ks + s2 ≤ bs ∧ 5 ≤ kc ∧ 100 ≤ ks ∧ cOK S S (kc - 5) (ks - 100) ∧ BG S (i + 5) b2 s2 := hb.call (Nat.le_refl _) hc.capM hi
  have el : (S.R 0).length + (S.R 1).length + (S.R 2).length = d.n 0 + d.n 1 + d.n 2 := by rw [hr.ev.len 0 (by omega), hr.ev.len 1 (by omega), hr.ev.len 2 (by omega)]
  unfold wlc4 wL_event wX8_event wX9_event jX9_event_18
  rw [hm.hx]
  have m8 := hr.ev.m8
  have hexc : ∀ k : Int32, k ≠ 0 → ∀ {b2 s2}, BG S (i + 5) b2 s2 → wX9_thrown (va_up M.x 44 k) gm (fun t => t = k ∧ (k = 0 → f (0 : Int32).toNatClampNeg = (0 : Int32).toInt64) ∧ lInv (i + 5) x y g f (va_up M.x 44 k) gm b2 s2) := fun k hk b2 s2 h6 => by
    have := end_exc2 (f := f) (r := 0) (f1 := f) hc hm hr h6 hk
    rwa [hm.hx] at this
  rcases p_out (a := p1) (n := 3) (by omega) with ⟨p, hp, rfl⟩ | hp
  · rcases p_out (a := p2) (n := 8) (by omega) with ⟨k, hk, rfl⟩ | hk
    · rcases Classical.em (((0 : Int32) ≤ p3 ∧ p3 ≤ 999) ∧ ((-99 : Int32) ≤ p4 ∧ p4 ≤ 99)) with hg | hg
      · rcases Nat.lt_or_ge (d.n 0 + d.n 1 + d.n 2) 300 with hlt | hge
        · have hnp : (S.R p).length ≤ 300 := by
            rw [hr.ev.len p hp]
            have : p = 0 ∨ p = 1 ∨ p = 2 := by omega
            rcases this with e | e | e <;> subst e <;> omega
          have hlen := hr.ev.len p hp
          have hnp2 : d.n p < 300 := by
            have : p = 0 ∨ p = 1 ∨ p = 2 := by omega
            rcases this with e | e | e <;> subst e <;> omega
          obtain ⟨kc, ks, b2, s2, h1, h2, h3, h4, h5, h6⟩ := hb.call (T := cTold S p (nI k) p3 p4) (cTold_mon S (by omega) _ _ _) (cRw_cap hc (by omega) _ (pgrow_cap (hc.rows p (by omega)).cm (by omega))) hi
          refine ⟨kc, ks, b2, s2, h1, h2, k_in (n := 3) hp (by omega) (ite0 (k_in (n := 8) hk (by omega) (ite0 (k_time (fun t ht e => ite1 (k_value (fun _ => ite1 (c_eventCount hc ⟨fun _ => ?_, fun c => absurd (show nI _ < nI 300 from nI_lt (by omega) (by omega)) c⟩)) fun q => absurd hg.2 q)) fun q => absurd hg.1 q))))⟩
          subst e
          rw [p_cl (show p < 2 ^ 31 by omega)]
          have hin : vp_in (nI p) 3 := vp_in_nI (by omega) (by omega)
          refine ⟨hin, kc, ks, 0, 0, by omega, by omega, c_putTold hc (by omega) (by omega) (h5.mono (by omega) (by omega)) fun x y g hS => ?_⟩
          refine m_partY hp (ite1 (m_keyY hk (ite1 (m_ev19g hg (ite1 (ite1 ⟨fun e => absurd ((nI_eq (b := 300) (by omega) (by omega)).1 (m8.symm.trans e)) (by omega), fun _ => m_yes ?_⟩))))))
          rw [show va_up M.x 44 0 8 = nI (d.n 0 + d.n 1 + d.n 2) from hr.ev.m8, hm.W 9 (by omega) (by omega), p_cl (show p < 2 ^ 31 by omega), hr.ev.cnt p hp, nI_1, nI_1]
          refine ⟨hin, ?_⟩
          rintro _ rfl
          rw [show (300 : Int32) = nI 300 from rfl, p_mul, nI_add, p_cl (show 300 * p + d.n p < 2 ^ 31 by omega)]
          have hin9 : vp_in (nI (300 * p + d.n p)) 900 := vp_in_nI (by omega) (by omega)
          refine ⟨hin9, hin9, hin9, hin, hin, hin, ?_⟩
          have hM := ((((hm2.X 8 (nI (d.n 0 + d.n 1 + d.n 2 + 1))).G (k := 10) (i := 300 * p + d.n p) (v := nI k) (by omega) (by omega)).G (k := 11) (i := 300 * p + d.n p) (v := nI t) (by omega) (by omega)).G (k := 12) (i := 300 * p + d.n p) (v := p4) (by omega) (by omega)).G (k := 9) (i := p) (v := nI (d.n p + 1)) (by omega) (by omega)
          rw [hm.hx] at hM
          have hM2 : RM (mEvt (mX M 44 0) p (d.n p) (d.n 0 + d.n 1 + d.n 2) (nI k) (nI t) p4) (va_up (va_up M.x 44 0) 8 (nI (d.n 0 + d.n 1 + d.n 2 + 1))) (va_up (va_up (va_up (va_up gm 10 (upd (gm 10) (300 * p + d.n p) (nI k))) 11 (upd (gm 11) (300 * p + d.n p) (nI t))) 12 (upd (gm 12) (300 * p + d.n p) p4)) 9 (upd (gm 9) p (nI (d.n p + 1)))) := hM
          rw [hm.W 9 (by omega) (by omega)] at hM2
          refine end_ok ?_ hS hM2 rfl (((hr.thrown 0).evt hp hk ht hlt).later (by omega)) h6
          rw [hS.len (by omega), show (cTold S p (nI k) (nI t) p4).R p = S.R p ++ [upd (upd (upd pz 0 (nI k)) 1 (nI t)) 2 p4] from cRw_R _ _ _ _, List.length_append, List.length_singleton, hlen, upd, if_pos rfl]
        · obtain ⟨kc, ks, b2, s2, h1, h2, h3, h4, h5, h6⟩ := exS
          have e300 : nI (d.n 0 + d.n 1 + d.n 2) = 300 := (nI_eq (b := 300) (by omega) (by omega)).2 (by omega)
          exact ⟨kc, ks, b2, s2, h1, h2, k_in (n := 3) hp (by omega) (ite0 (k_in (n := 8) hk (by omega) (ite0 (k_time (fun t ht e => ite1 (k_value (fun _ => ite1 (c_eventCount hc ⟨fun c => absurd c (show ¬ nI _ < nI 300 from nI_nlt (by omega) (by omega)), fun _ => ⟨by omega, by omega, .inr (.inr ⟨rfl, m_partY hp (ite1 (m_keyY hk (ite1 (m_ev19g hg (ite1 (ite1 ⟨fun _ => m_no (by decide) (hexc 3 (by decide) h6), fun e => absurd (m8.trans e300) e⟩))))))⟩)⟩⟩)) fun q => absurd hg.2 q)) fun q => absurd hg.1 q))))⟩
      · obtain ⟨kc, ks, b2, s2, h1, h2, h3, h4, h5, h6⟩ := exS
        rcases Classical.em ((0 : Int32) ≤ p3 ∧ p3 ≤ 999) with q1 | q1
        · exact ⟨kc, ks, b2, s2, h1, h2, k_in (n := 3) hp (by omega) (ite0 (k_in (n := 8) hk (by omega) (ite0 (k_time (fun t ht e => ite1 (k_value (fun q => absurd ⟨q1, q⟩ hg) fun _ => ite0 ⟨by omega, by omega, .inr (.inl ⟨rfl, m_partY hp (ite1 (m_keyY hk (ite1 (m_ev19b hg (ite1 (ite0 (m_no (by decide) (hexc 2 (by decide) h6))))))))⟩)⟩)) fun q => absurd q1 q))))⟩
        · exact ⟨kc, ks, b2, s2, h1, h2, k_in (n := 3) hp (by omega) (ite0 (k_in (n := 8) hk (by omega) (ite0 (k_time (fun t ht e => absurd (e ▸ p_time ht) q1) fun _ => ite0 ⟨by omega, by omega, .inr (.inl ⟨rfl, m_partY hp (ite1 (m_keyY hk (ite1 (m_ev19b hg (ite1 (ite0 (m_no (by decide) (hexc 2 (by decide) h6))))))))⟩)⟩))))⟩
    · obtain ⟨kc, ks, b2, s2, h1, h2, h3, h4, h5, h6⟩ := exS
      exact ⟨kc, ks, b2, s2, h1, h2, k_in (n := 3) hp (by omega) (ite0 (k_out (n := 8) (by omega) hk (ite1 ⟨by omega, by omega, .inl ⟨rfl, m_partY hp (ite1 (m_keyN hk (ite0 (m_ev19a (ite0 (m_no (by decide) (hexc 1 (by decide) h6))) (ite0 (m_no (by decide) (hexc 1 (by decide) h6)))))))⟩⟩)))⟩
  · obtain ⟨kc, ks, b2, s2, h1, h2, h3, h4, h5, h6⟩ := exS
    exact ⟨kc, ks, b2, s2, h1, h2, k_out (n := 3) (by omega) hp (ite1 ⟨by omega, by omega, .inl ⟨rfl, m_partN hp (ite0 (m_ev19a (ite0 (m_no (by decide) (hexc 1 (by decide) h6))) (ite0 (m_no (by decide) (hexc 1 (by decide) h6)))))⟩⟩)⟩
theorem TX.of {S M S' M' n} (t : TX S M n) (fs : FrS S S') (fm : FrM M M') : TX S' M' n :=
  ⟨t.n60, by rw [fm.x]; exact t.m0, by rw [fs.x 19 0 (by omega)]; exact t.s19, by rw [fs.x 17 0 (by omega)]; exact t.s17, by rw [fs.y]; exact t.cap, by rw [fs.y]; exact t.c16, by rw [fs.y]; exact t.c70, by rw [fs.g]; exact t.by_, fun i hi => by rw [fs.g, fm.g 4 i (by omega)]; exact t.ch i hi⟩
theorem Rel.of {S M S' M' d i} (h : Rel S M d i) (h5 : M.x 5 = 1) (n : NR S' M' d.sz d.sl d.lt) (fs : FrS S S') (fm : FrM M M') (cw : (M'.V 6).length ≤ 4 * (d.rd 0 + d.rd 1 + d.rd 2)) (pt : pW (M'.V 6) + M'.T.length ≤ 8 * (d.rd 0 + d.rd 1 + d.rd 2)) (n27 : M'.g 27 6 = nI M'.T.length) : Rel S' M' d i := by
  have ey : S'.y 5 0 = S.y 5 0 := by rw [fs.y]
  have hT : M.T.length ≤ M'.T.length := by obtain ⟨rs, e⟩ := fm.t; rw [e, List.length_append]; omega
  have eg : ∀ k, k ≠ 25 → k ≠ 26 → k ≠ 27 → M'.g k = M.g k := fun k a b c => funext fun j => fm.g k j (by omega)
  have str : ∀ {a p rd m}, a ≠ 0 → p ≠ 6 → STR S M d.sz (decide (S.y 5 0 = 10)) a p rd m → STR S' M' d.sz (decide (S'.y 5 0 = 10)) a p rd m := fun {a p rd m} ha hp s => by
    rw [ey]
    exact s.fr (fs.R _ (by omega) (by omega)) (fun k h1 h2 => fs.x k a (by omega)) (fun k _ _ => by rw [fs.g]) (fm.V p hp) (fun k _ _ => fm.g k p (by omega)) (fun k j h1 h2 _ => fm.g k _ (by omega))
  refine ⟨?_, ?_, ?_, ?_, ?_, ?_, n.tt, ?_, ?_, ?_, ?_, h.tki, ?_⟩
  · obtain ⟨k, t⟩ := h.tx
    exact ⟨k, t.of fs fm⟩
  · exact h.ev.fr (fun p hp => fs.R p (by omega) (by omega)) (fun k h1 h2 => eg k (by omega) (by omega) (by omega)) (by rw [fm.x]) (fm.g 6 0 (by omega))
  · have e3 := fs.R 3 (by omega) (by omega)
    refine ⟨by rw [e3]; exact h.tb.n60, by rw [e3, fm.x]; exact h.tb.m19, fun r hr => ?_⟩
    rw [e3] at hr ⊢
    rw [eg 20 (by omega) (by omega) (by omega), eg 21 (by omega) (by omega) (by omega), eg 22 (by omega) (by omega) (by omega)]
    exact h.tb.row r hr
  · intro p hp
    rw [fs.x 6 p (by omega), eg 17 (by omega) (by omega) (by omega)]
    exact h.lag p hp
  · intro p hp
    rw [fs.x 7 p (by omega), eg 18 (by omega) (by omega) (by omega)]
    exact h.idle p hp
  · refine ⟨by rw [fm.x]; exact h.pl.b, by rw [fs.x 15 0 (by omega), fm.x]; exact h.pl.s15, fun _ => n.q, fun e => ?_⟩
    rw [fm.x] at e
    exact absurd (h5.symm.trans e) (by decide)
  · refine ⟨n.wr, n.mkk, n.mr, n.lc, fun j hj => ?_, fun j hj hr => ?_, fun j hj hr => ?_, n27, fun e => absurd rfl e, cw, pt⟩
    · rw [fs.g, eg 23 (by omega) (by omega) (by omega)]; exact h.st0.rs j hj
    · rw [fs.g, eg 24 (by omega) (by omega) (by omega)]; exact h.st0.gr j hj hr
    · rw [eg 24 (by omega) (by omega) (by omega)]; exact h.st0.g0 j hj hr
  · obtain ⟨rd, m, s, a, b⟩ := h.st1
    exact ⟨rd, m, str (by decide) (by decide) s, a, by omega⟩
  · exact ⟨h.sn.c5, by rw [fs.x 13 0 (by omega)]; exact h.sn.s13, by rw [fm.x]; exact h.sn.m35, by rw [fs.x 14 0 (by omega)]; exact h.sn.s14, by rw [fm.x]; exact h.sn.m37, by rw [fs.y]; exact h.sn.y7, by rw [fs.y]; exact h.sn.inj, fun k hk => by
      rw [fs.y, fs.x 5 _ (by omega), eg 36 (by omega) (by omega) (by omega)]; exact h.sn.num k hk, fun j k a b => by
      rw [fs.y, fs.x 5 _ (by omega), fs.x 5 _ (by omega)]; exact h.sn.inc j k a b⟩
  · intro k hk
    have hc5 := h.sn.c5
    obtain ⟨rd, m, s, a, b⟩ := h.std k hk
    have y2 := (h.sn.y7 k (by omega)).1
    rw [fs.y]
    exact ⟨rd, m, by have := str (a := S.y 7 k) (p := k) (by omega) (by omega) s; rwa [fs.y] at this, a, by omega⟩
  · rw [fs.x 16 0 (by omega), fm.x]; exact h.wk
theorem Rel.nr {S M d i} (h : Rel S M d i) (h5 : M.x 5 = 1) : NR S M d.sz d.sl d.lt := ⟨h.pl.q h5, h.st0.wr, h.tt, h.st0.mkk, h.st0.mr, h.st0.lc⟩
theorem Rel.pr {S M d i} (h : Rel S M d i) : PR S M := by
  refine ⟨h.idle, fun j hj => ?_, fun j hj hr => ?_, h.lag⟩
  · obtain ⟨a, b⟩ := h.st0.rs j hj
    rw [a, ← b]
  · obtain ⟨a, b⟩ := h.st0.rs j hj
    have h0 : d.rd j ≠ 0 := fun e => hr (by rw [a, e]; rfl)
    obtain ⟨c, q, hq, e⟩ := h.st0.gr j hj h0
    refine ⟨c, ?_⟩
    rw [e, nI_toInt (by omega)]
    omega
theorem QR.x7 {S M sz sl lt} (h : QR S M sz sl lt) {p : Nat} {v w : Int32} : QR (uX S 7 p v) (mG M 18 p w) sz sl lt :=
  ⟨h.f0, h.f2, h.c0, h.c1, h.c2, h.lim, h.jn, h.jb, h.sh, h.sh1, h.sh2, h.zm, h.zc, h.z1, h.z2, h.sc, h.s1, h.s2, h.s9, h.s8, h.lm, h.lc, h.l2, h.m, h.m1, h.m2⟩
theorem idleB {S M d i} (h : Rel S M d i) {p : Nat} {v : Int32} : ∀ q, q < 3 → (uX S 7 p v).x 7 q = (mG M 18 p v).g 18 q := fun q hq => by
  simp only [CS.mk_R, CS.mk_cap, CS.mk_x, CS.mk_y, CS.mk_g, CS.mk_eta, MS.mk_x, MS.mk_g, MS.mk_V, MS.mk_T, MS.mk_eta, GD.mk_n, GD.mk_rd, GD.mk_c, GD.mk_tk, GD.mk_sz, GD.mk_sl, GD.mk_lt, GD.mk_eta, uX, mG, p_ug]
  unfold va_up upd
  by_cases e : q = p
  · rw [if_pos e, if_pos e]
  · rw [if_neg e, if_neg e]; exact h.idle q hq
theorem Rel.idl {S M d i} (h : Rel S M d i) {p : Nat} {v : Int32} : Rel (uX S 7 p v) (mG M 18 p v) d i :=
  ⟨h.tx.elim fun n t => ⟨n, ⟨t.n60, t.m0, t.s19, t.s17, t.cap, t.c16, t.c70, t.by_, t.ch⟩⟩, ⟨h.ev.len, h.ev.cnt, h.ev.tot, h.ev.m8, h.ev.row, h.ev.rdn, h.ev.done⟩, ⟨h.tb.n60, h.tb.m19, h.tb.row⟩, h.lag, idleB h, ⟨h.pl.b, h.pl.s15, fun e => QR.x7 (h.pl.q e), h.pl.z⟩, h.tt, ⟨h.st0.wr, h.st0.mkk, h.st0.mr, h.st0.lc, h.st0.rs, h.st0.gr, h.st0.g0, h.st0.m27, h.st0.x4, h.st0.cw, h.st0.pt⟩, h.st1.elim fun rd s => s.elim fun m s => ⟨rd, m, ⟨s.1.wr, s.1.mkk, s.1.mr, s.1.lc, s.1.rs, s.1.gr, s.1.g0, s.1.m27, s.1.x4, s.1.cw, s.1.pt⟩, s.2⟩, ⟨h.sn.c5, h.sn.s13, h.sn.m35, h.sn.s14, h.sn.m37, h.sn.y7, h.sn.inj, h.sn.num, h.sn.inc⟩, fun k hk => (h.std k hk).elim fun rd s => s.elim fun m s => ⟨rd, m, ⟨s.1.wr, s.1.mkk, s.1.mr, s.1.lc, s.1.rs, s.1.gr, s.1.g0, s.1.m27, s.1.x4, s.1.cw, s.1.pt⟩, s.2⟩, h.tki, h.wk⟩
theorem RC.capAll {S x y g} (h : RC S x y g) : pSum S.cap ≤ 557056 := h.capM
theorem Rel.sizes {S M d i} (h : Rel S M d i) : (M.V 6).length ≤ 1200 ∧ pW (M.V 6) + M.T.length ≤ 2400 ∧ d.rd 0 + d.rd 1 + d.rd 2 ≤ 300 := by
  have a := h.ev.rdn 0 (by omega)
  have b := h.ev.rdn 1 (by omega)
  have c := h.ev.rdn 2 (by omega)
  have t := h.ev.tot
  have := h.st0.cw
  have := h.st0.pt
  omega
def CapOK (S : CS) : Prop := ∀ q, q < 12 → S.cap q ≤ 8192 * pwq q
theorem RC.ok {S x y g} (h : RC S x y g) : CapOK S := fun q hq => (h.rows q hq).cm
theorem CapOK.rw {S q W c} (h : CapOK S) (hc : c ≤ 8192 * pwq q) : CapOK (cRw S q W c) := fun j hj => by
  by_cases e : j = q
  · subst e; rw [cRw_c]; exact hc
  · rw [cRw_cn _ _ _ e]; exact h j hj
theorem CapOK.sum {S} (f : CapOK S) : pSum S.cap ≤ 557056 := by
  have h0 := f 0 (by omega); have h1 := f 1 (by omega); have h2 := f 2 (by omega); have h3 := f 3 (by omega)
  have h4 := f 4 (by omega); have h5 := f 5 (by omega); have h6 := f 6 (by omega); have h7 := f 7 (by omega)
  have h8 := f 8 (by omega); have h9 := f 9 (by omega); have h10 := f 10 (by omega); have h11 := f 11 (by omega)
  simp only [CS.mk_R, CS.mk_cap, CS.mk_x, CS.mk_y, CS.mk_g, CS.mk_eta, MS.mk_x, MS.mk_g, MS.mk_V, MS.mk_T, MS.mk_eta, GD.mk_n, GD.mk_rd, GD.mk_c, GD.mk_tk, GD.mk_sz, GD.mk_sl, GD.mk_lt, GD.mk_eta, pwq] at h0 h1 h2 h3 h4 h5 h6 h7 h8 h9 h10 h11
  simp at h0 h1 h2 h3 h4 h5 h6 h7 h8 h9 h10 h11
  unfold pSum
  omega
theorem CapOK.app {S} (h : CapOK S) (rs : List pRow) (hn : (S.R 4).length + rs.length ≤ 4096) : CapOK (cApp S rs) := by
  induction rs generalizing S with
  | nil => exact h
  | cons r rs ih =>
    simp only [CS.mk_R, CS.mk_cap, CS.mk_x, CS.mk_y, CS.mk_g, CS.mk_eta, MS.mk_x, MS.mk_g, MS.mk_V, MS.mk_T, MS.mk_eta, GD.mk_n, GD.mk_rd, GD.mk_c, GD.mk_tk, GD.mk_sz, GD.mk_sl, GD.mk_lt, GD.mk_eta, List.length_cons] at hn
    refine ih (h.rw (pgrow_cap (h 4 (by omega)) (by omega))) ?_
    show ((cApp1 S r).R 4).length + _ ≤ _
    rw [cApp1, cRw_R, List.length_append, List.length_singleton]; omega
theorem CapOK.win {S} (h : CapOK S) (W : List pRow) : CapOK (cWin S W) := h.rw (h 5 (by omega))
theorem CapOK.tell {S} (h : CapOK S) (i : Nat) (hn : (S.R 4).length + 2 ≤ 4096) : CapOK (cTell S i) := (h.app _ (by have := tRes_le2 (m := S.y 6 0) (w := (S.R 5).getD i pz); omega)).win _
theorem CapOK.ripe {S} (h : CapOK S) (i : Nat) (hn : (S.R 4).length + 2 ≤ 4096) : CapOK (cRipe S i) := by
  unfold cRipe; split
  · exact h.tell i hn
  · exact h
theorem CapOK.add {S} (h : CapOK S) (k b e t : Int32) (hn : (S.R 5).length < 4096) : CapOK (cAdd S k b e t) := h.rw (pgrow_cap (h 5 (by omega)) (by omega))
theorem CapOK.into {S} (h : CapOK S) (k b a : Int32) (h4 : (S.R 4).length + 2 ≤ 4096) (h5 : (S.R 5).length < 4096) : CapOK (cInto S k b a) := by
  unfold cInto
  split
  · split
    · exact (h.win _).ripe _ (by rw [cWin, cRw_Rn _ _ _ (by decide)]; exact h4)
    · exact (h.add _ _ _ _ h5).ripe _ (by rw [cAdd, cRw_Rn _ _ _ (by decide)]; exact h4)
  · exact h
theorem CapOK.sl {S} (h : CapOK S) (k a : Int32) (bs : List Int32) (h4 : (S.R 4).length + 2 * bs.length ≤ 4096) (h5 : (S.R 5).length + bs.length ≤ 4096) : CapOK (cSl k a S bs) := by
  induction bs generalizing S with
  | nil => exact h
  | cons b bs ih =>
    simp only [CS.mk_R, CS.mk_cap, CS.mk_x, CS.mk_y, CS.mk_g, CS.mk_eta, MS.mk_x, MS.mk_g, MS.mk_V, MS.mk_T, MS.mk_eta, GD.mk_n, GD.mk_rd, GD.mk_c, GD.mk_tk, GD.mk_sz, GD.mk_sl, GD.mk_lt, GD.mk_eta, List.length_cons] at h4 h5
    obtain ⟨_, _, _, s4, s5⟩ := cInto_same S k b a
    exact ih (h.into k b a (by omega) (by omega)) (by omega) (by omega)
theorem CapOK.ses {S} (h : CapOK S) (k t a : Int32) (h4 : (S.R 4).length + (S.R 5).length + 2 ≤ 4096) : CapOK (cSes S k t a) := by
  have hg : ∀ b e tot, CapOK (cGrow S k t b e tot) := fun b e tot => by
    have l1 : (pBacks (S.x 10 0) k t (S.R 5)).length ≤ (S.R 5).length := by
      rw [pBacks, List.length_map]; exact List.length_filter_le _ _
    have l2 : (pRest (S.x 10 0) k t (S.R 5)).length ≤ (S.R 5).length := List.length_filter_le _ _
    have c1 : CapOK (cEnd S k t) := (h.app _ (by omega)).win _
    have r5 : (cEnd S k t).R 5 = pRest (S.x 10 0) k t (S.R 5) := by rw [cEnd, cWin, cRw_R]
    have r4 : (cEnd S k t).R 4 = S.R 4 ++ pBacks (S.x 10 0) k t (S.R 5) := by rw [cEnd, cWin, cRw_Rn _ _ _ (by decide), cApp_R4]
    by_cases hlt : ((cEnd S k t).R 5).length < 4096
    · refine (c1.add k b e tot hlt).ripe _ ?_
      rw [cAdd, cRw_Rn _ _ _ (by decide), r4, List.length_append]
      have : (pBacks (S.x 10 0) k t (S.R 5)).length ≤ (S.R 5).length := l1
      omega
    · rw [r5] at hlt; omega
  unfold cSes
  try dsimp only [CS.mk_R, CS.mk_cap, CS.mk_x, CS.mk_y, CS.mk_g, CS.mk_eta, MS.mk_x, MS.mk_g, MS.mk_V, MS.mk_T, MS.mk_eta, GD.mk_n, GD.mk_rd, GD.mk_c, GD.mk_tk, GD.mk_sz, GD.mk_sl, GD.mk_lt, GD.mk_eta]
  split
  · split
    · exact hg _ _ _
    · exact h
  · split
    · exact (h.win _).ripe _ (by show ((cRw S 5 _ (S.cap 5)).R 4).length + 2 ≤ 4096; rw [cRw_Rn _ _ _ (by decide)]; omega)
    · exact hg _ _ _
theorem CapOK.drop {S} (h : CapOK S) (h4 : (S.R 4).length + (S.R 5).length ≤ 4096) : CapOK (cDrop S) := by
  refine (h.app _ ?_).win _
  unfold tResL
  rw [flat_len (fun r hr => (of_decide_eq_true (List.mem_filter.1 hr).2).2)]
  have := List.length_filter_le (fun r => decide (r 2 ≤ S.x 2 0 ∧ r 4 = 0)) (S.R 5)
  omega
theorem CapOK.find {S} (h : CapOK S) (h4 : (S.R 4).length + (S.R 5).length ≤ 4096) : CapOK (cFind S) := by
  unfold cFind cFindT
  split
  · split
    · exact h
    · exact CapOK.drop (S := uX S 2 0 _) h h4
  · exact h
theorem find_all {S M d i x y g xm gm bc bs} (hr : Rel S M d i) (h5 : M.x 5 = 1) (hc : RC S x y g) (hm : RM M xm gm) (hb : cOK S (cFind S) bc bs) {Φ : pK} (h : ∀ x y g, RC (cFind S) x y g → (∀ Ψ : pJ, (∀ M' g', RM M' xm g' → Rel (cFind S) M' d i → M'.x = M.x → Ψ xm g') → wX9_finds xm gm Ψ) → Φ x y g) : wX0_findWatermark x y g bc bs Φ := by
  have hn := hr.nr h5
  have hpr := hr.pr
  have hsz := hr.sizes
  have hpl := pW_len (M.V 6)
  obtain ⟨k1, k2, k3, k4, k5⟩ := find_rel hn hpr
  have h4 : M.T.length + (M.V 6).length + 2 ≤ 4096 := by omega
  refine (find_both (Ψ := fun _ _ => True) hn hpr hc hm h4 hb (fun x y g hS => h x y g hS fun Ψ hΨ => ?_) (fun _ _ => trivial)).1
  refine (find_both (Φ := fun _ _ _ => True) hn hpr hc hm h4 hb (fun _ _ _ _ => trivial) (fun g2 hG => hΨ _ g2 hG (hr.of h5 k1 k2 k3 ?_ ?_ hG.n27) k3.x)).2
  · exact Nat.le_trans k4 hr.st0.cw
  · exact Nat.le_trans k5 hr.st0.pt
theorem find_cap {S M d i x y g} (hr : Rel S M d i) (hc : RC S x y g) : pSum (cFind S).cap ≤ 557056 := by
  have hsz := hr.sizes
  have hpl := pW_len (M.V 6)
  have htt : (S.R 4).length = M.T.length := by rw [hr.tt]
  have hwl : (S.R 5).length = (M.V 6).length := hr.st0.wr.len
  exact (hc.ok.find (by omega)).sum
theorem case6 {i x y g f xm gm bc bs p1 p2} (hp2 : p2 = 0 ∨ p2 = 1) (hi : i + 5 ≤ 2560) (h : lInv i x y g f xm gm bc bs) : wlc6 x y g f xm gm p1 p2 bc bs (lInv (i + 5)) := by
  obtain ⟨S, M, d, hc, hm, hr, hb⟩ := h
  have hm2 := hm.X 44 0
  unfold wlc6 wL_idle wX8_idle wX9_idle
  rcases p_out (a := p1) (n := 3) (by omega) with ⟨p, hp, rfl⟩ | hp
  · have hin : vp_in (nI p) 3 := vp_in_nI (by omega) (by omega)
    have hc1 := hc.X (k := 7) (i := p) (v := p2) (by omega)
    have hM1 := hm2.G (k := 18) (i := p) (v := p2) (by omega) (by omega)
    have hr1 : Rel (uX S 7 p p2) (mG (mX M 44 0) 18 p p2) d i := (hr.thrown 0).idl
    rcases hr.pl.b with z | z
    · have hB := hb.min hc.capM hi
      have zx : x 15 0 = 0 := by rw [hc.hx 15 (by omega), hr.pl.s15]; exact z
      refine ⟨5, 100, bc - 5, bs - 100, by omega, by omega, k_in (n := 3) hp (by omega) (ite0 ⟨hin, fun _ => ?_, fun c => absurd zx c⟩)⟩
      rw [p_cl (show p < 2 ^ 31 by omega)]
      refine m_partY hp (ite1 (m_yes ⟨hin, fun _ => ⟨p_vin6, ?_⟩, fun c => absurd (show va_up xm 44 0 5 = 0 by rw [hm.hx]; exact z) c⟩))
      rw [p_cl (show p < 2 ^ 31 by omega), p_6, p_nar hp2]
      exact end_ok (by rw [hc.hx 2 (by omega), hm.W 25 (by omega) (by omega)]; exact hr.st0.mkk) hc1 hM1 rfl (hr1.later (by omega)) (hb.same rfl hc.capM hi)
    · have zx : ¬ x 15 0 = 0 := by rw [hc.hx 15 (by omega), hr.pl.s15, z]; decide
      have h5 : (mG (mX M 44 0) 18 p p2).x 5 = 1 := z
      have h44 : (mG (mX M 44 0) 18 p p2).x 44 = 0 := rfl
      have hcap := find_cap hr1 hc1
      have hmon := cFindT_mon (uX S 7 p p2) (fwmS (uX S 7 p p2))
      obtain ⟨kc, ks, b2, s2, h1, h2, h3, h4, h5', h6⟩ := hb.call (T := cFind (uX S 7 p p2)) hmon hcap hi
      have hb5 : cOK (uX S 7 p p2) (cFind (uX S 7 p p2)) kc ks := ⟨by have := h5'.c; show _ ≤ pSum S.cap + _; omega, by have := h5'.s; show _ ≤ 2 * pSum S.cap + _; omega⟩
      refine ⟨kc, ks, b2, s2, h1, h2, k_in (n := 3) hp (by omega) (ite0 ⟨hin, fun c => absurd c zx, fun _ => ⟨kc, ks, 0, 0, by omega, by omega, ?_⟩⟩)⟩
      rw [p_cl (show p < 2 ^ 31 by omega)]
      clear hcap hmon h5' h3 h4
      have e5 : va_up xm 44 0 5 = 1 := by rw [hm.hx]; exact z
      generalize uX S 7 p p2 = S1 at *
      generalize mG (mX M 44 0) 18 p p2 = M1 at *
      refine find_all hr1 h5 hc1 hM1 hb5 fun x y g hS hfind => ?_
      refine m_partY hp (ite1 (m_yes ⟨hin, fun c => absurd (e5.symm.trans c) (by decide), fun _ => ?_⟩))
      rw [p_cl (show p < 2 ^ 31 by omega), p_nar hp2]
      refine hfind _ fun M' g' hG hR hx => ⟨p_vin6, ?_⟩
      rw [p_6]
      exact end_ok (by rw [hS.hx 2 (by omega), hG.W 25 (by omega) (by omega)]; exact hR.st0.mkk) hS hG (by rw [hx]; exact h44) (hR.later (by omega)) h6
  · have hB := hb.min hc.capM hi
    exact ⟨5, 100, bc - 5, bs - 100, by omega, by omega, k_out (n := 3) (by omega) hp (ite1 ⟨by omega, by omega, rfl, m_partN hp (ite0 (m_no (by decide) (end_exc hi hc hm hr hb (by decide))))⟩)⟩
