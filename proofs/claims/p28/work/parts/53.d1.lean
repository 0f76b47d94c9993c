theorem QR.x16 {S M sz sl lt} (h : QR S M sz sl lt) {v w : Int32} {k : Nat} (hk : k ≠ 6) : QR (uX S 16 0 v) (mX M k w) sz sl lt :=
  ⟨h.f0, h.f2, h.c0, h.c1, h.c2, h.lim, h.jn, h.jb, h.sh, h.sh1, h.sh2, h.zm, h.zc, h.z1, h.z2, h.sc, h.s1, h.s2, h.s9, h.s8, h.lm, h.lc, h.l2, h.m, h.m1, h.m2⟩
theorem Rel.work {S M d i} (h : Rel S M d i) {v : Int32} (hv : 1 ≤ v.toInt ∧ v.toInt ≤ 4) : Rel (uX S 16 0 v) (mX M 43 v) d i :=
  ⟨h.tx.elim fun n t => ⟨n, ⟨t.n60, t.m0, t.s19, t.s17, t.cap, t.c16, t.c70, t.by_, t.ch⟩⟩, ⟨h.ev.len, h.ev.cnt, h.ev.tot, h.ev.m8, h.ev.row, h.ev.rdn, h.ev.done⟩, ⟨h.tb.n60, h.tb.m19, h.tb.row⟩, h.lag, h.idle, ⟨h.pl.b, h.pl.s15, fun e => QR.x16 (h.pl.q e) (by decide), h.pl.z⟩, h.tt, ⟨h.st0.wr, h.st0.mkk, h.st0.mr, h.st0.lc, h.st0.rs, h.st0.gr, h.st0.g0, h.st0.m27, h.st0.x4, h.st0.cw, h.st0.pt⟩, h.st1.elim fun rd s => s.elim fun m s => ⟨rd, m, ⟨s.1.wr, s.1.mkk, s.1.mr, s.1.lc, s.1.rs, s.1.gr, s.1.g0, s.1.m27, s.1.x4, s.1.cw, s.1.pt⟩, s.2⟩, ⟨h.sn.c5, h.sn.s13, h.sn.m35, h.sn.s14, h.sn.m37, h.sn.y7, h.sn.inj, h.sn.num, h.sn.inc⟩, fun k hk => (h.std k hk).elim fun rd s => s.elim fun m s => ⟨rd, m, ⟨s.1.wr, s.1.mkk, s.1.mr, s.1.lc, s.1.rs, s.1.gr, s.1.g0, s.1.m27, s.1.x4, s.1.cw, s.1.pt⟩, s.2⟩, h.tki, ⟨rfl, hv⟩⟩
def pAcc3 (acc : Option Int32) (v4 v5 : Int32) : Prop := (acc = none ∧ v5 = 0 ∧ v4 = 0) ∨ (v5 = 1 ∧ acc = some v4)
theorem QR.cnt {S M sz sl lt} (h : QR S M sz sl lt) : (M.g 6 0 = 1 ↔ S.y 3 0 = 1) := by
  rw [h.f0]; have := h.f2; exact nI_eq (b := 1) (by omega) (by omega)
theorem QR.m44 {S M sz sl lt} (h : QR S M sz sl lt) (v : Int32) : QR S (mX M 44 v) sz sl lt := h.ofx rfl
theorem k_time {a : Int32} {Φ : Int32 → Prop} (h1 : ∀ t, t < 1000 → a = nI t → Φ 1) (h0 : ¬ ((0 : Int32) ≤ a ∧ a ≤ 999) → Φ 0) : wX8_isTime a Φ := by
  unfold wX8_isTime
  refine ⟨fun c => h0 fun q => absurd q.1 (Int32.not_le.2 c), fun c => ⟨fun c2 => h0 fun q => absurd q.2 (Int32.not_le.2 c2), fun c2 => ?_⟩⟩
  obtain ⟨t, ht, e⟩ := p_of (a := a) (n := 1000) (by omega) ⟨Int32.not_lt.1 c, by
    have := Int32.not_lt.1 c2
    rw [i_le] at this
    rw [i_lt]
    change _ < (1000 : Int)
    change _ ≤ (999 : Int) at this
    omega⟩
  exact h1 t ht e
theorem k_value {a : Int32} {Φ : Int32 → Prop} (h1 : (-99 : Int32) ≤ a ∧ a ≤ 99 → Φ 1) (h0 : ¬ ((-99 : Int32) ≤ a ∧ a ≤ 99) → Φ 0) : wX8_isValue a Φ :=
  ⟨fun c => h0 fun q => absurd q.1 (Int32.not_le.2 c), fun c => ⟨fun c2 => h0 fun q => absurd q.2 (Int32.not_le.2 c2), fun c2 => h1 ⟨Int32.not_lt.1 c, Int32.not_lt.1 c2⟩⟩⟩
theorem p_time {t : Nat} (h : t < 1000) : (0 : Int32) ≤ nI t ∧ nI t ≤ 999 := by
  rw [i_le, i_le, nI_toInt (by omega)]
  exact ⟨Int.natCast_nonneg t, by change (t : Int) ≤ 999; omega⟩
theorem cOK.mono {S T : CS} {a b a' b' : Nat} (h : cOK S T a b) (h1 : a ≤ a') (h2 : b ≤ b') : cOK S T a' b' := ⟨by have := h.c; omega, by have := h.s; omega⟩
theorem STR.fr {S M S' M' sz ses a p rd m} (h : STR S M sz ses a p rd m) (e1 : S'.R (5 + a) = S.R (5 + a)) (e2 : ∀ k, 2 ≤ k → k ≤ 4 → S'.x k a = S.x k a) (e3 : ∀ k, 1 ≤ k → k ≤ 2 → S'.g k a = S.g k a) (e4 : M'.V p = M.V p) (e5 : ∀ k, 25 ≤ k → k ≤ 27 → M'.g k p = M.g k p) (e6 : ∀ k i, 23 ≤ k → k ≤ 24 → i < 3 → M'.g k (3 * p + i) = M.g k (3 * p + i)) : STR S' M' sz ses a p rd m := by
  refine ⟨by rw [e1, e4]; exact h.wr, by rw [e2 2 (by omega) (by omega), e5 25 (by omega) (by omega)]; exact h.mkk, by rw [e2 2 (by omega) (by omega)]; exact h.mr, by rw [e2 3 (by omega) (by omega), e5 26 (by omega) (by omega)]; exact h.lc, fun i hi => ?_, fun i hi hr => ?_, fun i hi hr => ?_, by rw [e5 27 (by omega) (by omega)]; exact h.m27, by rw [e2 4 (by omega) (by omega)]; exact h.x4, by rw [e4]; exact h.cw, by rw [e4]; exact h.pt⟩
  · rw [e3 1 (by omega) (by omega), e6 23 i (by omega) (by omega) hi]; exact h.rs i hi
  · rw [e3 2 (by omega) (by omega), e6 24 i (by omega) (by omega) hi]; exact h.gr i hi hr
  · rw [e6 24 i (by omega) (by omega) hi]; exact h.g0 i hi hr
theorem EVR.fr {S M S' M' n rd} (h : EVR S M n rd) (e1 : ∀ p, p < 3 → S'.R p = S.R p) (e2 : ∀ k, 9 ≤ k → k ≤ 16 → M'.g k = M.g k) (e3 : M'.x 8 = M.x 8) (e4 : M'.g 6 0 = M.g 6 0) : EVR S' M' n rd := by
  have ei : ∀ v, mIts M' v = mIts M v := fun v => by unfold mIts; rw [e4]
  refine ⟨fun p hp => by rw [e1 p hp]; exact h.len p hp, fun p hp => by rw [e2 9 (by omega) (by omega)]; exact h.cnt p hp, h.tot, by rw [e3]; exact h.m8, fun p hp r hr => ?_, h.rdn, fun p hp r hr => ?_⟩
  · rw [e1 p hp, e2 10 (by omega) (by omega), e2 11 (by omega) (by omega), e2 12 (by omega) (by omega)]; exact h.row p hp r hr
  · rw [e1 p hp, e2 13 (by omega) (by omega), e2 14 (by omega) (by omega), e2 15 (by omega) (by omega), e2 16 (by omega) (by omega), ei]; exact h.done p hp r hr
theorem QR.tb {S M sz sl lt} (h : QR S M sz sl lt) {S' : CS} {M' : MS} (ex : S'.x = S.x) (ey : S'.y = S.y) (eg : M'.g 6 = M.g 6) : QR S' M' sz sl lt := by
  refine ⟨?_, ?_, ?_, ?_, ?_, ?_, ?_, ?_, ?_, ?_, ?_, ?_, ?_, ?_, ?_, ?_, ?_, ?_, ?_, ?_, ?_, ?_, ?_, ?_, ?_, ?_⟩
  all_goals try simp only [CS.mk_R, CS.mk_cap, CS.mk_x, CS.mk_y, CS.mk_g, CS.mk_eta, MS.mk_x, MS.mk_g, MS.mk_V, MS.mk_T, MS.mk_eta, GD.mk_n, GD.mk_rd, GD.mk_c, GD.mk_tk, GD.mk_sz, GD.mk_sl, GD.mk_lt, GD.mk_eta, ex, ey, eg]
  · exact h.f0
  · exact h.f2
  · exact h.c0
  · exact h.c1
  · exact h.c2
  · exact h.lim
  · exact h.jn
  · exact h.jb
  · exact h.sh
  · exact h.sh1
  · exact h.sh2
  · exact h.zm
  · exact h.zc
  · exact h.z1
  · exact h.z2
  · exact h.sc
  · exact h.s1
  · exact h.s2
  · exact h.s9
  · exact h.s8
  · exact h.lm
  · exact h.lc
  · exact h.l2
  · exact h.m
  · exact h.m1
  · exact h.m2
def mTab (M : MS) (N : Nat) (k t v : Int32) : MS := mG (mG (mG (mX M 19 (nI (N + 1))) 20 N k) 21 N t) 22 N v
theorem Rel.tab {S M d i} (h : Rel S M d i) {k v : Int32} {t : Nat} (ht : t < 1000) (hN : (S.R 3).length < 60) : Rel (cTold S 3 k (nI t) v) (mTab M (S.R 3).length k (nI t) v) d i := by
  have eR : (cTold S 3 k (nI t) v).R 3 = S.R 3 ++ [upd (upd (upd pz 0 k) 1 (nI t)) 2 v] := cRw_R _ _ _ _
  have en : ∀ q, q ≠ 3 → (cTold S 3 k (nI t) v).R q = S.R q := fun q hq => cRw_Rn _ _ _ hq
  have tb : TBR (cTold S 3 k (nI t) v) (mTab M (S.R 3).length k (nI t) v) := by
    refine ⟨by rw [eR, List.length_append, List.length_singleton]; omega, by rw [eR, List.length_append, List.length_singleton]; rfl, fun r hr => ?_⟩
    rw [eR] at hr ⊢
    rw [List.length_append, List.length_singleton] at hr
    by_cases e : r < (S.R 3).length
    · rw [p_getD_l e]
      obtain ⟨a, b, c, t2, d1, d2⟩ := h.tb.row r e
      refine ⟨?_, ?_, ?_, t2, d1, ?_⟩
      · show _ = upd _ _ _ r; rw [upd, if_neg (by omega)]; exact a
      · show _ = upd _ _ _ r; rw [upd, if_neg (by omega)]; exact b
      · show _ = upd _ _ _ r; rw [upd, if_neg (by omega)]; exact c
      · show upd _ _ _ r = _; rw [upd, if_neg (by omega)]; exact d2
    · have er : r = (S.R 3).length := by omega
      subst er
      rw [p_getD_r (Nat.le_refl _), Nat.sub_self]
      refine ⟨?_, ?_, ?_, t, ht, ?_⟩
      · show _ = upd _ _ _ _; rw [upd, if_pos rfl]; rfl
      · show _ = upd _ _ _ _; rw [upd, if_pos rfl]; rfl
      · show _ = upd _ _ _ _; rw [upd, if_pos rfl]; rfl
      · show upd _ _ _ _ = _; rw [upd, if_pos rfl]
  have ev : EVR (cTold S 3 k (nI t) v) (mTab M (S.R 3).length k (nI t) v) d.n d.rd := h.ev.fr (fun p hp => en p (by omega)) (fun j h1 h2 => by
    simp only [CS.mk_R, CS.mk_cap, CS.mk_x, CS.mk_y, CS.mk_g, CS.mk_eta, MS.mk_x, MS.mk_g, MS.mk_V, MS.mk_T, MS.mk_eta, GD.mk_n, GD.mk_rd, GD.mk_c, GD.mk_tk, GD.mk_sz, GD.mk_sl, GD.mk_lt, GD.mk_eta, mTab, mG, mX, p_un _ _ (show j ≠ 20 by omega), p_un _ _ (show j ≠ 21 by omega), p_un _ _ (show j ≠ 22 by omega)]) rfl rfl
  have fr : ∀ {a p rd m}, STR S M d.sz (decide (S.y 5 0 = 10)) a p rd m → STR (cTold S 3 k (nI t) v) (mTab M (S.R 3).length k (nI t) v) d.sz (decide (S.y 5 0 = 10)) a p rd m := fun {a p rd m} s => s.fr (en _ (by omega)) (fun _ _ _ => rfl) (fun _ _ _ => rfl) rfl (fun j h1 h2 => by
    simp only [CS.mk_R, CS.mk_cap, CS.mk_x, CS.mk_y, CS.mk_g, CS.mk_eta, MS.mk_x, MS.mk_g, MS.mk_V, MS.mk_T, MS.mk_eta, GD.mk_n, GD.mk_rd, GD.mk_c, GD.mk_tk, GD.mk_sz, GD.mk_sl, GD.mk_lt, GD.mk_eta, mTab, mG, mX, p_un _ _ (show j ≠ 20 by omega), p_un _ _ (show j ≠ 21 by omega), p_un _ _ (show j ≠ 22 by omega)]) (fun j _ h1 h2 _ => by
    simp only [CS.mk_R, CS.mk_cap, CS.mk_x, CS.mk_y, CS.mk_g, CS.mk_eta, MS.mk_x, MS.mk_g, MS.mk_V, MS.mk_T, MS.mk_eta, GD.mk_n, GD.mk_rd, GD.mk_c, GD.mk_tk, GD.mk_sz, GD.mk_sl, GD.mk_lt, GD.mk_eta, mTab, mG, mX, p_un _ _ (show j ≠ 20 by omega), p_un _ _ (show j ≠ 21 by omega), p_un _ _ (show j ≠ 22 by omega)])
  exact ⟨h.tx.elim fun n t => ⟨n, ⟨t.n60, t.m0, t.s19, t.s17, t.cap, t.c16, t.c70, t.by_, t.ch⟩⟩, ev, tb, h.lag, h.idle, ⟨h.pl.b, h.pl.s15, fun e => (h.pl.q e).tb rfl rfl rfl, h.pl.z⟩, by rw [en 4 (by decide)]; exact h.tt, fr h.st0, h.st1.elim fun rd s => s.elim fun m s => ⟨rd, m, fr s.1, s.2⟩, ⟨h.sn.c5, h.sn.s13, h.sn.m35, h.sn.s14, h.sn.m37, h.sn.y7, h.sn.inj, h.sn.num, h.sn.inc⟩, fun k hk => (h.std k hk).elim fun rd s => s.elim fun m s => ⟨rd, m, fr s.1, s.2⟩, h.tki, h.wk⟩
theorem cTold_mon (S : CS) {q : Nat} (hq : q < 4) (k t v : Int32) : pSum S.cap ≤ pSum (cTold S q k t v).cap := cMon_rw _ (by omega) (pgrow_ge _ _)
theorem pgrow_cap {c n : Nat} {w : Nat} (h1 : c ≤ 8192 * w) (h2 : n ≤ 4096) : pgrow c (n * w) ≤ 8192 * w := by
  have := Nat.mul_le_mul_right w h2
  exact pgrow_le h1 (by omega) (by omega)
theorem cRw_cap {S x y g} (h : RC S x y g) {q c : Nat} (hq : q < 12) (W : List pRow) (hc : c ≤ 8192 * pwq q) : pSum (cRw S q W c).cap ≤ 557056 := by
  have f : ∀ j, j < 12 → (cRw S q W c).cap j ≤ 8192 * pwq j := fun j hj => by
    by_cases e : j = q
    · subst e; rw [cRw_c]; exact hc
    · rw [cRw_cn _ _ _ e]; exact (h.rows j hj).cm
  have h0 := f 0 (by omega); have h1 := f 1 (by omega); have h2 := f 2 (by omega); have h3 := f 3 (by omega)
  have h4 := f 4 (by omega); have h5 := f 5 (by omega); have h6 := f 6 (by omega); have h7 := f 7 (by omega)
  have h8 := f 8 (by omega); have h9 := f 9 (by omega); have h10 := f 10 (by omega); have h11 := f 11 (by omega)
  simp only [CS.mk_R, CS.mk_cap, CS.mk_x, CS.mk_y, CS.mk_g, CS.mk_eta, MS.mk_x, MS.mk_g, MS.mk_V, MS.mk_T, MS.mk_eta, GD.mk_n, GD.mk_rd, GD.mk_c, GD.mk_tk, GD.mk_sz, GD.mk_sl, GD.mk_lt, GD.mk_eta, pwq] at h0 h1 h2 h3 h4 h5 h6 h7 h8 h9 h10 h11
  simp at h0 h1 h2 h3 h4 h5 h6 h7 h8 h9 h10 h11
  unfold pSum
  omega
theorem va3 {n : Nat → Nat} {p v : Nat} (hp : p < 3) : va_up n p v 0 + va_up n p v 1 + va_up n p v 2 + n p = n 0 + n 1 + n 2 + v := by
  have : p = 0 ∨ p = 1 ∨ p = 2 := by omega
  rcases this with e | e | e <;> subst e <;> simp [CS.mk_R, CS.mk_cap, CS.mk_x, CS.mk_y, CS.mk_g, CS.mk_eta, MS.mk_x, MS.mk_g, MS.mk_V, MS.mk_T, MS.mk_eta, GD.mk_n, GD.mk_rd, GD.mk_c, GD.mk_tk, GD.mk_sz, GD.mk_sl, GD.mk_lt, GD.mk_eta, va_up] <;> omega
def mEvt (M : MS) (p r tot : Nat) (k t v : Int32) : MS := mG (mG (mG (mG (mX M 8 (nI (tot + 1))) 10 (300 * p + r) k) 11 (300 * p + r) t) 12 (300 * p + r) v) 9 p (nI (r + 1))
theorem Rel.evt {S M d i} (h : Rel S M d i) {p k t : Nat} {v : Int32} (hp : p < 3) (hk : k < 8) (ht : t < 1000) (hN : d.n 0 + d.n 1 + d.n 2 < 300) : Rel (cTold S p (nI k) (nI t) v) (mEvt M p (d.n p) (d.n 0 + d.n 1 + d.n 2) (nI k) (nI t) v) (GD.mk (va_up d.n p (d.n p + 1)) d.rd d.c d.tk d.sz d.sl d.lt) i := by
  have hlen := h.ev.len p hp
  have hn3 : ∀ q, q < 3 → d.n q < 300 := fun q hq => by
    have : q = 0 ∨ q = 1 ∨ q = 2 := by omega
    rcases this with e | e | e <;> subst e <;> omega
  have hnp := hn3 p hp
  have eR : (cTold S p (nI k) (nI t) v).R p = S.R p ++ [upd (upd (upd pz 0 (nI k)) 1 (nI t)) 2 v] := cRw_R _ _ _ _
  have en : ∀ q, q ≠ p → (cTold S p (nI k) (nI t) v).R q = S.R q := fun q hq => cRw_Rn _ _ _ hq
  have eg : ∀ j, j ≠ 9 → j ≠ 10 → j ≠ 11 → j ≠ 12 → (mEvt M p (d.n p) (d.n 0 + d.n 1 + d.n 2) (nI k) (nI t) v).g j = M.g j := fun j h1 h2 h3 h4 => by
    simp only [CS.mk_R, CS.mk_cap, CS.mk_x, CS.mk_y, CS.mk_g, CS.mk_eta, MS.mk_x, MS.mk_g, MS.mk_V, MS.mk_T, MS.mk_eta, GD.mk_n, GD.mk_rd, GD.mk_c, GD.mk_tk, GD.mk_sz, GD.mk_sl, GD.mk_lt, GD.mk_eta, mEvt, mG, mX, p_un _ _ h1, p_un _ _ h2, p_un _ _ h3, p_un _ _ h4]
  have ei : ∀ w, mIts (mEvt M p (d.n p) (d.n 0 + d.n 1 + d.n 2) (nI k) (nI t) v) w = mIts M w := fun w => rfl
  have g10 : (mEvt M p (d.n p) (d.n 0 + d.n 1 + d.n 2) (nI k) (nI t) v).g 10 = upd (M.g 10) (300 * p + d.n p) (nI k) := rfl
  have g11 : (mEvt M p (d.n p) (d.n 0 + d.n 1 + d.n 2) (nI k) (nI t) v).g 11 = upd (M.g 11) (300 * p + d.n p) (nI t) := rfl
  have g12 : (mEvt M p (d.n p) (d.n 0 + d.n 1 + d.n 2) (nI k) (nI t) v).g 12 = upd (M.g 12) (300 * p + d.n p) v := rfl
  have g9 : (mEvt M p (d.n p) (d.n 0 + d.n 1 + d.n 2) (nI k) (nI t) v).g 9 = upd (M.g 9) p (nI (d.n p + 1)) := rfl
  have hs := va3 (n := d.n) (v := d.n p + 1) hp
  have ev : EVR (cTold S p (nI k) (nI t) v) (mEvt M p (d.n p) (d.n 0 + d.n 1 + d.n 2) (nI k) (nI t) v) (va_up d.n p (d.n p + 1)) d.rd := by
    refine ⟨fun q hq => ?_, fun q hq => ?_, by omega, ?_, fun q hq r hr => ?_, fun q hq => ?_, fun q hq r hr => ?_⟩
    · by_cases e : q = p
      · subst e; rw [eR, p_ug, List.length_append, hlen]; rfl
      · rw [en q e, p_un _ _ e]; exact h.ev.len q hq
    · rw [g9, upd]
      by_cases e : q = p
      · rw [if_pos e, e, p_ug]
      · rw [if_neg e, p_un _ _ e]; exact h.ev.cnt q hq
    · show nI (d.n 0 + d.n 1 + d.n 2 + 1) = _
      congr 1; omega
    · rw [g10, g11, g12]
      unfold upd
      by_cases e : q = p
      · subst e
        rw [p_ug] at hr
        rw [eR]
        by_cases e2 : r < d.n q
        · rw [p_getD_l (by omega), if_neg (by omega), if_neg (by omega), if_neg (by omega)]
          exact h.ev.row q hq r e2
        · have er : r = d.n q := by omega
          subst er
          rw [p_getD_r (by omega), hlen, Nat.sub_self, if_pos rfl, if_pos rfl, if_pos rfl]
          exact ⟨k, t, hk, ht, rfl, rfl, rfl, rfl, rfl⟩
      · rw [p_un _ _ e] at hr
        have := hn3 q hq
        rw [en q e, if_neg (by omega), if_neg (by omega), if_neg (by omega)]
        exact h.ev.row q hq r hr
    · have := h.ev.rdn q hq
      by_cases e : q = p
      · subst e; rw [p_ug]; omega
      · rw [p_un _ _ e]; exact this
    · have := h.ev.rdn q hq
      have h0 := h.ev.done q hq r hr
      rw [eg 13 (by omega) (by omega) (by omega) (by omega), eg 14 (by omega) (by omega) (by omega) (by omega), eg 15 (by omega) (by omega) (by omega) (by omega), eg 16 (by omega) (by omega) (by omega) (by omega), ei]
      by_cases e : q = p
      · subst e; rw [eR, p_getD_l (by omega)]; exact h0
      · rw [en q e]; exact h0
  have tb : TBR (cTold S p (nI k) (nI t) v) (mEvt M p (d.n p) (d.n 0 + d.n 1 + d.n 2) (nI k) (nI t) v) := by
    have e3 := en 3 (by omega)
    refine ⟨by rw [e3]; exact h.tb.n60, by rw [e3]; exact h.tb.m19, fun r hr => ?_⟩
    rw [e3] at hr ⊢
    exact h.tb.row r hr
  have fr : ∀ {a q rd m}, STR S M d.sz (decide (S.y 5 0 = 10)) a q rd m → STR (cTold S p (nI k) (nI t) v) (mEvt M p (d.n p) (d.n 0 + d.n 1 + d.n 2) (nI k) (nI t) v) d.sz (decide (S.y 5 0 = 10)) a q rd m := fun {a q rd m} s => s.fr (en _ (by omega)) (fun _ _ _ => rfl) (fun _ _ _ => rfl) rfl (fun j h1 h2 => by rw [eg j (by omega) (by omega) (by omega) (by omega)]) (fun j _ h1 h2 _ => by rw [eg j (by omega) (by omega) (by omega) (by omega)])
  exact ⟨h.tx.elim fun n t => ⟨n, ⟨t.n60, t.m0, t.s19, t.s17, t.cap, t.c16, t.c70, t.by_, t.ch⟩⟩, ev, tb, h.lag, h.idle, ⟨h.pl.b, h.pl.s15, fun e => (h.pl.q e).tb rfl rfl rfl, h.pl.z⟩, by rw [en 4 (by omega)]; exact h.tt, fr h.st0, h.st1.elim fun rd s => s.elim fun m s => ⟨rd, m, fr s.1, s.2⟩, ⟨h.sn.c5, h.sn.s13, h.sn.m35, h.sn.s14, h.sn.m37, h.sn.y7, h.sn.inj, h.sn.num, h.sn.inc⟩, fun k hk => (h.std k hk).elim fun rd s => s.elim fun m s => ⟨rd, m, fr s.1, s.2⟩, h.tki, h.wk⟩
section EV19
variable {x : Nat → Int32} {g : Nat → Nat → Int32} {v1 v2 v3 v4 s0 : Int32} {Φ : Int32 → (Nat → Int32) → (Nat → Nat → Int32) → Prop}
end EV19
theorem TX.of {S M S' M' n} (t : TX S M n) (fs : FrS S S') (fm : FrM M M') : TX S' M' n :=
  ⟨t.n60, by rw [fm.x]; exact t.m0, by rw [fs.x 19 0 (by omega)]; exact t.s19, by rw [fs.x 17 0 (by omega)]; exact t.s17, by rw [fs.y]; exact t.cap, by rw [fs.y]; exact t.c16, by rw [fs.y]; exact t.c70, by rw [fs.g]; exact t.by_, fun i hi => by rw [fs.g, fm.g 4 i (by omega)]; exact t.ch i hi⟩
theorem Rel.of {S M S' M' d i} (h : Rel S M d i) (h5 : M.x 5 = 1) (n : NR S' M' d.sz d.sl d.lt) (fs : FrS S S') (fm : FrM M M') (cw : (M'.V 6).length ≤ 4 * (d.rd 0 + d.rd 1 + d.rd 2)) (pt : pW (M'.V 6) + M'.T.length ≤ 8 * (d.rd 0 + d.rd 1 + d.rd 2)) (n27 : M'.g 27 6 = nI M'.T.length) : Rel S' M' d i := by
  have ey : S'.y 5 0 = S.y 5 0 := by rw [fs.y]
  have hT : M.T.length ≤ M'.T.length := by obtain ⟨rs, e⟩ := fm.t; rw [e, List.length_append]; omega
  have eg : ∀ k, k ≠ 25 → k ≠ 26 → k ≠ 27 → M'.g k = M.g k := fun k a b c => funext fun j => fm.g k j (by omega)
  have str : ∀ {a p rd m}, a ≠ 0 → p ≠ 6 → STR S M d.sz (decide (S.y 5 0 = 10)) a p rd m → STR S' M' d.sz (decide (S'.y 5 0 = 10)) a p rd m := fun {a p rd m} ha hp s => by
    rw [ey]
    exact s.fr (fs.R _ (by omega) (by omega)) (fun k h1 h2 => fs.x k a (by omega)) (fun k _ _ => by rw [fs.g]) (fm.V p hp) (fun k _ _ => fm.g k p (by omega)) (fun k j h1 h2 _ => fm.g k _ (by omega))
  refine ⟨?_, ?_, ?_, ?_, ?_, ?_, n.tt, ?_, ?_, ?_, ?_, h.tki, ?_⟩
  · obtain ⟨k, t⟩ := h.tx
    exact ⟨k, t.of fs fm⟩
  · exact h.ev.fr (fun p hp => fs.R p (by omega) (by omega)) (fun k h1 h2 => eg k (by omega) (by omega) (by omega)) (by rw [fm.x]) (fm.g 6 0 (by omega))
  · have e3 := fs.R 3 (by omega) (by omega)
    refine ⟨by rw [e3]; exact h.tb.n60, by rw [e3, fm.x]; exact h.tb.m19, fun r hr => ?_⟩
    rw [e3] at hr ⊢
    rw [eg 20 (by omega) (by omega) (by omega), eg 21 (by omega) (by omega) (by omega), eg 22 (by omega) (by omega) (by omega)]
    exact h.tb.row r hr
  · intro p hp
    rw [fs.x 6 p (by omega), eg 17 (by omega) (by omega) (by omega)]
    exact h.lag p hp
  · intro p hp
    rw [fs.x 7 p (by omega), eg 18 (by omega) (by omega) (by omega)]
    exact h.idle p hp
  · refine ⟨by rw [fm.x]; exact h.pl.b, by rw [fs.x 15 0 (by omega), fm.x]; exact h.pl.s15, fun _ => n.q, fun e => ?_⟩
    rw [fm.x] at e
    exact absurd (h5.symm.trans e) (by decide)
  · refine ⟨n.wr, n.mkk, n.mr, n.lc, fun j hj => ?_, fun j hj hr => ?_, fun j hj hr => ?_, n27, fun e => absurd rfl e, cw, pt⟩
    · rw [fs.g, eg 23 (by omega) (by omega) (by omega)]; exact h.st0.rs j hj
    · rw [fs.g, eg 24 (by omega) (by omega) (by omega)]; exact h.st0.gr j hj hr
    · rw [eg 24 (by omega) (by omega) (by omega)]; exact h.st0.g0 j hj hr
  · obtain ⟨rd, m, s, a, b⟩ := h.st1
    exact ⟨rd, m, str (by decide) (by decide) s, a, by omega⟩
  · exact ⟨h.sn.c5, by rw [fs.x 13 0 (by omega)]; exact h.sn.s13, by rw [fm.x]; exact h.sn.m35, by rw [fs.x 14 0 (by omega)]; exact h.sn.s14, by rw [fm.x]; exact h.sn.m37, by rw [fs.y]; exact h.sn.y7, by rw [fs.y]; exact h.sn.inj, fun k hk => by
      rw [fs.y, fs.x 5 _ (by omega), eg 36 (by omega) (by omega) (by omega)]; exact h.sn.num k hk, fun j k a b => by
      rw [fs.y, fs.x 5 _ (by omega), fs.x 5 _ (by omega)]; exact h.sn.inc j k a b⟩
  · intro k hk
    have hc5 := h.sn.c5
    obtain ⟨rd, m, s, a, b⟩ := h.std k hk
    have y2 := (h.sn.y7 k (by omega)).1
    rw [fs.y]
    exact ⟨rd, m, by have := str (a := S.y 7 k) (p := k) (by omega) (by omega) s; rwa [fs.y] at this, a, by omega⟩
  · rw [fs.x 16 0 (by omega), fm.x]; exact h.wk
theorem Rel.nr {S M d i} (h : Rel S M d i) (h5 : M.x 5 = 1) : NR S M d.sz d.sl d.lt := ⟨h.pl.q h5, h.st0.wr, h.tt, h.st0.mkk, h.st0.mr, h.st0.lc⟩
theorem Rel.pr {S M d i} (h : Rel S M d i) : PR S M := by
  refine ⟨h.idle, fun j hj => ?_, fun j hj hr => ?_, h.lag⟩
  · obtain ⟨a, b⟩ := h.st0.rs j hj
    rw [a, ← b]
  · obtain ⟨a, b⟩ := h.st0.rs j hj
    have h0 : d.rd j ≠ 0 := fun e => hr (by rw [a, e]; rfl)
    obtain ⟨c, q, hq, e⟩ := h.st0.gr j hj h0
    refine ⟨c, ?_⟩
    rw [e, nI_toInt (by omega)]
    omega
theorem QR.x7 {S M sz sl lt} (h : QR S M sz sl lt) {p : Nat} {v w : Int32} : QR (uX S 7 p v) (mG M 18 p w) sz sl lt :=
  ⟨h.f0, h.f2, h.c0, h.c1, h.c2, h.lim, h.jn, h.jb, h.sh, h.sh1, h.sh2, h.zm, h.zc, h.z1, h.z2, h.sc, h.s1, h.s2, h.s9, h.s8, h.lm, h.lc, h.l2, h.m, h.m1, h.m2⟩
theorem idleB {S M d i} (h : Rel S M d i) {p : Nat} {v : Int32} : ∀ q, q < 3 → (uX S 7 p v).x 7 q = (mG M 18 p v).g 18 q := fun q hq => by
  simp only [CS.mk_R, CS.mk_cap, CS.mk_x, CS.mk_y, CS.mk_g, CS.mk_eta, MS.mk_x, MS.mk_g, MS.mk_V, MS.mk_T, MS.mk_eta, GD.mk_n, GD.mk_rd, GD.mk_c, GD.mk_tk, GD.mk_sz, GD.mk_sl, GD.mk_lt, GD.mk_eta, uX, mG, p_ug]
  unfold va_up upd
  by_cases e : q = p
  · rw [if_pos e, if_pos e]
  · rw [if_neg e, if_neg e]; exact h.idle q hq
theorem Rel.idl {S M d i} (h : Rel S M d i) {p : Nat} {v : Int32} : Rel (uX S 7 p v) (mG M 18 p v) d i :=
  ⟨h.tx.elim fun n t => ⟨n, ⟨t.n60, t.m0, t.s19, t.s17, t.cap, t.c16, t.c70, t.by_, t.ch⟩⟩, ⟨h.ev.len, h.ev.cnt, h.ev.tot, h.ev.m8, h.ev.row, h.ev.rdn, h.ev.done⟩, ⟨h.tb.n60, h.tb.m19, h.tb.row⟩, h.lag, idleB h, ⟨h.pl.b, h.pl.s15, fun e => QR.x7 (h.pl.q e), h.pl.z⟩, h.tt, ⟨h.st0.wr, h.st0.mkk, h.st0.mr, h.st0.lc, h.st0.rs, h.st0.gr, h.st0.g0, h.st0.m27, h.st0.x4, h.st0.cw, h.st0.pt⟩, h.st1.elim fun rd s => s.elim fun m s => ⟨rd, m, ⟨s.1.wr, s.1.mkk, s.1.mr, s.1.lc, s.1.rs, s.1.gr, s.1.g0, s.1.m27, s.1.x4, s.1.cw, s.1.pt⟩, s.2⟩, ⟨h.sn.c5, h.sn.s13, h.sn.m35, h.sn.s14, h.sn.m37, h.sn.y7, h.sn.inj, h.sn.num, h.sn.inc⟩, fun k hk => (h.std k hk).elim fun rd s => s.elim fun m s => ⟨rd, m, ⟨s.1.wr, s.1.mkk, s.1.mr, s.1.lc, s.1.rs, s.1.gr, s.1.g0, s.1.m27, s.1.x4, s.1.cw, s.1.pt⟩, s.2⟩, h.tki, h.wk⟩
theorem RC.capAll {S x y g} (h : RC S x y g) : pSum S.cap ≤ 557056 := h.capM
theorem Rel.sizes {S M d i} (h : Rel S M d i) : (M.V 6).length ≤ 1200 ∧ pW (M.V 6) + M.T.length ≤ 2400 ∧ d.rd 0 + d.rd 1 + d.rd 2 ≤ 300 := by
  have a := h.ev.rdn 0 (by omega)
  have b := h.ev.rdn 1 (by omega)
  have c := h.ev.rdn 2 (by omega)
  have t := h.ev.tot
  have := h.st0.cw
  have := h.st0.pt
  omega
def CapOK (S : CS) : Prop := ∀ q, q < 12 → S.cap q ≤ 8192 * pwq q
theorem RC.ok {S x y g} (h : RC S x y g) : CapOK S := fun q hq => (h.rows q hq).cm
theorem CapOK.rw {S q W c} (h : CapOK S) (hc : c ≤ 8192 * pwq q) : CapOK (cRw S q W c) := fun j hj => by
  by_cases e : j = q
  · subst e; rw [cRw_c]; exact hc
  · rw [cRw_cn _ _ _ e]; exact h j hj
theorem CapOK.sum {S} (f : CapOK S) : pSum S.cap ≤ 557056 := by
  have h0 := f 0 (by omega); have h1 := f 1 (by omega); have h2 := f 2 (by omega); have h3 := f 3 (by omega)
  have h4 := f 4 (by omega); have h5 := f 5 (by omega); have h6 := f 6 (by omega); have h7 := f 7 (by omega)
  have h8 := f 8 (by omega); have h9 := f 9 (by omega); have h10 := f 10 (by omega); have h11 := f 11 (by omega)
  simp only [CS.mk_R, CS.mk_cap, CS.mk_x, CS.mk_y, CS.mk_g, CS.mk_eta, MS.mk_x, MS.mk_g, MS.mk_V, MS.mk_T, MS.mk_eta, GD.mk_n, GD.mk_rd, GD.mk_c, GD.mk_tk, GD.mk_sz, GD.mk_sl, GD.mk_lt, GD.mk_eta, pwq] at h0 h1 h2 h3 h4 h5 h6 h7 h8 h9 h10 h11
  simp at h0 h1 h2 h3 h4 h5 h6 h7 h8 h9 h10 h11
  unfold pSum
  omega
theorem CapOK.app {S} (h : CapOK S) (rs : List pRow) (hn : (S.R 4).length + rs.length ≤ 4096) : CapOK (cApp S rs) := by
  induction rs generalizing S with
  | nil => exact h
  | cons r rs ih =>
    simp only [CS.mk_R, CS.mk_cap, CS.mk_x, CS.mk_y, CS.mk_g, CS.mk_eta, MS.mk_x, MS.mk_g, MS.mk_V, MS.mk_T, MS.mk_eta, GD.mk_n, GD.mk_rd, GD.mk_c, GD.mk_tk, GD.mk_sz, GD.mk_sl, GD.mk_lt, GD.mk_eta, List.length_cons] at hn
    refine ih (h.rw (pgrow_cap (h 4 (by omega)) (by omega))) ?_
    show ((cApp1 S r).R 4).length + _ ≤ _
    rw [cApp1, cRw_R, List.length_append, List.length_singleton]; omega
theorem CapOK.win {S} (h : CapOK S) (W : List pRow) : CapOK (cWin S W) := h.rw (h 5 (by omega))
theorem CapOK.tell {S} (h : CapOK S) (i : Nat) (hn : (S.R 4).length + 2 ≤ 4096) : CapOK (cTell S i) := (h.app _ (by have := tRes_le2 (m := S.y 6 0) (w := (S.R 5).getD i pz); omega)).win _
theorem CapOK.ripe {S} (h : CapOK S) (i : Nat) (hn : (S.R 4).length + 2 ≤ 4096) : CapOK (cRipe S i) := by
  unfold cRipe; split
  · exact h.tell i hn
  · exact h
theorem CapOK.add {S} (h : CapOK S) (k b e t : Int32) (hn : (S.R 5).length < 4096) : CapOK (cAdd S k b e t) := h.rw (pgrow_cap (h 5 (by omega)) (by omega))
theorem CapOK.into {S} (h : CapOK S) (k b a : Int32) (h4 : (S.R 4).length + 2 ≤ 4096) (h5 : (S.R 5).length < 4096) : CapOK (cInto S k b a) := by
  unfold cInto
  split
  · split
    · exact (h.win _).ripe _ (by rw [cWin, cRw_Rn _ _ _ (by decide)]; exact h4)
    · exact (h.add _ _ _ _ h5).ripe _ (by rw [cAdd, cRw_Rn _ _ _ (by decide)]; exact h4)
  · exact h
theorem CapOK.sl {S} (h : CapOK S) (k a : Int32) (bs : List Int32) (h4 : (S.R 4).length + 2 * bs.length ≤ 4096) (h5 : (S.R 5).length + bs.length ≤ 4096) : CapOK (cSl k a S bs) := by
  induction bs generalizing S with
  | nil => exact h
  | cons b bs ih =>
    simp only [CS.mk_R, CS.mk_cap, CS.mk_x, CS.mk_y, CS.mk_g, CS.mk_eta, MS.mk_x, MS.mk_g, MS.mk_V, MS.mk_T, MS.mk_eta, GD.mk_n, GD.mk_rd, GD.mk_c, GD.mk_tk, GD.mk_sz, GD.mk_sl, GD.mk_lt, GD.mk_eta, List.length_cons] at h4 h5
    obtain ⟨_, _, _, s4, s5⟩ := cInto_same S k b a
    exact ih (h.into k b a (by omega) (by omega)) (by omega) (by omega)
theorem CapOK.ses {S} (h : CapOK S) (k t a : Int32) (h4 : (S.R 4).length + (S.R 5).length + 2 ≤ 4096) : CapOK (cSes S k t a) := by
  have hg : ∀ b e tot, CapOK (cGrow S k t b e tot) := fun b e tot => by
    have l1 : (pBacks (S.x 10 0) k t (S.R 5)).length ≤ (S.R 5).length := by
      rw [pBacks, List.length_map]; exact List.length_filter_le _ _
    have l2 : (pRest (S.x 10 0) k t (S.R 5)).length ≤ (S.R 5).length := List.length_filter_le _ _
    have c1 : CapOK (cEnd S k t) := (h.app _ (by omega)).win _
    have r5 : (cEnd S k t).R 5 = pRest (S.x 10 0) k t (S.R 5) := by rw [cEnd, cWin, cRw_R]
    have r4 : (cEnd S k t).R 4 = S.R 4 ++ pBacks (S.x 10 0) k t (S.R 5) := by rw [cEnd, cWin, cRw_Rn _ _ _ (by decide), cApp_R4]
    by_cases hlt : ((cEnd S k t).R 5).length < 4096
    · refine (c1.add k b e tot hlt).ripe _ ?_
      rw [cAdd, cRw_Rn _ _ _ (by decide), r4, List.length_append]
      have : (pBacks (S.x 10 0) k t (S.R 5)).length ≤ (S.R 5).length := l1
      omega
    · rw [r5] at hlt; omega
  unfold cSes
  try dsimp only [CS.mk_R, CS.mk_cap, CS.mk_x, CS.mk_y, CS.mk_g, CS.mk_eta, MS.mk_x, MS.mk_g, MS.mk_V, MS.mk_T, MS.mk_eta, GD.mk_n, GD.mk_rd, GD.mk_c, GD.mk_tk, GD.mk_sz, GD.mk_sl, GD.mk_lt, GD.mk_eta]
  split
  · split
    · exact hg _ _ _
    · exact h
  · split
    · exact (h.win _).ripe _ (by show ((cRw S 5 _ (S.cap 5)).R 4).length + 2 ≤ 4096; rw [cRw_Rn _ _ _ (by decide)]; omega)
    · exact hg _ _ _
theorem CapOK.drop {S} (h : CapOK S) (h4 : (S.R 4).length + (S.R 5).length ≤ 4096) : CapOK (cDrop S) := by
  refine (h.app _ ?_).win _
  unfold tResL
  rw [flat_len (fun r hr => (of_decide_eq_true (List.mem_filter.1 hr).2).2)]
  have := List.length_filter_le (fun r => decide (r 2 ≤ S.x 2 0 ∧ r 4 = 0)) (S.R 5)
  omega
theorem CapOK.find {S} (h : CapOK S) (h4 : (S.R 4).length + (S.R 5).length ≤ 4096) : CapOK (cFind S) := by
  unfold cFind cFindT
  split
  · split
    · exact h
    · exact CapOK.drop (S := uX S 2 0 _) h h4
  · exact h
theorem find_cap {S M d i x y g} (hr : Rel S M d i) (hc : RC S x y g) : pSum (cFind S).cap ≤ 557056 := by
  have hsz := hr.sizes
  have hpl := pW_len (M.V 6)
  have htt : (S.R 4).length = M.T.length := by rw [hr.tt]
  have hwl : (S.R 5).length = (M.V 6).length := hr.st0.wr.len
  exact (hc.ok.find (by omega)).sum
