theorem QR.lets {S M sz sl lt} (h : QR S M sz sl lt) (v : Int32) : mLets M v = cLets S v := by
  unfold mLets cLets
  have h1 := h.c1
  have h2 := h.c2
  have hc : S.y 4 0 = 3 ∨ S.y 4 0 = 4 ∨ S.y 4 0 = 5 ∨ S.y 4 0 = 6 := by omega
  rw [h.c0, h.lim]
  rcases hc with e | e | e | e <;> rw [e]
  · rw [if_pos (show nI (3 - 3) = 0 by decide), if_neg (by decide), if_neg (by decide), if_neg (by decide)]
  · rw [if_neg (show ¬ nI (4 - 3) = 0 by decide), if_pos (show nI (4 - 3) = 1 by decide)]
    exact (if_pos rfl).symm
  · rw [if_neg (show ¬ nI (5 - 3) = 0 by decide), if_neg (show ¬ nI (5 - 3) = 1 by decide), if_pos (show nI (5 - 3) = 2 by decide)]
    exact ((if_neg (by decide)).trans (if_pos rfl)).symm
  · rw [if_neg (show ¬ nI (6 - 3) = 0 by decide), if_neg (show ¬ nI (6 - 3) = 1 by decide), if_neg (show ¬ nI (6 - 3) = 2 by decide)]
    exact ((if_neg (by decide)).trans ((if_neg (by decide)).trans (if_pos rfl))).symm
def jRel (M : MS) (acc : Int32 × Int32) : Option Nat → Prop
  | none => acc = (0, -1)
  | some j => acc = (M.g 22 j, M.g 21 j)
theorem join_rel {S M} (h : TBR S M) {k : Int32} {t : Nat} (ht : t < 1000) : mJoin M (S.R 3).length k (nI t) = cJoin S k (nI t) := by
  have key : ∀ (B : List pRow) (i : Nat) (acc : Int32 × Int32) (f : Option Nat), (S.R 3).drop i = B → i + B.length = (S.R 3).length → jRel M acc f → (B.foldl (jvStep k (nI t)) acc).1 = (match (List.range' i B.length).foldl (tbStep M k (nI t)) f with | none => 0 | some j => M.g 22 j) := by
    intro B
    induction B with
    | nil =>
      intro i acc f _ _ hf
      simp only [CS.mk_R, CS.mk_cap, CS.mk_x, CS.mk_y, CS.mk_g, CS.mk_eta, MS.mk_x, MS.mk_g, MS.mk_V, MS.mk_T, MS.mk_eta, GD.mk_n, GD.mk_rd, GD.mk_c, GD.mk_tk, GD.mk_sz, GD.mk_sl, GD.mk_lt, GD.mk_eta, List.foldl_nil, List.length_nil, List.range'_zero]
      cases f with
      | none => rw [jRel] at hf; rw [hf]
      | some j => rw [jRel] at hf; rw [hf]
    | cons r B ih =>
      intro i acc f hd hi hf
      simp only [CS.mk_R, CS.mk_cap, CS.mk_x, CS.mk_y, CS.mk_g, CS.mk_eta, MS.mk_x, MS.mk_g, MS.mk_V, MS.mk_T, MS.mk_eta, GD.mk_n, GD.mk_rd, GD.mk_c, GD.mk_tk, GD.mk_sz, GD.mk_sl, GD.mk_lt, GD.mk_eta, List.length_cons] at hi
      obtain ⟨hg, hd2, hlt⟩ := p_dropS hd
      obtain ⟨c0, c1, c2, t2, ht2, e21⟩ := h.row i hlt
      rw [hg] at c0 c1 c2
      simp only [CS.mk_R, CS.mk_cap, CS.mk_x, CS.mk_y, CS.mk_g, CS.mk_eta, MS.mk_x, MS.mk_g, MS.mk_V, MS.mk_T, MS.mk_eta, GD.mk_n, GD.mk_rd, GD.mk_c, GD.mk_tk, GD.mk_sz, GD.mk_sl, GD.mk_lt, GD.mk_eta, List.foldl_cons, List.length_cons, List.range'_succ]
      refine ih (i + 1) _ _ hd2 (by omega) ?_
      unfold jvStep tbStep
      rw [c0, c1, c2]
      cases f with
      | none =>
        rw [jRel] at hf
        subst hf
        have e1 : ¬ M.g 21 i < (-1 : Int32) := by rw [e21, i_lt, nI_toInt (by omega)]; change ¬ (_ : Int) < -1; omega
        by_cases c : M.g 20 i = k ∧ ¬ nI t < M.g 21 i
        · rw [if_pos ⟨c.1, c.2, e1⟩, if_pos ⟨c.1, c.2, rfl⟩]; rfl
        · rw [if_neg (fun q => c ⟨q.1, q.2.1⟩), if_neg (fun q => c ⟨q.1, q.2.1⟩)]; rfl
      | some j =>
        rw [jRel] at hf
        subst hf
        by_cases c : M.g 20 i = k ∧ ¬ nI t < M.g 21 i ∧ ¬ M.g 21 i < M.g 21 j
        · rw [if_pos c, if_pos ⟨c.1, c.2.1, tbC_some.2 c.2.2⟩]; rfl
        · rw [if_neg c, if_neg (fun q => c ⟨q.1, q.2.1, tbC_some.1 q.2.2⟩)]; rfl
  unfold mJoin cJoin
  exact (key (S.R 3) 0 (0, -1) none rfl (by omega) rfl).symm
theorem mB_a {t sl n q : Nat} (hq : q * sl ≤ t) (ht : t < q * sl + sl) : ∀ m j, j + m = q + 1 → m ≤ n → mBegins t (n * sl) sl m (j * sl) = pBegins (q * sl) sl m := by
  intro m
  induction m with
  | zero => intro j _ _; rfl
  | succ m ih =>
    intro j hj hm
    have hjq : j ≤ q := by omega
    have e1 : j * sl ≤ q * sl := Nat.mul_le_mul_right sl hjq
    have e2 : (q + 1) * sl ≤ (j + n) * sl := Nat.mul_le_mul_right sl (by omega)
    rw [Nat.succ_mul, Nat.add_mul] at e2
    have e3 : m * sl + j * sl = q * sl := by rw [← Nat.add_mul]; congr 1; omega
    rw [mBegins, if_neg (by omega), if_neg (by omega), pBegins, if_pos (by omega), show q * sl - m * sl = j * sl by omega]
    congr 1
    have := ih (j + 1) (by omega) (by omega)
    rwa [Nat.succ_mul] at this
theorem mB_b {t sl n q : Nat} (hq : q * sl ≤ t) (ht : t < q * sl + sl) (hn : 1 ≤ n) : ∀ m j, j + (n + m) = q + 1 → mBegins t (n * sl) sl (n + m) (j * sl) = pBegins (q * sl) sl n := by
  intro m
  induction m with
  | zero => intro j hj; exact mB_a hq ht n j hj (Nat.le_refl _)
  | succ m ih =>
    intro j hj
    have e1 : (j + n) * sl ≤ q * sl := Nat.mul_le_mul_right sl (by omega)
    rw [Nat.add_mul] at e1
    have e2 : j * sl ≤ q * sl := Nat.mul_le_mul_right sl (by omega)
    rw [show n + (m + 1) = (n + m) + 1 by omega, mBegins, if_neg (by omega), if_pos (by omega)]
    have := ih (j + 1) (by omega)
    rwa [Nat.succ_mul] at this
theorem pB_c {sl q : Nat} (hs : 0 < sl) : ∀ m, pBegins (q * sl) sl (q + 1 + m) = pBegins (q * sl) sl (q + 1) := by
  intro m
  induction m with
  | zero => rfl
  | succ m ih =>
    have : q * sl < (q + 1 + m) * sl := Nat.mul_lt_mul_of_pos_right (by omega) hs
    rw [show q + 1 + (m + 1) = (q + 1 + m) + 1 by omega, pBegins, if_neg (by omega), ih]
theorem begins_rel {t sz sl : Nat} (hs : 0 < sl) (hz : sz % sl = 0) (hz1 : 1 ≤ sz) : mBegins t sz sl (t / sl + 1) 0 = pBegins (t / sl * sl) sl (sz / sl) := by
  have hq : t / sl * sl ≤ t := Nat.div_mul_le_self t sl
  have ht : t < t / sl * sl + sl := by
    have h1 := Nat.div_add_mod t sl
    have h2 := Nat.mod_lt t hs
    rw [Nat.mul_comm] at h1
    omega
  have hn : sz / sl * sl = sz := Nat.div_mul_cancel (Nat.dvd_of_mod_eq_zero hz)
  have hn1 : 1 ≤ sz / sl := by
    rcases Nat.eq_zero_or_pos (sz / sl) with e | e
    · rw [e] at hn; omega
    · exact e
  generalize t / sl = q at *
  generalize hnn : sz / sl = n at *
  subst hn
  rcases Nat.le_total (q + 1) n with h | h
  · have h1 := mB_a (n := n) hq ht (q + 1) 0 (by omega) h
    have h2 := pB_c (q := q) hs (n - (q + 1))
    rw [show q + 1 + (n - (q + 1)) = n by omega] at h2
    rw [Nat.zero_mul] at h1
    rw [h1, h2]
  · have h1 := mB_b hq ht hn1 (q + 1 - n) 0 (by omega)
    rw [show n + (q + 1 - n) = q + 1 by omega, Nat.zero_mul] at h1
    exact h1
theorem pB_nat (last sl : Nat) : ∀ m, ∃ bs : List Nat, pBegins last sl m = bs.map nI ∧ bs.length ≤ m ∧ ∀ b, b ∈ bs → b ≤ last := by
  intro m
  induction m with
  | zero => exact ⟨[], rfl, Nat.le_refl _, fun b hb => absurd hb (by simp)⟩
  | succ m ih =>
    obtain ⟨bs, e, l, hb⟩ := ih
    rw [pBegins]
    split
    · refine ⟨(last - m * sl) :: bs, by rw [List.map_cons, e], by simp; omega, fun b hb2 => ?_⟩
      rcases List.mem_cons.1 hb2 with q | q
      · omega
      · exact hb b q
    · exact ⟨bs, e, by omega, hb⟩
theorem put_rel {S M sz sl lt} (h : NR S M sz sl lt) {p r k t : Nat} {v : Int32} (hk : k < 8) (ht : t < 1000) (r0 : ((S.R p).getD r pz) 0 = nI k) (r1 : ((S.R p).getD r pz) 1 = nI t) (r4 : ((S.R p).getD r pz) 4 = mIts M v) (hl : (M.V 6).length + 4 ≤ 1200) (hT : pW (M.V 6) + M.T.length ≤ 2400) : (M.g 6 4 ≠ 2 → M.g 6 4 ≠ 0 → mFsOK (nI k) v M (mBegins t sz sl (t / sl + 1) 0)) ∧ NR (cPut S p r) (mComes M (nI k) v t sz sl) sz sl lt ∧ FrS S (cPut S p r) ∧ FrM M (mComes M (nI k) v t sz sl) ∧ ((mComes M (nI k) v t sz sl).V 6).length ≤ (M.V 6).length + 4 ∧ pW ((mComes M (nI k) v t sz sl).V 6) + (mComes M (nI k) v t sz sl).T.length ≤ pW (M.V 6) + M.T.length + 8 := by
  have h1 := h.q.sh1
  have h2 := h.q.sh2
  have s1 := h.q.s1
  have s2 := h.q.s2
  have z1 := h.q.z1
  have z2 := h.q.z2
  have e10 : M.g 6 4 = 2 ↔ S.y 5 0 = 10 := by
    rw [h.q.sh]
    have := nI_eq (a := S.y 5 0 - 8) (b := 2) (by omega) (by omega)
    exact ⟨fun q => by have := this.1 q; omega, fun q => by rw [q]; rfl⟩
  have e8 : M.g 6 4 = 0 ↔ S.y 5 0 = 8 := by
    rw [h.q.sh]
    have := nI_eq (a := S.y 5 0 - 8) (b := 0) (by omega) (by omega)
    exact ⟨fun q => by have := this.1 q; omega, fun q => by rw [q]; rfl⟩
  unfold cPut mComes
  try dsimp only [CS.mk_R, CS.mk_cap, CS.mk_x, CS.mk_y, CS.mk_g, CS.mk_eta, MS.mk_x, MS.mk_g, MS.mk_V, MS.mk_T, MS.mk_eta, GD.mk_n, GD.mk_rd, GD.mk_c, GD.mk_tk, GD.mk_sz, GD.mk_sl, GD.mk_lt, GD.mk_eta]
  rw [r0, r1, r4, h.q.sc, h.q.zc, nI_back (by omega), nI_back (by omega), nI_back (by omega)]
  by_cases c : S.y 5 0 = 10
  · rw [if_pos c, if_pos (e10.2 c)]
    obtain ⟨k1, k2, k3, k4, k5⟩ := session_rel (k := k) (t := t) (v := v) h c hk ht rfl
    exact ⟨fun q => absurd (e10.2 c) q, k1, k2, k3, by omega, by omega⟩
  · rw [if_neg c, if_neg (fun q => c (e10.1 q))]
    have hlast : t / sl * sl ≤ t := Nat.div_mul_le_self t sl
    by_cases c8 : S.y 5 0 = 8
    · rw [if_pos (e8.2 c8)]
      have hsl := (h.q.s8 (by omega)).2
      subst hsl
      rw [Nat.div_self (by omega)]
      have eb : pBegins (t / sl * sl) sl 1 = [nI (t / sl * sl)] := by
        rw [pBegins, if_pos (by omega), Nat.zero_mul, Nat.sub_zero]; rfl
      rw [eb]
      obtain ⟨k1, k2, k3, k4, k5⟩ := into_rel (k := k) (b := t / sl * sl) (v := v) h c hk (by omega) rfl
      exact ⟨fun _ q => absurd (e8.2 c8) q, k1, k2, k3, by omega, by omega⟩
    · rw [if_neg (fun q => c8 (e8.1 q))]
      obtain ⟨_, hz, hz4⟩ := h.q.s9 (by omega)
      rw [begins_rel (by omega) hz z1]
      obtain ⟨bs, ebs, lbs, hbs⟩ := pB_nat (t / sl * sl) sl (sz / sl)
      have hn4 : sz / sl ≤ 4 := by
        have := Nat.div_le_div_right (c := sl) hz4
        rwa [Nat.mul_div_cancel _ (by omega)] at this
      rw [ebs]
      obtain ⟨k0, k1, k2, k3, k4, k5⟩ := slide_rel (k := k) (v := v) hk bs h c (fun b hb => by have := hbs b hb; omega) rfl (by omega) (by omega)
      exact ⟨fun _ _ => k0, k1, k2, k3, by omega, by omega⟩
def mRd (M : MS) (p r : Nat) (c a gr : Int32) : MS := mG (mG (mG (mG (mG (mG M 23 (18 + p) (nI (r + 1))) 13 (300 * p + r) c) 14 (300 * p + r) a) 15 (300 * p + r) (M.g 25 6)) 16 (300 * p + r) (M.g 6 7)) 24 (18 + p) gr
theorem cLets_b (S : CS) (v : Int32) : cLets S v = 0 ∨ cLets S v = 1 := by
  unfold cLets
  split
  · split <;> simp
  · split
    · split <;> simp
    · split
      · split <;> simp
      · simp
theorem Rel.read {S M d i} (h : Rel S M d i) (h5 : M.x 5 = 1) {p : Nat} (hp : p < 3) (hr : d.rd p < d.n p) {c a gr : Int32} (hc : c = mLets M (M.g 12 (300 * p + d.rd p))) (ha : a = M.g 12 (300 * p + d.rd p) + (if M.g 6 3 = 1 then mJoin M (S.R 3).length (M.g 10 (300 * p + d.rd p)) (M.g 11 (300 * p + d.rd p)) else 0)) (hgr : gr = if M.g 11 (300 * p + d.rd p) ≤ M.g 24 (18 + p) then M.g 24 (18 + p) else M.g 11 (300 * p + d.rd p)) : Rel (cRead S p (d.rd p)) (mRd M p (d.rd p) c a gr) (GD.mk d.n (va_up d.rd p (d.rd p + 1)) d.c d.tk d.sz d.sl d.lt) i := by
  have hQ := h.pl.q h5
  have hlen := h.ev.len p hp
  obtain ⟨k, t, hk, ht, r0, g10, r1, g11, r2⟩ := h.ev.row p hp _ hr
  have hn300 : ∀ q, q < 3 → d.n q ≤ 300 := fun q hq => by
    have := h.ev.tot
    have : q = 0 ∨ q = 1 ∨ q = 2 := by omega
    rcases this with e | e | e <;> subst e <;> omega
  have hnp := hn300 p hp
  generalize hrow : (S.R p).getD (d.rd p) pz = row at *
  have eRp : (cRead S p (d.rd p)).R p = (S.R p).set (d.rd p) (upd (upd (upd row 3 (cLets S (row 2))) 4 (cAmt S row)) 5 (S.x 2 0 - S.x 12 0)) := by
    unfold cRead; try dsimp only [CS.mk_R, CS.mk_cap, CS.mk_x, CS.mk_y, CS.mk_g, CS.mk_eta, MS.mk_x, MS.mk_g, MS.mk_V, MS.mk_T, MS.mk_eta, GD.mk_n, GD.mk_rd, GD.mk_c, GD.mk_tk, GD.mk_sz, GD.mk_sl, GD.mk_lt, GD.mk_eta]; rw [cRw_R, hrow]
  have eR : ∀ q, q ≠ p → (cRead S p (d.rd p)).R q = S.R q := fun q hq => cRw_Rn _ _ _ hq
  have ex : (cRead S p (d.rd p)).x = S.x := rfl
  have ey : (cRead S p (d.rd p)).y = S.y := rfl
  have eg1 : (cRead S p (d.rd p)).g 1 = va_up (S.g 1) 0 (upd (S.g 1 0) p (nI (d.rd p + 1))) := by
    unfold cRead; try dsimp only [CS.mk_R, CS.mk_cap, CS.mk_x, CS.mk_y, CS.mk_g, CS.mk_eta, MS.mk_x, MS.mk_g, MS.mk_V, MS.mk_T, MS.mk_eta, GD.mk_n, GD.mk_rd, GD.mk_c, GD.mk_tk, GD.mk_sz, GD.mk_sl, GD.mk_lt, GD.mk_eta]; rw [cRw_g]; simp only [CS.mk_R, CS.mk_cap, CS.mk_x, CS.mk_y, CS.mk_g, CS.mk_eta, MS.mk_x, MS.mk_g, MS.mk_V, MS.mk_T, MS.mk_eta, GD.mk_n, GD.mk_rd, GD.mk_c, GD.mk_tk, GD.mk_sz, GD.mk_sl, GD.mk_lt, GD.mk_eta, cG, p_ug, p_un _ _ (show (1 : Nat) ≠ 2 by decide)]
  have eg2 : (cRead S p (d.rd p)).g 2 = va_up (S.g 2) 0 (upd (S.g 2 0) p (cGr S p (d.rd p) (row 1))) := by
    unfold cRead; try dsimp only [CS.mk_R, CS.mk_cap, CS.mk_x, CS.mk_y, CS.mk_g, CS.mk_eta, MS.mk_x, MS.mk_g, MS.mk_V, MS.mk_T, MS.mk_eta, GD.mk_n, GD.mk_rd, GD.mk_c, GD.mk_tk, GD.mk_sz, GD.mk_sl, GD.mk_lt, GD.mk_eta]; rw [cRw_g, hrow]; simp only [CS.mk_R, CS.mk_cap, CS.mk_x, CS.mk_y, CS.mk_g, CS.mk_eta, MS.mk_x, MS.mk_g, MS.mk_V, MS.mk_T, MS.mk_eta, GD.mk_n, GD.mk_rd, GD.mk_c, GD.mk_tk, GD.mk_sz, GD.mk_sl, GD.mk_lt, GD.mk_eta, cG, p_ug, p_un _ _ (show (2 : Nat) ≠ 1 by decide)]
  have m23 : (mRd M p (d.rd p) c a gr).g 23 = upd (M.g 23) (18 + p) (nI (d.rd p + 1)) := rfl
  have m24 : (mRd M p (d.rd p) c a gr).g 24 = upd (M.g 24) (18 + p) gr := rfl
  have m13 : (mRd M p (d.rd p) c a gr).g 13 = upd (M.g 13) (300 * p + d.rd p) c := rfl
  have m14 : (mRd M p (d.rd p) c a gr).g 14 = upd (M.g 14) (300 * p + d.rd p) a := rfl
  have m15 : (mRd M p (d.rd p) c a gr).g 15 = upd (M.g 15) (300 * p + d.rd p) (M.g 25 6) := rfl
  have m16 : (mRd M p (d.rd p) c a gr).g 16 = upd (M.g 16) (300 * p + d.rd p) (M.g 6 7) := rfl
  have hsum := va3 (n := d.rd) (v := d.rd p + 1) hp
  have up_le : ∀ q, d.rd q ≤ va_up d.rd p (d.rd p + 1) q := fun q => by
    unfold va_up; split
    · next e => rw [e]; omega
    · exact Nat.le_refl _
  have ei : ∀ w, mIts (mRd M p (d.rd p) c a gr) w = mIts M w := fun w => rfl
  have st0 := h.st0
  have ev : EVR (cRead S p (d.rd p)) (mRd M p (d.rd p) c a gr) d.n (va_up d.rd p (d.rd p + 1)) := by
    refine ⟨fun q hq => ?_, h.ev.cnt, h.ev.tot, h.ev.m8, fun q hq r hr2 => ?_, fun q hq => ?_, fun q hq r hr2 => ?_⟩
    · by_cases e : q = p
      · subst e; rw [eRp, List.length_set]; exact hlen
      · rw [eR q e]; exact h.ev.len q hq
    · by_cases e : q = p
      · subst e
        rw [eRp]
        by_cases e2 : r = d.rd q
        · subst e2
          rw [p_getset (by omega)]
          exact ⟨k, t, hk, ht, r0, g10, r1, g11, r2⟩
        · rw [p_getset_ne _ e2]; exact h.ev.row q hq r hr2
      · rw [eR q e]; exact h.ev.row q hq r hr2
    · have := h.ev.rdn q hq
      by_cases e : q = p
      · subst e; rw [p_ug]; omega
      · rw [p_un _ _ e]; exact this
    · rw [m13, m14, m15, m16, ei]
      unfold upd
      by_cases e : q = p
      · subst e
        rw [p_ug] at hr2
        rw [eRp]
        by_cases e2 : r = d.rd q
        · subst e2
          rw [p_getset (by omega), if_pos rfl, if_pos rfl, if_pos rfl, if_pos rfl]
          have hmr := st0.mr
          rw [st0.mkk] at hmr
          have hl2 := hQ.l2
          have elt : (M.g 6 7).toInt = d.lt := by rw [hQ.lm]; exact nI_toInt (by omega)
          have ec : c = cLets S (row 2) := by rw [hc, hQ.lets, r2]
          refine ⟨ec.symm, by rw [ec]; exact cLets_b _ _, ?_, ?_, hmr.1, hmr.2, by rw [elt]; omega, by rw [elt]; omega⟩
          · show cAmt S row = mIts M a
            unfold cAmt mIts
            have e1 := hQ.cnt
            by_cases c1 : S.y 3 0 = 1
            · rw [if_pos c1, if_pos (e1.2 c1)]
            · rw [if_neg c1, if_neg (fun q => c1 (e1.1 q)), ha, hQ.jn, r2]
              by_cases c2 : S.x 9 0 = 0
              · rw [if_pos c2, if_neg (by rw [c2]; decide), Int32.add_zero]
              · have c3 := hQ.jb.resolve_left c2
                rw [if_neg c2, if_pos c3, r0, r1, g10, g11, join_rel h.tb ht]
          · show S.x 2 0 - S.x 12 0 = _
            rw [st0.mkk, hQ.lc, hQ.lm]
        · rw [p_getset_ne _ e2, if_neg (by omega), if_neg (by omega), if_neg (by omega), if_neg (by omega)]
          exact h.ev.done q hq r (by omega)
      · rw [p_un _ _ e] at hr2
        have := h.ev.rdn q hq
        have := hn300 q hq
        rw [eR q e, if_neg (by omega), if_neg (by omega), if_neg (by omega), if_neg (by omega)]
        exact h.ev.done q hq r hr2
  have tb : TBR (cRead S p (d.rd p)) (mRd M p (d.rd p) c a gr) := by
    have e3 := eR 3 (by omega)
    refine ⟨by rw [e3]; exact h.tb.n60, by rw [e3]; exact h.tb.m19, fun r hr => ?_⟩
    rw [e3] at hr ⊢
    exact h.tb.row r hr
  have fr : ∀ {a' q rd m}, a' ≠ 0 → q < 6 → STR S M d.sz (decide (S.y 5 0 = 10)) a' q rd m → STR (cRead S p (d.rd p)) (mRd M p (d.rd p) c a gr) d.sz (decide (S.y 5 0 = 10)) a' q rd m := fun {a' q rd m} h0 hq6 s => s.fr (eR _ (by omega)) (fun _ _ _ => by rw [ex]) (fun j h1 h2 => by
    have : j = 1 ∨ j = 2 := by omega
    rcases this with e | e <;> subst e
    · rw [eg1, p_un _ _ h0]
    · rw [eg2, p_un _ _ h0]) rfl (fun j h1 h2 => by
    have : j = 25 ∨ j = 26 ∨ j = 27 := by omega
    rcases this with e | e | e <;> subst e <;> rfl) (fun j l h1 h2 hl => by
    have : j = 23 ∨ j = 24 := by omega
    rcases this with e | e <;> subst e
    · rw [m23, upd, if_neg (by omega)]
    · rw [m24, upd, if_neg (by omega)])
  have hcap3 : 3 * 6 + p = 18 + p := by omega
  have new0 : STR (cRead S p (d.rd p)) (mRd M p (d.rd p) c a gr) d.sz (decide (S.y 5 0 = 10)) 0 6 (va_up d.rd p (d.rd p + 1)) M.T.length := by
    refine ⟨by rw [eR _ (by omega)]; exact st0.wr, by rw [ex]; exact st0.mkk, by rw [ex]; exact st0.mr, by rw [ex]; exact st0.lc, fun j hj => ?_, fun j hj hr0 => ?_, fun j hj hr0 => ?_, st0.m27, fun e => absurd rfl e, ?_, ?_⟩
    · rw [eg1, m23, p_ug]
      unfold upd
      by_cases e : j = p
      · subst e; rw [if_pos rfl, if_pos (by omega), p_ug]; exact ⟨rfl, rfl⟩
      · rw [if_neg e, if_neg (by omega), p_un _ _ e]; exact st0.rs j hj
    · rw [eg2, m24, p_ug]
      unfold upd
      by_cases e : j = p
      · subst e
        rw [if_pos rfl, if_pos (by omega), hgr, g11]
        unfold cGr
        rw [r1]
        by_cases c0 : d.rd j = 0
        · have g0 := st0.g0 j hj c0
          rw [hcap3] at g0
          rw [if_pos c0, g0, if_neg]
          · exact ⟨rfl, t, ht, rfl⟩
          · rw [i_le, nI_toInt (by omega)]; change ¬ (_ : Int) ≤ -1; omega
        · obtain ⟨g1, q, hq1, g2⟩ := st0.gr j hj c0
          rw [hcap3] at g1
          rw [if_neg c0, ← g1]
          by_cases c2 : S.g 2 0 j < nI t
          · rw [if_pos c2, if_neg (fun q => by rw [i_lt] at c2; rw [i_le] at q; omega)]
            exact ⟨rfl, t, ht, rfl⟩
          · rw [if_neg c2, if_pos (Int32.not_lt.1 c2)]
            exact ⟨rfl, q, hq1, g2⟩
      · rw [if_neg e, if_neg (by omega)]
        rw [p_un _ _ e] at hr0
        exact st0.gr j hj hr0
    · rw [m24]
      unfold upd
      by_cases e : j = p
      · subst e; rw [p_ug] at hr0; omega
      · rw [p_un _ _ e] at hr0
        rw [if_neg (by omega)]
        exact st0.g0 j hj hr0
    · have := st0.cw
      show (M.V 6).length ≤ _
      omega
    · have := st0.pt
      show pW (M.V 6) + _ ≤ _
      omega
  have hc5 := h.sn.c5
  exact ⟨h.tx.elim fun n t => ⟨n, ⟨t.n60, t.m0, t.s19, t.s17, t.cap, t.c16, t.c70, t.by_, t.ch⟩⟩, ev, tb, h.lag, h.idle, ⟨h.pl.b, h.pl.s15, fun e => (h.pl.q e).tb rfl rfl rfl, fun e => absurd (h5.symm.trans e) (by decide)⟩, by rw [eR 4 (by omega)]; exact h.tt, new0, h.st1.elim fun rd s => s.elim fun m s => ⟨rd, m, fr (by decide) (by decide) s.1, fun q => Nat.le_trans (s.2.1 q) (up_le q), s.2.2⟩, ⟨h.sn.c5, h.sn.s13, h.sn.m35, h.sn.s14, h.sn.m37, h.sn.y7, h.sn.inj, h.sn.num, h.sn.inc⟩, fun k hk => (h.std k hk).elim fun rd s => s.elim fun m s => ⟨rd, m, fr (by have := (h.sn.y7 k (by have : k < d.c := hk; omega)).1; show S.y 7 k ≠ 0; omega) (by have : k < d.c := hk; omega) s.1, fun q => Nat.le_trans (s.2.1 q) (up_le q), s.2.2⟩, h.tki, h.wk⟩
theorem NR.g24 {S M sz sl lt} (h : NR S M sz sl lt) (j : Nat) (v : Int32) : NR S (mG M 24 j v) sz sl lt := ⟨h.q.ofx rfl, h.wr, h.tt, h.mkk, h.mr, h.lc⟩
theorem FrM.g24 {M M' : MS} (h : FrM M M') (j : Nat) (v : Int32) : FrM (mG M 24 j v) (mG M' 24 j v) := by
  refine ⟨h.x, h.V, fun k i hk => ?_, h.t⟩
  simp only [CS.mk_R, CS.mk_cap, CS.mk_x, CS.mk_y, CS.mk_g, CS.mk_eta, MS.mk_x, MS.mk_g, MS.mk_V, MS.mk_T, MS.mk_eta, GD.mk_n, GD.mk_rd, GD.mk_c, GD.mk_tk, GD.mk_sz, GD.mk_sl, GD.mk_lt, GD.mk_eta, mG]
  have e24 : M'.g 24 = M.g 24 := funext fun i => h.g 24 i (by omega)
  by_cases e : k = 24
  · subst e; rw [p_ug, p_ug, e24]
  · rw [p_un _ _ e, p_un _ _ e]; exact h.g k i hk
theorem clos_rel {S M d i} (h : Rel S M d i) : ∃ m : Nat, cClosed S d.c = nI m ∧ m ≤ M.T.length ∧ (if d.c = 0 then M.g 27 5 else M.g 27 (d.c - 1)) = nI m := by
  unfold cClosed
  by_cases c : d.c = 0
  · obtain ⟨rd, m, s, a, b⟩ := h.st1
    rw [if_pos c, if_pos c]
    exact ⟨m, s.x4 (by decide), b, s.m27⟩
  · obtain ⟨rd, m, s, a, b⟩ := h.std (d.c - 1) (by omega)
    have hc5 := h.sn.c5
    have := (h.sn.y7 (d.c - 1) (by omega)).1
    rw [if_neg c, if_neg c]
    exact ⟨m, s.x4 (by omega), b, s.m27⟩
theorem cPut_cap {S M d i x y g} (hr : Rel S M d i) (hc : RC S x y g) {p r t sz sl : Nat} (ht : ((S.R p).getD r pz) 1 = nI t) (ht2 : t < 1000) (hsz : S.x 10 0 = nI sz) (hsl : S.x 11 0 = nI sl) (hsz2 : sz < 100) (hsl2 : sl < 100) : CapOK (cPut S p r) := by
  have hsz' := hr.sizes
  have hpl := pW_len (M.V 6)
  have htt : (S.R 4).length = M.T.length := by rw [hr.tt]
  have hwl : (S.R 5).length = (M.V 6).length := hr.st0.wr.len
  unfold cPut
  try dsimp only [CS.mk_R, CS.mk_cap, CS.mk_x, CS.mk_y, CS.mk_g, CS.mk_eta, MS.mk_x, MS.mk_g, MS.mk_V, MS.mk_T, MS.mk_eta, GD.mk_n, GD.mk_rd, GD.mk_c, GD.mk_tk, GD.mk_sz, GD.mk_sl, GD.mk_lt, GD.mk_eta]
  split
  · exact hc.ok.ses _ _ _ (by omega)
  · rw [ht, hsl, hsz, nI_back (by omega), nI_back (by omega), nI_back (by omega)]
    obtain ⟨bs, ebs, lbs, hbs⟩ := pB_nat (t / sl * sl) sl (sz / sl)
    have : sz / sl ≤ sz := Nat.div_le_self _ _
    rw [ebs]
    exact hc.ok.sl _ _ _ (by rw [List.length_map]; omega) (by rw [List.length_map]; omega)
theorem NR.ung24 {S M sz sl lt} {j : Nat} {v : Int32} (h : NR S (mG M 24 j v) sz sl lt) : NR S M sz sl lt := ⟨h.q.ofx rfl, h.wr, h.tt, h.mkk, h.mr, h.lc⟩
theorem NR.g27 {S M sz sl lt} (h : NR S M sz sl lt) {v : Int32} : NR S (mG M 27 6 v) sz sl lt := ⟨h.q.ofx rfl, h.wr, h.tt, h.mkk, h.mr, h.lc⟩
theorem FrM.g27 {M M' : MS} (h : FrM M M') (v : Int32) : FrM M (mG M' 27 6 v) := by
  refine ⟨h.x, h.V, fun k i hk => ?_, h.t⟩
  simp only [CS.mk_R, CS.mk_cap, CS.mk_x, CS.mk_y, CS.mk_g, CS.mk_eta, MS.mk_x, MS.mk_g, MS.mk_V, MS.mk_T, MS.mk_eta, GD.mk_n, GD.mk_rd, GD.mk_c, GD.mk_tk, GD.mk_sz, GD.mk_sl, GD.mk_lt, GD.mk_eta, mG]
  by_cases e : k = 27
  · subst e; rw [p_ug, upd, if_neg (by omega)]; exact h.g 27 i hk
  · rw [p_un _ _ e]; exact h.g k i hk
theorem c_findR {S M d i x y g bc bs} (hr : Rel S M d i) (h5 : M.x 5 = 1) (hc : RC S x y g) (hb : cOK S (cFind S) bc bs) {Φ : pK} (hΦ : ∀ x y g, RC (cFind S) x y g → Φ x y g) : wX0_findWatermark x y g bc bs Φ := by
  have hn := hr.nr h5
  have hpr := hr.pr
  have hsz := hr.sizes
  have hpl := pW_len (M.V 6)
  exact c_find hc (pLt_2 hn.wr.sW) (by rw [hn.tt, hn.wr.len]; omega) (fun l hl => hn.q.hz (hpr.rng hl)) hb hΦ
def cStep (S : CS) (p r : Nat) : CS := if cLets S (((S.R p).getD r pz) 2) = 0 then cRead S p r else cPut (cRead S p r) p r
def mRd1 (M : MS) (p r : Nat) (c a : Int32) : MS := mG (mG (mG (mG (mG M 23 (18 + p) (nI (r + 1))) 13 (300 * p + r) c) 14 (300 * p + r) a) 15 (300 * p + r) (M.g 25 6)) 16 (300 * p + r) (M.g 6 7)
theorem cRead_row {S : CS} {p r : Nat} (hr : r < (S.R p).length) : ((cRead S p r).R p).getD r pz = upd (upd (upd ((S.R p).getD r pz) 3 (cLets S (((S.R p).getD r pz) 2))) 4 (cAmt S ((S.R p).getD r pz))) 5 (S.x 2 0 - S.x 12 0) := by
  unfold cRead; try dsimp only [CS.mk_R, CS.mk_cap, CS.mk_x, CS.mk_y, CS.mk_g, CS.mk_eta, MS.mk_x, MS.mk_g, MS.mk_V, MS.mk_T, MS.mk_eta, GD.mk_n, GD.mk_rd, GD.mk_c, GD.mk_tk, GD.mk_sz, GD.mk_sl, GD.mk_lt, GD.mk_eta]; rw [cRw_R, p_getset hr]
theorem RM.n27' {M x g} (h : RM M x g) : M.g 27 6 = nI M.T.length := h.n27
theorem cStep_mon {S : CS} (p r : Nat) : pSum S.cap ≤ pSum (cStep S p r).cap := by
  have h1 : pSum (cRead S p r).cap = pSum S.cap := by
    unfold cRead
    try dsimp only [CS.mk_R, CS.mk_cap, CS.mk_x, CS.mk_y, CS.mk_g, CS.mk_eta, MS.mk_x, MS.mk_g, MS.mk_V, MS.mk_T, MS.mk_eta, GD.mk_n, GD.mk_rd, GD.mk_c, GD.mk_tk, GD.mk_sz, GD.mk_sl, GD.mk_lt, GD.mk_eta]
    simp only [CS.mk_R, CS.mk_cap, CS.mk_x, CS.mk_y, CS.mk_g, CS.mk_eta, MS.mk_x, MS.mk_g, MS.mk_V, MS.mk_T, MS.mk_eta, GD.mk_n, GD.mk_rd, GD.mk_c, GD.mk_tk, GD.mk_sz, GD.mk_sl, GD.mk_lt, GD.mk_eta, cRw, cG, p_us]
  unfold cStep
  split
  · omega
  · rw [← h1]; exact cPut_mon _ _ _
theorem STR.mv {S M S' M' sz ses a p a' p' rd m} (h : STR S M sz ses a p rd m) (e1 : S'.R (5 + a') = S.R (5 + a)) (e2 : ∀ k, 2 ≤ k → k ≤ 3 → S'.x k a' = S.x k a) (e3 : ∀ k i, 1 ≤ k → k ≤ 2 → i < 3 → S'.g k a' i = S.g k a i) (e4 : M'.V p' = M.V p) (e5 : ∀ k, 25 ≤ k → k ≤ 27 → M'.g k p' = M.g k p) (e6 : ∀ k i, 23 ≤ k → k ≤ 24 → i < 3 → M'.g k (3 * p' + i) = M.g k (3 * p + i)) (e7 : a' ≠ 0 → S'.x 4 a' = nI m) : STR S' M' sz ses a' p' rd m := by
  refine ⟨by rw [e1, e4]; exact h.wr, by rw [e2 2 (by omega) (by omega), e5 25 (by omega) (by omega)]; exact h.mkk, by rw [e2 2 (by omega) (by omega)]; exact h.mr, by rw [e2 3 (by omega) (by omega), e5 26 (by omega) (by omega)]; exact h.lc, fun i hi => ?_, fun i hi hr => ?_, fun i hi hr => ?_, by rw [e5 27 (by omega) (by omega)]; exact h.m27, e7, by rw [e4]; exact h.cw, by rw [e4]; exact h.pt⟩
  · rw [e3 1 i (by omega) (by omega) hi, e6 23 i (by omega) (by omega) hi]; exact h.rs i hi
  · rw [e3 2 i (by omega) (by omega) hi, e6 24 i (by omega) (by omega) hi]; exact h.gr i hi hr
  · rw [e6 24 i (by omega) (by omega) hi]; exact h.g0 i hi hr
theorem cpy3_i {f h : Nat → Int32} {i : Nat} (hi : i < 3) : cpy3 f h i = h i := by
  have : i = 0 ∨ i = 1 ∨ i = 2 := by omega
  rcases this with e | e | e <;> subst e <;> simp [CS.mk_R, CS.mk_cap, CS.mk_x, CS.mk_y, CS.mk_g, CS.mk_eta, MS.mk_x, MS.mk_g, MS.mk_V, MS.mk_T, MS.mk_eta, GD.mk_n, GD.mk_rd, GD.mk_c, GD.mk_tk, GD.mk_sz, GD.mk_sl, GD.mk_lt, GD.mk_eta, cpy3, upd]
section CPS
variable (S : CS) (i j : Nat)
theorem cps_R : (cCpS S i j).R (5 + i) = S.R (5 + j) := by unfold cCpS cCopy; simp only [CS.mk_R, CS.mk_cap, CS.mk_x, CS.mk_y, CS.mk_g, CS.mk_eta, MS.mk_x, MS.mk_g, MS.mk_V, MS.mk_T, MS.mk_eta, GD.mk_n, GD.mk_rd, GD.mk_c, GD.mk_tk, GD.mk_sz, GD.mk_sl, GD.mk_lt, GD.mk_eta, uX, cRw, p_ug, cG]
theorem cps_Rn {q : Nat} (h : q ≠ 5 + i) : (cCpS S i j).R q = S.R q := by unfold cCpS cCopy; simp only [CS.mk_R, CS.mk_cap, CS.mk_x, CS.mk_y, CS.mk_g, CS.mk_eta, MS.mk_x, MS.mk_g, MS.mk_V, MS.mk_T, MS.mk_eta, GD.mk_n, GD.mk_rd, GD.mk_c, GD.mk_tk, GD.mk_sz, GD.mk_sl, GD.mk_lt, GD.mk_eta, uX, cRw, p_un _ _ h, cG]
theorem cps_y : (cCpS S i j).y = S.y := rfl
theorem cps_x {k : Nat} (h1 : 2 ≤ k) (h2 : k ≤ 5) : (cCpS S i j).x k i = S.x k j := by
  have : k = 2 ∨ k = 3 ∨ k = 4 ∨ k = 5 := by omega
  unfold cCpS cCopy
  rcases this with e | e | e | e <;> subst e <;> simp [CS.mk_R, CS.mk_cap, CS.mk_x, CS.mk_y, CS.mk_g, CS.mk_eta, MS.mk_x, MS.mk_g, MS.mk_V, MS.mk_T, MS.mk_eta, GD.mk_n, GD.mk_rd, GD.mk_c, GD.mk_tk, GD.mk_sz, GD.mk_sl, GD.mk_lt, GD.mk_eta, uX, cRw, cG, va_up]
theorem cps_xn {k a : Nat} (h : a ≠ i ∨ k < 2 ∨ 5 < k) : (cCpS S i j).x k a = S.x k a := by
  unfold cCpS cCopy
  simp only [CS.mk_R, CS.mk_cap, CS.mk_x, CS.mk_y, CS.mk_g, CS.mk_eta, MS.mk_x, MS.mk_g, MS.mk_V, MS.mk_T, MS.mk_eta, GD.mk_n, GD.mk_rd, GD.mk_c, GD.mk_tk, GD.mk_sz, GD.mk_sl, GD.mk_lt, GD.mk_eta, uX, cRw, cG]
  unfold va_up
  by_cases e5 : k = 5
  · subst e5; simp [CS.mk_R, CS.mk_cap, CS.mk_x, CS.mk_y, CS.mk_g, CS.mk_eta, MS.mk_x, MS.mk_g, MS.mk_V, MS.mk_T, MS.mk_eta, GD.mk_n, GD.mk_rd, GD.mk_c, GD.mk_tk, GD.mk_sz, GD.mk_sl, GD.mk_lt, GD.mk_eta, show a ≠ i by omega]
  by_cases e4 : k = 4
  · subst e4; simp [CS.mk_R, CS.mk_cap, CS.mk_x, CS.mk_y, CS.mk_g, CS.mk_eta, MS.mk_x, MS.mk_g, MS.mk_V, MS.mk_T, MS.mk_eta, GD.mk_n, GD.mk_rd, GD.mk_c, GD.mk_tk, GD.mk_sz, GD.mk_sl, GD.mk_lt, GD.mk_eta, show a ≠ i by omega]
  by_cases e3 : k = 3
  · subst e3; simp [CS.mk_R, CS.mk_cap, CS.mk_x, CS.mk_y, CS.mk_g, CS.mk_eta, MS.mk_x, MS.mk_g, MS.mk_V, MS.mk_T, MS.mk_eta, GD.mk_n, GD.mk_rd, GD.mk_c, GD.mk_tk, GD.mk_sz, GD.mk_sl, GD.mk_lt, GD.mk_eta, show a ≠ i by omega]
  by_cases e2 : k = 2
  · subst e2; simp [CS.mk_R, CS.mk_cap, CS.mk_x, CS.mk_y, CS.mk_g, CS.mk_eta, MS.mk_x, MS.mk_g, MS.mk_V, MS.mk_T, MS.mk_eta, GD.mk_n, GD.mk_rd, GD.mk_c, GD.mk_tk, GD.mk_sz, GD.mk_sl, GD.mk_lt, GD.mk_eta, show a ≠ i by omega]
  rw [if_neg e5, if_neg e4, if_neg e3, if_neg e2]
theorem cps_g {k l : Nat} (h1 : 1 ≤ k) (h2 : k ≤ 2) (hl : l < 3) : (cCpS S i j).g k i l = S.g k j l := by
  have : k = 1 ∨ k = 2 := by omega
  unfold cCpS cCopy
  rcases this with e | e <;> subst e
  · simp only [CS.mk_R, CS.mk_cap, CS.mk_x, CS.mk_y, CS.mk_g, CS.mk_eta, MS.mk_x, MS.mk_g, MS.mk_V, MS.mk_T, MS.mk_eta, GD.mk_n, GD.mk_rd, GD.mk_c, GD.mk_tk, GD.mk_sz, GD.mk_sl, GD.mk_lt, GD.mk_eta, uX, cRw, cG, p_ug, p_un _ _ (show (1 : Nat) ≠ 2 by decide)]; exact cpy3_i hl
  · simp only [CS.mk_R, CS.mk_cap, CS.mk_x, CS.mk_y, CS.mk_g, CS.mk_eta, MS.mk_x, MS.mk_g, MS.mk_V, MS.mk_T, MS.mk_eta, GD.mk_n, GD.mk_rd, GD.mk_c, GD.mk_tk, GD.mk_sz, GD.mk_sl, GD.mk_lt, GD.mk_eta, uX, cRw, cG, p_ug, p_un _ _ (show (2 : Nat) ≠ 1 by decide)]; exact cpy3_i hl
theorem cps_gn {k a : Nat} (h : a ≠ i ∨ k < 1 ∨ 2 < k) : (cCpS S i j).g k a = S.g k a := by
  unfold cCpS cCopy
  simp only [CS.mk_R, CS.mk_cap, CS.mk_x, CS.mk_y, CS.mk_g, CS.mk_eta, MS.mk_x, MS.mk_g, MS.mk_V, MS.mk_T, MS.mk_eta, GD.mk_n, GD.mk_rd, GD.mk_c, GD.mk_tk, GD.mk_sz, GD.mk_sl, GD.mk_lt, GD.mk_eta, uX, cRw, cG]
  unfold va_up
  by_cases e2 : k = 2
  · subst e2; simp [CS.mk_R, CS.mk_cap, CS.mk_x, CS.mk_y, CS.mk_g, CS.mk_eta, MS.mk_x, MS.mk_g, MS.mk_V, MS.mk_T, MS.mk_eta, GD.mk_n, GD.mk_rd, GD.mk_c, GD.mk_tk, GD.mk_sz, GD.mk_sl, GD.mk_lt, GD.mk_eta, show a ≠ i by omega]
  by_cases e1 : k = 1
  · subst e1; simp [CS.mk_R, CS.mk_cap, CS.mk_x, CS.mk_y, CS.mk_g, CS.mk_eta, MS.mk_x, MS.mk_g, MS.mk_V, MS.mk_T, MS.mk_eta, GD.mk_n, GD.mk_rd, GD.mk_c, GD.mk_tk, GD.mk_sz, GD.mk_sl, GD.mk_lt, GD.mk_eta, show a ≠ i by omega]
  rw [if_neg e2, if_neg e1]
end CPS
theorem cps_cap {S : CS} {i j : Nat} (h : CapOK S) (hi : i < 7) (hn : (S.R (5 + j)).length ≤ 4096) : CapOK (cCpS S i j) := by
  have hw : pwq (5 + i) = 6 := by unfold pwq; rw [if_neg (by omega), if_neg (by omega)]
  intro q hq
  have : (cCpS S i j).cap q = (cCopy S (5 + i) (5 + j)).cap q := rfl
  rw [this]
  unfold cCopy
  exact CapOK.rw h (pgrow_cap (h _ (by omega)) hn) q hq
def mBar (M : MS) (c tk : Nat) : MS := mX (mX (mG (mCp M 6 c M.T) 36 c (nI tk)) 35 (nI (c + 1))) 37 (nI (tk + 1))
section MCP
variable (M : MS) (a b : Nat) (T : List pRow)
theorem mcp_V : (mCp M a b T).V b = M.V a := by simp only [CS.mk_R, CS.mk_cap, CS.mk_x, CS.mk_y, CS.mk_g, CS.mk_eta, MS.mk_x, MS.mk_g, MS.mk_V, MS.mk_T, MS.mk_eta, GD.mk_n, GD.mk_rd, GD.mk_c, GD.mk_tk, GD.mk_sz, GD.mk_sl, GD.mk_lt, GD.mk_eta, mCp, p_ug]
theorem mcp_Vn {p : Nat} (h : p ≠ b) : (mCp M a b T).V p = M.V p := by simp only [CS.mk_R, CS.mk_cap, CS.mk_x, CS.mk_y, CS.mk_g, CS.mk_eta, MS.mk_x, MS.mk_g, MS.mk_V, MS.mk_T, MS.mk_eta, GD.mk_n, GD.mk_rd, GD.mk_c, GD.mk_tk, GD.mk_sz, GD.mk_sl, GD.mk_lt, GD.mk_eta, mCp, p_un _ _ h]
theorem mcp_g {k : Nat} (h1 : 25 ≤ k) (h2 : k ≤ 27) : (mCp M a b T).g k b = M.g k a := by
  show (if (k = 23 ∨ k = 24) ∧ 3 * b ≤ b ∧ b < 3 * b + 3 then _ else if (k = 25 ∨ k = 26 ∨ k = 27) ∧ b = b then _ else _) = _
  rw [if_neg (by omega), if_pos (by omega)]
theorem mcp_gn {k p : Nat} (h1 : 25 ≤ k) (h2 : k ≤ 27) (h : p ≠ b) : (mCp M a b T).g k p = M.g k p := by
  simp only [CS.mk_R, CS.mk_cap, CS.mk_x, CS.mk_y, CS.mk_g, CS.mk_eta, MS.mk_x, MS.mk_g, MS.mk_V, MS.mk_T, MS.mk_eta, GD.mk_n, GD.mk_rd, GD.mk_c, GD.mk_tk, GD.mk_sz, GD.mk_sl, GD.mk_lt, GD.mk_eta, mCp]
  rw [if_neg (by omega), if_neg (by omega)]
theorem mcp_r {k l : Nat} (h1 : 23 ≤ k) (h2 : k ≤ 24) (hl : l < 3) : (mCp M a b T).g k (3 * b + l) = M.g k (3 * a + l) := by
  simp only [CS.mk_R, CS.mk_cap, CS.mk_x, CS.mk_y, CS.mk_g, CS.mk_eta, MS.mk_x, MS.mk_g, MS.mk_V, MS.mk_T, MS.mk_eta, GD.mk_n, GD.mk_rd, GD.mk_c, GD.mk_tk, GD.mk_sz, GD.mk_sl, GD.mk_lt, GD.mk_eta, mCp]
  rw [if_pos (by omega), show 3 * b + l - 3 * b = l by omega]
theorem mcp_rn {k p l : Nat} (h1 : 23 ≤ k) (h2 : k ≤ 24) (hl : l < 3) (h : p ≠ b) : (mCp M a b T).g k (3 * p + l) = M.g k (3 * p + l) := by
  simp only [CS.mk_R, CS.mk_cap, CS.mk_x, CS.mk_y, CS.mk_g, CS.mk_eta, MS.mk_x, MS.mk_g, MS.mk_V, MS.mk_T, MS.mk_eta, GD.mk_n, GD.mk_rd, GD.mk_c, GD.mk_tk, GD.mk_sz, GD.mk_sl, GD.mk_lt, GD.mk_eta, mCp]
  rw [if_neg (by omega), if_neg (by omega)]
theorem mcp_o {k : Nat} (h : k < 23 ∨ 27 < k) : (mCp M a b T).g k = M.g k := by
  funext j
  simp only [CS.mk_R, CS.mk_cap, CS.mk_x, CS.mk_y, CS.mk_g, CS.mk_eta, MS.mk_x, MS.mk_g, MS.mk_V, MS.mk_T, MS.mk_eta, GD.mk_n, GD.mk_rd, GD.mk_c, GD.mk_tk, GD.mk_sz, GD.mk_sl, GD.mk_lt, GD.mk_eta, mCp]
  rw [if_neg (by omega), if_neg (by omega)]
end MCP
theorem QR.fl {S M S' M' sz sl lt} (h : QR S M sz sl lt) (ex : ∀ k, 8 ≤ k → k ≤ 12 → S'.x k 0 = S.x k 0) (ey : ∀ k, 3 ≤ k → k ≤ 6 → S'.y k 0 = S.y k 0) (eg : M'.g 6 = M.g 6) : QR S' M' sz sl lt := by
  have x8 := ex 8 (by omega) (by omega)
  have x9 := ex 9 (by omega) (by omega)
  have x10 := ex 10 (by omega) (by omega)
  have x11 := ex 11 (by omega) (by omega)
  have x12 := ex 12 (by omega) (by omega)
  have y3 := ey 3 (by omega) (by omega)
  have y4 := ey 4 (by omega) (by omega)
  have y5 := ey 5 (by omega) (by omega)
  have y6 := ey 6 (by omega) (by omega)
  refine ⟨?_, ?_, ?_, ?_, ?_, ?_, ?_, ?_, ?_, ?_, ?_, ?_, ?_, ?_, ?_, ?_, ?_, ?_, ?_, ?_, ?_, ?_, ?_, ?_, ?_, ?_⟩
  all_goals try simp only [CS.mk_R, CS.mk_cap, CS.mk_x, CS.mk_y, CS.mk_g, CS.mk_eta, MS.mk_x, MS.mk_g, MS.mk_V, MS.mk_T, MS.mk_eta, GD.mk_n, GD.mk_rd, GD.mk_c, GD.mk_tk, GD.mk_sz, GD.mk_sl, GD.mk_lt, GD.mk_eta, x8, x9, x10, x11, x12, y3, y4, y5, y6, eg]
  · exact h.f0
  · exact h.f2
  · exact h.c0
  · exact h.c1
  · exact h.c2
  · exact h.lim
  · exact h.jn
  · exact h.jb
  · exact h.sh
  · exact h.sh1
  · exact h.sh2
  · exact h.zm
  · exact h.zc
  · exact h.z1
  · exact h.z2
  · exact h.sc
  · exact h.s1
  · exact h.s2
  · exact h.s9
  · exact h.s8
  · exact h.lm
  · exact h.lc
  · exact h.l2
  · exact h.m
  · exact h.m1
  · exact h.m2
theorem TX.fl {S M S' M' n} (t : TX S M n) (ex : ∀ k, 17 ≤ k → k ≤ 19 → S'.x k 0 = S.x k 0) (ey : S'.y 9 0 = S.y 9 0) (eg : S'.g 3 0 = S.g 3 0) (mx : M'.x 0 = M.x 0) (mg : M'.g 4 = M.g 4) : TX S' M' n :=
  ⟨t.n60, by rw [mx]; exact t.m0, by rw [ex 19 (by omega) (by omega)]; exact t.s19, by rw [ex 17 (by omega) (by omega)]; exact t.s17, by rw [ey]; exact t.cap, by rw [ey]; exact t.c16, by rw [ey]; exact t.c70, by rw [eg]; exact t.by_, fun i hi => by rw [eg, mg]; exact t.ch i hi⟩
theorem TBR.fl {S M S' M'} (h : TBR S M) (e : S'.R 3 = S.R 3) (ex : M'.x 19 = M.x 19) (eg : ∀ k, 20 ≤ k → k ≤ 22 → M'.g k = M.g k) : TBR S' M' := by
  refine ⟨by rw [e]; exact h.n60, by rw [e, ex]; exact h.m19, fun r hr => ?_⟩
  rw [e] at hr ⊢
  rw [eg 20 (by omega) (by omega), eg 21 (by omega) (by omega), eg 22 (by omega) (by omega)]
  exact h.row r hr
theorem Rel.bar {S M d i} (h : Rel S M d i) (h5 : M.x 5 = 1) (hc : d.c < 5) (hi : d.tk < i) (hi2 : i ≤ 2560) : Rel (cTake S d.c M.T.length) (mBar M d.c d.tk) (GD.mk d.n d.rd (d.c + 1) (d.tk + 1) d.sz d.sl d.lt) i := by
  have y7 := h.sn.y7 d.c (by omega)
  have yne : ∀ k, k < d.c → S.y 7 k ≠ S.y 7 d.c := fun k hk e => by have := h.sn.inj k d.c (by omega) (by omega) e; omega
  have ey : (cTake S d.c M.T.length).y = S.y := rfl
  generalize hq : S.y 7 d.c = q at *
  have eR : (cTake S d.c M.T.length).R = (cCpS S q 0).R := by unfold cTake; rw [hq]; rfl
  have eg : (cTake S d.c M.T.length).g = (cCpS S q 0).g := by unfold cTake; rw [hq]; rfl
  have ex : ∀ k, k ≠ 4 → k ≠ 5 → k ≠ 13 → k ≠ 14 → (cTake S d.c M.T.length).x k = (cCpS S q 0).x k := fun k a b c e => by
    unfold cTake; rw [hq]; simp only [CS.mk_R, CS.mk_cap, CS.mk_x, CS.mk_y, CS.mk_g, CS.mk_eta, MS.mk_x, MS.mk_g, MS.mk_V, MS.mk_T, MS.mk_eta, GD.mk_n, GD.mk_rd, GD.mk_c, GD.mk_tk, GD.mk_sz, GD.mk_sl, GD.mk_lt, GD.mk_eta, uX, p_un _ _ a, p_un _ _ b, p_un _ _ c, p_un _ _ e]
  have ex4 : ∀ a, (cTake S d.c M.T.length).x 4 a = if a = q then nI M.T.length else S.x 4 a := fun a => by
    unfold cTake; rw [hq]
    simp only [CS.mk_R, CS.mk_cap, CS.mk_x, CS.mk_y, CS.mk_g, CS.mk_eta, MS.mk_x, MS.mk_g, MS.mk_V, MS.mk_T, MS.mk_eta, GD.mk_n, GD.mk_rd, GD.mk_c, GD.mk_tk, GD.mk_sz, GD.mk_sl, GD.mk_lt, GD.mk_eta, uX, p_ug, p_un _ _ (show (4 : Nat) ≠ 5 by decide), p_un _ _ (show (4 : Nat) ≠ 13 by decide), p_un _ _ (show (4 : Nat) ≠ 14 by decide)]
    unfold va_up
    split
    · rfl
    · next e => exact cps_xn S q 0 (.inl e)
  have ex5 : ∀ a, (cTake S d.c M.T.length).x 5 a = if a = q then S.x 14 0 else S.x 5 a := fun a => by
    unfold cTake; rw [hq]
    simp only [CS.mk_R, CS.mk_cap, CS.mk_x, CS.mk_y, CS.mk_g, CS.mk_eta, MS.mk_x, MS.mk_g, MS.mk_V, MS.mk_T, MS.mk_eta, GD.mk_n, GD.mk_rd, GD.mk_c, GD.mk_tk, GD.mk_sz, GD.mk_sl, GD.mk_lt, GD.mk_eta, uX, p_ug, p_un _ _ (show (5 : Nat) ≠ 4 by decide), p_un _ _ (show (5 : Nat) ≠ 13 by decide), p_un _ _ (show (5 : Nat) ≠ 14 by decide)]
    unfold va_up
    split
    · rfl
    · next e => exact cps_xn S q 0 (.inl e)
  have xx : ∀ k a, 2 ≤ k → k ≤ 3 → a ≠ q → (cTake S d.c M.T.length).x k a = S.x k a := fun k a h1 h2 h3 => by
    rw [ex k (by omega) (by omega) (by omega) (by omega)]; exact cps_xn S q 0 (.inl h3)
  have x0 : ∀ k, 6 ≤ k → k ≠ 13 → k ≠ 14 → (cTake S d.c M.T.length).x k = S.x k := fun k h1 h2 h3 => by
    rw [ex k (by omega) (by omega) h2 h3]; funext a; exact cps_xn S q 0 (.inr (.inr (by omega)))
  have mg : ∀ k, k ≠ 36 → (mBar M d.c d.tk).g k = (mCp M 6 d.c M.T).g k := fun k hk => by simp only [CS.mk_R, CS.mk_cap, CS.mk_x, CS.mk_y, CS.mk_g, CS.mk_eta, MS.mk_x, MS.mk_g, MS.mk_V, MS.mk_T, MS.mk_eta, GD.mk_n, GD.mk_rd, GD.mk_c, GD.mk_tk, GD.mk_sz, GD.mk_sl, GD.mk_lt, GD.mk_eta, mBar, mX, mG, p_un _ _ hk]
  have mo : ∀ k, k < 23 ∨ 27 < k → k ≠ 36 → (mBar M d.c d.tk).g k = M.g k := fun k hk h2 => by rw [mg k h2]; exact mcp_o M 6 d.c M.T hk
  have mV : (mBar M d.c d.tk).V = (mCp M 6 d.c M.T).V := rfl
  have m36 : (mBar M d.c d.tk).g 36 = upd (M.g 36) d.c (nI d.tk) := by
    simp only [CS.mk_R, CS.mk_cap, CS.mk_x, CS.mk_y, CS.mk_g, CS.mk_eta, MS.mk_x, MS.mk_g, MS.mk_V, MS.mk_T, MS.mk_eta, GD.mk_n, GD.mk_rd, GD.mk_c, GD.mk_tk, GD.mk_sz, GD.mk_sl, GD.mk_lt, GD.mk_eta, mBar, mX, mG, p_ug]; rw [mcp_o M 6 d.c M.T (by omega)]
  have mx : ∀ k, k ≠ 35 → k ≠ 37 → (mBar M d.c d.tk).x k = M.x k := fun k a b => by
    simp only [CS.mk_R, CS.mk_cap, CS.mk_x, CS.mk_y, CS.mk_g, CS.mk_eta, MS.mk_x, MS.mk_g, MS.mk_V, MS.mk_T, MS.mk_eta, GD.mk_n, GD.mk_rd, GD.mk_c, GD.mk_tk, GD.mk_sz, GD.mk_sl, GD.mk_lt, GD.mk_eta, mBar, mX, p_un _ _ b, p_un _ _ a]; rfl
  have ses : (cTake S d.c M.T.length).y 5 0 = S.y 5 0 := rfl
  have keep : ∀ {a p rd m}, a ≠ q → p ≠ d.c → STR S M d.sz (decide (S.y 5 0 = 10)) a p rd m → STR (cTake S d.c M.T.length) (mBar M d.c d.tk) d.sz (decide (S.y 5 0 = 10)) a p rd m := fun {a p rd m} ha hp s => s.mv (by rw [eR]; exact cps_Rn S q 0 (by omega)) (fun k h1 h2 => xx k a h1 h2 ha) (fun k j h1 h2 hj => by rw [eg]; rw [cps_gn S q 0 (.inl ha)]) (by rw [mV]; exact mcp_Vn M 6 d.c M.T hp) (fun k h1 h2 => by rw [mg k (by omega)]; exact mcp_gn M 6 d.c M.T h1 h2 hp) (fun k j h1 h2 hj => by rw [mg k (by omega)]; exact mcp_rn M 6 d.c M.T h1 h2 hj hp) (fun h0 => by rw [ex4, if_neg ha]; exact s.x4 h0)
  have new : STR (cTake S d.c M.T.length) (mBar M d.c d.tk) d.sz (decide (S.y 5 0 = 10)) q d.c d.rd M.T.length := h.st0.mv (by rw [eR]; exact cps_R S q 0) (fun k h1 h2 => by rw [ex k (by omega) (by omega) (by omega) (by omega)]; exact cps_x S q 0 h1 (by omega)) (fun k j h1 h2 hj => by rw [eg]; exact cps_g S q 0 h1 h2 hj) (by rw [mV]; exact mcp_V M 6 d.c M.T) (fun k h1 h2 => by rw [mg k (by omega)]; exact mcp_g M 6 d.c M.T h1 h2) (fun k j h1 h2 hj => by rw [mg k (by omega)]; exact mcp_r M 6 d.c M.T h1 h2 hj) (fun _ => by rw [ex4, if_pos rfl])
  refine ⟨?_, ?_, ?_, ?_, ?_, ?_, ?_, ?_, ?_, ?_, ?_, ?_, ?_⟩
  · obtain ⟨n, t⟩ := h.tx
    exact ⟨n, t.fl (fun k h1 h2 => by rw [x0 k (by omega) (by omega) (by omega)]) rfl (by rw [eg, cps_gn S q 0 (.inr (.inr (by omega)))]) (mx 0 (by decide) (by decide)) (mo 4 (by omega) (by omega))⟩
  · exact h.ev.fr (fun p hp => by rw [eR]; exact cps_Rn S q 0 (by omega)) (fun k h1 h2 => mo k (by omega) (by omega)) (mx 8 (by decide) (by decide)) (by rw [mo 6 (by omega) (by omega)])
  · exact h.tb.fl (by rw [eR]; exact cps_Rn S q 0 (by omega)) (mx 19 (by decide) (by decide)) (fun k h1 h2 => mo k (by omega) (by omega))
  · intro p hp; rw [x0 6 (by omega) (by omega) (by omega), mo 17 (by omega) (by omega)]; exact h.lag p hp
  · intro p hp; rw [x0 7 (by omega) (by omega) (by omega), mo 18 (by omega) (by omega)]; exact h.idle p hp
  · refine ⟨by rw [mx 5 (by decide) (by decide)]; exact h.pl.b, by rw [x0 15 (by omega) (by omega) (by omega), mx 5 (by decide) (by decide)]; exact h.pl.s15, fun e => ?_, fun e => ?_⟩
    · exact (h.pl.q h5).fl (fun k h1 h2 => by rw [x0 k (by omega) (by omega) (by omega)]) (fun _ _ _ => rfl) (mo 6 (by omega) (by omega))
    · rw [mx 5 (by decide) (by decide)] at e; exact absurd (h5.symm.trans e) (by decide)
  · rw [eR, cps_Rn S q 0 (by omega)]; exact h.tt
  · exact keep (by omega) (by omega) h.st0
  · obtain ⟨rd, m, s, a, b⟩ := h.st1
    exact ⟨rd, m, keep (by omega) (by omega) s, a, b⟩
  · refine ⟨by show d.c + 1 ≤ 5; omega, ?_, ?_, ?_, ?_, h.sn.y7, h.sn.inj, fun k hk => ?_, fun j k hjk hk => ?_⟩
    · unfold cTake; rw [hq]; simp only [CS.mk_R, CS.mk_cap, CS.mk_x, CS.mk_y, CS.mk_g, CS.mk_eta, MS.mk_x, MS.mk_g, MS.mk_V, MS.mk_T, MS.mk_eta, GD.mk_n, GD.mk_rd, GD.mk_c, GD.mk_tk, GD.mk_sz, GD.mk_sl, GD.mk_lt, GD.mk_eta, uX, p_ug, p_un _ _ (show (13 : Nat) ≠ 14 by decide)]
    · simp only [CS.mk_R, CS.mk_cap, CS.mk_x, CS.mk_y, CS.mk_g, CS.mk_eta, MS.mk_x, MS.mk_g, MS.mk_V, MS.mk_T, MS.mk_eta, GD.mk_n, GD.mk_rd, GD.mk_c, GD.mk_tk, GD.mk_sz, GD.mk_sl, GD.mk_lt, GD.mk_eta, mBar, mX, p_ug, p_un _ _ (show (35 : Nat) ≠ 37 by decide)]
    · unfold cTake; rw [hq]; simp only [CS.mk_R, CS.mk_cap, CS.mk_x, CS.mk_y, CS.mk_g, CS.mk_eta, MS.mk_x, MS.mk_g, MS.mk_V, MS.mk_T, MS.mk_eta, GD.mk_n, GD.mk_rd, GD.mk_c, GD.mk_tk, GD.mk_sz, GD.mk_sl, GD.mk_lt, GD.mk_eta, uX, p_ug]; rw [h.sn.s14, nI_1]
    · simp only [CS.mk_R, CS.mk_cap, CS.mk_x, CS.mk_y, CS.mk_g, CS.mk_eta, MS.mk_x, MS.mk_g, MS.mk_V, MS.mk_T, MS.mk_eta, GD.mk_n, GD.mk_rd, GD.mk_c, GD.mk_tk, GD.mk_sz, GD.mk_sl, GD.mk_lt, GD.mk_eta, mBar, mX, p_ug]
    · change k < d.c + 1 at hk
      rw [ex5, ey, m36, upd]
      by_cases e : k = d.c
      · subst e; rw [hq, if_pos rfl, if_pos rfl]; exact ⟨d.tk, by show d.tk < d.tk + 1; omega, h.sn.s14, rfl⟩
      · obtain ⟨v, v1, v2, v3⟩ := h.sn.num k (by omega)
        rw [if_neg (yne k (by omega)), if_neg e]
        exact ⟨v, by show v < d.tk + 1; omega, v2, v3⟩
    · change k < d.c + 1 at hk
      rw [ex5, ex5, ey, if_neg (yne j (by omega))]
      by_cases e : k = d.c
      · subst e
        obtain ⟨v, v1, v2, v3⟩ := h.sn.num j (by omega)
        have := h.tki
        rw [hq, if_pos rfl, v2, h.sn.s14]
        rw [nI_toInt (by omega), nI_toInt (by omega)]; omega
      · rw [if_neg (yne k (by omega))]
        exact h.sn.inc j k hjk (by omega)
  · intro k hk
    change k < d.c + 1 at hk
    by_cases e : k = d.c
    · subst e
      rw [ey, hq]
      exact ⟨d.rd, M.T.length, new, fun _ => Nat.le_refl _, Nat.le_refl _⟩
    · obtain ⟨rd, m, s, a, b⟩ := h.std k (by omega)
      rw [ey]
      exact ⟨rd, m, keep (yne k (by omega)) e s, a, b⟩
  · show d.tk + 1 ≤ i; omega
  · rw [x0 16 (by omega) (by omega) (by omega), mx 43 (by decide) (by decide)]; exact h.wk
theorem cTake_cap {S M d i x y g} (hr : Rel S M d i) (hc : RC S x y g) (h5 : d.c < 5) (m : Nat) : CapOK (cTake S d.c m) ∧ pSum S.cap ≤ pSum (cTake S d.c m).cap := by
  have y7 := hr.sn.y7 d.c h5
  exact ⟨cps_cap (i := S.y 7 d.c) (j := 0) hc.ok y7.2 (hc.n (q := 5) (by omega)), cCpS_mon S (i := S.y 7 d.c) (j := 0) y7.2⟩
