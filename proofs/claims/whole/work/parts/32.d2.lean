theorem QR.lets {S M sz sl lt} (h : QR S M sz sl lt) (v : Int32) : mLets M v = cLets S v := by
  unfold mLets cLets
  have h1 := h.c1
  have h2 := h.c2
  have hc : S.y 4 0 = 3 ∨ S.y 4 0 = 4 ∨ S.y 4 0 = 5 ∨ S.y 4 0 = 6 := by omega
  rw [h.c0, h.lim]
  rcases hc with e | e | e | e <;> rw [e]
  · rw [if_pos (show nI (3 - 3) = 0 by decide), if_neg (by decide), if_neg (by decide), if_neg (by decide)]
  · rw [if_neg (show ¬ nI (4 - 3) = 0 by decide), if_pos (show nI (4 - 3) = 1 by decide)]
    exact (if_pos rfl).symm
  · rw [if_neg (show ¬ nI (5 - 3) = 0 by decide), if_neg (show ¬ nI (5 - 3) = 1 by decide), if_pos (show nI (5 - 3) = 2 by decide)]
    exact ((if_neg (by decide)).trans (if_pos rfl)).symm
  · rw [if_neg (show ¬ nI (6 - 3) = 0 by decide), if_neg (show ¬ nI (6 - 3) = 1 by decide), if_neg (show ¬ nI (6 - 3) = 2 by decide)]
    exact ((if_neg (by decide)).trans ((if_neg (by decide)).trans (if_pos rfl))).symm
def jRel (M : MS) (acc : Int32 × Int32) : Option Nat → Prop
  | none => acc = (0, -1)
  | some j => acc = (M.g 22 j, M.g 21 j)
theorem join_rel {S M} (h : TBR S M) {k : Int32} {t : Nat} (ht : t < 1000) : mJoin M (S.R 3).length k (nI t) = cJoin S k (nI t) := by
  have key : ∀ (B : List pRow) (i : Nat) (acc : Int32 × Int32) (f : Option Nat), (S.R 3).drop i = B → i + B.length = (S.R 3).length → jRel M acc f → (B.foldl (jvStep k (nI t)) acc).1 = (match (List.range' i B.length).foldl (tbStep M k (nI t)) f with | none => 0 | some j => M.g 22 j) := by
    intro B
    induction B with
    | nil =>
      intro i acc f _ _ hf
      simp only [CS.mk_R, CS.mk_cap, CS.mk_x, CS.mk_y, CS.mk_g, CS.mk_eta, MS.mk_x, MS.mk_g, MS.mk_V, MS.mk_T, MS.mk_eta, GD.mk_n, GD.mk_rd, GD.mk_c, GD.mk_tk, GD.mk_sz, GD.mk_sl, GD.mk_lt, GD.mk_eta, List.foldl_nil, List.length_nil, List.range'_zero]
      cases f with
      | none => rw [jRel] at hf; rw [hf]
      | some j => rw [jRel] at hf; rw [hf]
    | cons r B ih =>
      intro i acc f hd hi hf
      simp only [CS.mk_R, CS.mk_cap, CS.mk_x, CS.mk_y, CS.mk_g, CS.mk_eta, MS.mk_x, MS.mk_g, MS.mk_V, MS.mk_T, MS.mk_eta, GD.mk_n, GD.mk_rd, GD.mk_c, GD.mk_tk, GD.mk_sz, GD.mk_sl, GD.mk_lt, GD.mk_eta, List.length_cons] at hi
      obtain ⟨hg, hd2, hlt⟩ := p_dropS hd
      obtain ⟨c0, c1, c2, t2, ht2, e21⟩ := h.row i hlt
      rw [hg] at c0 c1 c2
      simp only [CS.mk_R, CS.mk_cap, CS.mk_x, CS.mk_y, CS.mk_g, CS.mk_eta, MS.mk_x, MS.mk_g, MS.mk_V, MS.mk_T, MS.mk_eta, GD.mk_n, GD.mk_rd, GD.mk_c, GD.mk_tk, GD.mk_sz, GD.mk_sl, GD.mk_lt, GD.mk_eta, List.foldl_cons, List.length_cons, List.range'_succ]
      refine ih (i + 1) _ _ hd2 (by omega) ?_
      unfold jvStep tbStep
      rw [c0, c1, c2]
      cases f with
      | none =>
        rw [jRel] at hf
        subst hf
        have e1 : ¬ M.g 21 i < (-1 : Int32) := by rw [e21, i_lt, nI_toInt (by omega)]; change ¬ (_ : Int) < -1; omega
        by_cases c : M.g 20 i = k ∧ ¬ nI t < M.g 21 i
        · rw [if_pos ⟨c.1, c.2, e1⟩, if_pos ⟨c.1, c.2, rfl⟩]; rfl
        · rw [if_neg (fun q => c ⟨q.1, q.2.1⟩), if_neg (fun q => c ⟨q.1, q.2.1⟩)]; rfl
      | some j =>
        rw [jRel] at hf
        subst hf
        by_cases c : M.g 20 i = k ∧ ¬ nI t < M.g 21 i ∧ ¬ M.g 21 i < M.g 21 j
        · rw [if_pos c, if_pos ⟨c.1, c.2.1, tbC_some.2 c.2.2⟩]; rfl
        · rw [if_neg c, if_neg (fun q => c ⟨q.1, q.2.1, tbC_some.1 q.2.2⟩)]; rfl
  unfold mJoin cJoin
  exact (key (S.R 3) 0 (0, -1) none rfl (by omega) rfl).symm
theorem mB_a {t sl n q : Nat} (hq : q * sl ≤ t) (ht : t < q * sl + sl) : ∀ m j, j + m = q + 1 → m ≤ n → mBegins t (n * sl) sl m (j * sl) = pBegins (q * sl) sl m := by
  intro m
  induction m with
  | zero => intro j _ _; rfl
  | succ m ih =>
    intro j hj hm
    have hjq : j ≤ q := by omega
    have e1 : j * sl ≤ q * sl := Nat.mul_le_mul_right sl hjq
    have e2 : (q + 1) * sl ≤ (j + n) * sl := Nat.mul_le_mul_right sl (by omega)
    rw [Nat.succ_mul, Nat.add_mul] at e2
    have e3 : m * sl + j * sl = q * sl := by rw [← Nat.add_mul]; congr 1; omega
    rw [mBegins, if_neg (by omega), if_neg (by omega), pBegins, if_pos (by omega), show q * sl - m * sl = j * sl by omega]
    congr 1
    have := ih (j + 1) (by omega) (by omega)
    rwa [Nat.succ_mul] at this
theorem mB_b {t sl n q : Nat} (hq : q * sl ≤ t) (ht : t < q * sl + sl) (hn : 1 ≤ n) : ∀ m j, j + (n + m) = q + 1 → mBegins t (n * sl) sl (n + m) (j * sl) = pBegins (q * sl) sl n := by
  intro m
  induction m with
  | zero => intro j hj; exact mB_a hq ht n j hj (Nat.le_refl _)
  | succ m ih =>
    intro j hj
    have e1 : (j + n) * sl ≤ q * sl := Nat.mul_le_mul_right sl (by omega)
    rw [Nat.add_mul] at e1
    have e2 : j * sl ≤ q * sl := Nat.mul_le_mul_right sl (by omega)
    rw [show n + (m + 1) = (n + m) + 1 by omega, mBegins, if_neg (by omega), if_pos (by omega)]
    have := ih (j + 1) (by omega)
    rwa [Nat.succ_mul] at this
theorem pB_c {sl q : Nat} (hs : 0 < sl) : ∀ m, pBegins (q * sl) sl (q + 1 + m) = pBegins (q * sl) sl (q + 1) := by
  intro m
  induction m with
  | zero => rfl
  | succ m ih =>
    have : q * sl < (q + 1 + m) * sl := Nat.mul_lt_mul_of_pos_right (by omega) hs
    rw [show q + 1 + (m + 1) = (q + 1 + m) + 1 by omega, pBegins, if_neg (by omega), ih]
theorem begins_rel {t sz sl : Nat} (hs : 0 < sl) (hz : sz % sl = 0) (hz1 : 1 ≤ sz) : mBegins t sz sl (t / sl + 1) 0 = pBegins (t / sl * sl) sl (sz / sl) := by
  have hq : t / sl * sl ≤ t := Nat.div_mul_le_self t sl
  have ht : t < t / sl * sl + sl := by
    have h1 := Nat.div_add_mod t sl
    have h2 := Nat.mod_lt t hs
    rw [Nat.mul_comm] at h1
    omega
  have hn : sz / sl * sl = sz := Nat.div_mul_cancel (Nat.dvd_of_mod_eq_zero hz)
  have hn1 : 1 ≤ sz / sl := by
    rcases Nat.eq_zero_or_pos (sz / sl) with e | e
    · rw [e] at hn; omega
    · exact e
  generalize t / sl = q at *
  generalize hnn : sz / sl = n at *
  subst hn
  rcases Nat.le_total (q + 1) n with h | h
  · have h1 := mB_a (n := n) hq ht (q + 1) 0 (by omega) h
    have h2 := pB_c (q := q) hs (n - (q + 1))
    rw [show q + 1 + (n - (q + 1)) = n by omega] at h2
    rw [Nat.zero_mul] at h1
    rw [h1, h2]
  · have h1 := mB_b hq ht hn1 (q + 1 - n) 0 (by omega)
    rw [show n + (q + 1 - n) = q + 1 by omega, Nat.zero_mul] at h1
    exact h1
theorem pB_nat (last sl : Nat) : ∀ m, ∃ bs : List Nat, pBegins last sl m = bs.map nI ∧ bs.length ≤ m ∧ ∀ b, b ∈ bs → b ≤ last := by
  intro m
  induction m with
  | zero => exact ⟨[], rfl, Nat.le_refl _, fun b hb => absurd hb (by simp)⟩
  | succ m ih =>
    obtain ⟨bs, e, l, hb⟩ := ih
    rw [pBegins]
    split
    · refine ⟨(last - m * sl) :: bs, by rw [List.map_cons, e], by simp; omega, fun b hb2 => ?_⟩
      rcases List.mem_cons.1 hb2 with q | q
      · omega
      · exact hb b q
    · exact ⟨bs, e, by omega, hb⟩
theorem put_rel {S M sz sl lt} (h : NR S M sz sl lt) {p r k t : Nat} {v : Int32} (hk : k < 8) (ht : t < 1000) (r0 : ((S.R p).getD r pz) 0 = nI k) (r1 : ((S.R p).getD r pz) 1 = nI t) (r4 : ((S.R p).getD r pz) 4 = mIts M v) (hl : (M.V 6).length + 4 ≤ 1200) (hT : pW (M.V 6) + M.T.length ≤ 2400) : (M.g 6 4 ≠ 2 → M.g 6 4 ≠ 0 → mFsOK (nI k) v M (mBegins t sz sl (t / sl + 1) 0)) ∧ NR (cPut S p r) (mComes M (nI k) v t sz sl) sz sl lt ∧ FrS S (cPut S p r) ∧ FrM M (mComes M (nI k) v t sz sl) ∧ ((mComes M (nI k) v t sz sl).V 6).length ≤ (M.V 6).length + 4 ∧ pW ((mComes M (nI k) v t sz sl).V 6) + (mComes M (nI k) v t sz sl).T.length ≤ pW (M.V 6) + M.T.length + 8 := by
  have h1 := h.q.sh1
  have h2 := h.q.sh2
  have s1 := h.q.s1
  have s2 := h.q.s2
  have z1 := h.q.z1
  have z2 := h.q.z2
  have e10 : M.g 6 4 = 2 ↔ S.y 5 0 = 10 := by
    rw [h.q.sh]
    have := nI_eq (a := S.y 5 0 - 8) (b := 2) (by omega) (by omega)
    exact ⟨fun q => by have := this.1 q; omega, fun q => by rw [q]; rfl⟩
  have e8 : M.g 6 4 = 0 ↔ S.y 5 0 = 8 := by
    rw [h.q.sh]
    have := nI_eq (a := S.y 5 0 - 8) (b := 0) (by omega) (by omega)
    exact ⟨fun q => by have := this.1 q; omega, fun q => by rw [q]; rfl⟩
  unfold cPut mComes
  try dsimp only [CS.mk_R, CS.mk_cap, CS.mk_x, CS.mk_y, CS.mk_g, CS.mk_eta, MS.mk_x, MS.mk_g, MS.mk_V, MS.mk_T, MS.mk_eta, GD.mk_n, GD.mk_rd, GD.mk_c, GD.mk_tk, GD.mk_sz, GD.mk_sl, GD.mk_lt, GD.mk_eta]
  rw [r0, r1, r4, h.q.sc, h.q.zc, nI_back (by omega), nI_back (by omega), nI_back (by omega)]
  by_cases c : S.y 5 0 = 10
  · rw [if_pos c, if_pos (e10.2 c)]
    obtain ⟨k1, k2, k3, k4, k5⟩ := session_rel (k := k) (t := t) (v := v) h c hk ht rfl
    exact ⟨fun q => absurd (e10.2 c) q, k1, k2, k3, by omega, by omega⟩
  · rw [if_neg c, if_neg (fun q => c (e10.1 q))]
    have hlast : t / sl * sl ≤ t := Nat.div_mul_le_self t sl
    by_cases c8 : S.y 5 0 = 8
    · rw [if_pos (e8.2 c8)]
      have hsl := (h.q.s8 (by omega)).2
      subst hsl
      rw [Nat.div_self (by omega)]
      have eb : pBegins (t / sl * sl) sl 1 = [nI (t / sl * sl)] := by
        rw [pBegins, if_pos (by omega), Nat.zero_mul, Nat.sub_zero]; rfl
      rw [eb]
      obtain ⟨k1, k2, k3, k4, k5⟩ := into_rel (k := k) (b := t / sl * sl) (v := v) h c hk (by omega) rfl
      exact ⟨fun _ q => absurd (e8.2 c8) q, k1, k2, k3, by omega, by omega⟩
    · rw [if_neg (fun q => c8 (e8.1 q))]
      obtain ⟨_, hz, hz4⟩ := h.q.s9 (by omega)
      rw [begins_rel (by omega) hz z1]
      obtain ⟨bs, ebs, lbs, hbs⟩ := pB_nat (t / sl * sl) sl (sz / sl)
      have hn4 : sz / sl ≤ 4 := by
        have := Nat.div_le_div_right (c := sl) hz4
        rwa [Nat.mul_div_cancel _ (by omega)] at this
      rw [ebs]
      obtain ⟨k0, k1, k2, k3, k4, k5⟩ := slide_rel (k := k) (v := v) hk bs h c (fun b hb => by have := hbs b hb; omega) rfl (by omega) (by omega)
      exact ⟨fun _ _ => k0, k1, k2, k3, by omega, by omega⟩
def mRd (M : MS) (p r : Nat) (c a gr : Int32) : MS := mG (mG (mG (mG (mG (mG M 23 (18 + p) (nI (r + 1))) 13 (300 * p + r) c) 14 (300 * p + r) a) 15 (300 * p + r) (M.g 25 6)) 16 (300 * p + r) (M.g 6 7)) 24 (18 + p) gr
theorem cLets_b (S : CS) (v : Int32) : cLets S v = 0 ∨ cLets S v = 1 := by
  unfold cLets
  split
  · split <;> simp
  · split
    · split <;> simp
    · split
      · split <;> simp
      · simp
theorem Rel.read {S M d i} (h : Rel S M d i) (h5 : M.x 5 = 1) {p : Nat} (hp : p < 3) (hr : d.rd p < d.n p) {c a gr : Int32} (hc : c = mLets M (M.g 12 (300 * p + d.rd p))) (ha : a = M.g 12 (300 * p + d.rd p) + (if M.g 6 3 = 1 then mJoin M (S.R 3).length (M.g 10 (300 * p + d.rd p)) (M.g 11 (300 * p + d.rd p)) else 0)) (hgr : gr = if M.g 11 (300 * p + d.rd p) ≤ M.g 24 (18 + p) then M.g 24 (18 + p) else M.g 11 (300 * p + d.rd p)) : Rel (cRead S p (d.rd p)) (mRd M p (d.rd p) c a gr) (GD.mk d.n (va_up d.rd p (d.rd p + 1)) d.c d.tk d.sz d.sl d.lt) i := by
  have hQ := h.pl.q h5
  have hlen := h.ev.len p hp
  obtain ⟨k, t, hk, ht, r0, g10, r1, g11, r2⟩ := h.ev.row p hp _ hr
  have hn300 : ∀ q, q < 3 → d.n q ≤ 300 := fun q hq => by
    have := h.ev.tot
    have : q = 0 ∨ q = 1 ∨ q = 2 := by omega
    rcases this with e | e | e <;> subst e <;> omega
  have hnp := hn300 p hp
  generalize hrow : (S.R p).getD (d.rd p) pz = row at *
  have eRp : (cRead S p (d.rd p)).R p = (S.R p).set (d.rd p) (upd (upd (upd row 3 (cLets S (row 2))) 4 (cAmt S row)) 5 (S.x 2 0 - S.x 12 0)) := by
    unfold cRead; try dsimp only [CS.mk_R, CS.mk_cap, CS.mk_x, CS.mk_y, CS.mk_g, CS.mk_eta, MS.mk_x, MS.mk_g, MS.mk_V, MS.mk_T, MS.mk_eta, GD.mk_n, GD.mk_rd, GD.mk_c, GD.mk_tk, GD.mk_sz, GD.mk_sl, GD.mk_lt, GD.mk_eta]; rw [cRw_R, hrow]
  have eR : ∀ q, q ≠ p → (cRead S p (d.rd p)).R q = S.R q := fun q hq => cRw_Rn _ _ _ hq
  have ex : (cRead S p (d.rd p)).x = S.x := rfl
  have ey : (cRead S p (d.rd p)).y = S.y := rfl
  have eg1 : (cRead S p (d.rd p)).g 1 = va_up (S.g 1) 0 (upd (S.g 1 0) p (nI (d.rd p + 1))) := by
    unfold cRead; try dsimp only [CS.mk_R, CS.mk_cap, CS.mk_x, CS.mk_y, CS.mk_g, CS.mk_eta, MS.mk_x, MS.mk_g, MS.mk_V, MS.mk_T, MS.mk_eta, GD.mk_n, GD.mk_rd, GD.mk_c, GD.mk_tk, GD.mk_sz, GD.mk_sl, GD.mk_lt, GD.mk_eta]; rw [cRw_g]; simp only [CS.mk_R, CS.mk_cap, CS.mk_x, CS.mk_y, CS.mk_g, CS.mk_eta, MS.mk_x, MS.mk_g, MS.mk_V, MS.mk_T, MS.mk_eta, GD.mk_n, GD.mk_rd, GD.mk_c, GD.mk_tk, GD.mk_sz, GD.mk_sl, GD.mk_lt, GD.mk_eta, cG, p_ug, p_un _ _ (show (1 : Nat) ≠ 2 by decide)]
  have eg2 : (cRead S p (d.rd p)).g 2 = va_up (S.g 2) 0 (upd (S.g 2 0) p (cGr S p (d.rd p) (row 1))) := by
    unfold cRead; try dsimp only [CS.mk_R, CS.mk_cap, CS.mk_x, CS.mk_y, CS.mk_g, CS.mk_eta, MS.mk_x, MS.mk_g, MS.mk_V, MS.mk_T, MS.mk_eta, GD.mk_n, GD.mk_rd, GD.mk_c, GD.mk_tk, GD.mk_sz, GD.mk_sl, GD.mk_lt, GD.mk_eta]; rw [cRw_g, hrow]; simp only [CS.mk_R, CS.mk_cap, CS.mk_x, CS.mk_y, CS.mk_g, CS.mk_eta, MS.mk_x, MS.mk_g, MS.mk_V, MS.mk_T, MS.mk_eta, GD.mk_n, GD.mk_rd, GD.mk_c, GD.mk_tk, GD.mk_sz, GD.mk_sl, GD.mk_lt, GD.mk_eta, cG, p_ug, p_un _ _ (show (2 : Nat) ≠ 1 by decide)]
  have m23 : (mRd M p (d.rd p) c a gr).g 23 = upd (M.g 23) (18 + p) (nI (d.rd p + 1)) := rfl
  have m24 : (mRd M p (d.rd p) c a gr).g 24 = upd (M.g 24) (18 + p) gr := rfl
  have m13 : (mRd M p (d.rd p) c a gr).g 13 = upd (M.g 13) (300 * p + d.rd p) c := rfl
  have m14 : (mRd M p (d.rd p) c a gr).g 14 = upd (M.g 14) (300 * p + d.rd p) a := rfl
  have m15 : (mRd M p (d.rd p) c a gr).g 15 = upd (M.g 15) (300 * p + d.rd p) (M.g 25 6) := rfl
  have m16 : (mRd M p (d.rd p) c a gr).g 16 = upd (M.g 16) (300 * p + d.rd p) (M.g 6 7) := rfl
  have hsum := va3 (n := d.rd) (v := d.rd p + 1) hp
  have up_le : ∀ q, d.rd q ≤ va_up d.rd p (d.rd p + 1) q := fun q => by
    unfold va_up; split
    · next e => rw [e]; omega
    · exact Nat.le_refl _
  have ei : ∀ w, mIts (mRd M p (d.rd p) c a gr) w = mIts M w := fun w => rfl
  have st0 := h.st0
  have ev : EVR (cRead S p (d.rd p)) (mRd M p (d.rd p) c a gr) d.n (va_up d.rd p (d.rd p + 1)) := by
    refine ⟨fun q hq => ?_, h.ev.cnt, h.ev.tot, h.ev.m8, fun q hq r hr2 => ?_, fun q hq => ?_, fun q hq r hr2 => ?_⟩
    · by_cases e : q = p
      · subst e; rw [eRp, List.length_set]; exact hlen
      · rw [eR q e]; exact h.ev.len q hq
    · by_cases e : q = p
      · subst e
        rw [eRp]
        by_cases e2 : r = d.rd q
        · subst e2
          rw [p_getset (by omega)]
          exact ⟨k, t, hk, ht, r0, g10, r1, g11, r2⟩
        · rw [p_getset_ne _ e2]; exact h.ev.row q hq r hr2
      · rw [eR q e]; exact h.ev.row q hq r hr2
    · have := h.ev.rdn q hq
      by_cases e : q = p
      · subst e; rw [p_ug]; omega
      · rw [p_un _ _ e]; exact this
    · rw [m13, m14, m15, m16, ei]
      unfold upd
      by_cases e : q = p
      · subst e
        rw [p_ug] at hr2
        rw [eRp]
        by_cases e2 : r = d.rd q
        · subst e2
          rw [p_getset (by omega), if_pos rfl, if_pos rfl, if_pos rfl, if_pos rfl]
          have hmr := st0.mr
          rw [st0.mkk] at hmr
          have hl2 := hQ.l2
          have elt : (M.g 6 7).toInt = d.lt := by rw [hQ.lm]; exact nI_toInt (by omega)
          have ec : c = cLets S (row 2) := by rw [hc, hQ.lets, r2]
          refine ⟨ec.symm, by rw [ec]; exact cLets_b _ _, ?_, ?_, hmr.1, hmr.2, by rw [elt]; omega, by rw [elt]; omega⟩
          · show cAmt S row = mIts M a
            unfold cAmt mIts
            have e1 := hQ.cnt
            by_cases c1 : S.y 3 0 = 1
            · rw [if_pos c1, if_pos (e1.2 c1)]
            · rw [if_neg c1, if_neg (fun q => c1 (e1.1 q)), ha, hQ.jn, r2]
              by_cases c2 : S.x 9 0 = 0
              · rw [if_pos c2, if_neg (by rw [c2]; decide), Int32.add_zero]
              · have c3 := hQ.jb.resolve_left c2
                rw [if_neg c2, if_pos c3, r0, r1, g10, g11, join_rel h.tb ht]
          · show S.x 2 0 - S.x 12 0 = _
            rw [st0.mkk, hQ.lc, hQ.lm]
        · rw [p_getset_ne _ e2, if_neg (by omega), if_neg (by omega), if_neg (by omega), if_neg (by omega)]
          exact h.ev.done q hq r (by omega)
      · rw [p_un _ _ e] at hr2
        have := h.ev.rdn q hq
        have := hn300 q hq
        rw [eR q e, if_neg (by omega), if_neg (by omega), if_neg (by omega), if_neg (by omega)]
        exact h.ev.done q hq r hr2
  have tb : TBR (cRead S p (d.rd p)) (mRd M p (d.rd p) c a gr) := by
    have e3 := eR 3 (by omega)
    refine ⟨by rw [e3]; exact h.tb.n60, by rw [e3]; exact h.tb.m19, fun r hr => ?_⟩
    rw [e3] at hr ⊢
    exact h.tb.row r hr
  have fr : ∀ {a' q rd m}, a' ≠ 0 → q < 6 → STR S M d.sz (decide (S.y 5 0 = 10)) a' q rd m → STR (cRead S p (d.rd p)) (mRd M p (d.rd p) c a gr) d.sz (decide (S.y 5 0 = 10)) a' q rd m := fun {a' q rd m} h0 hq6 s => s.fr (eR _ (by omega)) (fun _ _ _ => by rw [ex]) (fun j h1 h2 => by
    have : j = 1 ∨ j = 2 := by omega
    rcases this with e | e <;> subst e
    · rw [eg1, p_un _ _ h0]
    · rw [eg2, p_un _ _ h0]) rfl (fun j h1 h2 => by
    have : j = 25 ∨ j = 26 ∨ j = 27 := by omega
    rcases this with e | e | e <;> subst e <;> rfl) (fun j l h1 h2 hl => by
    have : j = 23 ∨ j = 24 := by omega
    rcases this with e | e <;> subst e
    · rw [m23, upd, if_neg (by omega)]
    · rw [m24, upd, if_neg (by omega)])
  have hcap3 : 3 * 6 + p = 18 + p := by omega
  have new0 : STR (cRead S p (d.rd p)) (mRd M p (d.rd p) c a gr) d.sz (decide (S.y 5 0 = 10)) 0 6 (va_up d.rd p (d.rd p + 1)) M.T.length := by
    refine ⟨by rw [eR _ (by omega)]; exact st0.wr, by rw [ex]; exact st0.mkk, by rw [ex]; exact st0.mr, by rw [ex]; exact st0.lc, fun j hj => ?_, fun j hj hr0 => ?_, fun j hj hr0 => ?_, st0.m27, fun e => absurd rfl e, ?_, ?_⟩
    · rw [eg1, m23, p_ug]
      unfold upd
      by_cases e : j = p
      · subst e; rw [if_pos rfl, if_pos (by omega), p_ug]; exact ⟨rfl, rfl⟩
      · rw [if_neg e, if_neg (by omega), p_un _ _ e]; exact st0.rs j hj
    · rw [eg2, m24, p_ug]
      unfold upd
      by_cases e : j = p
      · subst e
        rw [if_pos rfl, if_pos (by omega), hgr, g11]
        unfold cGr
        rw [r1]
        by_cases c0 : d.rd j = 0
        · have g0 := st0.g0 j hj c0
          rw [hcap3] at g0
          rw [if_pos c0, g0, if_neg]
          · exact ⟨rfl, t, ht, rfl⟩
          · rw [i_le, nI_toInt (by omega)]; change ¬ (_ : Int) ≤ -1; omega
        · obtain ⟨g1, q, hq1, g2⟩ := st0.gr j hj c0
          rw [hcap3] at g1
          rw [if_neg c0, ← g1]
          by_cases c2 : S.g 2 0 j < nI t
          · rw [if_pos c2, if_neg (fun q => by rw [i_lt] at c2; rw [i_le] at q; omega)]
            exact ⟨rfl, t, ht, rfl⟩
          · rw [if_neg c2, if_pos (Int32.not_lt.1 c2)]
            exact ⟨rfl, q, hq1, g2⟩
      · rw [if_neg e, if_neg (by omega)]
        rw [p_un _ _ e] at hr0
        exact st0.gr j hj hr0
    · rw [m24]
      unfold upd
      by_cases e : j = p
      · subst e; rw [p_ug] at hr0; omega
      · rw [p_un _ _ e] at hr0
        rw [if_neg (by omega)]
        exact st0.g0 j hj hr0
    · have := st0.cw
      show (M.V 6).length ≤ _
      omega
    · have := st0.pt
      show pW (M.V 6) + _ ≤ _
      omega
  have hc5 := h.sn.c5
  exact ⟨h.tx.elim fun n t => ⟨n, ⟨t.n60, t.m0, t.s19, t.s17, t.cap, t.c16, t.c70, t.by_, t.ch⟩⟩, ev, tb, h.lag, h.idle, ⟨h.pl.b, h.pl.s15, fun e => (h.pl.q e).tb rfl rfl rfl, fun e => absurd (h5.symm.trans e) (by decide)⟩, by rw [eR 4 (by omega)]; exact h.tt, new0, h.st1.elim fun rd s => s.elim fun m s => ⟨rd, m, fr (by decide) (by decide) s.1, fun q => Nat.le_trans (s.2.1 q) (up_le q), s.2.2⟩, ⟨h.sn.c5, h.sn.s13, h.sn.m35, h.sn.s14, h.sn.m37, h.sn.y7, h.sn.inj, h.sn.num, h.sn.inc⟩, fun k hk => (h.std k hk).elim fun rd s => s.elim fun m s => ⟨rd, m, fr (by have := (h.sn.y7 k (by have : k < d.c := hk; omega)).1; show S.y 7 k ≠ 0; omega) (by have : k < d.c := hk; omega) s.1, fun q => Nat.le_trans (s.2.1 q) (up_le q), s.2.2⟩, h.tki, h.wk⟩
theorem NR.g24 {S M sz sl lt} (h : NR S M sz sl lt) (j : Nat) (v : Int32) : NR S (mG M 24 j v) sz sl lt := ⟨h.q.ofx rfl, h.wr, h.tt, h.mkk, h.mr, h.lc⟩
theorem FrM.g24 {M M' : MS} (h : FrM M M') (j : Nat) (v : Int32) : FrM (mG M 24 j v) (mG M' 24 j v) := by
  refine ⟨h.x, h.V, fun k i hk => ?_, h.t⟩
  simp only [CS.mk_R, CS.mk_cap, CS.mk_x, CS.mk_y, CS.mk_g, CS.mk_eta, MS.mk_x, MS.mk_g, MS.mk_V, MS.mk_T, MS.mk_eta, GD.mk_n, GD.mk_rd, GD.mk_c, GD.mk_tk, GD.mk_sz, GD.mk_sl, GD.mk_lt, GD.mk_eta, mG]
  have e24 : M'.g 24 = M.g 24 := funext fun i => h.g 24 i (by omega)
  by_cases e : k = 24
  · subst e; rw [p_ug, p_ug, e24]
  · rw [p_un _ _ e, p_un _ _ e]; exact h.g k i hk
theorem clos_rel {S M d i} (h : Rel S M d i) : ∃ m : Nat, cClosed S d.c = nI m ∧ m ≤ M.T.length ∧ (if d.c = 0 then M.g 27 5 else M.g 27 (d.c - 1)) = nI m := by
  unfold cClosed
  by_cases c : d.c = 0
  · obtain ⟨rd, m, s, a, b⟩ := h.st1
    rw [if_pos c, if_pos c]
    exact ⟨m, s.x4 (by decide), b, s.m27⟩
  · obtain ⟨rd, m, s, a, b⟩ := h.std (d.c - 1) (by omega)
    have hc5 := h.sn.c5
    have := (h.sn.y7 (d.c - 1) (by omega)).1
    rw [if_neg c, if_neg c]
    exact ⟨m, s.x4 (by omega), b, s.m27⟩
theorem m_open {S M d i x g} (hr : Rel S M d i) (hm : RM M x g) {Φ : Int32 → Prop} (h : Φ (nI M.T.length - cClosed S d.c)) : wX9_open x g Φ := by
  obtain ⟨m, e1, e2, e3⟩ := clos_rel hr
  have hc5 := hr.sn.c5
  unfold wX9_open
  rw [p_6, p_5, hm.W 27 (by omega) (by omega), hm.n27, hm.hx, hr.sn.m35]
  rw [e1] at h
  refine ⟨p_vin6, fun c => ⟨by unfold vp_in; decide, ?_⟩, fun c => ?_⟩
  · have : d.c = 0 := by
      have := (nI_leI (a := d.c) (b := 0) (by omega) (by omega)).1 c
      omega
    rw [if_pos this] at e3
    rw [e3]; exact h
  · have hc0 : d.c ≠ 0 := fun e => c (by rw [e]; decide)
    rw [if_neg hc0] at e3
    have e4 : nI d.c - 1 = nI (d.c - 1) := p_sub (a := d.c) (b := 1) (by omega)
    rw [e4, p_cl (by omega), e3]
    exact ⟨p_in7 (by omega), h⟩
theorem cPut_cap {S M d i x y g} (hr : Rel S M d i) (hc : RC S x y g) {p r t sz sl : Nat} (ht : ((S.R p).getD r pz) 1 = nI t) (ht2 : t < 1000) (hsz : S.x 10 0 = nI sz) (hsl : S.x 11 0 = nI sl) (hsz2 : sz < 100) (hsl2 : sl < 100) : CapOK (cPut S p r) := by
  have hsz' := hr.sizes
  have hpl := pW_len (M.V 6)
  have htt : (S.R 4).length = M.T.length := by rw [hr.tt]
  have hwl : (S.R 5).length = (M.V 6).length := hr.st0.wr.len
  unfold cPut
  try dsimp only [CS.mk_R, CS.mk_cap, CS.mk_x, CS.mk_y, CS.mk_g, CS.mk_eta, MS.mk_x, MS.mk_g, MS.mk_V, MS.mk_T, MS.mk_eta, GD.mk_n, GD.mk_rd, GD.mk_c, GD.mk_tk, GD.mk_sz, GD.mk_sl, GD.mk_lt, GD.mk_eta]
  split
  · exact hc.ok.ses _ _ _ (by omega)
  · rw [ht, hsl, hsz, nI_back (by omega), nI_back (by omega), nI_back (by omega)]
    obtain ⟨bs, ebs, lbs, hbs⟩ := pB_nat (t / sl * sl) sl (sz / sl)
    have : sz / sl ≤ sz := Nat.div_le_self _ _
    rw [ebs]
    exact hc.ok.sl _ _ _ (by rw [List.length_map]; omega) (by rw [List.length_map]; omega)
theorem find_ref {S M d i xm gm} (hr : Rel S M d i) (h5 : M.x 5 = 1) (hm : RM M xm gm) {Ψ : pJ} (hΨ : ∀ M' g', RM M' xm g' → Rel (cFind S) M' d i → M'.x = M.x → Ψ xm g') : wX9_finds xm gm Ψ := by
  have hn := hr.nr h5
  have hpr := hr.pr
  have hsz := hr.sizes
  have hpl := pW_len (M.V 6)
  obtain ⟨k1, k2, k3, k4, k5⟩ := find_rel hn hpr
  refine m_finds hm hn.wr.uniq (U := findU S) (fun l => ?_) fun g2 hG => hΨ _ g2 hG (hr.of h5 k1 k2 k3 (Nat.le_trans k4 hr.st0.cw) (Nat.le_trans k5 hr.st0.pt) hG.n27) k3.x
  refine ⟨hn.wr.sW.filter _, fun r => ?_, ?_⟩
  · unfold findU pUn
    rw [List.mem_filter, decide_eq_true_eq, hn.wr.perm.mem_iff]
    simp only [CS.mk_R, CS.mk_cap, CS.mk_x, CS.mk_y, CS.mk_g, CS.mk_eta, MS.mk_x, MS.mk_g, MS.mk_V, MS.mk_T, MS.mk_eta, GD.mk_n, GD.mk_rd, GD.mk_c, GD.mk_tk, GD.mk_sz, GD.mk_sl, GD.mk_lt, GD.mk_eta, mG, p_ug, upd, if_true, pUnt]
    exact ⟨fun q => ⟨q.1, q.2.2, q.2.1⟩, fun q => ⟨q.1, q.2.2, q.2.1⟩⟩
  · have := List.length_filter_le (fun r => decide (r 2 ≤ l ∧ r 4 = 0)) (S.R 5)
    have := hn.wr.len
    unfold findU pUn
    simp only [CS.mk_R, CS.mk_cap, CS.mk_x, CS.mk_y, CS.mk_g, CS.mk_eta, MS.mk_x, MS.mk_g, MS.mk_V, MS.mk_T, MS.mk_eta, GD.mk_n, GD.mk_rd, GD.mk_c, GD.mk_tk, GD.mk_sz, GD.mk_sl, GD.mk_lt, GD.mk_eta, mG]
    omega
theorem NR.ung24 {S M sz sl lt} {j : Nat} {v : Int32} (h : NR S (mG M 24 j v) sz sl lt) : NR S M sz sl lt := ⟨h.q.ofx rfl, h.wr, h.tt, h.mkk, h.mr, h.lc⟩
theorem NR.g27 {S M sz sl lt} (h : NR S M sz sl lt) {v : Int32} : NR S (mG M 27 6 v) sz sl lt := ⟨h.q.ofx rfl, h.wr, h.tt, h.mkk, h.mr, h.lc⟩
theorem FrM.g27 {M M' : MS} (h : FrM M M') (v : Int32) : FrM M (mG M' 27 6 v) := by
  refine ⟨h.x, h.V, fun k i hk => ?_, h.t⟩
  simp only [CS.mk_R, CS.mk_cap, CS.mk_x, CS.mk_y, CS.mk_g, CS.mk_eta, MS.mk_x, MS.mk_g, MS.mk_V, MS.mk_T, MS.mk_eta, GD.mk_n, GD.mk_rd, GD.mk_c, GD.mk_tk, GD.mk_sz, GD.mk_sl, GD.mk_lt, GD.mk_eta, mG]
  by_cases e : k = 27
  · subst e; rw [p_ug, upd, if_neg (by omega)]; exact h.g 27 i hk
  · rw [p_un _ _ e]; exact h.g k i hk
theorem c_findR {S M d i x y g bc bs} (hr : Rel S M d i) (h5 : M.x 5 = 1) (hc : RC S x y g) (hb : cOK S (cFind S) bc bs) {Φ : pK} (hΦ : ∀ x y g, RC (cFind S) x y g → Φ x y g) : wX0_findWatermark x y g bc bs Φ := by
  have hn := hr.nr h5
  have hpr := hr.pr
  have hsz := hr.sizes
  have hpl := pW_len (M.V 6)
  exact c_find hc (pLt_2 hn.wr.sW) (by rw [hn.tt, hn.wr.len]; omega) (fun l hl => hn.q.hz (hpr.rng hl)) hb hΦ
def cStep (S : CS) (p r : Nat) : CS := if cLets S (((S.R p).getD r pz) 2) = 0 then cRead S p r else cPut (cRead S p r) p r
def mRd1 (M : MS) (p r : Nat) (c a : Int32) : MS := mG (mG (mG (mG (mG M 23 (18 + p) (nI (r + 1))) 13 (300 * p + r) c) 14 (300 * p + r) a) 15 (300 * p + r) (M.g 25 6)) 16 (300 * p + r) (M.g 6 7)
theorem cRead_row {S : CS} {p r : Nat} (hr : r < (S.R p).length) : ((cRead S p r).R p).getD r pz = upd (upd (upd ((S.R p).getD r pz) 3 (cLets S (((S.R p).getD r pz) 2))) 4 (cAmt S ((S.R p).getD r pz))) 5 (S.x 2 0 - S.x 12 0) := by
  unfold cRead; try dsimp only [CS.mk_R, CS.mk_cap, CS.mk_x, CS.mk_y, CS.mk_g, CS.mk_eta, MS.mk_x, MS.mk_g, MS.mk_V, MS.mk_T, MS.mk_eta, GD.mk_n, GD.mk_rd, GD.mk_c, GD.mk_tk, GD.mk_sz, GD.mk_sl, GD.mk_lt, GD.mk_eta]; rw [cRw_R, p_getset hr]
theorem step_mid {S M d i} (h : Rel S M d i) (h5 : M.x 5 = 1) {p : Nat} (hp : p < 3) (hr : d.rd p < d.n p) {a : Int32} (ha : a = M.g 12 (300 * p + d.rd p) + (if M.g 6 3 = 1 then mJoin M (S.R 3).length (M.g 10 (300 * p + d.rd p)) (M.g 11 (300 * p + d.rd p)) else 0)) {k t : Nat} (hk : k < 8) (ht : t < 1000) (r0 : ((S.R p).getD (d.rd p) pz) 0 = nI k) (r1 : ((S.R p).getD (d.rd p) pz) 1 = nI t) (g11 : M.g 11 (300 * p + d.rd p) = nI t) (r2 : ((S.R p).getD (d.rd p) pz) 2 = M.g 12 (300 * p + d.rd p)) :
    ∃ M2 : MS, (mLets M (M.g 12 (300 * p + d.rd p)) = 0 → M2 = mRd1 M p (d.rd p) (mLets M (M.g 12 (300 * p + d.rd p))) a) ∧ (mLets M (M.g 12 (300 * p + d.rd p)) ≠ 0 → ∀ (x : Nat → Int32) (g : Nat → Nat → Int32), RM (mRd1 M p (d.rd p) (mLets M (M.g 12 (300 * p + d.rd p))) a) x g → ∀ Φ : pJ, (∀ g, RM M2 x g → Φ x g) → wX9_comes x g (nI k) (nI t) a Φ) ∧ M2.g 24 = M.g 24 ∧ M2.x = M.x ∧ (∀ n27 : M2.g 27 6 = nI M2.T.length, Rel (cStep S p (d.rd p)) (mG M2 24 (18 + p) (if nI t ≤ M.g 24 (18 + p) then M.g 24 (18 + p) else nI t)) (GD.mk d.n (va_up d.rd p (d.rd p + 1)) d.c d.tk d.sz d.sl d.lt) i) ∧ ∃ M' : MS, M'.x 5 = 1 ∧ Rel (cStep S p (d.rd p)) M' (GD.mk d.n (va_up d.rd p (d.rd p + 1)) d.c d.tk d.sz d.sl d.lt) i := by
  have hR : Rel _ _ (GD.mk d.n (va_up d.rd p (d.rd p + 1)) d.c d.tk d.sz d.sl d.lt) i := h.read h5 hp hr (c := mLets M (M.g 12 (300 * p + d.rd p))) rfl ha (gr := if nI t ≤ M.g 24 (18 + p) then M.g 24 (18 + p) else nI t) (by rw [g11])
  have hQ := h.pl.q h5
  have hlen := h.ev.len p hp
  have hsum := va3 (n := d.rd) (v := d.rd p + 1) hp
  have hsz := h.sizes
  have hrdn := h.ev.rdn
  have htot := h.ev.tot
  have s4 : d.rd 0 + d.rd 1 + d.rd 2 + 1 ≤ 300 := by
    have a0 := hrdn 0 (by omega)
    have a1 := hrdn 1 (by omega)
    have a2 := hrdn 2 (by omega)
    have : p = 0 ∨ p = 1 ∨ p = 2 := by omega
    rcases this with e | e | e <;> subst e <;> omega
  have hcw := h.st0.cw
  have hpt := h.st0.pt
  have el : mLets M (M.g 12 (300 * p + d.rd p)) = cLets S (((S.R p).getD (d.rd p) pz) 2) := by rw [hQ.lets, r2]
  have hx : (mG (mRd1 M p (d.rd p) (mLets M (M.g 12 (300 * p + d.rd p))) a) 24 (18 + p) (if nI t ≤ M.g 24 (18 + p) then M.g 24 (18 + p) else nI t)) = mRd M p (d.rd p) (mLets M (M.g 12 (300 * p + d.rd p))) a (if nI t ≤ M.g 24 (18 + p) then M.g 24 (18 + p) else nI t) := rfl
  by_cases c0 : cLets S (((S.R p).getD (d.rd p) pz) 2) = 0
  · refine ⟨mRd1 M p (d.rd p) (mLets M (M.g 12 (300 * p + d.rd p))) a, fun _ => rfl, fun e => absurd (el.trans c0) e, rfl, rfl, fun _ => ?_, _, ?_, by unfold cStep; rw [if_pos c0]; exact hR⟩
    · unfold cStep
      rw [if_pos c0, hx]
      exact hR
    · exact h5
  · have hN0 := hR.nr h5
    rw [← hx] at hN0
    try dsimp only [CS.mk_R, CS.mk_cap, CS.mk_x, CS.mk_y, CS.mk_g, CS.mk_eta, MS.mk_x, MS.mk_g, MS.mk_V, MS.mk_T, MS.mk_eta, GD.mk_n, GD.mk_rd, GD.mk_c, GD.mk_tk, GD.mk_sz, GD.mk_sl, GD.mk_lt, GD.mk_eta] at hN0
    have hN := hN0.ung24
    have e1 := cRead_row (S := S) (p := p) (r := d.rd p) (by omega)
    have eV : (mRd1 M p (d.rd p) (mLets M (M.g 12 (300 * p + d.rd p))) a).V = M.V := rfl
    have eT : (mRd1 M p (d.rd p) (mLets M (M.g 12 (300 * p + d.rd p))) a).T = M.T := rfl
    have e5 : (mRd1 M p (d.rd p) (mLets M (M.g 12 (300 * p + d.rd p))) a).g 6 = M.g 6 := rfl
    have e24 : (mRd1 M p (d.rd p) (mLets M (M.g 12 (300 * p + d.rd p))) a).g 24 = M.g 24 := rfl
    have e00 : (mRd1 M p (d.rd p) (mLets M (M.g 12 (300 * p + d.rd p))) a).x = M.x := rfl
    have q4 : (((cRead S p (d.rd p)).R p).getD (d.rd p) pz) 4 = mIts (mRd1 M p (d.rd p) (mLets M (M.g 12 (300 * p + d.rd p))) a) a := by
      have := (hR.ev.done p hp (d.rd p) (by show d.rd p < va_up d.rd p (d.rd p + 1) p; rw [p_ug]; omega)).2.2.1
      rw [this]
      show mIts M (upd (M.g 14) (300 * p + d.rd p) a (300 * p + d.rd p)) = mIts M a
      rw [upd, if_pos rfl]
    rw [← eV] at hsz hcw hpt
    rw [← eT] at hsz hpt
    generalize hM1 : mRd1 M p (d.rd p) (mLets M (M.g 12 (300 * p + d.rd p))) a = M1 at *
    obtain ⟨b0, b1, b2, b3, b4, b5⟩ := put_rel (p := p) (r := d.rd p) (k := k) (t := t) (v := a) hN hk ht (by rw [e1]; exact r0) (by rw [e1]; exact r1) q4 (by omega) (by omega)
    have z2 := hQ.z2
    have z1 := hQ.z1
    have s2 := hQ.s2
    have s1 := hQ.s1
    have cw' : ((mComes M1 (nI k) a t d.sz d.sl).V 6).length ≤ 4 * (va_up d.rd p (d.rd p + 1) 0 + va_up d.rd p (d.rd p + 1) 1 + va_up d.rd p (d.rd p + 1) 2) := by omega
    have pt' : pW ((mComes M1 (nI k) a t d.sz d.sl).V 6) + (mComes M1 (nI k) a t d.sz d.sl).T.length ≤ 8 * (va_up d.rd p (d.rd p + 1) 0 + va_up d.rd p (d.rd p + 1) 1 + va_up d.rd p (d.rd p + 1) 2) := by omega
    have h5' : M1.x 5 = 1 := by rw [e00]; exact h5
    have ecs : cStep S p (d.rd p) = cPut (cRead S p (d.rd p)) p (d.rd p) := by unfold cStep; rw [if_neg c0]
    refine ⟨mComes M1 (nI k) a t d.sz d.sl, fun e => absurd (el.symm.trans e) c0, fun _ x g hm Φ hΦ => ?_, ?_, ?_, fun n27 => ?_, mG (mG (mComes M1 (nI k) a t d.sz d.sl) 27 6 (nI (mComes M1 (nI k) a t d.sz d.sl).T.length)) 24 (18 + p) (if nI t ≤ M.g 24 (18 + p) then M.g 24 (18 + p) else nI t), ?_, ?_⟩
    · refine m_comes hm ht (by omega) z1 (by rw [e5]; exact hQ.zm) hN.wr.uniq (by have := pW_len (M1.V 6); omega) (by omega) (fun q1 q2 => ⟨?_, s1, by omega, b0 q1 q2⟩) hΦ
      have h9 : S.y 5 0 = 9 := by
        have := hQ.sh1
        have := hQ.sh2
        rw [e5, hQ.sh] at q1 q2
        have n10 : S.y 5 0 ≠ 10 := fun e => q1 (by rw [e]; rfl)
        have n8 : S.y 5 0 ≠ 8 := fun e => q2 (by rw [e]; rfl)
        omega
      rw [e5]
      exact (hQ.s9 h9).1
    · rw [show (mComes M1 (nI k) a t d.sz d.sl).g 24 = M1.g 24 from funext fun j => b3.g 24 j (by omega)]; exact e24
    · rw [b3.x]; exact e00
    · rw [ecs]
      rw [← hx] at hR
      exact hR.of h5' (b1.g24 (18 + p) (if nI t ≤ M.g 24 (18 + p) then M.g 24 (18 + p) else nI t)) b2 (b3.g24 (18 + p) _) cw' pt' n27
    · show (mComes M1 (nI k) a t d.sz d.sl).x 5 = 1
      rw [b3.x]; exact h5'
    · rw [ecs]
      rw [← hx] at hR
      exact hR.of h5' ((b1.g27).g24 (18 + p) (if nI t ≤ M.g 24 (18 + p) then M.g 24 (18 + p) else nI t)) b2 ((b3.g27 _).g24 (18 + p) _) cw' pt' (by simp only [CS.mk_R, CS.mk_cap, CS.mk_x, CS.mk_y, CS.mk_g, CS.mk_eta, MS.mk_x, MS.mk_g, MS.mk_V, MS.mk_T, MS.mk_eta, GD.mk_n, GD.mk_rd, GD.mk_c, GD.mk_tk, GD.mk_sz, GD.mk_sl, GD.mk_lt, GD.mk_eta, mG, p_un _ _ (show (27 : Nat) ≠ 24 by decide), p_ug, upd, if_true])
theorem RM.n27' {M x g} (h : RM M x g) : M.g 27 6 = nI M.T.length := h.n27
theorem m_step {S M d i x g} (hr : Rel S M d i) (hm : RM M x g) (h5 : M.x 5 = 1) (h44 : M.x 44 = 0) {p : Nat} (hp : p < 3) (hrd : d.rd p < d.n p) {Φ : Int32 → pJ} (hΦ : ∀ M' g', RM M' x g' → Rel (cFind (cStep S p (d.rd p))) M' (GD.mk d.n (va_up d.rd p (d.rd p + 1)) d.c d.tk d.sz d.sl d.lt) i → M'.x = M.x → Φ (nI M'.T.length - nI M.T.length) x g') : jX9_step_67 Φ x g (nI p) (nI (d.rd p)) 0 := by
  obtain ⟨k, t, hk, ht, r0, g10, r1, g11, r2⟩ := hr.ev.row p hp _ hrd
  have hn300 : d.n p ≤ 300 := by
    have := hr.ev.tot
    have : p = 0 ∨ p = 1 ∨ p = 2 := by omega
    rcases this with e | e | e <;> subst e <;> omega
  have hxx : va_up x 44 0 = x := by rw [hm.hx, ← h44, p_us]
  have hw : vp_in (nI (300 * p + d.rd p)) 900 := vp_in_nI (by omega) (by omega)
  have hp18 : vp_in (nI (18 + p)) 21 := vp_in_nI (by omega) (by omega)
  unfold jX9_step_67
  refine m_yes ?_
  rw [hxx, p_6, p_3, hm.W 27 (by omega) (by omega), hm.n27, show (18 : Int32) = nI 18 from rfl, show (300 : Int32) = nI 300 from rfl, nI_add, p_mul, nI_add]
  refine ⟨p_vin6, ?_⟩
  rintro _ rfl _ rfl
  rw [p_cl (show 300 * p + d.rd p < 2 ^ 31 by omega), hm.W 11 (by omega) (by omega), g11]
  refine ⟨hw, ?_⟩
  rintro _ rfl
  rw [p_cl (show 18 + p < 2 ^ 31 by omega), hm.W 23 (by omega) (by omega), show M.g 23 (18 + p) = nI (d.rd p) from by have := (hr.st0.rs p hp).2; rwa [show 3 * 6 + p = 18 + p by omega] at this, nI_1]
  refine ⟨hp18, hp18, hw, ?_⟩
  have hm1 := hm.G (k := 23) (i := 18 + p) (v := nI (d.rd p + 1)) (by omega) (by omega)
  rw [hm.W 23 (by omega) (by omega)] at hm1
  refine m_counts hm1 ⟨hw, hw, p_v9 (by decide), ?_⟩
  rw [show mLets (mG M 23 (18 + p) (nI (d.rd p + 1))) (g 12 (300 * p + d.rd p)) = mLets M (M.g 12 (300 * p + d.rd p)) by rw [hm.W 12 (by omega) (by omega)]; rfl]
  have hlb : mLets M (M.g 12 (300 * p + d.rd p)) = 0 ∨ mLets M (M.g 12 (300 * p + d.rd p)) = 1 := by
    rw [(hr.pl.q h5).lets]; exact cLets_b _ _
  rw [p_nar hlb, hm.W 6 (by omega) (by omega), hm.W 10 (by omega) (by omega), hm.W 12 (by omega) (by omega), hm.W 13 (by omega) (by omega), g10]
  have hm2 := hm1.G (k := 13) (i := 300 * p + d.rd p) (v := mLets M (M.g 12 (300 * p + d.rd p))) (by omega) (by omega)
  have e13 : va_up g 23 (upd (M.g 23) (18 + p) (nI (d.rd p + 1))) 13 = M.g 13 := by rw [p_un _ _ (by decide)]; exact hm.W 13 (by omega) (by omega)
  rw [e13] at hm2
  have key : ∀ jn : Int32, jn = (if M.g 6 3 = 1 then mJoin M (S.R 3).length (M.g 10 (300 * p + d.rd p)) (M.g 11 (300 * p + d.rd p)) else 0) → jX9_step_173 Φ x (va_up (va_up g 23 (upd (M.g 23) (18 + p) (nI (d.rd p + 1)))) 13 (upd (M.g 13) (300 * p + d.rd p) (mLets M (M.g 12 (300 * p + d.rd p))))) (nI p) (nI M.T.length) (nI (300 * p + d.rd p)) (nI t) (nI (300 * p + d.rd p)) (M.g 12 (300 * p + d.rd p)) jn := by
    intro jn hjn
    obtain ⟨M2, a1, a2, a3, a4, a5, _⟩ := step_mid hr h5 hp hrd (a := M.g 12 (300 * p + d.rd p) + jn) (by rw [hjn]) hk ht r0 r1 g11 r2
    have hm3 := ((hm2.G (k := 14) (i := 300 * p + d.rd p) (v := M.g 12 (300 * p + d.rd p) + jn) (by omega) (by omega)).G (k := 15) (i := 300 * p + d.rd p) (v := M.g 25 6) (by omega) (by omega)).G (k := 16) (i := 300 * p + d.rd p) (v := M.g 6 7) (by omega) (by omega)
    have em : mG (mG (mG (mG (mG M 23 (18 + p) (nI (d.rd p + 1))) 13 (300 * p + d.rd p) (mLets M (M.g 12 (300 * p + d.rd p)))) 14 (300 * p + d.rd p) (M.g 12 (300 * p + d.rd p) + jn)) 15 (300 * p + d.rd p) (M.g 25 6)) 16 (300 * p + d.rd p) (M.g 6 7) = mRd1 M p (d.rd p) (mLets M (M.g 12 (300 * p + d.rd p))) (M.g 12 (300 * p + d.rd p) + jn) := rfl
    rw [em] at hm3
    unfold jX9_step_173
    rw [p_cl (show 300 * p + d.rd p < 2 ^ 31 by omega), p_6, p_7]
    have e6 : ∀ k, k ≠ 23 → k ≠ 13 → (va_up (va_up g 23 (upd (M.g 23) (18 + p) (nI (d.rd p + 1)))) 13 (upd (M.g 13) (300 * p + d.rd p) (mLets M (M.g 12 (300 * p + d.rd p))))) k = g k := fun k a b => by rw [p_un _ _ b, p_un _ _ a]
    rw [e6 25 (by decide) (by decide), e6 6 (by decide) (by decide), e6 10 (by decide) (by decide), hm.W 25 (by omega) (by omega), hm.W 6 (by omega) (by omega), hm.W 10 (by omega) (by omega), g10]
    rw [show (va_up (va_up g 23 (upd (M.g 23) (18 + p) (nI (d.rd p + 1)))) 13 (upd (M.g 13) (300 * p + d.rd p) (mLets M (M.g 12 (300 * p + d.rd p))))) 13 (300 * p + d.rd p) = mLets M (M.g 12 (300 * p + d.rd p)) by rw [p_ug, upd, if_pos rfl]]
    refine ⟨hw, p_vin6, hw, p_v9 (by decide), hw, hw, ?_⟩
    have fin : ∀ g2, RM M2 x g2 → jX9_step_233 Φ x g2 (nI p) (nI M.T.length) (nI t) := by
      intro g2 hM2
      unfold jX9_step_233
      rw [show (18 : Int32) = nI 18 from rfl, nI_add]
      rintro _ rfl
      rw [p_cl (show 18 + p < 2 ^ 31 by omega), hM2.W 24 (by omega) (by omega), a3]
      have hR := a5 hM2.n27
      have j : ∀ s : Int32, s = (if nI t ≤ M.g 24 (18 + p) then M.g 24 (18 + p) else nI t) → jX9_step_269 Φ x g2 (nI M.T.length) (nI (18 + p)) s := by
        rintro _ rfl
        unfold jX9_step_269
        rw [p_cl (show 18 + p < 2 ^ 31 by omega)]
        have hM3 := hM2.G (k := 24) (i := 18 + p) (v := if nI t ≤ M.g 24 (18 + p) then M.g 24 (18 + p) else nI t) (by omega) (by omega)
        refine ⟨hp18, find_ref hR (by show M2.x 5 = 1; rw [a4]; exact h5) hM3 fun M' g' hG hR2 hx => ⟨p_vin6, ?_⟩⟩
        rw [p_6, hG.W 27 (by omega) (by omega), hG.n27]
        exact hΦ M' g' hG hR2 (hx.trans a4)
      exact ⟨hp18, fun c => ⟨hp18, j _ (by rw [if_pos c])⟩, fun c => j _ (by rw [if_neg c])⟩
    have eg3 : (va_up (va_up (va_up (va_up (va_up g 23 (upd (M.g 23) (18 + p) (nI (d.rd p + 1)))) 13 (upd (M.g 13) (300 * p + d.rd p) (mLets M (M.g 12 (300 * p + d.rd p))))) 14 (upd ((va_up (va_up g 23 (upd (M.g 23) (18 + p) (nI (d.rd p + 1)))) 13 (upd (M.g 13) (300 * p + d.rd p) (mLets M (M.g 12 (300 * p + d.rd p))))) 14) (300 * p + d.rd p) (M.g 12 (300 * p + d.rd p) + jn))) 15 (upd ((va_up (va_up g 23 (upd (M.g 23) (18 + p) (nI (d.rd p + 1)))) 13 (upd (M.g 13) (300 * p + d.rd p) (mLets M (M.g 12 (300 * p + d.rd p))))) 15) (300 * p + d.rd p) (M.g 25 6))) 16 (upd ((va_up (va_up g 23 (upd (M.g 23) (18 + p) (nI (d.rd p + 1)))) 13 (upd (M.g 13) (300 * p + d.rd p) (mLets M (M.g 12 (300 * p + d.rd p))))) 16) (300 * p + d.rd p) (M.g 6 7))) = _ := rfl
    refine ⟨fun l => fin _ ?_, fun l => ⟨hw, hw, ?_⟩⟩
    · rw [a1 l]; exact hm3
    · rw [upd, if_pos rfl]
      exact a2 l x _ hm3 _ fun g2 hM2 => fin g2 hM2
  refine ⟨fun c => ⟨hw, m_join hm2 (N := (S.R 3).length) hr.tb.n60 hr.tb.m19 (key _ ?_)⟩, fun c => key 0 (by rw [if_neg c])⟩
  rw [if_pos c, g10, g11]
  rfl
theorem cStep_mon {S : CS} (p r : Nat) : pSum S.cap ≤ pSum (cStep S p r).cap := by
  have h1 : pSum (cRead S p r).cap = pSum S.cap := by
    unfold cRead
    try dsimp only [CS.mk_R, CS.mk_cap, CS.mk_x, CS.mk_y, CS.mk_g, CS.mk_eta, MS.mk_x, MS.mk_g, MS.mk_V, MS.mk_T, MS.mk_eta, GD.mk_n, GD.mk_rd, GD.mk_c, GD.mk_tk, GD.mk_sz, GD.mk_sl, GD.mk_lt, GD.mk_eta]
    simp only [CS.mk_R, CS.mk_cap, CS.mk_x, CS.mk_y, CS.mk_g, CS.mk_eta, MS.mk_x, MS.mk_g, MS.mk_V, MS.mk_T, MS.mk_eta, GD.mk_n, GD.mk_rd, GD.mk_c, GD.mk_tk, GD.mk_sz, GD.mk_sl, GD.mk_lt, GD.mk_eta, cRw, cG, p_us]
  unfold cStep
  split
  · omega
  · rw [← h1]; exact cPut_mon _ _ _
theorem c_step {S M d i x y g bc bs} (hr : Rel S M d i) (hc : RC S x y g) (h5 : M.x 5 = 1) {p : Nat} (hp : p < 3) (hrd : d.rd p < d.n p) (hb : cOK S (cFind (cStep S p (d.rd p))) bc bs) {Φ : Int32 → pK} {Ψ : String → pK} (hΦ : ∀ x y g, RC (cFind (cStep S p (d.rd p))) x y g → Φ (x 1 4 - nI M.T.length) x y g) : wX0_readNext x y g (nI p) (fun r_108 x_108 y_108 g_108 => ((r_108 = 0 → (jX8_step_122 Φ Ψ x_108 y_108 g_108 (nI M.T.length) bc bs)) ∧ (¬ r_108 = 0 → (∃ kc_119 ks_119 bc_119 bs_119 : Nat, kc_119 + bc_119 ≤ bc ∧ ks_119 + bs_119 ≤ bs ∧ (wX0_putIntoWindows x_108 y_108 g_108 (nI p) kc_119 ks_119 (fun x_119 y_119 g_119 => (jX8_step_122 Φ Ψ x_119 y_119 g_119 (nI M.T.length) bc_119 bs_119))))))) ∧ pSum (cFind (cStep S p (d.rd p))).cap ≤ 557056 := by
  obtain ⟨k, t, hk, ht, r0, g10, r1, g11, r2⟩ := hr.ev.row p hp _ hrd
  have hQ := hr.pl.q h5
  have z2 := hQ.z2
  have s2 := hQ.s2
  have s1 := hQ.s1
  have hlen := hr.ev.len p hp
  obtain ⟨M2, _, _, _, _, _, M', m5, mR⟩ := step_mid hr h5 hp hrd (a := M.g 12 (300 * p + d.rd p) + (if M.g 6 3 = 1 then mJoin M (S.R 3).length (M.g 10 (300 * p + d.rd p)) (M.g 11 (300 * p + d.rd p)) else 0)) rfl hk ht r0 r1 g11 r2
  have hcapR : pSum (cRead S p (d.rd p)).cap = pSum S.cap := by
    unfold cRead; try dsimp only [CS.mk_R, CS.mk_cap, CS.mk_x, CS.mk_y, CS.mk_g, CS.mk_eta, MS.mk_x, MS.mk_g, MS.mk_V, MS.mk_T, MS.mk_eta, GD.mk_n, GD.mk_rd, GD.mk_c, GD.mk_tk, GD.mk_sz, GD.mk_sl, GD.mk_lt, GD.mk_eta]; simp only [CS.mk_R, CS.mk_cap, CS.mk_x, CS.mk_y, CS.mk_g, CS.mk_eta, MS.mk_x, MS.mk_g, MS.mk_V, MS.mk_T, MS.mk_eta, GD.mk_n, GD.mk_rd, GD.mk_c, GD.mk_tk, GD.mk_sz, GD.mk_sl, GD.mk_lt, GD.mk_eta, cRw, cG, p_us]
  have hsz := hr.sizes
  have hpl := pW_len (M.V 6)
  have htt : (S.R 4).length = M.T.length := by rw [hr.tt]
  have hwl : (S.R 5).length = (M.V 6).length := hr.st0.wr.len
  have R4 : (cRead S p (d.rd p)).R 4 = S.R 4 := cRw_Rn _ _ _ (by omega)
  have R5 : (cRead S p (d.rd p)).R 5 = S.R 5 := cRw_Rn _ _ _ (by omega)
  have e1 := cRead_row (S := S) (p := p) (r := d.rd p) (by omega)
  have okR : CapOK (cRead S p (d.rd p)) := by
    intro q hq
    have := hc.ok q hq
    unfold cRead; try dsimp only [CS.mk_R, CS.mk_cap, CS.mk_x, CS.mk_y, CS.mk_g, CS.mk_eta, MS.mk_x, MS.mk_g, MS.mk_V, MS.mk_T, MS.mk_eta, GD.mk_n, GD.mk_rd, GD.mk_c, GD.mk_tk, GD.mk_sz, GD.mk_sl, GD.mk_lt, GD.mk_eta]; simp only [CS.mk_R, CS.mk_cap, CS.mk_x, CS.mk_y, CS.mk_g, CS.mk_eta, MS.mk_x, MS.mk_g, MS.mk_V, MS.mk_T, MS.mk_eta, GD.mk_n, GD.mk_rd, GD.mk_c, GD.mk_tk, GD.mk_sz, GD.mk_sl, GD.mk_lt, GD.mk_eta, cRw, cG, p_us]; exact this
  have okS : CapOK (cStep S p (d.rd p)) := by
    unfold cStep
    split
    · exact okR
    · unfold cPut
      try dsimp only [CS.mk_R, CS.mk_cap, CS.mk_x, CS.mk_y, CS.mk_g, CS.mk_eta, MS.mk_x, MS.mk_g, MS.mk_V, MS.mk_T, MS.mk_eta, GD.mk_n, GD.mk_rd, GD.mk_c, GD.mk_tk, GD.mk_sz, GD.mk_sl, GD.mk_lt, GD.mk_eta]
      split
      · exact okR.ses _ _ _ (by rw [R4, R5]; omega)
      · rw [e1, show (upd (upd (upd ((S.R p).getD (d.rd p) pz) 3 (cLets S (((S.R p).getD (d.rd p) pz) 2))) 4 (cAmt S ((S.R p).getD (d.rd p) pz))) 5 (S.x 2 0 - S.x 12 0)) 1 = nI t from r1, show (cRead S p (d.rd p)).x 11 0 = nI d.sl from hQ.sc, show (cRead S p (d.rd p)).x 10 0 = nI d.sz from hQ.zc, nI_back (by omega), nI_back (by omega), nI_back (by omega)]
        obtain ⟨bs, ebs, lbs, hbs⟩ := pB_nat (t / d.sl * d.sl) d.sl (d.sz / d.sl)
        have : d.sz / d.sl ≤ d.sz := Nat.div_le_self _ _
        rw [ebs]
        exact okR.sl _ _ _ (by rw [List.length_map, R4]; omega) (by rw [List.length_map, R5]; omega)
  have sz2 := mR.sizes
  have hpl2 := pW_len (M'.V 6)
  have tt2 : ((cStep S p (d.rd p)).R 4).length = M'.T.length := by rw [mR.tt]
  have wl2 : ((cStep S p (d.rd p)).R 5).length = (M'.V 6).length := mR.st0.wr.len
  have okF : CapOK (cFind (cStep S p (d.rd p))) := okS.find (by omega)
  have grd : S.g 1 0 p = nI (d.rd p) := (hr.st0.rs p hp).1
  refine ⟨c_read hc hp (by omega) grd fun x y g h1 => ?_, okF.sum⟩
  have hfm := cFindT_mon (cStep S p (d.rd p)) (fwmS (cStep S p (d.rd p)))
  have tail : ∀ x y g bc bs, RC (cStep S p (d.rd p)) x y g → cOK (cStep S p (d.rd p)) (cFind (cStep S p (d.rd p))) bc bs → jX8_step_122 Φ Ψ x y g (nI M.T.length) bc bs := fun x y g bc bs h2 hb2 =>
    ⟨bc, bs, 0, 0, by omega, by omega, c_findR mR m5 h2 hb2 fun x y g h3 => hΦ x y g h3⟩
  refine ⟨fun l => ?_, fun l => ?_⟩
  · have e : cStep S p (d.rd p) = cRead S p (d.rd p) := by unfold cStep; rw [if_pos l]
    rw [e] at tail hb
    exact tail x y g bc bs h1 (hb.trans0 hcapR)
  · have e : cStep S p (d.rd p) = cPut (cRead S p (d.rd p)) p (d.rd p) := by unfold cStep; rw [if_neg l]
    have hb1 : cOK (cRead S p (d.rd p)) (cFind (cStep S p (d.rd p))) bc bs := hb.trans0 hcapR
    obtain ⟨kc, ks, b2, s2', q1, q2, q3, q4⟩ := hb1.split (cStep S p (d.rd p)) (by rw [e]; exact cPut_mon _ _ _) hfm
    refine ⟨kc, ks, b2, s2', q1, q2, ?_⟩
    rw [e] at q3
    have g1 : (cRead S p (d.rd p)).g 1 0 p = nI (d.rd p + 1) := by
      unfold cRead; try dsimp only [CS.mk_R, CS.mk_cap, CS.mk_x, CS.mk_y, CS.mk_g, CS.mk_eta, MS.mk_x, MS.mk_g, MS.mk_V, MS.mk_T, MS.mk_eta, GD.mk_n, GD.mk_rd, GD.mk_c, GD.mk_tk, GD.mk_sz, GD.mk_sl, GD.mk_lt, GD.mk_eta]; rw [cRw_g]; simp only [CS.mk_R, CS.mk_cap, CS.mk_x, CS.mk_y, CS.mk_g, CS.mk_eta, MS.mk_x, MS.mk_g, MS.mk_V, MS.mk_T, MS.mk_eta, GD.mk_n, GD.mk_rd, GD.mk_c, GD.mk_tk, GD.mk_sz, GD.mk_sl, GD.mk_lt, GD.mk_eta, cG, p_ug, p_un _ _ (show (1 : Nat) ≠ 2 by decide), upd, if_true]
    refine c_put h1 (t := t) (sz := d.sz) (sl := d.sl) hp ?_ g1 (by rw [e1]; exact r1) ht hQ.zc hQ.sc s1 (by omega) (by omega) (by rw [R4, R5]; omega) q3 fun x y g h2 => tail x y g b2 s2' (by rw [e]; exact h2) q4
    rw [show (cRead S p (d.rd p)).R p = (S.R p).set (d.rd p) _ from cRw_R _ _ _ _, List.length_set]; omega
theorem m_step44 {Φ : Int32 → pJ} {x : Nat → Int32} {g : Nat → Nat → Int32} {a b : Int32} (h : jX9_step_67 Φ (va_up x 44 0) g a b 0) : jX9_step_67 Φ x g a b 0 := by
  unfold jX9_step_67 wX9_can at h ⊢
  rw [p_uu] at h
  exact h
theorem case8 {i x y g f xm gm bc bs p1} (hi : i + 5 ≤ 2560) (h : lInv i x y g f xm gm bc bs) : wlc8 x y g f xm gm p1 bc bs (lInv (i + 5)) := by
  obtain ⟨S, M, d, hc, hm, hr, hb⟩ := h
  have hB := hb.min hc.capM hi
  have hc5 := hr.sn.c5
  have hy7 : ∀ i, i < 5 → S.y 7 i < 7 := fun i hi => (hr.sn.y7 i hi).2
  have hTl : x 1 4 = nI M.T.length := by rw [hc.len (by omega), hr.tt]
  have h6 := hb.same (T := S) rfl hc.capM hi
  unfold wlc8 wL_step wX8_step wX9_step
  have h18 : ∀ p, p < 3 → (18 : Int32) + nI p = nI (18 + p) := fun p hp => by rw [show (18 : Int32) = nI 18 from rfl, nI_add]
  rcases p_out (a := p1) (n := 3) (by omega) with ⟨p, hp, rfl⟩ | hp
  · have hin : vp_in (nI p) 3 := vp_in_nI (by omega) (by omega)
    have hp18 : vp_in (nI (18 + p)) 21 := vp_in_nI (by omega) (by omega)
    have e23 : gm 23 (18 + p) = nI (d.rd p) := by
      rw [hm.W 23 (by omega) (by omega)]
      have := (hr.st0.rs p hp).2
      rwa [show 3 * 6 + p = 18 + p by omega] at this
    have e9 : gm 9 p = nI (d.n p) := by rw [hm.W 9 (by omega) (by omega)]; exact hr.ev.cnt p hp
    have hlen := hr.ev.len p hp
    have hrdn := hr.ev.rdn p hp
    have hn300 : d.n p ≤ 300 := by
      have := hr.ev.tot
      have : p = 0 ∨ p = 1 ∨ p = 2 := by omega
      rcases this with e | e | e <;> subst e <;> omega
    have xlen : x 1 p = nI (d.n p) := by rw [hc.len (by omega), hlen]
    have g10 : g 1 0 p = nI (d.rd p) := by rw [hc.hg 1 (by omega)]; exact (hr.st0.rs p hp).1
    rw [h18 p hp]
    have j48 : ∀ {v3 : Int32}, jX9_step_48 (fun r xm1 gm1 => wX9_thrown xm1 gm1 (fun t => t = 2 ∧ ((2 : Int32) = 0 → f (0 : Int32).toNatClampNeg = r.toInt64) ∧ lInv (i + 5) x y g f xm1 gm1 (bc - 5) (bs - 100))) xm gm (nI p) v3 := fun {v3} => by
      unfold jX9_step_48 jX9_step_67
      exact m_no (by decide) (end_exc hi hc hm hr hb (by decide))
    rcases hr.pl.b with z | z
    · have zx : x 15 0 = 0 := by rw [hc.hx 15 (by omega), hr.pl.s15]; exact z
      refine ⟨5, 100, bc - 5, bs - 100, by omega, by omega, k_in (n := 3) hp (by omega) (ite0 ⟨fun _ => ⟨by omega, by omega, .inr (.inl ⟨rfl, m_partY hp (ite1 ?_)⟩)⟩, fun c => absurd zx c⟩)⟩
      exact ⟨hp18, ite1 ⟨fun _ => j48, fun c => absurd (show xm 5 = 0 by rw [hm.hx]; exact z) c⟩⟩
    · have zx : ¬ x 15 0 = 0 := by rw [hc.hx 15 (by omega), hr.pl.s15, z]; decide
      have zm : ¬ xm 5 = 0 := by rw [hm.hx, z]; decide
      rcases Classical.em (nI M.T.length - cClosed S d.c < 30) with ho | ho
      · rcases Nat.lt_or_ge (d.rd p) (d.n p) with hrd | hrd
        · have hr2 := hr.thrown 0
          have hm2 := hm.X 44 0
          have hcap := (c_step (bc := pSum (cFind (cStep S p (d.rd p))).cap) (bs := 2 * pSum (cFind (cStep S p (d.rd p))).cap) hr hc z hp hrd ⟨by omega, by omega⟩ (Φ := fun _ _ _ _ => True) (Ψ := fun _ _ _ _ => True) (fun _ _ _ _ => trivial)).2
          have hmon : pSum S.cap ≤ pSum (cFind (cStep S p (d.rd p))).cap := Nat.le_trans (cStep_mon p (d.rd p)) (cFindT_mon _ _)
          obtain ⟨kc, ks, b2, s2, h1, h2, h3, h4, h5', h6'⟩ := hb.call hmon hcap hi
          refine ⟨kc, ks, b2, s2, h1, h2, k_in (n := 3) hp (by omega) (ite0 ⟨fun c => absurd c zx, fun _ => c_closed hc hc5 hr.sn.s13 hy7 ?_⟩)⟩
          rw [hTl]
          refine ⟨fun _ => ⟨hin, hin, ?_⟩, fun c => absurd ho c⟩
          rw [p_cl (show p < 2 ^ 31 by omega), g10, xlen]
          refine ⟨fun _ => ?_, fun c => absurd (nI_lt hrd (by omega)) c⟩
          rintro _ rfl
          refine (c_step hr hc z hp hrd (h5'.mono (by omega) (by omega)) fun x y g hS => ?_).1
          refine m_partY hp (ite1 ?_)
          rw [p_cl (show 18 + p < 2 ^ 31 by omega), e23]
          refine ⟨hp18, ite1 ⟨fun c => absurd c zm, fun _ => m_open hr hm ⟨fun _ => ⟨hin, ?_⟩, fun c => absurd ho c⟩⟩⟩
          rw [p_cl (show p < 2 ^ 31 by omega), e9]
          refine ⟨fun c => absurd ((nI_eq (by omega) (by omega)).1 c) (by omega), fun _ => ?_⟩
          refine m_step44 (m_step hr2 hm2 z rfl hp hrd fun M' g' hG hR hx => ?_)
          exact end_ok (by rw [hS.len (by omega), hR.tt]; rfl) hS hG (by rw [hx]; rfl) (hR.later (by omega)) h6'
        · refine ⟨5, 100, bc - 5, bs - 100, by omega, by omega, k_in (n := 3) hp (by omega) (ite0 ⟨fun c => absurd c zx, fun _ => c_closed hc hc5 hr.sn.s13 hy7 ?_⟩)⟩
          rw [hTl]
          refine ⟨fun _ => ⟨hin, hin, ?_⟩, fun c => absurd ho c⟩
          rw [p_cl (show p < 2 ^ 31 by omega), g10, xlen]
          refine ⟨fun c => absurd c (nI_nlt hrd (by omega)), fun _ => ⟨by omega, by omega, .inr (.inr ⟨rfl, m_partY hp (ite1 ?_)⟩)⟩⟩
          rw [p_cl (show 18 + p < 2 ^ 31 by omega), e23]
          refine ⟨hp18, ite1 ⟨fun c => absurd c zm, fun _ => m_open hr hm ⟨fun _ => ⟨hin, ?_⟩, fun c => absurd ho c⟩⟩⟩
          rw [p_cl (show p < 2 ^ 31 by omega), e9]
          refine ⟨fun _ => ?_, fun c => absurd ((nI_eq (a := d.rd p) (b := d.n p) (by omega) (by omega)).2 (by omega)) c⟩
          unfold jX9_step_67
          exact m_no (by decide) (end_exc hi hc hm hr hb (by decide))
      · refine ⟨5, 100, bc - 5, bs - 100, by omega, by omega, k_in (n := 3) hp (by omega) (ite0 ⟨fun c => absurd c zx, fun _ => c_closed hc hc5 hr.sn.s13 hy7 ?_⟩)⟩
        rw [hTl]
        refine ⟨fun c => absurd c ho, fun _ => ⟨by omega, by omega, .inr (.inl ⟨rfl, m_partY hp (ite1 ⟨hp18, ite1 ⟨fun c => absurd c zm, fun _ => m_open hr hm ⟨fun c => absurd c ho, fun _ => j48⟩⟩⟩)⟩)⟩⟩
  · exact ⟨5, 100, bc - 5, bs - 100, by omega, by omega, k_out (n := 3) (by omega) hp (ite1 ⟨by omega, by omega, .inl ⟨rfl, m_partN hp (ite0 (ite0 (m_no (by decide) (end_exc hi hc hm hr hb (by decide)))))⟩⟩)⟩
theorem STR.mv {S M S' M' sz ses a p a' p' rd m} (h : STR S M sz ses a p rd m) (e1 : S'.R (5 + a') = S.R (5 + a)) (e2 : ∀ k, 2 ≤ k → k ≤ 3 → S'.x k a' = S.x k a) (e3 : ∀ k i, 1 ≤ k → k ≤ 2 → i < 3 → S'.g k a' i = S.g k a i) (e4 : M'.V p' = M.V p) (e5 : ∀ k, 25 ≤ k → k ≤ 27 → M'.g k p' = M.g k p) (e6 : ∀ k i, 23 ≤ k → k ≤ 24 → i < 3 → M'.g k (3 * p' + i) = M.g k (3 * p + i)) (e7 : a' ≠ 0 → S'.x 4 a' = nI m) : STR S' M' sz ses a' p' rd m := by
  refine ⟨by rw [e1, e4]; exact h.wr, by rw [e2 2 (by omega) (by omega), e5 25 (by omega) (by omega)]; exact h.mkk, by rw [e2 2 (by omega) (by omega)]; exact h.mr, by rw [e2 3 (by omega) (by omega), e5 26 (by omega) (by omega)]; exact h.lc, fun i hi => ?_, fun i hi hr => ?_, fun i hi hr => ?_, by rw [e5 27 (by omega) (by omega)]; exact h.m27, e7, by rw [e4]; exact h.cw, by rw [e4]; exact h.pt⟩
  · rw [e3 1 i (by omega) (by omega) hi, e6 23 i (by omega) (by omega) hi]; exact h.rs i hi
  · rw [e3 2 i (by omega) (by omega) hi, e6 24 i (by omega) (by omega) hi]; exact h.gr i hi hr
  · rw [e6 24 i (by omega) (by omega) hi]; exact h.g0 i hi hr
theorem cpy3_i {f h : Nat → Int32} {i : Nat} (hi : i < 3) : cpy3 f h i = h i := by
  have : i = 0 ∨ i = 1 ∨ i = 2 := by omega
  rcases this with e | e | e <;> subst e <;> simp [CS.mk_R, CS.mk_cap, CS.mk_x, CS.mk_y, CS.mk_g, CS.mk_eta, MS.mk_x, MS.mk_g, MS.mk_V, MS.mk_T, MS.mk_eta, GD.mk_n, GD.mk_rd, GD.mk_c, GD.mk_tk, GD.mk_sz, GD.mk_sl, GD.mk_lt, GD.mk_eta, cpy3, upd]
section CPS
variable (S : CS) (i j : Nat)
theorem cps_R : (cCpS S i j).R (5 + i) = S.R (5 + j) := by unfold cCpS cCopy; simp only [CS.mk_R, CS.mk_cap, CS.mk_x, CS.mk_y, CS.mk_g, CS.mk_eta, MS.mk_x, MS.mk_g, MS.mk_V, MS.mk_T, MS.mk_eta, GD.mk_n, GD.mk_rd, GD.mk_c, GD.mk_tk, GD.mk_sz, GD.mk_sl, GD.mk_lt, GD.mk_eta, uX, cRw, p_ug, cG]
theorem cps_Rn {q : Nat} (h : q ≠ 5 + i) : (cCpS S i j).R q = S.R q := by unfold cCpS cCopy; simp only [CS.mk_R, CS.mk_cap, CS.mk_x, CS.mk_y, CS.mk_g, CS.mk_eta, MS.mk_x, MS.mk_g, MS.mk_V, MS.mk_T, MS.mk_eta, GD.mk_n, GD.mk_rd, GD.mk_c, GD.mk_tk, GD.mk_sz, GD.mk_sl, GD.mk_lt, GD.mk_eta, uX, cRw, p_un _ _ h, cG]
theorem cps_y : (cCpS S i j).y = S.y := rfl
theorem cps_x {k : Nat} (h1 : 2 ≤ k) (h2 : k ≤ 5) : (cCpS S i j).x k i = S.x k j := by
  have : k = 2 ∨ k = 3 ∨ k = 4 ∨ k = 5 := by omega
  unfold cCpS cCopy
  rcases this with e | e | e | e <;> subst e <;> simp [CS.mk_R, CS.mk_cap, CS.mk_x, CS.mk_y, CS.mk_g, CS.mk_eta, MS.mk_x, MS.mk_g, MS.mk_V, MS.mk_T, MS.mk_eta, GD.mk_n, GD.mk_rd, GD.mk_c, GD.mk_tk, GD.mk_sz, GD.mk_sl, GD.mk_lt, GD.mk_eta, uX, cRw, cG, va_up]
theorem cps_xn {k a : Nat} (h : a ≠ i ∨ k < 2 ∨ 5 < k) : (cCpS S i j).x k a = S.x k a := by
  unfold cCpS cCopy
  simp only [CS.mk_R, CS.mk_cap, CS.mk_x, CS.mk_y, CS.mk_g, CS.mk_eta, MS.mk_x, MS.mk_g, MS.mk_V, MS.mk_T, MS.mk_eta, GD.mk_n, GD.mk_rd, GD.mk_c, GD.mk_tk, GD.mk_sz, GD.mk_sl, GD.mk_lt, GD.mk_eta, uX, cRw, cG]
  unfold va_up
  by_cases e5 : k = 5
  · subst e5; simp [CS.mk_R, CS.mk_cap, CS.mk_x, CS.mk_y, CS.mk_g, CS.mk_eta, MS.mk_x, MS.mk_g, MS.mk_V, MS.mk_T, MS.mk_eta, GD.mk_n, GD.mk_rd, GD.mk_c, GD.mk_tk, GD.mk_sz, GD.mk_sl, GD.mk_lt, GD.mk_eta, show a ≠ i by omega]
  by_cases e4 : k = 4
  · subst e4; simp [CS.mk_R, CS.mk_cap, CS.mk_x, CS.mk_y, CS.mk_g, CS.mk_eta, MS.mk_x, MS.mk_g, MS.mk_V, MS.mk_T, MS.mk_eta, GD.mk_n, GD.mk_rd, GD.mk_c, GD.mk_tk, GD.mk_sz, GD.mk_sl, GD.mk_lt, GD.mk_eta, show a ≠ i by omega]
  by_cases e3 : k = 3
  · subst e3; simp [CS.mk_R, CS.mk_cap, CS.mk_x, CS.mk_y, CS.mk_g, CS.mk_eta, MS.mk_x, MS.mk_g, MS.mk_V, MS.mk_T, MS.mk_eta, GD.mk_n, GD.mk_rd, GD.mk_c, GD.mk_tk, GD.mk_sz, GD.mk_sl, GD.mk_lt, GD.mk_eta, show a ≠ i by omega]
  by_cases e2 : k = 2
  · subst e2; simp [CS.mk_R, CS.mk_cap, CS.mk_x, CS.mk_y, CS.mk_g, CS.mk_eta, MS.mk_x, MS.mk_g, MS.mk_V, MS.mk_T, MS.mk_eta, GD.mk_n, GD.mk_rd, GD.mk_c, GD.mk_tk, GD.mk_sz, GD.mk_sl, GD.mk_lt, GD.mk_eta, show a ≠ i by omega]
  rw [if_neg e5, if_neg e4, if_neg e3, if_neg e2]
theorem cps_g {k l : Nat} (h1 : 1 ≤ k) (h2 : k ≤ 2) (hl : l < 3) : (cCpS S i j).g k i l = S.g k j l := by
  have : k = 1 ∨ k = 2 := by omega
  unfold cCpS cCopy
  rcases this with e | e <;> subst e
  · simp only [CS.mk_R, CS.mk_cap, CS.mk_x, CS.mk_y, CS.mk_g, CS.mk_eta, MS.mk_x, MS.mk_g, MS.mk_V, MS.mk_T, MS.mk_eta, GD.mk_n, GD.mk_rd, GD.mk_c, GD.mk_tk, GD.mk_sz, GD.mk_sl, GD.mk_lt, GD.mk_eta, uX, cRw, cG, p_ug, p_un _ _ (show (1 : Nat) ≠ 2 by decide)]; exact cpy3_i hl
  · simp only [CS.mk_R, CS.mk_cap, CS.mk_x, CS.mk_y, CS.mk_g, CS.mk_eta, MS.mk_x, MS.mk_g, MS.mk_V, MS.mk_T, MS.mk_eta, GD.mk_n, GD.mk_rd, GD.mk_c, GD.mk_tk, GD.mk_sz, GD.mk_sl, GD.mk_lt, GD.mk_eta, uX, cRw, cG, p_ug, p_un _ _ (show (2 : Nat) ≠ 1 by decide)]; exact cpy3_i hl
theorem cps_gn {k a : Nat} (h : a ≠ i ∨ k < 1 ∨ 2 < k) : (cCpS S i j).g k a = S.g k a := by
  unfold cCpS cCopy
  simp only [CS.mk_R, CS.mk_cap, CS.mk_x, CS.mk_y, CS.mk_g, CS.mk_eta, MS.mk_x, MS.mk_g, MS.mk_V, MS.mk_T, MS.mk_eta, GD.mk_n, GD.mk_rd, GD.mk_c, GD.mk_tk, GD.mk_sz, GD.mk_sl, GD.mk_lt, GD.mk_eta, uX, cRw, cG]
  unfold va_up
  by_cases e2 : k = 2
  · subst e2; simp [CS.mk_R, CS.mk_cap, CS.mk_x, CS.mk_y, CS.mk_g, CS.mk_eta, MS.mk_x, MS.mk_g, MS.mk_V, MS.mk_T, MS.mk_eta, GD.mk_n, GD.mk_rd, GD.mk_c, GD.mk_tk, GD.mk_sz, GD.mk_sl, GD.mk_lt, GD.mk_eta, show a ≠ i by omega]
  by_cases e1 : k = 1
  · subst e1; simp [CS.mk_R, CS.mk_cap, CS.mk_x, CS.mk_y, CS.mk_g, CS.mk_eta, MS.mk_x, MS.mk_g, MS.mk_V, MS.mk_T, MS.mk_eta, GD.mk_n, GD.mk_rd, GD.mk_c, GD.mk_tk, GD.mk_sz, GD.mk_sl, GD.mk_lt, GD.mk_eta, show a ≠ i by omega]
  rw [if_neg e2, if_neg e1]
end CPS
theorem cps_cap {S : CS} {i j : Nat} (h : CapOK S) (hi : i < 7) (hn : (S.R (5 + j)).length ≤ 4096) : CapOK (cCpS S i j) := by
  have hw : pwq (5 + i) = 6 := by unfold pwq; rw [if_neg (by omega), if_neg (by omega)]
  intro q hq
  have : (cCpS S i j).cap q = (cCopy S (5 + i) (5 + j)).cap q := rfl
  rw [this]
  unfold cCopy
  exact CapOK.rw h (pgrow_cap (h _ (by omega)) hn) q hq
def mBar (M : MS) (c tk : Nat) : MS := mX (mX (mG (mCp M 6 c M.T) 36 c (nI tk)) 35 (nI (c + 1))) 37 (nI (tk + 1))
section MCP
variable (M : MS) (a b : Nat) (T : List pRow)
theorem mcp_V : (mCp M a b T).V b = M.V a := by simp only [CS.mk_R, CS.mk_cap, CS.mk_x, CS.mk_y, CS.mk_g, CS.mk_eta, MS.mk_x, MS.mk_g, MS.mk_V, MS.mk_T, MS.mk_eta, GD.mk_n, GD.mk_rd, GD.mk_c, GD.mk_tk, GD.mk_sz, GD.mk_sl, GD.mk_lt, GD.mk_eta, mCp, p_ug]
theorem mcp_Vn {p : Nat} (h : p ≠ b) : (mCp M a b T).V p = M.V p := by simp only [CS.mk_R, CS.mk_cap, CS.mk_x, CS.mk_y, CS.mk_g, CS.mk_eta, MS.mk_x, MS.mk_g, MS.mk_V, MS.mk_T, MS.mk_eta, GD.mk_n, GD.mk_rd, GD.mk_c, GD.mk_tk, GD.mk_sz, GD.mk_sl, GD.mk_lt, GD.mk_eta, mCp, p_un _ _ h]
theorem mcp_g {k : Nat} (h1 : 25 ≤ k) (h2 : k ≤ 27) : (mCp M a b T).g k b = M.g k a := by
  show (if (k = 23 ∨ k = 24) ∧ 3 * b ≤ b ∧ b < 3 * b + 3 then _ else if (k = 25 ∨ k = 26 ∨ k = 27) ∧ b = b then _ else _) = _
  rw [if_neg (by omega), if_pos (by omega)]
theorem mcp_gn {k p : Nat} (h1 : 25 ≤ k) (h2 : k ≤ 27) (h : p ≠ b) : (mCp M a b T).g k p = M.g k p := by
  simp only [CS.mk_R, CS.mk_cap, CS.mk_x, CS.mk_y, CS.mk_g, CS.mk_eta, MS.mk_x, MS.mk_g, MS.mk_V, MS.mk_T, MS.mk_eta, GD.mk_n, GD.mk_rd, GD.mk_c, GD.mk_tk, GD.mk_sz, GD.mk_sl, GD.mk_lt, GD.mk_eta, mCp]
  rw [if_neg (by omega), if_neg (by omega)]
theorem mcp_r {k l : Nat} (h1 : 23 ≤ k) (h2 : k ≤ 24) (hl : l < 3) : (mCp M a b T).g k (3 * b + l) = M.g k (3 * a + l) := by
  simp only [CS.mk_R, CS.mk_cap, CS.mk_x, CS.mk_y, CS.mk_g, CS.mk_eta, MS.mk_x, MS.mk_g, MS.mk_V, MS.mk_T, MS.mk_eta, GD.mk_n, GD.mk_rd, GD.mk_c, GD.mk_tk, GD.mk_sz, GD.mk_sl, GD.mk_lt, GD.mk_eta, mCp]
  rw [if_pos (by omega), show 3 * b + l - 3 * b = l by omega]
theorem mcp_rn {k p l : Nat} (h1 : 23 ≤ k) (h2 : k ≤ 24) (hl : l < 3) (h : p ≠ b) : (mCp M a b T).g k (3 * p + l) = M.g k (3 * p + l) := by
  simp only [CS.mk_R, CS.mk_cap, CS.mk_x, CS.mk_y, CS.mk_g, CS.mk_eta, MS.mk_x, MS.mk_g, MS.mk_V, MS.mk_T, MS.mk_eta, GD.mk_n, GD.mk_rd, GD.mk_c, GD.mk_tk, GD.mk_sz, GD.mk_sl, GD.mk_lt, GD.mk_eta, mCp]
  rw [if_neg (by omega), if_neg (by omega)]
theorem mcp_o {k : Nat} (h : k < 23 ∨ 27 < k) : (mCp M a b T).g k = M.g k := by
  funext j
  simp only [CS.mk_R, CS.mk_cap, CS.mk_x, CS.mk_y, CS.mk_g, CS.mk_eta, MS.mk_x, MS.mk_g, MS.mk_V, MS.mk_T, MS.mk_eta, GD.mk_n, GD.mk_rd, GD.mk_c, GD.mk_tk, GD.mk_sz, GD.mk_sl, GD.mk_lt, GD.mk_eta, mCp]
  rw [if_neg (by omega), if_neg (by omega)]
end MCP
theorem QR.fl {S M S' M' sz sl lt} (h : QR S M sz sl lt) (ex : ∀ k, 8 ≤ k → k ≤ 12 → S'.x k 0 = S.x k 0) (ey : ∀ k, 3 ≤ k → k ≤ 6 → S'.y k 0 = S.y k 0) (eg : M'.g 6 = M.g 6) : QR S' M' sz sl lt := by
  have x8 := ex 8 (by omega) (by omega)
  have x9 := ex 9 (by omega) (by omega)
  have x10 := ex 10 (by omega) (by omega)
  have x11 := ex 11 (by omega) (by omega)
  have x12 := ex 12 (by omega) (by omega)
  have y3 := ey 3 (by omega) (by omega)
  have y4 := ey 4 (by omega) (by omega)
  have y5 := ey 5 (by omega) (by omega)
  have y6 := ey 6 (by omega) (by omega)
  refine ⟨?_, ?_, ?_, ?_, ?_, ?_, ?_, ?_, ?_, ?_, ?_, ?_, ?_, ?_, ?_, ?_, ?_, ?_, ?_, ?_, ?_, ?_, ?_, ?_, ?_, ?_⟩
  all_goals try simp only [CS.mk_R, CS.mk_cap, CS.mk_x, CS.mk_y, CS.mk_g, CS.mk_eta, MS.mk_x, MS.mk_g, MS.mk_V, MS.mk_T, MS.mk_eta, GD.mk_n, GD.mk_rd, GD.mk_c, GD.mk_tk, GD.mk_sz, GD.mk_sl, GD.mk_lt, GD.mk_eta, x8, x9, x10, x11, x12, y3, y4, y5, y6, eg]
  · exact h.f0
  · exact h.f2
  · exact h.c0
  · exact h.c1
  · exact h.c2
  · exact h.lim
  · exact h.jn
  · exact h.jb
  · exact h.sh
  · exact h.sh1
  · exact h.sh2
  · exact h.zm
  · exact h.zc
  · exact h.z1
  · exact h.z2
  · exact h.sc
  · exact h.s1
  · exact h.s2
  · exact h.s9
  · exact h.s8
  · exact h.lm
  · exact h.lc
  · exact h.l2
  · exact h.m
  · exact h.m1
  · exact h.m2
theorem TX.fl {S M S' M' n} (t : TX S M n) (ex : ∀ k, 17 ≤ k → k ≤ 19 → S'.x k 0 = S.x k 0) (ey : S'.y 9 0 = S.y 9 0) (eg : S'.g 3 0 = S.g 3 0) (mx : M'.x 0 = M.x 0) (mg : M'.g 4 = M.g 4) : TX S' M' n :=
  ⟨t.n60, by rw [mx]; exact t.m0, by rw [ex 19 (by omega) (by omega)]; exact t.s19, by rw [ex 17 (by omega) (by omega)]; exact t.s17, by rw [ey]; exact t.cap, by rw [ey]; exact t.c16, by rw [ey]; exact t.c70, by rw [eg]; exact t.by_, fun i hi => by rw [eg, mg]; exact t.ch i hi⟩
theorem TBR.fl {S M S' M'} (h : TBR S M) (e : S'.R 3 = S.R 3) (ex : M'.x 19 = M.x 19) (eg : ∀ k, 20 ≤ k → k ≤ 22 → M'.g k = M.g k) : TBR S' M' := by
  refine ⟨by rw [e]; exact h.n60, by rw [e, ex]; exact h.m19, fun r hr => ?_⟩
  rw [e] at hr ⊢
  rw [eg 20 (by omega) (by omega), eg 21 (by omega) (by omega), eg 22 (by omega) (by omega)]
  exact h.row r hr
theorem Rel.bar {S M d i} (h : Rel S M d i) (h5 : M.x 5 = 1) (hc : d.c < 5) (hi : d.tk < i) (hi2 : i ≤ 2560) : Rel (cTake S d.c M.T.length) (mBar M d.c d.tk) (GD.mk d.n d.rd (d.c + 1) (d.tk + 1) d.sz d.sl d.lt) i := by
  have y7 := h.sn.y7 d.c (by omega)
  have yne : ∀ k, k < d.c → S.y 7 k ≠ S.y 7 d.c := fun k hk e => by have := h.sn.inj k d.c (by omega) (by omega) e; omega
  have ey : (cTake S d.c M.T.length).y = S.y := rfl
  generalize hq : S.y 7 d.c = q at *
  have eR : (cTake S d.c M.T.length).R = (cCpS S q 0).R := by unfold cTake; rw [hq]; rfl
  have eg : (cTake S d.c M.T.length).g = (cCpS S q 0).g := by unfold cTake; rw [hq]; rfl
  have ex : ∀ k, k ≠ 4 → k ≠ 5 → k ≠ 13 → k ≠ 14 → (cTake S d.c M.T.length).x k = (cCpS S q 0).x k := fun k a b c e => by
    unfold cTake; rw [hq]; simp only [CS.mk_R, CS.mk_cap, CS.mk_x, CS.mk_y, CS.mk_g, CS.mk_eta, MS.mk_x, MS.mk_g, MS.mk_V, MS.mk_T, MS.mk_eta, GD.mk_n, GD.mk_rd, GD.mk_c, GD.mk_tk, GD.mk_sz, GD.mk_sl, GD.mk_lt, GD.mk_eta, uX, p_un _ _ a, p_un _ _ b, p_un _ _ c, p_un _ _ e]
  have ex4 : ∀ a, (cTake S d.c M.T.length).x 4 a = if a = q then nI M.T.length else S.x 4 a := fun a => by
    unfold cTake; rw [hq]
    simp only [CS.mk_R, CS.mk_cap, CS.mk_x, CS.mk_y, CS.mk_g, CS.mk_eta, MS.mk_x, MS.mk_g, MS.mk_V, MS.mk_T, MS.mk_eta, GD.mk_n, GD.mk_rd, GD.mk_c, GD.mk_tk, GD.mk_sz, GD.mk_sl, GD.mk_lt, GD.mk_eta, uX, p_ug, p_un _ _ (show (4 : Nat) ≠ 5 by decide), p_un _ _ (show (4 : Nat) ≠ 13 by decide), p_un _ _ (show (4 : Nat) ≠ 14 by decide)]
    unfold va_up
    split
    · rfl
    · next e => exact cps_xn S q 0 (.inl e)
  have ex5 : ∀ a, (cTake S d.c M.T.length).x 5 a = if a = q then S.x 14 0 else S.x 5 a := fun a => by
    unfold cTake; rw [hq]
    simp only [CS.mk_R, CS.mk_cap, CS.mk_x, CS.mk_y, CS.mk_g, CS.mk_eta, MS.mk_x, MS.mk_g, MS.mk_V, MS.mk_T, MS.mk_eta, GD.mk_n, GD.mk_rd, GD.mk_c, GD.mk_tk, GD.mk_sz, GD.mk_sl, GD.mk_lt, GD.mk_eta, uX, p_ug, p_un _ _ (show (5 : Nat) ≠ 4 by decide), p_un _ _ (show (5 : Nat) ≠ 13 by decide), p_un _ _ (show (5 : Nat) ≠ 14 by decide)]
    unfold va_up
    split
    · rfl
    · next e => exact cps_xn S q 0 (.inl e)
  have xx : ∀ k a, 2 ≤ k → k ≤ 3 → a ≠ q → (cTake S d.c M.T.length).x k a = S.x k a := fun k a h1 h2 h3 => by
    rw [ex k (by omega) (by omega) (by omega) (by omega)]; exact cps_xn S q 0 (.inl h3)
  have x0 : ∀ k, 6 ≤ k → k ≠ 13 → k ≠ 14 → (cTake S d.c M.T.length).x k = S.x k := fun k h1 h2 h3 => by
    rw [ex k (by omega) (by omega) h2 h3]; funext a; exact cps_xn S q 0 (.inr (.inr (by omega)))
  have mg : ∀ k, k ≠ 36 → (mBar M d.c d.tk).g k = (mCp M 6 d.c M.T).g k := fun k hk => by simp only [CS.mk_R, CS.mk_cap, CS.mk_x, CS.mk_y, CS.mk_g, CS.mk_eta, MS.mk_x, MS.mk_g, MS.mk_V, MS.mk_T, MS.mk_eta, GD.mk_n, GD.mk_rd, GD.mk_c, GD.mk_tk, GD.mk_sz, GD.mk_sl, GD.mk_lt, GD.mk_eta, mBar, mX, mG, p_un _ _ hk]
  have mo : ∀ k, k < 23 ∨ 27 < k → k ≠ 36 → (mBar M d.c d.tk).g k = M.g k := fun k hk h2 => by rw [mg k h2]; exact mcp_o M 6 d.c M.T hk
  have mV : (mBar M d.c d.tk).V = (mCp M 6 d.c M.T).V := rfl
  have m36 : (mBar M d.c d.tk).g 36 = upd (M.g 36) d.c (nI d.tk) := by
    simp only [CS.mk_R, CS.mk_cap, CS.mk_x, CS.mk_y, CS.mk_g, CS.mk_eta, MS.mk_x, MS.mk_g, MS.mk_V, MS.mk_T, MS.mk_eta, GD.mk_n, GD.mk_rd, GD.mk_c, GD.mk_tk, GD.mk_sz, GD.mk_sl, GD.mk_lt, GD.mk_eta, mBar, mX, mG, p_ug]; rw [mcp_o M 6 d.c M.T (by omega)]
  have mx : ∀ k, k ≠ 35 → k ≠ 37 → (mBar M d.c d.tk).x k = M.x k := fun k a b => by
    simp only [CS.mk_R, CS.mk_cap, CS.mk_x, CS.mk_y, CS.mk_g, CS.mk_eta, MS.mk_x, MS.mk_g, MS.mk_V, MS.mk_T, MS.mk_eta, GD.mk_n, GD.mk_rd, GD.mk_c, GD.mk_tk, GD.mk_sz, GD.mk_sl, GD.mk_lt, GD.mk_eta, mBar, mX, p_un _ _ b, p_un _ _ a]; rfl
  have ses : (cTake S d.c M.T.length).y 5 0 = S.y 5 0 := rfl
  have keep : ∀ {a p rd m}, a ≠ q → p ≠ d.c → STR S M d.sz (decide (S.y 5 0 = 10)) a p rd m → STR (cTake S d.c M.T.length) (mBar M d.c d.tk) d.sz (decide (S.y 5 0 = 10)) a p rd m := fun {a p rd m} ha hp s => s.mv (by rw [eR]; exact cps_Rn S q 0 (by omega)) (fun k h1 h2 => xx k a h1 h2 ha) (fun k j h1 h2 hj => by rw [eg]; rw [cps_gn S q 0 (.inl ha)]) (by rw [mV]; exact mcp_Vn M 6 d.c M.T hp) (fun k h1 h2 => by rw [mg k (by omega)]; exact mcp_gn M 6 d.c M.T h1 h2 hp) (fun k j h1 h2 hj => by rw [mg k (by omega)]; exact mcp_rn M 6 d.c M.T h1 h2 hj hp) (fun h0 => by rw [ex4, if_neg ha]; exact s.x4 h0)
  have new : STR (cTake S d.c M.T.length) (mBar M d.c d.tk) d.sz (decide (S.y 5 0 = 10)) q d.c d.rd M.T.length := h.st0.mv (by rw [eR]; exact cps_R S q 0) (fun k h1 h2 => by rw [ex k (by omega) (by omega) (by omega) (by omega)]; exact cps_x S q 0 h1 (by omega)) (fun k j h1 h2 hj => by rw [eg]; exact cps_g S q 0 h1 h2 hj) (by rw [mV]; exact mcp_V M 6 d.c M.T) (fun k h1 h2 => by rw [mg k (by omega)]; exact mcp_g M 6 d.c M.T h1 h2) (fun k j h1 h2 hj => by rw [mg k (by omega)]; exact mcp_r M 6 d.c M.T h1 h2 hj) (fun _ => by rw [ex4, if_pos rfl])
  refine ⟨?_, ?_, ?_, ?_, ?_, ?_, ?_, ?_, ?_, ?_, ?_, ?_, ?_⟩
  · obtain ⟨n, t⟩ := h.tx
    exact ⟨n, t.fl (fun k h1 h2 => by rw [x0 k (by omega) (by omega) (by omega)]) rfl (by rw [eg, cps_gn S q 0 (.inr (.inr (by omega)))]) (mx 0 (by decide) (by decide)) (mo 4 (by omega) (by omega))⟩
  · exact h.ev.fr (fun p hp => by rw [eR]; exact cps_Rn S q 0 (by omega)) (fun k h1 h2 => mo k (by omega) (by omega)) (mx 8 (by decide) (by decide)) (by rw [mo 6 (by omega) (by omega)])
  · exact h.tb.fl (by rw [eR]; exact cps_Rn S q 0 (by omega)) (mx 19 (by decide) (by decide)) (fun k h1 h2 => mo k (by omega) (by omega))
  · intro p hp; rw [x0 6 (by omega) (by omega) (by omega), mo 17 (by omega) (by omega)]; exact h.lag p hp
  · intro p hp; rw [x0 7 (by omega) (by omega) (by omega), mo 18 (by omega) (by omega)]; exact h.idle p hp
  · refine ⟨by rw [mx 5 (by decide) (by decide)]; exact h.pl.b, by rw [x0 15 (by omega) (by omega) (by omega), mx 5 (by decide) (by decide)]; exact h.pl.s15, fun e => ?_, fun e => ?_⟩
    · exact (h.pl.q h5).fl (fun k h1 h2 => by rw [x0 k (by omega) (by omega) (by omega)]) (fun _ _ _ => rfl) (mo 6 (by omega) (by omega))
    · rw [mx 5 (by decide) (by decide)] at e; exact absurd (h5.symm.trans e) (by decide)
  · rw [eR, cps_Rn S q 0 (by omega)]; exact h.tt
  · exact keep (by omega) (by omega) h.st0
  · obtain ⟨rd, m, s, a, b⟩ := h.st1
    exact ⟨rd, m, keep (by omega) (by omega) s, a, b⟩
  · refine ⟨by show d.c + 1 ≤ 5; omega, ?_, ?_, ?_, ?_, h.sn.y7, h.sn.inj, fun k hk => ?_, fun j k hjk hk => ?_⟩
    · unfold cTake; rw [hq]; simp only [CS.mk_R, CS.mk_cap, CS.mk_x, CS.mk_y, CS.mk_g, CS.mk_eta, MS.mk_x, MS.mk_g, MS.mk_V, MS.mk_T, MS.mk_eta, GD.mk_n, GD.mk_rd, GD.mk_c, GD.mk_tk, GD.mk_sz, GD.mk_sl, GD.mk_lt, GD.mk_eta, uX, p_ug, p_un _ _ (show (13 : Nat) ≠ 14 by decide)]
    · simp only [CS.mk_R, CS.mk_cap, CS.mk_x, CS.mk_y, CS.mk_g, CS.mk_eta, MS.mk_x, MS.mk_g, MS.mk_V, MS.mk_T, MS.mk_eta, GD.mk_n, GD.mk_rd, GD.mk_c, GD.mk_tk, GD.mk_sz, GD.mk_sl, GD.mk_lt, GD.mk_eta, mBar, mX, p_ug, p_un _ _ (show (35 : Nat) ≠ 37 by decide)]
    · unfold cTake; rw [hq]; simp only [CS.mk_R, CS.mk_cap, CS.mk_x, CS.mk_y, CS.mk_g, CS.mk_eta, MS.mk_x, MS.mk_g, MS.mk_V, MS.mk_T, MS.mk_eta, GD.mk_n, GD.mk_rd, GD.mk_c, GD.mk_tk, GD.mk_sz, GD.mk_sl, GD.mk_lt, GD.mk_eta, uX, p_ug]; rw [h.sn.s14, nI_1]
    · simp only [CS.mk_R, CS.mk_cap, CS.mk_x, CS.mk_y, CS.mk_g, CS.mk_eta, MS.mk_x, MS.mk_g, MS.mk_V, MS.mk_T, MS.mk_eta, GD.mk_n, GD.mk_rd, GD.mk_c, GD.mk_tk, GD.mk_sz, GD.mk_sl, GD.mk_lt, GD.mk_eta, mBar, mX, p_ug]
    · change k < d.c + 1 at hk
      rw [ex5, ey, m36, upd]
      by_cases e : k = d.c
      · subst e; rw [hq, if_pos rfl, if_pos rfl]; exact ⟨d.tk, by show d.tk < d.tk + 1; omega, h.sn.s14, rfl⟩
      · obtain ⟨v, v1, v2, v3⟩ := h.sn.num k (by omega)
        rw [if_neg (yne k (by omega)), if_neg e]
        exact ⟨v, by show v < d.tk + 1; omega, v2, v3⟩
    · change k < d.c + 1 at hk
      rw [ex5, ex5, ey, if_neg (yne j (by omega))]
      by_cases e : k = d.c
      · subst e
        obtain ⟨v, v1, v2, v3⟩ := h.sn.num j (by omega)
        have := h.tki
        rw [hq, if_pos rfl, v2, h.sn.s14]
        rw [nI_toInt (by omega), nI_toInt (by omega)]; omega
      · rw [if_neg (yne k (by omega))]
        exact h.sn.inc j k hjk (by omega)
  · intro k hk
    change k < d.c + 1 at hk
    by_cases e : k = d.c
    · subst e
      rw [ey, hq]
      exact ⟨d.rd, M.T.length, new, fun _ => Nat.le_refl _, Nat.le_refl _⟩
    · obtain ⟨rd, m, s, a, b⟩ := h.std k (by omega)
      rw [ey]
      exact ⟨rd, m, keep (yne k (by omega)) e s, a, b⟩
  · show d.tk + 1 ≤ i; omega
  · rw [x0 16 (by omega) (by omega) (by omega), mx 43 (by decide) (by decide)]; exact h.wk
theorem cTake_cap {S M d i x y g} (hr : Rel S M d i) (hc : RC S x y g) (h5 : d.c < 5) (m : Nat) : CapOK (cTake S d.c m) ∧ pSum S.cap ≤ pSum (cTake S d.c m).cap := by
  have y7 := hr.sn.y7 d.c h5
  exact ⟨cps_cap (i := S.y 7 d.c) (j := 0) hc.ok y7.2 (hc.n (q := 5) (by omega)), cCpS_mon S (i := S.y 7 d.c) (j := 0) y7.2⟩
theorem case19 {i x y g f xm gm bc bs} (hi : i + 5 ≤ 2560) (h : lInv i x y g f xm gm bc bs) : wlc19 x y g f xm gm bc bs (lInv (i + 5)) := by
  obtain ⟨S, M, d, hc, hm, hr, hb⟩ := h
  have hB := hb.min hc.capM hi
  have hc5 := hr.sn.c5
  unfold wlc19 wL_barrier wX8_barrier wX9_barrier
  have ex35 : xm 35 = nI d.c := by rw [hm.hx]; exact hr.sn.m35
  have ref : jX9_barrier_16 (fun r xm1 gm1 => wX9_thrown xm1 gm1 (fun t => t = 1 ∧ ((1 : Int32) = 0 → f (0 : Int32).toNatClampNeg = r.toInt64) ∧ lInv (i + 5) x y g f xm1 gm1 (bc - 5) (bs - 100))) xm gm := by
    unfold jX9_barrier_16 jX9_barrier_21
    exact m_no (by decide) (end_exc hi hc hm hr hb (by decide))
  rcases hr.pl.b with z | z
  · have zx : x 15 0 = 0 := by rw [hc.hx 15 (by omega), hr.pl.s15]; exact z
    exact ⟨5, 100, bc - 5, bs - 100, by omega, by omega, fun _ => ⟨by omega, by omega, rfl, fun _ => ref, fun c => absurd (show xm 5 = 0 by rw [hm.hx]; exact z) c⟩, fun c => absurd zx c⟩
  · have zx : ¬ x 15 0 = 0 := by rw [hc.hx 15 (by omega), hr.pl.s15, z]; decide
    have zm : ¬ xm 5 = 0 := by rw [hm.hx, z]; decide
    rcases Nat.lt_or_ge d.c 5 with hlt | hge
    · obtain ⟨okT, moT⟩ := cTake_cap hr hc hlt M.T.length
      have y7 := hr.sn.y7 d.c (by omega)
      have hr2 := hr.thrown 0
      have hm2 := hm.X 44 0
      obtain ⟨kc, ks, b2, s2, h1, h2, h3, h4, h5', h6'⟩ := hb.call (T := cTake S d.c M.T.length) moT okT.sum hi
      refine ⟨kc, ks, b2, s2, h1, h2, fun c => absurd c zx, fun _ => ⟨fun _ => ⟨kc, ks, 0, 0, by omega, by omega, ?_⟩, fun c => absurd (show x 13 0 < 5 by rw [hc.hx 13 (by omega), hr.sn.s13]; exact (show nI d.c < nI 5 from nI_lt hlt (by omega))) c⟩⟩
      rw [show x 1 4 = nI M.T.length by rw [hc.len (by omega), hr.tt]]
      refine c_take hc hlt hr.sn.s13 y7.2 (by omega) (h5'.mono (by omega) (by omega)) fun x y g hS => ?_
      refine ⟨fun c => absurd c zm, fun _ => ⟨fun c => absurd ((nI_eq (b := 5) (by omega) (by omega)).1 (ex35.symm.trans c)) (by omega), fun _ => ?_⟩⟩
      unfold jX9_barrier_21
      refine m_yes ?_
      rw [show va_up xm 44 0 35 = nI d.c from ex35]
      refine m_copies hm2 (a := 6) (b := d.c) (by omega) (by omega) (by omega) (T := (mX M 44 0).T) ⟨Nat.le_refl _, fun _ _ => rfl⟩ (by rw [mcp_gn _ _ _ _ (by omega) (by omega) (by omega)]; exact hm2.n27) fun g2 hG => ?_
      have e37 : va_up xm 44 0 37 = nI d.tk := by rw [hm.hx]; exact hr.sn.m37
      rw [show va_up xm 44 0 35 = nI d.c from ex35, e37, p_cl (by omega), nI_1, nI_1]
      refine ⟨vp_in_nI hlt (by omega), ?_⟩
      have hG2 := ((hG.G (k := 36) (i := d.c) (v := nI d.tk) (by omega) (by omega)).X 35 (nI (d.c + 1))).X 37 (nI (d.tk + 1))
      have hR := (hr2.later (j := i + 5) (by omega)).bar z hlt (by have := hr.tki; omega) hi
      exact end_ok (by rw [hr.sn.s14]; exact (nI_pred d.tk).symm) hS hG2 rfl hR h6'
    · have e5 : d.c = 5 := by omega
      refine ⟨5, 100, bc - 5, bs - 100, by omega, by omega, fun c => absurd c zx, fun _ => ⟨fun c => absurd (show x 13 0 < 5 from c) (by rw [hc.hx 13 (by omega), hr.sn.s13, e5]; decide), fun _ => ⟨by omega, by omega, rfl, fun c => absurd c zm, fun _ => ⟨fun _ => ref, fun c => absurd (show xm 35 = 5 by rw [ex35, e5]; rfl) c⟩⟩⟩⟩
