def mQ (M : MS) (i : Nat) : MS := (MS.mk M.x (va_up M.g 6 (fun j => if j < i then M.g 7 j else M.g 6 j)) M.V M.T)
set_option maxRecDepth 4096 in
theorem mQ_0 (M : MS) : mQ M 0 = M := by
  unfold mQ
  have : (fun j => if j < 0 then M.g 7 j else M.g 6 j) = M.g 6 := funext fun j => if_neg (Nat.not_lt_zero j)
  rw [this, p_us]
set_option maxRecDepth 4096 in
theorem mQ_s (M : MS) (i : Nat) : mG (mQ M i) 6 i (M.g 7 i) = mQ M (i + 1) := by
  unfold mG mQ
  simp only [CS.mk_R, CS.mk_cap, CS.mk_x, CS.mk_y, CS.mk_g, CS.mk_eta, MS.mk_x, MS.mk_g, MS.mk_V, MS.mk_T, MS.mk_eta, GD.mk_n, GD.mk_rd, GD.mk_c, GD.mk_tk, GD.mk_sz, GD.mk_sl, GD.mk_lt, GD.mk_eta, PQ.mk_fold, PQ.mk_cmp, PQ.mk_lim, PQ.mk_jn, PQ.mk_shape, PQ.mk_sz, PQ.mk_sl, PQ.mk_lt, PQ.mk_mode, PQ.mk_eta, p_ug, p_uu]
  congr 2
  funext j
  unfold upd
  by_cases e : j = i
  · rw [if_pos e, if_pos (by omega), e]
  · rw [if_neg e]
    try dsimp only [CS.mk_R, CS.mk_cap, CS.mk_x, CS.mk_y, CS.mk_g, CS.mk_eta, MS.mk_x, MS.mk_g, MS.mk_V, MS.mk_T, MS.mk_eta, GD.mk_n, GD.mk_rd, GD.mk_c, GD.mk_tk, GD.mk_sz, GD.mk_sl, GD.mk_lt, GD.mk_eta, PQ.mk_fold, PQ.mk_cmp, PQ.mk_lim, PQ.mk_jn, PQ.mk_shape, PQ.mk_sz, PQ.mk_sl, PQ.mk_lt, PQ.mk_mode, PQ.mk_eta]
    by_cases q : j < i
    · rw [if_pos q, if_pos (by omega)]
    · rw [if_neg q, if_neg (by omega)]
set_option maxRecDepth 4096 in
theorem mQ_7 (M : MS) (i : Nat) : (mQ M i).g 7 = M.g 7 := by simp only [CS.mk_R, CS.mk_cap, CS.mk_x, CS.mk_y, CS.mk_g, CS.mk_eta, MS.mk_x, MS.mk_g, MS.mk_V, MS.mk_T, MS.mk_eta, GD.mk_n, GD.mk_rd, GD.mk_c, GD.mk_tk, GD.mk_sz, GD.mk_sl, GD.mk_lt, GD.mk_eta, PQ.mk_fold, PQ.mk_cmp, PQ.mk_lim, PQ.mk_jn, PQ.mk_shape, PQ.mk_sz, PQ.mk_sl, PQ.mk_lt, PQ.mk_mode, PQ.mk_eta, mQ]; exact p_un _ _ (by omega)
set_option maxRecDepth 4096 in
theorem mQ_6 (M : MS) {j : Nat} (h : j < 9) : (mQ M 9).g 6 j = M.g 7 j := by simp only [CS.mk_R, CS.mk_cap, CS.mk_x, CS.mk_y, CS.mk_g, CS.mk_eta, MS.mk_x, MS.mk_g, MS.mk_V, MS.mk_T, MS.mk_eta, GD.mk_n, GD.mk_rd, GD.mk_c, GD.mk_tk, GD.mk_sz, GD.mk_sl, GD.mk_lt, GD.mk_eta, PQ.mk_fold, PQ.mk_cmp, PQ.mk_lim, PQ.mk_jn, PQ.mk_shape, PQ.mk_sz, PQ.mk_sl, PQ.mk_lt, PQ.mk_mode, PQ.mk_eta, mQ, p_ug]; rw [if_pos h]
set_option maxRecDepth 4096 in
theorem mQ_n (M : MS) {k : Nat} (h : k ≠ 6) : (mQ M 9).g k = M.g k := by simp only [CS.mk_R, CS.mk_cap, CS.mk_x, CS.mk_y, CS.mk_g, CS.mk_eta, MS.mk_x, MS.mk_g, MS.mk_V, MS.mk_T, MS.mk_eta, GD.mk_n, GD.mk_rd, GD.mk_c, GD.mk_tk, GD.mk_sz, GD.mk_sl, GD.mk_lt, GD.mk_eta, PQ.mk_fold, PQ.mk_cmp, PQ.mk_lim, PQ.mk_jn, PQ.mk_shape, PQ.mk_sz, PQ.mk_sl, PQ.mk_lt, PQ.mk_mode, PQ.mk_eta, mQ]; exact p_un _ _ h
def Fit (Q : PQ) : Prop := Q.shape = 9 → Q.sz % Q.sl = 0 ∧ Q.sz ≤ 4 * Q.sl
set_option maxRecDepth 4096 in
theorem c_fit {S x y g p s Q q} (hc : RC S x y g) (px : PXS S p s Q) (hq : QM Q q) {Φ : Int32 → Prop} (hy : Fit Q → Φ 1) (hn : ¬ Fit Q → Φ 0) : wX2_isFit x y g Φ := by
  unfold wX2_isFit
  have s1 := hq.a4.s1
  have s2 := hq.a4.s2
  have z2 := hq.a4.z2
  rw [hc.hy 5 (by omega), px.shape, hc.hx 11 (by omega), px.sl, hc.hx 10 (by omega), px.sz, p_rem (by omega) (by omega) (by omega), show (4 : Int32) = nI 4 from rfl, p_mul]
  have e0 : nI (Q.sz % Q.sl) = 0 ↔ Q.sz % Q.sl = 0 := nI_eq (b := 0) (by have := Nat.mod_le Q.sz Q.sl; omega) (by omega)
  refine ⟨fun e => ⟨fun e2 => ?_, fun _ => ⟨fun e2 => ?_, fun e2 => ⟨fun e3 => ?_, fun e3 => ?_⟩, fun e2 => ?_⟩⟩, fun e => hy fun z => absurd z e⟩
  · have := (nI_leI (a := Q.sl) (b := 0) (by omega) (by omega)).1 e2
    omega
  · have := (nI_eq (a := Q.sl) (b := 0) (by omega) (by omega)).1 e2
    omega
  · exact hn fun f => by have := (f e).2; rw [nI_ltI (by omega) (by omega)] at e3; omega
  · exact hy fun _ => ⟨e0.1 e2, by rw [nI_ltI (by omega) (by omega)] at e3; omega⟩
  · exact hn fun f => e2 (e0.2 (f e).1)
set_option maxRecDepth 4096 in
theorem p_8 : (8 : Int32).toNatClampNeg = 8 := rfl
set_option maxRecDepth 4096 in
theorem q_shape {Q q} (h : A4 Q q) : q 4 = 1 ↔ Q.shape = 9 := by
  have := h.sh1
  have := h.sh2
  rw [h.sh]
  exact (nI_eq (a := Q.shape - 8) (b := 1) (by omega) (by omega)).trans (by omega)
set_option maxRecDepth 4096 in
theorem m_fit {Q : PQ} {q : Nat → Int32} (hq : QM Q q) {P0 P1 : Prop} (hy : Fit Q → P1) (hn : ¬ Fit Q → P0) : vp_in (4 : Int32) 9 ∧ ((q (4 : Int32).toNatClampNeg = 1 → (vp_in (5 : Int32) 9 ∧ (vp_in (6 : Int32) 9 ∧ (¬ q (6 : Int32).toNatClampNeg = 0 ∧ (((q (5 : Int32).toNatClampNeg - q (5 : Int32).toNatClampNeg / q (6 : Int32).toNatClampNeg * q (6 : Int32).toNatClampNeg) = 0 → (vp_in (5 : Int32) 9 ∧ (vp_in (6 : Int32) 9 ∧ (((4 * q (6 : Int32).toNatClampNeg) < q (5 : Int32).toNatClampNeg → P0) ∧ (¬ (4 * q (6 : Int32).toNatClampNeg) < q (5 : Int32).toNatClampNeg → P1))))) ∧ (¬ (q (5 : Int32).toNatClampNeg - q (5 : Int32).toNatClampNeg / q (6 : Int32).toNatClampNeg * q (6 : Int32).toNatClampNeg) = 0 → P0)))))) ∧ (¬ q (4 : Int32).toNatClampNeg = 1 → P1)) := by
  have s1 := hq.a4.s1
  have s2 := hq.a4.s2
  have z2 := hq.a4.z2
  have e4 := q_shape hq.a4
  rw [show (4 : Int32).toNatClampNeg = 4 from rfl, show (5 : Int32).toNatClampNeg = 5 from rfl, show (6 : Int32).toNatClampNeg = 6 from rfl]
  refine ⟨p_v9 (by decide), fun e => ?_, fun e => hy fun z => absurd (e4.2 z) e⟩
  have e9 := e4.1 e
  rw [hq.a4.zm, hq.a4.s9 e9, p_rem (by omega) (by omega) (by omega), show (4 : Int32) = nI 4 from rfl, p_mul]
  have e0 : nI (Q.sz % Q.sl) = 0 ↔ Q.sz % Q.sl = 0 := nI_eq (b := 0) (by have := Nat.mod_le Q.sz Q.sl; omega) (by omega)
  refine ⟨p_v9 (by decide), p_v9 (by decide), fun e2 => ?_, fun e2 => ⟨p_v9 (by decide), p_v9 (by decide), fun e3 => ?_, fun e3 => ?_⟩, fun e2 => ?_⟩
  · have := (nI_eq (a := Q.sl) (b := 0) (by omega) (by omega)).1 e2
    omega
  · exact hn fun f => by have := (f e9).2; rw [nI_ltI (by omega) (by omega)] at e3; omega
  · exact hy fun _ => ⟨e0.1 e2, by rw [nI_ltI (by omega) (by omega)] at e3; omega⟩
  · exact hn fun f => e2 (e0.2 (f e9).1)
def Fol (Q : PQ) (S : CS) (d : GD) : Prop := Q.fold = S.y 3 0 ∧ Q.shape = S.y 5 0 ∧ Q.sz = d.sz ∧ Q.sl = d.sl ∧ ¬ d.lt < Q.lt
set_option maxRecDepth 4096 in
theorem c_fol {S M x y g p s Q q} {d : GD} (hc : RC S x y g) (px : PXS S p s Q) (hq : QM Q q) (h : QR S M d.sz d.sl d.lt) {Φ : Int32 → Prop} (hy : Fol Q S d → Φ 1) (hn : ¬ Fol Q S d → Φ 0) : wX2_canFollow x y g Φ := by
  unfold wX2_canFollow
  have := hq.a4.z2
  have := hq.a4.s2
  have := hq.a7.l2
  have := h.z2
  have := h.s2
  have := h.l2
  rw [hc.hy 3 (by omega), hc.hy 5 (by omega), hc.hx 10 (by omega), hc.hx 11 (by omega), hc.hx 12 (by omega), px.fold, px.shape, px.sz, px.sl, px.lt, h.zc, h.sc, h.lc, nI_eq (by omega) (by omega), nI_eq (by omega) (by omega), nI_ltI (by omega) (by omega)]
  exact ⟨fun a => ⟨fun b => ⟨fun c => ⟨fun e => ⟨fun f => hn fun z => z.2.2.2.2 f, fun f => hy ⟨a, b, c, e, f⟩⟩, fun e => hn fun z => e z.2.2.2.1⟩, fun c => hn fun z => c z.2.2.1⟩, fun b => hn fun z => b z.2.1⟩, fun a => hn fun z => a z.1⟩
set_option maxRecDepth 4096 in
theorem QR.mk' {S' : CS} {M' : MS} {Q : PQ} {q : Nat → Int32} (hq : QM Q q) (hf : Fit Q) (ex : S'.x 8 0 = Q.lim ∧ S'.x 9 0 = nI Q.jn ∧ S'.x 10 0 = nI Q.sz ∧ S'.x 11 0 = nI Q.sl ∧ S'.x 12 0 = nI Q.lt) (ey : S'.y 3 0 = Q.fold ∧ S'.y 4 0 = Q.cmp ∧ S'.y 5 0 = Q.shape ∧ S'.y 6 0 = Q.mode) (eg : ∀ j, j < 9 → M'.g 6 j = q j) : QR S' M' Q.sz Q.sl Q.lt := by
  obtain ⟨x8, x9, x10, x11, x12⟩ := ex
  obtain ⟨y3, y4, y5, y6⟩ := ey
  refine ⟨by rw [eg 0 (by omega), y3]; exact hq.a0.f0, by rw [y3]; exact hq.a0.f2, by rw [eg 1 (by omega), y4]; exact hq.a1.c0, by rw [y4]; exact hq.a1.c1, by rw [y4]; exact hq.a1.c2, by rw [eg 2 (by omega), x8]; exact hq.a1.lim, by rw [eg 3 (by omega), x9]; exact hq.a3.jn, ?_, by rw [eg 4 (by omega), y5]; exact hq.a4.sh, by rw [y5]; exact hq.a4.sh1, by rw [y5]; exact hq.a4.sh2, by rw [eg 5 (by omega)]; exact hq.a4.zm, x10, hq.a4.z1, hq.a4.z2, x11, hq.a4.s1, hq.a4.s2, fun e => ?_, fun e => ?_, by rw [eg 7 (by omega)]; exact hq.a7.lm, x12, hq.a7.l2, by rw [eg 8 (by omega), y6]; exact hq.a8.md, by rw [y6]; exact hq.a8.m1, by rw [y6]; exact hq.a8.m2⟩
  · rw [x9]
    have := hq.a3.jb
    have : Q.jn = 0 ∨ Q.jn = 1 := by omega
    rcases this with e | e <;> rw [e]
    · exact .inl rfl
    · exact .inr rfl
  · rw [y5] at e
    rw [eg 6 (by omega)]
    exact ⟨hq.a4.s9 e, hf e⟩
  · rw [y5] at e
    rw [eg 6 (by omega)]
    exact hq.a4.s8 e
def Sx (S : CS) (v : Int32) (Q : PQ) : CS := uX (uX (uX (uX (uX (uX (uX S 18 0 v) 19 0 0) 8 0 Q.lim) 9 0 (nI Q.jn)) 10 0 (nI Q.sz)) 11 0 (nI Q.sl)) 12 0 (nI Q.lt)
def Sy (S : CS) (rq : Nat) (Q : PQ) : CS := cY (cY (cY (cY (cY S 2 0 rq) 3 0 Q.fold) 4 0 Q.cmp) 5 0 Q.shape) 6 0 Q.mode
def M3 (M : MS) : MS := mX (mX (mQ M 9) 5 1) 0 0
set_option maxRecDepth 4096 in
theorem Sx.rc {S x1 y1 g1 x y g p s Q v} (h1 : RC S x1 y1 g1) (px : PXS S p s Q) (h : RC (uX (uX S 18 0 v) 19 0 0) x y g) : RC (Sx S v Q) (sx x1 x) y g := by
  have e8 : x1 8 1 = Q.lim := by rw [h1.hx 8 (by omega)]; exact px.lim
  have e9 : x1 9 1 = nI Q.jn := by rw [h1.hx 9 (by omega)]; exact px.jn
  have e10 : x1 10 1 = nI Q.sz := by rw [h1.hx 10 (by omega)]; exact px.sz
  have e11 : x1 11 1 = nI Q.sl := by rw [h1.hx 11 (by omega)]; exact px.sl
  have e12 : x1 12 1 = nI Q.lt := by rw [h1.hx 12 (by omega)]; exact px.lt
  unfold sx
  rw [e8, e9, e10, e11, e12]
  exact ((((h.X (k := 8) (i := 0) (v := Q.lim) (by omega)).X (k := 9) (i := 0) (v := nI Q.jn) (by omega)).X (k := 10) (i := 0) (v := nI Q.sz) (by omega)).X (k := 11) (i := 0) (v := nI Q.sl) (by omega)).X (k := 12) (i := 0) (v := nI Q.lt) (by omega)
set_option maxRecDepth 4096 in
theorem Sy.rc {S1 S x1 y1 g1 x y g p s Q} (rq : Nat) (h1 : RC S1 x1 y1 g1) (px : PXS S1 p s Q) (h : RC S x y g) : RC (Sy S rq Q) x (sy rq y1 y) g := by
  have e3 : y1 3 1 = Q.fold := by rw [h1.hy 3 (by omega)]; exact px.fold
  have e4 : y1 4 1 = Q.cmp := by rw [h1.hy 4 (by omega)]; exact px.cmp
  have e5 : y1 5 1 = Q.shape := by rw [h1.hy 5 (by omega)]; exact px.shape
  have e6 : y1 6 1 = Q.mode := by rw [h1.hy 6 (by omega)]; exact px.mode
  unfold sy
  rw [e3, e4, e5, e6]
  exact ((((h.Y (k := 2) (i := 0) (v := rq) (by omega)).Y (k := 3) (i := 0) (v := Q.fold) (by omega)).Y (k := 4) (i := 0) (v := Q.cmp) (by omega)).Y (k := 5) (i := 0) (v := Q.shape) (by omega)).Y (k := 6) (i := 0) (v := Q.mode) (by omega)
set_option maxRecDepth 4096 in
theorem cX_x (S : CS) {k i k' i' : Nat} (v : Int32) (h : ¬ (k' = k ∧ i' = i)) : (uX S k i v).x k' i' = S.x k' i' := by
  simp only [CS.mk_R, CS.mk_cap, CS.mk_x, CS.mk_y, CS.mk_g, CS.mk_eta, MS.mk_x, MS.mk_g, MS.mk_V, MS.mk_T, MS.mk_eta, GD.mk_n, GD.mk_rd, GD.mk_c, GD.mk_tk, GD.mk_sz, GD.mk_sl, GD.mk_lt, GD.mk_eta, PQ.mk_fold, PQ.mk_cmp, PQ.mk_lim, PQ.mk_jn, PQ.mk_shape, PQ.mk_sz, PQ.mk_sl, PQ.mk_lt, PQ.mk_mode, PQ.mk_eta, uX]
  by_cases e : k' = k
  · subst e; rw [p_ug, p_un _ _ (fun e2 => h ⟨rfl, e2⟩)]
  · rw [p_un _ _ e]
set_option maxRecDepth 4096 in
theorem cY_y (S : CS) {k i k' i' : Nat} (v : Nat) (h : ¬ (k' = k ∧ i' = i)) : (cY S k i v).y k' i' = S.y k' i' := by
  simp only [CS.mk_R, CS.mk_cap, CS.mk_x, CS.mk_y, CS.mk_g, CS.mk_eta, MS.mk_x, MS.mk_g, MS.mk_V, MS.mk_T, MS.mk_eta, GD.mk_n, GD.mk_rd, GD.mk_c, GD.mk_tk, GD.mk_sz, GD.mk_sl, GD.mk_lt, GD.mk_eta, PQ.mk_fold, PQ.mk_cmp, PQ.mk_lim, PQ.mk_jn, PQ.mk_shape, PQ.mk_sz, PQ.mk_sl, PQ.mk_lt, PQ.mk_mode, PQ.mk_eta, cY]
  by_cases e : k' = k
  · subst e; rw [p_ug, p_un _ _ (fun e2 => h ⟨rfl, e2⟩)]
  · rw [p_un _ _ e]
set_option maxRecDepth 4096 in
theorem cX_yy' (S : CS) (k i : Nat) (v : Int32) : (uX S k i v).y = S.y := rfl
set_option maxRecDepth 4096 in
theorem cY_xx' (S : CS) (k i : Nat) (v : Nat) : (cY S k i v).x = S.x := rfl
set_option maxRecDepth 4096 in
theorem Sxy_x (S : CS) (v : Int32) (rq : Nat) (Q : PQ) {k i : Nat} (h : ¬ (8 ≤ k ∧ k ≤ 12 ∧ i = 0)) (h2 : ¬ (18 ≤ k ∧ k ≤ 19)) : (Sy (Sx S v Q) rq Q).x k i = S.x k i := by
  unfold Sy Sx
  rw [cY_xx', cY_xx', cY_xx', cY_xx', cY_xx']
  rw [cX_x _ _ (by omega), cX_x _ _ (by omega), cX_x _ _ (by omega), cX_x _ _ (by omega), cX_x _ _ (by omega), cX_x _ _ (by omega), cX_x _ _ (by omega)]
set_option maxRecDepth 4096 in
theorem Sxy_y (S : CS) (v : Int32) (rq : Nat) (Q : PQ) {k i : Nat} (h : ¬ (2 ≤ k ∧ k ≤ 6 ∧ i = 0)) : (Sy (Sx S v Q) rq Q).y k i = S.y k i := by
  unfold Sy
  rw [cY_y _ _ (by omega), cY_y _ _ (by omega), cY_y _ _ (by omega), cY_y _ _ (by omega), cY_y _ _ (by omega)]
  unfold Sx
  rw [cX_yy', cX_yy', cX_yy', cX_yy', cX_yy', cX_yy', cX_yy']
set_option maxRecDepth 4096 in
theorem cX_s (S : CS) (k i : Nat) (v : Int32) : (uX S k i v).x k i = v := by simp only [CS.mk_R, CS.mk_cap, CS.mk_x, CS.mk_y, CS.mk_g, CS.mk_eta, MS.mk_x, MS.mk_g, MS.mk_V, MS.mk_T, MS.mk_eta, GD.mk_n, GD.mk_rd, GD.mk_c, GD.mk_tk, GD.mk_sz, GD.mk_sl, GD.mk_lt, GD.mk_eta, PQ.mk_fold, PQ.mk_cmp, PQ.mk_lim, PQ.mk_jn, PQ.mk_shape, PQ.mk_sz, PQ.mk_sl, PQ.mk_lt, PQ.mk_mode, PQ.mk_eta, uX, p_ug]
set_option maxRecDepth 4096 in
theorem cY_s (S : CS) (k i : Nat) (v : Nat) : (cY S k i v).y k i = v := by simp only [CS.mk_R, CS.mk_cap, CS.mk_x, CS.mk_y, CS.mk_g, CS.mk_eta, MS.mk_x, MS.mk_g, MS.mk_V, MS.mk_T, MS.mk_eta, GD.mk_n, GD.mk_rd, GD.mk_c, GD.mk_tk, GD.mk_sz, GD.mk_sl, GD.mk_lt, GD.mk_eta, PQ.mk_fold, PQ.mk_cmp, PQ.mk_lim, PQ.mk_jn, PQ.mk_shape, PQ.mk_sz, PQ.mk_sl, PQ.mk_lt, PQ.mk_mode, PQ.mk_eta, cY, p_ug]
set_option maxRecDepth 4096 in
theorem cX_R (S : CS) (k i : Nat) (v : Int32) : (uX S k i v).R = S.R := rfl
set_option maxRecDepth 4096 in
theorem cY_R (S : CS) (k i : Nat) (v : Nat) : (cY S k i v).R = S.R := rfl
set_option maxRecDepth 4096 in
theorem cX_gg (S : CS) (k i : Nat) (v : Int32) : (uX S k i v).g = S.g := rfl
set_option maxRecDepth 4096 in
theorem cY_gg (S : CS) (k i : Nat) (v : Nat) : (cY S k i v).g = S.g := rfl
set_option maxRecDepth 4096 in
theorem cX_cap (S : CS) (k i : Nat) (v : Int32) : (uX S k i v).cap = S.cap := rfl
set_option maxRecDepth 4096 in
theorem cY_cap (S : CS) (k i : Nat) (v : Nat) : (cY S k i v).cap = S.cap := rfl
set_option maxRecDepth 4096 in
theorem cX_yy (S : CS) (k i : Nat) (v : Int32) : (uX S k i v).y = S.y := rfl
set_option maxRecDepth 4096 in
theorem cY_xx (S : CS) (k i : Nat) (v : Nat) : (cY S k i v).x = S.x := rfl
set_option maxRecDepth 4096 in
theorem Sxy_R (S : CS) (v : Int32) (rq : Nat) (Q : PQ) : (Sy (Sx S v Q) rq Q).R = S.R := by simp only [CS.mk_R, CS.mk_cap, CS.mk_x, CS.mk_y, CS.mk_g, CS.mk_eta, MS.mk_x, MS.mk_g, MS.mk_V, MS.mk_T, MS.mk_eta, GD.mk_n, GD.mk_rd, GD.mk_c, GD.mk_tk, GD.mk_sz, GD.mk_sl, GD.mk_lt, GD.mk_eta, PQ.mk_fold, PQ.mk_cmp, PQ.mk_lim, PQ.mk_jn, PQ.mk_shape, PQ.mk_sz, PQ.mk_sl, PQ.mk_lt, PQ.mk_mode, PQ.mk_eta, Sy, Sx, cX_R, cY_R]
set_option maxRecDepth 4096 in
theorem Sxy_g (S : CS) (v : Int32) (rq : Nat) (Q : PQ) : (Sy (Sx S v Q) rq Q).g = S.g := by simp only [CS.mk_R, CS.mk_cap, CS.mk_x, CS.mk_y, CS.mk_g, CS.mk_eta, MS.mk_x, MS.mk_g, MS.mk_V, MS.mk_T, MS.mk_eta, GD.mk_n, GD.mk_rd, GD.mk_c, GD.mk_tk, GD.mk_sz, GD.mk_sl, GD.mk_lt, GD.mk_eta, PQ.mk_fold, PQ.mk_cmp, PQ.mk_lim, PQ.mk_jn, PQ.mk_shape, PQ.mk_sz, PQ.mk_sl, PQ.mk_lt, PQ.mk_mode, PQ.mk_eta, Sy, Sx, cX_gg, cY_gg]
set_option maxRecDepth 4096 in
theorem Sxy_c (S : CS) (v : Int32) (rq : Nat) (Q : PQ) : (Sy (Sx S v Q) rq Q).cap = S.cap := by simp only [CS.mk_R, CS.mk_cap, CS.mk_x, CS.mk_y, CS.mk_g, CS.mk_eta, MS.mk_x, MS.mk_g, MS.mk_V, MS.mk_T, MS.mk_eta, GD.mk_n, GD.mk_rd, GD.mk_c, GD.mk_tk, GD.mk_sz, GD.mk_sl, GD.mk_lt, GD.mk_eta, PQ.mk_fold, PQ.mk_cmp, PQ.mk_lim, PQ.mk_jn, PQ.mk_shape, PQ.mk_sz, PQ.mk_sl, PQ.mk_lt, PQ.mk_mode, PQ.mk_eta, Sy, Sx, cX_cap, cY_cap]
set_option maxRecDepth 4096 in
theorem Sy_x (S : CS) (rq : Nat) (Q : PQ) : (Sy S rq Q).x = S.x := by simp only [CS.mk_R, CS.mk_cap, CS.mk_x, CS.mk_y, CS.mk_g, CS.mk_eta, MS.mk_x, MS.mk_g, MS.mk_V, MS.mk_T, MS.mk_eta, GD.mk_n, GD.mk_rd, GD.mk_c, GD.mk_tk, GD.mk_sz, GD.mk_sl, GD.mk_lt, GD.mk_eta, PQ.mk_fold, PQ.mk_cmp, PQ.mk_lim, PQ.mk_jn, PQ.mk_shape, PQ.mk_sz, PQ.mk_sl, PQ.mk_lt, PQ.mk_mode, PQ.mk_eta, Sy, cY_xx]
set_option maxRecDepth 4096 in
theorem Sx_q (S : CS) (v : Int32) (Q : PQ) : ((Sx S v Q).x 8 0 = Q.lim ∧ (Sx S v Q).x 9 0 = nI Q.jn ∧ (Sx S v Q).x 10 0 = nI Q.sz ∧ (Sx S v Q).x 11 0 = nI Q.sl ∧ (Sx S v Q).x 12 0 = nI Q.lt) ∧ (Sx S v Q).x 19 0 = 0 := by
  unfold Sx
  refine ⟨⟨?_, ?_, ?_, ?_, ?_⟩, ?_⟩
  · rw [cX_x _ _ (by omega), cX_x _ _ (by omega), cX_x _ _ (by omega), cX_x _ _ (by omega), cX_s]
  · rw [cX_x _ _ (by omega), cX_x _ _ (by omega), cX_x _ _ (by omega), cX_s]
  · rw [cX_x _ _ (by omega), cX_x _ _ (by omega), cX_s]
  · rw [cX_x _ _ (by omega), cX_s]
  · rw [cX_s]
  · rw [cX_x _ _ (by omega), cX_x _ _ (by omega), cX_x _ _ (by omega), cX_x _ _ (by omega), cX_x _ _ (by omega), cX_s]
set_option maxRecDepth 4096 in
theorem Sy_q (S : CS) (rq : Nat) (Q : PQ) : (Sy S rq Q).y 3 0 = Q.fold ∧ (Sy S rq Q).y 4 0 = Q.cmp ∧ (Sy S rq Q).y 5 0 = Q.shape ∧ (Sy S rq Q).y 6 0 = Q.mode := by
  unfold Sy
  refine ⟨?_, ?_, ?_, ?_⟩
  · rw [cY_y _ _ (by omega), cY_y _ _ (by omega), cY_y _ _ (by omega), cY_s]
  · rw [cY_y _ _ (by omega), cY_y _ _ (by omega), cY_s]
  · rw [cY_y _ _ (by omega), cY_s]
  · rw [cY_s]
set_option maxRecDepth 4096 in
theorem M3_x (M : MS) {k : Nat} (h : k ≠ 0) (h2 : k ≠ 5) : (M3 M).x k = M.x k := by
  simp only [CS.mk_R, CS.mk_cap, CS.mk_x, CS.mk_y, CS.mk_g, CS.mk_eta, MS.mk_x, MS.mk_g, MS.mk_V, MS.mk_T, MS.mk_eta, GD.mk_n, GD.mk_rd, GD.mk_c, GD.mk_tk, GD.mk_sz, GD.mk_sl, GD.mk_lt, GD.mk_eta, PQ.mk_fold, PQ.mk_cmp, PQ.mk_lim, PQ.mk_jn, PQ.mk_shape, PQ.mk_sz, PQ.mk_sl, PQ.mk_lt, PQ.mk_mode, PQ.mk_eta, M3, mX]; rw [p_un _ _ h, p_un _ _ h2]; rfl
set_option maxRecDepth 4096 in
theorem M3_g (M : MS) {k : Nat} (h : k ≠ 6) : (M3 M).g k = M.g k := mQ_n M h
set_option maxRecDepth 4096 in
theorem Rel.keep' {S S' M M' d i} {Q : PQ} (h : Rel S M d i) (h5 : M.x 5 = 1) (hF : Fol Q S d) (hR : S'.R = S.R) (hg : S'.g = S.g) (ex : ∀ k i, ¬ (8 ≤ k ∧ k ≤ 12 ∧ i = 0) → ¬ (18 ≤ k ∧ k ≤ 19) → S'.x k i = S.x k i) (ey : ∀ k i, ¬ (2 ≤ k ∧ k ≤ 6 ∧ i = 0) → S'.y k i = S.y k i) (mx : ∀ k, k ≠ 0 → k ≠ 5 → M'.x k = M.x k) (m5 : M'.x 5 = 1) (mg : ∀ k, k ≠ 6 → M'.g k = M.g k) (y5 : S'.y 5 0 = S.y 5 0) (hQR : QR S' M' Q.sz Q.sl Q.lt) (hV : M'.V = M.V) (hT : M'.T = M.T) (g60 : M'.g 6 0 = M.g 6 0) (x19 : S'.x 19 0 = 0) (m0 : M'.x 0 = 0) : Rel S' M' (GD.mk d.n d.rd d.c d.tk d.sz d.sl (Q.lt)) i := by
  obtain ⟨f1, f2, f3, f4, f5⟩ := hF
  have str : ∀ {c p rd m}, STR S M d.sz (decide (S.y 5 0 = 10)) c p rd m → STR S' M' d.sz (decide (S'.y 5 0 = 10)) c p rd m := fun {c p rd m} s => by
    rw [y5]
    exact s.fr (by rw [hR]) (fun k _ _ => ex k c (by omega) (by omega)) (fun k _ _ => by rw [hg]) (by rw [hV]) (fun k _ _ => by rw [mg k (by omega)]) (fun k j _ _ _ => by rw [mg k (by omega)])
  refine ⟨?_, ?_, ?_, ?_, ?_, ?_, ?_, (by rw [hT]; exact str h.st0), ?_, ?_, ?_, h.tki, ?_⟩
  · obtain ⟨n, t⟩ := h.tx
    exact ⟨0, by omega, m0, x19, by rw [ex 17 0 (by omega) (by omega)]; exact t.s17, Nat.zero_le _, by rw [ey 9 0 (by omega)]; exact t.c16, by rw [ey 9 0 (by omega)]; exact t.c70, by rw [hg]; exact t.by_, fun i hi => absurd hi (Nat.not_lt_zero i)⟩
  · exact h.ev.fr (fun p _ => by rw [hR]) (fun k _ _ => mg k (by omega)) (mx 8 (by omega) (by omega)) g60
  · exact h.tb.fl (by rw [hR]) (mx 19 (by omega) (by omega)) (fun k _ _ => mg k (by omega))
  · intro p hp
    rw [ex 6 p (by omega) (by omega), mg 17 (by omega)]; exact h.lag p hp
  · intro p hp
    rw [ex 7 p (by omega) (by omega), mg 18 (by omega)]; exact h.idle p hp
  · refine ⟨.inr m5, by rw [m5, ex 15 0 (by omega) (by omega), h.pl.s15, h5], fun _ => ?_, fun e => absurd (m5.symm.trans e) (by decide)⟩
    show QR S' M' d.sz d.sl Q.lt
    rw [← f3, ← f4]; exact hQR
  · rw [hR, hT]; exact h.tt
  · obtain ⟨rd, m, s, p, q⟩ := h.st1
    exact ⟨rd, m, str s, p, by rw [hT]; exact q⟩
  · have y7 : ∀ k, S'.y 7 k = S.y 7 k := fun k => ey 7 k (by omega)
    have x5 : ∀ k, S'.x 5 k = S.x 5 k := fun k => ex 5 k (by omega) (by omega)
    refine ⟨h.sn.c5, by rw [ex 13 0 (by omega) (by omega)]; exact h.sn.s13, by rw [mx 35 (by omega) (by omega)]; exact h.sn.m35, by rw [ex 14 0 (by omega) (by omega)]; exact h.sn.s14, by rw [mx 37 (by omega) (by omega)]; exact h.sn.m37, fun k hk => by rw [y7]; exact h.sn.y7 k hk, fun j k hj hk e => ?_, fun k hk => ?_, fun j k hj hk => ?_⟩
    · rw [y7, y7] at e; exact h.sn.inj j k hj hk e
    · rw [y7, x5, mg 36 (by omega)]; exact h.sn.num k hk
    · rw [y7, y7, x5, x5]; exact h.sn.inc j k hj hk
  · intro k hk
    obtain ⟨rd, m, s, p, q⟩ := h.std k hk
    rw [ey 7 k (by omega)]
    exact ⟨rd, m, str s, p, by rw [hT]; exact q⟩
  · rw [ex 16 0 (by omega) (by omega), mx 43 (by omega) (by omega)]; exact h.wk
set_option maxRecDepth 4096 in
theorem Rel.keep {S M d i} {v : Int32} {rq : Nat} {Q : PQ} (h : Rel S M d i) (h5 : M.x 5 = 1) (hq : QM Q (M.g 7)) (hf : Fit Q) (hF : Fol Q S d) : Rel (Sy (Sx S v Q) rq Q) (M3 M) (GD.mk d.n d.rd d.c d.tk d.sz d.sl (Q.lt)) i :=
  h.keep' h5 hF (Sxy_R S v rq Q) (Sxy_g S v rq Q) (fun k i a b => Sxy_x S v rq Q a b) (fun k i a => Sxy_y S v rq Q a) (fun k a b => M3_x M a b) (by simp only [CS.mk_R, CS.mk_cap, CS.mk_x, CS.mk_y, CS.mk_g, CS.mk_eta, MS.mk_x, MS.mk_g, MS.mk_V, MS.mk_T, MS.mk_eta, GD.mk_n, GD.mk_rd, GD.mk_c, GD.mk_tk, GD.mk_sz, GD.mk_sl, GD.mk_lt, GD.mk_eta, PQ.mk_fold, PQ.mk_cmp, PQ.mk_lim, PQ.mk_jn, PQ.mk_shape, PQ.mk_sz, PQ.mk_sl, PQ.mk_lt, PQ.mk_mode, PQ.mk_eta, M3, mX]; rw [p_un _ _ (by omega), p_ug]) (fun k a => M3_g M a) ((Sy_q _ rq Q).2.2.1.trans hF.2.1) (QR.mk' hq hf (by rw [Sy_x]; exact (Sx_q S v Q).1) (Sy_q _ rq Q) (fun j hj => mQ_6 M hj)) rfl rfl (by
    show (mQ M 9).g 6 0 = _
    rw [mQ_6 M (by omega), hq.a0.f0, (h.pl.q h5).f0, hF.1]) (by rw [Sy_x]; exact (Sx_q S v Q).2) (by simp only [CS.mk_R, CS.mk_cap, CS.mk_x, CS.mk_y, CS.mk_g, CS.mk_eta, MS.mk_x, MS.mk_g, MS.mk_V, MS.mk_T, MS.mk_eta, GD.mk_n, GD.mk_rd, GD.mk_c, GD.mk_tk, GD.mk_sz, GD.mk_sl, GD.mk_lt, GD.mk_eta, PQ.mk_fold, PQ.mk_cmp, PQ.mk_lim, PQ.mk_jn, PQ.mk_shape, PQ.mk_sz, PQ.mk_sl, PQ.mk_lt, PQ.mk_mode, PQ.mk_eta, M3, mX, p_ug])
set_option maxRecDepth 4096 in
theorem STR.nil {S M sz ses a p} (eR : S.R (5 + a) = []) (eV : M.V p = []) (x2 : S.x 2 a = -1) (x3 : S.x 3 a = 0) (x4 : S.x 4 a = 0) (g1 : ∀ i, i < 3 → S.g 1 a i = 0) (m25 : M.g 25 p = -1) (m26 : M.g 26 p = 0) (m27 : M.g 27 p = 0) (m23 : ∀ i, i < 3 → M.g 23 (3 * p + i) = 0) (m24 : ∀ i, i < 3 → M.g 24 (3 * p + i) = -1) : STR S M sz ses a p (fun _ => 0) 0 := by
  refine ⟨by rw [eR, eV]; exact ⟨List.Perm.refl _, List.Pairwise.nil, List.Pairwise.nil, fun r h => absurd h List.not_mem_nil, fun _ r h => absurd h List.not_mem_nil⟩, x2.trans m25.symm, by rw [x2]; decide, x3.trans m26.symm, fun i hi => ⟨g1 i hi, m23 i hi⟩, fun i hi h => absurd rfl h, fun i hi _ => m24 i hi, m27, fun _ => x4, by rw [eV]; exact Nat.zero_le _, by rw [eV]; exact Nat.zero_le _⟩
set_option maxRecDepth 4096 in
theorem Rel.anew' {S S' M M' d i} {Q : PQ} (h : Rel S M d i) (R3 : ∀ q, q < 4 → S'.R q = S.R q) (R4 : S'.R 4 = []) (R5 : S'.R 5 = []) (R6 : S'.R 6 = []) (ex : ∀ k i, k = 6 ∨ k = 7 ∨ k = 16 ∨ k = 17 → S'.x k i = S.x k i) (x13 : S'.x 13 0 = 0) (x14 : S'.x 14 0 = 0) (x15 : S'.x 15 0 = 1) (x19 : S'.x 19 0 = 0) (xa : ∀ a, a < 2 → S'.x 2 a = -1 ∧ S'.x 3 a = 0 ∧ S'.x 4 a = 0 ∧ ∀ i, i < 3 → S'.g 1 a i = 0) (g3 : S'.g 3 0 = S.g 3 0) (ey : ∀ k i, 7 ≤ k → S'.y k i = S.y k i) (hQR : QR S' M' Q.sz Q.sl Q.lt)
    (V5 : M'.V 5 = []) (V6 : M'.V 6 = []) (T0 : M'.T = []) (mx : ∀ k, k = 8 ∨ k = 19 ∨ k = 43 → M'.x k = M.x k) (m0 : M'.x 0 = 0) (m5 : M'.x 5 = 1) (m35 : M'.x 35 = 0) (m37 : M'.x 37 = 0) (mg : ∀ k, 9 ≤ k → k ≤ 22 → M'.g k = M.g k) (mp : ∀ p, p = 5 ∨ p = 6 → M'.g 25 p = -1 ∧ M'.g 26 p = 0 ∧ M'.g 27 p = 0 ∧ (∀ i, i < 3 → M'.g 23 (3 * p + i) = 0) ∧ ∀ i, i < 3 → M'.g 24 (3 * p + i) = -1) : Rel S' M' ⟨d.n, fun _ => 0, 0, 0, Q.sz, Q.sl, Q.lt⟩ i := by
  have str : ∀ {a p}, a < 2 → (p = 5 ∨ p = 6) → S'.R (5 + a) = [] → M'.V p = [] → ∀ sz ses, STR S' M' sz ses a p (fun _ => 0) 0 := fun {a p} ha hp e1 e2 sz ses => by
    obtain ⟨a1, a2, a3, a4⟩ := xa a ha
    obtain ⟨b1, b2, b3, b4, b5⟩ := mp p hp
    exact STR.nil e1 e2 a1 a2 a3 a4 b1 b2 b3 b4 b5
  refine ⟨?_, ?_, ?_, ?_, ?_, ?_, by rw [R4, T0], ?_, ?_, ?_, fun k hk => absurd hk (Nat.not_lt_zero k), Nat.zero_le _, ?_⟩
  · obtain ⟨n, t⟩ := h.tx
    exact ⟨0, by omega, m0, x19, by rw [ex 17 0 (by omega)]; exact t.s17, Nat.zero_le _, by rw [ey 9 0 (by omega)]; exact t.c16, by rw [ey 9 0 (by omega)]; exact t.c70, by rw [g3]; exact t.by_, fun i hi => absurd hi (Nat.not_lt_zero i)⟩
  · refine ⟨fun p hp => by rw [R3 p (by omega)]; exact h.ev.len p hp, fun p hp => by rw [mg 9 (by omega) (by omega)]; exact h.ev.cnt p hp, h.ev.tot, by rw [mx 8 (by omega)]; exact h.ev.m8, fun p hp r hr => ?_, fun p hp => Nat.zero_le _, fun p hp r hr => absurd hr (Nat.not_lt_zero r)⟩
    rw [R3 p (by omega), mg 10 (by omega) (by omega), mg 11 (by omega) (by omega), mg 12 (by omega) (by omega)]
    exact h.ev.row p hp r hr
  · exact h.tb.fl (R3 3 (by omega)) (mx 19 (by omega)) (fun k a b => mg k (by omega) b)
  · intro p hp
    rw [ex 6 p (by omega), mg 17 (by omega) (by omega)]; exact h.lag p hp
  · intro p hp
    rw [ex 7 p (by omega), mg 18 (by omega) (by omega)]; exact h.idle p hp
  · exact ⟨.inr m5, x15.trans m5.symm, fun _ => hQR, fun e => absurd (m5.symm.trans e) (by decide)⟩
  · rw [T0]; exact str (by omega) (.inr rfl) R5 V6 _ _
  · exact ⟨fun _ => 0, 0, str (by omega) (.inl rfl) R6 V5 _ _, fun _ => Nat.le_refl _, Nat.zero_le _⟩
  · exact ⟨Nat.zero_le _, x13, m35, x14, m37, fun k hk => by rw [ey 7 k (by omega)]; exact h.sn.y7 k hk, fun j k hj hk e => by rw [ey 7 j (by omega), ey 7 k (by omega)] at e; exact h.sn.inj j k hj hk e, fun k hk => absurd hk (Nat.not_lt_zero k), fun j k hj hk => absurd hk (Nat.not_lt_zero k)⟩
  · rw [ex 16 0 (by omega), mx 43 (by omega)]; exact h.wk
set_option maxRecDepth 4096 in
theorem cBeg_R (S : CS) (i : Nat) {q : Nat} : (cBeg S i).R q = if q = 5 + i then [] else S.R q := by
  simp only [CS.mk_R, CS.mk_cap, CS.mk_x, CS.mk_y, CS.mk_g, CS.mk_eta, MS.mk_x, MS.mk_g, MS.mk_V, MS.mk_T, MS.mk_eta, GD.mk_n, GD.mk_rd, GD.mk_c, GD.mk_tk, GD.mk_sz, GD.mk_sl, GD.mk_lt, GD.mk_eta, PQ.mk_fold, PQ.mk_cmp, PQ.mk_lim, PQ.mk_jn, PQ.mk_shape, PQ.mk_sz, PQ.mk_sl, PQ.mk_lt, PQ.mk_mode, PQ.mk_eta, cBeg, cX_R, cCut]
  by_cases e : q = 5 + i
  · rw [if_pos e, e, cRw_R]; rfl
  · rw [if_neg e, cRw_Rn _ _ _ e]; rfl
set_option maxRecDepth 4096 in
theorem cBeg_cap (S : CS) (i : Nat) : (cBeg S i).cap = S.cap := by
  simp only [CS.mk_R, CS.mk_cap, CS.mk_x, CS.mk_y, CS.mk_g, CS.mk_eta, MS.mk_x, MS.mk_g, MS.mk_V, MS.mk_T, MS.mk_eta, GD.mk_n, GD.mk_rd, GD.mk_c, GD.mk_tk, GD.mk_sz, GD.mk_sl, GD.mk_lt, GD.mk_eta, PQ.mk_fold, PQ.mk_cmp, PQ.mk_lim, PQ.mk_jn, PQ.mk_shape, PQ.mk_sz, PQ.mk_sl, PQ.mk_lt, PQ.mk_mode, PQ.mk_eta, cBeg, cX_cap, cCut, cRw, cG]; exact p_us _ _
set_option maxRecDepth 4096 in
theorem cBeg_y (S : CS) (i : Nat) : (cBeg S i).y = S.y := by
  simp only [CS.mk_R, CS.mk_cap, CS.mk_x, CS.mk_y, CS.mk_g, CS.mk_eta, MS.mk_x, MS.mk_g, MS.mk_V, MS.mk_T, MS.mk_eta, GD.mk_n, GD.mk_rd, GD.mk_c, GD.mk_tk, GD.mk_sz, GD.mk_sl, GD.mk_lt, GD.mk_eta, PQ.mk_fold, PQ.mk_cmp, PQ.mk_lim, PQ.mk_jn, PQ.mk_shape, PQ.mk_sz, PQ.mk_sl, PQ.mk_lt, PQ.mk_mode, PQ.mk_eta, cBeg, cX_yy, cCut, cRw, cG]
set_option maxRecDepth 4096 in
theorem cBeg_x (S : CS) (i : Nat) {k j : Nat} (h : ¬ (2 ≤ k ∧ k ≤ 5 ∧ j = i)) : (cBeg S i).x k j = S.x k j := by
  unfold cBeg
  rw [cX_x _ _ (by omega), cX_x _ _ (by omega), cX_x _ _ (by omega), cX_x _ _ (by omega)]
  rfl
set_option maxRecDepth 4096 in
theorem cBeg_xi (S : CS) (i : Nat) : (cBeg S i).x 2 i = -1 ∧ (cBeg S i).x 3 i = 0 ∧ (cBeg S i).x 4 i = 0 := by
  unfold cBeg
  refine ⟨?_, ?_, ?_⟩
  · rw [cX_x _ _ (by omega), cX_x _ _ (by omega), cX_x _ _ (by omega), cX_s]
  · rw [cX_x _ _ (by omega), cX_x _ _ (by omega), cX_s]
  · rw [cX_x _ _ (by omega), cX_s]
set_option maxRecDepth 4096 in
theorem cBeg_gi (S : CS) (i : Nat) {k : Nat} (hk : k < 3) : (cBeg S i).g 1 i k = 0 := by
  simp only [CS.mk_R, CS.mk_cap, CS.mk_x, CS.mk_y, CS.mk_g, CS.mk_eta, MS.mk_x, MS.mk_g, MS.mk_V, MS.mk_T, MS.mk_eta, GD.mk_n, GD.mk_rd, GD.mk_c, GD.mk_tk, GD.mk_sz, GD.mk_sl, GD.mk_lt, GD.mk_eta, PQ.mk_fold, PQ.mk_cmp, PQ.mk_lim, PQ.mk_jn, PQ.mk_shape, PQ.mk_sz, PQ.mk_sl, PQ.mk_lt, PQ.mk_mode, PQ.mk_eta, cBeg, cX_gg, cCut, cRw_g]
  rw [cG_gn _ _ _ _ (show (1 : Nat) ≠ 2 by decide), cG_g]
  unfold upd
  have : k = 0 ∨ k = 1 ∨ k = 2 := by omega
  rcases this with rfl | rfl | rfl <;> rfl
set_option maxRecDepth 4096 in
theorem cG_gj (S : CS) {k i k' i' : Nat} (f : Nat → Int32) (h : ¬ (k' = k ∧ i' = i)) : (cG S k i f).g k' i' = S.g k' i' := by
  simp only [CS.mk_R, CS.mk_cap, CS.mk_x, CS.mk_y, CS.mk_g, CS.mk_eta, MS.mk_x, MS.mk_g, MS.mk_V, MS.mk_T, MS.mk_eta, GD.mk_n, GD.mk_rd, GD.mk_c, GD.mk_tk, GD.mk_sz, GD.mk_sl, GD.mk_lt, GD.mk_eta, PQ.mk_fold, PQ.mk_cmp, PQ.mk_lim, PQ.mk_jn, PQ.mk_shape, PQ.mk_sz, PQ.mk_sl, PQ.mk_lt, PQ.mk_mode, PQ.mk_eta, cG]
  by_cases e : k' = k
  · subst e; rw [p_ug, p_un _ _ (fun e2 => h ⟨rfl, e2⟩)]
  · rw [p_un _ _ e]
set_option maxRecDepth 4096 in
theorem cBeg_g (S : CS) (i : Nat) {k j : Nat} (h : ¬ (1 ≤ k ∧ k ≤ 2 ∧ j = i)) : (cBeg S i).g k j = S.g k j := by
  simp only [CS.mk_R, CS.mk_cap, CS.mk_x, CS.mk_y, CS.mk_g, CS.mk_eta, MS.mk_x, MS.mk_g, MS.mk_V, MS.mk_T, MS.mk_eta, GD.mk_n, GD.mk_rd, GD.mk_c, GD.mk_tk, GD.mk_sz, GD.mk_sl, GD.mk_lt, GD.mk_eta, PQ.mk_fold, PQ.mk_cmp, PQ.mk_lim, PQ.mk_jn, PQ.mk_shape, PQ.mk_sz, PQ.mk_sl, PQ.mk_lt, PQ.mk_mode, PQ.mk_eta, cBeg, cX_gg, cCut, cRw_g]
  rw [cG_gj _ _ (by omega), cG_gj _ _ (by omega)]
def S3a (S : CS) (v : Int32) (rq : Nat) (Q : PQ) : CS := Sy (uX (Sx S v Q) 15 0 1) rq Q
def S4 (S : CS) (v : Int32) (rq : Nat) (Q : PQ) : CS := cBeg (uX (uX (cBeg (cCut (S3a S v rq Q) 4 0) 0) 13 0 0) 14 0 0) 1
def M4 (M : MS) : MS := mX (mX (mBg (mBg (M3 M) 5 (M3 M).T) 6 []) 35 0) 37 0
set_option maxRecDepth 4096 in
theorem S3a_x (S : CS) (v : Int32) (rq : Nat) (Q : PQ) {k i : Nat} (h : ¬ (8 ≤ k ∧ k ≤ 12 ∧ i = 0)) (h2 : ¬ (18 ≤ k ∧ k ≤ 19)) (h3 : k ≠ 15) : (S3a S v rq Q).x k i = S.x k i := by
  unfold S3a
  rw [Sy_x, cX_x _ _ (by omega)]
  have := Sxy_x S v rq Q h h2
  rwa [Sy_x] at this
set_option maxRecDepth 4096 in
theorem S4_x (S : CS) (v : Int32) (rq : Nat) (Q : PQ) {k i : Nat} (h : ¬ (2 ≤ k ∧ k ≤ 5 ∧ i ≤ 1)) (h2 : k ≠ 13) (h3 : k ≠ 14) : (S4 S v rq Q).x k i = (S3a S v rq Q).x k i := by
  unfold S4
  rw [cBeg_x _ _ (by omega), cX_x _ _ (by omega), cX_x _ _ (by omega), cBeg_x _ _ (by omega)]
  rfl
set_option maxRecDepth 4096 in
theorem S3a_R (S : CS) (v : Int32) (rq : Nat) (Q : PQ) : (S3a S v rq Q).R = S.R := by simp only [CS.mk_R, CS.mk_cap, CS.mk_x, CS.mk_y, CS.mk_g, CS.mk_eta, MS.mk_x, MS.mk_g, MS.mk_V, MS.mk_T, MS.mk_eta, GD.mk_n, GD.mk_rd, GD.mk_c, GD.mk_tk, GD.mk_sz, GD.mk_sl, GD.mk_lt, GD.mk_eta, PQ.mk_fold, PQ.mk_cmp, PQ.mk_lim, PQ.mk_jn, PQ.mk_shape, PQ.mk_sz, PQ.mk_sl, PQ.mk_lt, PQ.mk_mode, PQ.mk_eta, S3a, Sy, Sx, cX_R, cY_R]
set_option maxRecDepth 4096 in
theorem S3a_g (S : CS) (v : Int32) (rq : Nat) (Q : PQ) : (S3a S v rq Q).g = S.g := by simp only [CS.mk_R, CS.mk_cap, CS.mk_x, CS.mk_y, CS.mk_g, CS.mk_eta, MS.mk_x, MS.mk_g, MS.mk_V, MS.mk_T, MS.mk_eta, GD.mk_n, GD.mk_rd, GD.mk_c, GD.mk_tk, GD.mk_sz, GD.mk_sl, GD.mk_lt, GD.mk_eta, PQ.mk_fold, PQ.mk_cmp, PQ.mk_lim, PQ.mk_jn, PQ.mk_shape, PQ.mk_sz, PQ.mk_sl, PQ.mk_lt, PQ.mk_mode, PQ.mk_eta, S3a, Sy, Sx, cX_gg, cY_gg]
set_option maxRecDepth 4096 in
theorem S3a_cap (S : CS) (v : Int32) (rq : Nat) (Q : PQ) : (S3a S v rq Q).cap = S.cap := by simp only [CS.mk_R, CS.mk_cap, CS.mk_x, CS.mk_y, CS.mk_g, CS.mk_eta, MS.mk_x, MS.mk_g, MS.mk_V, MS.mk_T, MS.mk_eta, GD.mk_n, GD.mk_rd, GD.mk_c, GD.mk_tk, GD.mk_sz, GD.mk_sl, GD.mk_lt, GD.mk_eta, PQ.mk_fold, PQ.mk_cmp, PQ.mk_lim, PQ.mk_jn, PQ.mk_shape, PQ.mk_sz, PQ.mk_sl, PQ.mk_lt, PQ.mk_mode, PQ.mk_eta, S3a, Sy, Sx, cX_cap, cY_cap]
set_option maxRecDepth 4096 in
theorem S3a_y (S : CS) (v : Int32) (rq : Nat) (Q : PQ) {k i : Nat} (h : ¬ (2 ≤ k ∧ k ≤ 6 ∧ i = 0)) : (S3a S v rq Q).y k i = S.y k i := by
  unfold S3a Sy
  rw [cY_y _ _ (by omega), cY_y _ _ (by omega), cY_y _ _ (by omega), cY_y _ _ (by omega), cY_y _ _ (by omega)]
  unfold Sx
  rw [cX_yy', cX_yy', cX_yy', cX_yy', cX_yy', cX_yy', cX_yy', cX_yy']
set_option maxRecDepth 4096 in
theorem S4_y (S : CS) (v : Int32) (rq : Nat) (Q : PQ) : (S4 S v rq Q).y = (S3a S v rq Q).y := by
  unfold S4
  rw [cBeg_y, cX_yy, cX_yy, cBeg_y]; rfl
set_option maxRecDepth 4096 in
theorem S4_cap (S : CS) (v : Int32) (rq : Nat) (Q : PQ) : (S4 S v rq Q).cap = S.cap := by
  unfold S4
  rw [cBeg_cap, cX_cap, cX_cap, cBeg_cap, ← S3a_cap S v rq Q]
  simp only [CS.mk_R, CS.mk_cap, CS.mk_x, CS.mk_y, CS.mk_g, CS.mk_eta, MS.mk_x, MS.mk_g, MS.mk_V, MS.mk_T, MS.mk_eta, GD.mk_n, GD.mk_rd, GD.mk_c, GD.mk_tk, GD.mk_sz, GD.mk_sl, GD.mk_lt, GD.mk_eta, PQ.mk_fold, PQ.mk_cmp, PQ.mk_lim, PQ.mk_jn, PQ.mk_shape, PQ.mk_sz, PQ.mk_sl, PQ.mk_lt, PQ.mk_mode, PQ.mk_eta, cCut, cRw]; exact p_us _ _
set_option maxRecDepth 4096 in
theorem S4_R (S : CS) (v : Int32) (rq : Nat) (Q : PQ) {q : Nat} : (S4 S v rq Q).R q = if q = 4 ∨ q = 5 ∨ q = 6 then [] else S.R q := by
  unfold S4
  rw [cBeg_R, cX_R, cX_R, cBeg_R]
  by_cases e6 : q = 6
  · rw [if_pos (by omega), if_pos (by omega)]
  · rw [if_neg (by omega)]
    by_cases e5 : q = 5
    · rw [if_pos (by omega), if_pos (by omega)]
    · rw [if_neg (by omega)]
      by_cases e4 : q = 4
      · rw [if_pos (by omega), e4]; simp only [CS.mk_R, CS.mk_cap, CS.mk_x, CS.mk_y, CS.mk_g, CS.mk_eta, MS.mk_x, MS.mk_g, MS.mk_V, MS.mk_T, MS.mk_eta, GD.mk_n, GD.mk_rd, GD.mk_c, GD.mk_tk, GD.mk_sz, GD.mk_sl, GD.mk_lt, GD.mk_eta, PQ.mk_fold, PQ.mk_cmp, PQ.mk_lim, PQ.mk_jn, PQ.mk_shape, PQ.mk_sz, PQ.mk_sl, PQ.mk_lt, PQ.mk_mode, PQ.mk_eta, cCut, cRw_R, List.take_zero]
      · rw [if_neg (by omega)]; simp only [CS.mk_R, CS.mk_cap, CS.mk_x, CS.mk_y, CS.mk_g, CS.mk_eta, MS.mk_x, MS.mk_g, MS.mk_V, MS.mk_T, MS.mk_eta, GD.mk_n, GD.mk_rd, GD.mk_c, GD.mk_tk, GD.mk_sz, GD.mk_sl, GD.mk_lt, GD.mk_eta, PQ.mk_fold, PQ.mk_cmp, PQ.mk_lim, PQ.mk_jn, PQ.mk_shape, PQ.mk_sz, PQ.mk_sl, PQ.mk_lt, PQ.mk_mode, PQ.mk_eta, cCut]; rw [cRw_Rn _ _ _ e4, S3a_R]
set_option maxRecDepth 4096 in
theorem mBg_g (M : MS) (b : Nat) (T : List pRow) {k : Nat} (h : k < 23 ∨ 27 < k) : (mBg M b T).g k = M.g k := by
  funext j
  simp only [CS.mk_R, CS.mk_cap, CS.mk_x, CS.mk_y, CS.mk_g, CS.mk_eta, MS.mk_x, MS.mk_g, MS.mk_V, MS.mk_T, MS.mk_eta, GD.mk_n, GD.mk_rd, GD.mk_c, GD.mk_tk, GD.mk_sz, GD.mk_sl, GD.mk_lt, GD.mk_eta, PQ.mk_fold, PQ.mk_cmp, PQ.mk_lim, PQ.mk_jn, PQ.mk_shape, PQ.mk_sz, PQ.mk_sl, PQ.mk_lt, PQ.mk_mode, PQ.mk_eta, mBg]
  rw [if_neg (by omega), if_neg (by omega), if_neg (by omega), if_neg (by omega)]
set_option maxRecDepth 4096 in
theorem M4_x (M : MS) {k : Nat} (h : k ≠ 35) (h2 : k ≠ 37) : (M4 M).x k = (M3 M).x k := by
  simp only [CS.mk_R, CS.mk_cap, CS.mk_x, CS.mk_y, CS.mk_g, CS.mk_eta, MS.mk_x, MS.mk_g, MS.mk_V, MS.mk_T, MS.mk_eta, GD.mk_n, GD.mk_rd, GD.mk_c, GD.mk_tk, GD.mk_sz, GD.mk_sl, GD.mk_lt, GD.mk_eta, PQ.mk_fold, PQ.mk_cmp, PQ.mk_lim, PQ.mk_jn, PQ.mk_shape, PQ.mk_sz, PQ.mk_sl, PQ.mk_lt, PQ.mk_mode, PQ.mk_eta, M4, mX]; rw [p_un _ _ h2, p_un _ _ h]; rfl
set_option maxRecDepth 4096 in
theorem M4_g (M : MS) {k : Nat} (h : k < 23 ∨ 27 < k) : (M4 M).g k = (M3 M).g k := by
  show (mBg (mBg (M3 M) 5 (M3 M).T) 6 []).g k = _
  rw [mBg_g _ _ _ h, mBg_g _ _ _ h]
set_option maxRecDepth 4096 in
theorem M4_p (M : MS) {p : Nat} (hp : p = 5 ∨ p = 6) : (M4 M).g 25 p = -1 ∧ (M4 M).g 26 p = 0 ∧ (M4 M).g 27 p = 0 ∧ (∀ i, i < 3 → (M4 M).g 23 (3 * p + i) = 0) ∧ ∀ i, i < 3 → (M4 M).g 24 (3 * p + i) = -1 := by
  have e : (M4 M).g = (mBg (mBg (M3 M) 5 (M3 M).T) 6 []).g := rfl
  rw [e]
  generalize M3 M = N
  rcases hp with rfl | rfl
  · refine ⟨rfl, rfl, rfl, fun i hi => ?_, fun i hi => ?_⟩
    · have : i = 0 ∨ i = 1 ∨ i = 2 := by omega
      rcases this with rfl | rfl | rfl <;> rfl
    · have : i = 0 ∨ i = 1 ∨ i = 2 := by omega
      rcases this with rfl | rfl | rfl <;> rfl
  · refine ⟨rfl, rfl, rfl, fun i hi => ?_, fun i hi => ?_⟩
    · have : i = 0 ∨ i = 1 ∨ i = 2 := by omega
      rcases this with rfl | rfl | rfl <;> rfl
    · have : i = 0 ∨ i = 1 ∨ i = 2 := by omega
      rcases this with rfl | rfl | rfl <;> rfl
set_option maxRecDepth 4096 in
theorem Rel.anew {S M d i} {v : Int32} {rq : Nat} {Q : PQ} (h : Rel S M d i) (hq : QM Q (M.g 7)) (hf : Fit Q) : Rel (S4 S v rq Q) (M4 M) ⟨d.n, fun _ => 0, 0, 0, Q.sz, Q.sl, Q.lt⟩ i := by
  have q8 : ∀ k, 8 ≤ k → k ≤ 12 → (S4 S v rq Q).x k 0 = (Sx S v Q).x k 0 := fun k a b => by
    rw [S4_x _ _ _ _ (by omega) (by omega) (by omega)]; unfold S3a; rw [Sy_x, cX_x _ _ (by omega)]
  have sq := (Sx_q S v Q).1
  refine h.anew' (fun q hq => by rw [S4_R, if_neg (by omega)]) (by rw [S4_R, if_pos (by omega)]) (by rw [S4_R, if_pos (by omega)]) (by rw [S4_R, if_pos (by omega)]) (fun k i hk => by rw [S4_x _ _ _ _ (by omega) (by omega) (by omega), S3a_x _ _ _ _ (by omega) (by omega) (by omega)]) ?_ ?_ ?_ ?_ (fun a ha => ?_) ?_ (fun k i hk => by rw [S4_y, S3a_y _ _ _ _ (by omega)]) ?_ rfl rfl rfl (fun k hk => by rw [M4_x _ (by omega) (by omega), M3_x _ (by omega) (by omega)]) ?_ ?_ ?_ ?_ (fun k a b => by rw [M4_g _ (by omega), M3_g _ (by omega)]) (fun p hp => M4_p M hp)
  · unfold S4; rw [cBeg_x _ _ (by omega), cX_x _ _ (by omega), cX_s]
  · unfold S4; rw [cBeg_x _ _ (by omega), cX_s]
  · rw [S4_x _ _ _ _ (by omega) (by omega) (by omega)]; unfold S3a; rw [Sy_x, cX_s]
  · rw [S4_x _ _ _ _ (by omega) (by omega) (by omega)]; unfold S3a; rw [Sy_x, cX_x _ _ (by omega)]; exact (Sx_q S v Q).2
  · have : a = 0 ∨ a = 1 := by omega
    rcases this with rfl | rfl
    · obtain ⟨a1, a2, a3⟩ := cBeg_xi (cCut (S3a S v rq Q) 4 0) 0
      unfold S4
      refine ⟨?_, ?_, ?_, fun i hi => ?_⟩
      · rw [cBeg_x _ _ (by omega), cX_x _ _ (by omega), cX_x _ _ (by omega)]; exact a1
      · rw [cBeg_x _ _ (by omega), cX_x _ _ (by omega), cX_x _ _ (by omega)]; exact a2
      · rw [cBeg_x _ _ (by omega), cX_x _ _ (by omega), cX_x _ _ (by omega)]; exact a3
      · rw [cBeg_g _ _ (by omega), cX_gg, cX_gg]; exact cBeg_gi _ 0 hi
    · obtain ⟨a1, a2, a3⟩ := cBeg_xi (uX (uX (cBeg (cCut (S3a S v rq Q) 4 0) 0) 13 0 0) 14 0 0) 1
      exact ⟨a1, a2, a3, fun i hi => cBeg_gi _ 1 hi⟩
  · unfold S4; rw [cBeg_g _ _ (by omega), cX_gg, cX_gg, cBeg_g _ _ (by omega)]; show (S3a S v rq Q).g 3 0 = _; rw [S3a_g]
  · refine QR.mk' hq hf ⟨?_, ?_, ?_, ?_, ?_⟩ ?_ (fun j hj => ?_)
    · rw [q8 8 (by omega) (by omega)]; exact sq.1
    · rw [q8 9 (by omega) (by omega)]; exact sq.2.1
    · rw [q8 10 (by omega) (by omega)]; exact sq.2.2.1
    · rw [q8 11 (by omega) (by omega)]; exact sq.2.2.2.1
    · rw [q8 12 (by omega) (by omega)]; exact sq.2.2.2.2
    · rw [S4_y]; exact Sy_q _ rq Q
    · rw [M4_g _ (by omega)]; exact mQ_6 M hj
  · rw [M4_x _ (by omega) (by omega)]; simp only [CS.mk_R, CS.mk_cap, CS.mk_x, CS.mk_y, CS.mk_g, CS.mk_eta, MS.mk_x, MS.mk_g, MS.mk_V, MS.mk_T, MS.mk_eta, GD.mk_n, GD.mk_rd, GD.mk_c, GD.mk_tk, GD.mk_sz, GD.mk_sl, GD.mk_lt, GD.mk_eta, PQ.mk_fold, PQ.mk_cmp, PQ.mk_lim, PQ.mk_jn, PQ.mk_shape, PQ.mk_sz, PQ.mk_sl, PQ.mk_lt, PQ.mk_mode, PQ.mk_eta, M3, mX, p_ug]
  · rw [M4_x _ (by omega) (by omega)]; simp only [CS.mk_R, CS.mk_cap, CS.mk_x, CS.mk_y, CS.mk_g, CS.mk_eta, MS.mk_x, MS.mk_g, MS.mk_V, MS.mk_T, MS.mk_eta, GD.mk_n, GD.mk_rd, GD.mk_c, GD.mk_tk, GD.mk_sz, GD.mk_sl, GD.mk_lt, GD.mk_eta, PQ.mk_fold, PQ.mk_cmp, PQ.mk_lim, PQ.mk_jn, PQ.mk_shape, PQ.mk_sz, PQ.mk_sl, PQ.mk_lt, PQ.mk_mode, PQ.mk_eta, M3, mX]; rw [p_un _ _ (by omega), p_ug]
  · simp only [CS.mk_R, CS.mk_cap, CS.mk_x, CS.mk_y, CS.mk_g, CS.mk_eta, MS.mk_x, MS.mk_g, MS.mk_V, MS.mk_T, MS.mk_eta, GD.mk_n, GD.mk_rd, GD.mk_c, GD.mk_tk, GD.mk_sz, GD.mk_sl, GD.mk_lt, GD.mk_eta, PQ.mk_fold, PQ.mk_cmp, PQ.mk_lim, PQ.mk_jn, PQ.mk_shape, PQ.mk_sz, PQ.mk_sl, PQ.mk_lt, PQ.mk_mode, PQ.mk_eta, M4, mX]; rw [p_un _ _ (by omega), p_ug]
  · simp only [CS.mk_R, CS.mk_cap, CS.mk_x, CS.mk_y, CS.mk_g, CS.mk_eta, MS.mk_x, MS.mk_g, MS.mk_V, MS.mk_T, MS.mk_eta, GD.mk_n, GD.mk_rd, GD.mk_c, GD.mk_tk, GD.mk_sz, GD.mk_sl, GD.mk_lt, GD.mk_eta, PQ.mk_fold, PQ.mk_cmp, PQ.mk_lim, PQ.mk_jn, PQ.mk_shape, PQ.mk_sz, PQ.mk_sl, PQ.mk_lt, PQ.mk_mode, PQ.mk_eta, M4, mX, p_ug]
set_option maxRecDepth 4096 in
theorem RM.of_eq {M M' x g} (h : RM M x g) (e : M = M') : RM M' x g := e ▸ h
set_option maxRecDepth 4096 in
theorem c_planT {S n M x1 y1 g1 p s Q} (c1 : RC S x1 y1 g1) (px : PXS S p s Q) (t : TX S M n) {a1 : Int32} {bc bs : Nat} (hbc : 5 ≤ bc) (hbs : 100 ≤ bs) {Φ : Int32 → pK} (hk : a1 ≠ 0 → ∀ v rq x y g, RC (Sy (Sx S v Q) rq Q) x y g → Φ (nI (S.R 5).length) x y g) (ha : a1 = 0 → ∀ v rq x y g, RC (S4 S v rq Q) x y g → Φ 0 x y g) : wX8_planT x1 y1 g1 a1 bc bs Φ := by
  refine ⟨1, 50, 0, 0, by omega, by omega, c_empty c1 t fun v x2 y2 g2 hS rq => ⟨fun z => ?_, fun z => ?_⟩⟩
  · have h3 : RC (S3a S v rq Q) (va_up (sx x1 x2) 15 (va_up ((sx x1 x2) 15) 0 1)) (sy rq y1 y2) g2 := Sy.rc rq c1 px ((Sx.rc c1 px hS).X (k := 15) (i := 0) (v := 1) (by omega))
    refine c_cutTo (m := 0) h3 (q := 4) (by omega) (Nat.zero_le _) fun x y g h4 => c_beginAnew (i := 0) h4 (by omega) fun x y g h5 => ?_
    refine c_beginAnew (i := 1) ((h5.X (k := 13) (i := 0) (v := 0) (by omega)).X (k := 14) (i := 0) (v := 0) (by omega)) (by omega) fun x y g h6 => ?_
    have h7 : RC (S4 S v rq Q) x y g := h6
    have e : x 1 5 = 0 := by rw [h7.len (q := 5) (by omega), S4_R, if_pos (by omega)]; rfl
    show Φ (x 1 5) x y g
    rw [e]
    exact ha z v rq x y g h7
  · have h3 : RC (Sy (Sx S v Q) rq Q) (sx x1 x2) (sy rq y1 y2) g2 := Sy.rc rq c1 px (Sx.rc c1 px hS)
    have e : sx x1 x2 1 5 = nI (S.R 5).length := by rw [h3.len (q := 5) (by omega), Sxy_R]
    show Φ (sx x1 x2 1 5) _ _ _
    rw [e]
    exact hk z v rq _ _ _ h3
