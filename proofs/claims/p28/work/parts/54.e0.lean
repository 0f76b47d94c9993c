abbrev TP (S : CS) (n : Nat) (c : Nat → Nat) : Prop := (n ≤ 60) ∧ (S.x 17 0 = 0) ∧ (S.x 19 0 = nI n) ∧ (n ≤ S.y 9 0) ∧ (S.y 9 0 ≤ 70) ∧ (∀ i, i < n → S.g 3 0 i = nI (c i) ∧ 32 ≤ c i ∧ c i < 127)
set_option maxRecDepth 4096 in
theorem TP.n60 {S : CS} {n : Nat} {c : Nat → Nat} (h_ : TP S n c) : n ≤ 60 := h_.1
set_option maxRecDepth 4096 in
theorem TP.s17 {S : CS} {n : Nat} {c : Nat → Nat} (h_ : TP S n c) : S.x 17 0 = 0 := h_.2.1
set_option maxRecDepth 4096 in
theorem TP.s19 {S : CS} {n : Nat} {c : Nat → Nat} (h_ : TP S n c) : S.x 19 0 = nI n := h_.2.2.1
set_option maxRecDepth 4096 in
theorem TP.cap {S : CS} {n : Nat} {c : Nat → Nat} (h_ : TP S n c) : n ≤ S.y 9 0 := h_.2.2.2.1
set_option maxRecDepth 4096 in
theorem TP.c70 {S : CS} {n : Nat} {c : Nat → Nat} (h_ : TP S n c) : S.y 9 0 ≤ 70 := h_.2.2.2.2.1
set_option maxRecDepth 4096 in
theorem TP.ch {S : CS} {n : Nat} {c : Nat → Nat} (h_ : TP S n c) : ∀ i, i < n → S.g 3 0 i = nI (c i) ∧ 32 ≤ c i ∧ c i < 127 := h_.2.2.2.2.2
def sg (n : Nat) (c : Nat → Nat) (i : Nat) : Nat := if i < n then c i else 32
abbrev PQ : Type := (Nat) × (Nat) × (Int32) × (Nat) × (Nat) × (Nat) × (Nat) × (Nat) × (Nat)
abbrev PQ.mk (a0 : Nat) (a1 : Nat) (a2 : Int32) (a3 : Nat) (a4 : Nat) (a5 : Nat) (a6 : Nat) (a7 : Nat) (a8 : Nat) : PQ := (a0, a1, a2, a3, a4, a5, a6, a7, a8)
abbrev PQ.fold (S : PQ) : Nat := Prod.fst S
abbrev PQ.cmp (S : PQ) : Nat := Prod.fst (Prod.snd S)
abbrev PQ.lim (S : PQ) : Int32 := Prod.fst (Prod.snd (Prod.snd S))
abbrev PQ.jn (S : PQ) : Nat := Prod.fst (Prod.snd (Prod.snd (Prod.snd S)))
abbrev PQ.shape (S : PQ) : Nat := Prod.fst (Prod.snd (Prod.snd (Prod.snd (Prod.snd S))))
abbrev PQ.sz (S : PQ) : Nat := Prod.fst (Prod.snd (Prod.snd (Prod.snd (Prod.snd (Prod.snd S)))))
abbrev PQ.sl (S : PQ) : Nat := Prod.fst (Prod.snd (Prod.snd (Prod.snd (Prod.snd (Prod.snd (Prod.snd S))))))
abbrev PQ.lt (S : PQ) : Nat := Prod.fst (Prod.snd (Prod.snd (Prod.snd (Prod.snd (Prod.snd (Prod.snd (Prod.snd S)))))))
abbrev PQ.mode (S : PQ) : Nat := (Prod.snd (Prod.snd (Prod.snd (Prod.snd (Prod.snd (Prod.snd (Prod.snd (Prod.snd S))))))))
set_option maxRecDepth 4096 in
theorem PQ.mk_fold (a0 : Nat) (a1 : Nat) (a2 : Int32) (a3 : Nat) (a4 : Nat) (a5 : Nat) (a6 : Nat) (a7 : Nat) (a8 : Nat) : (PQ.mk a0 a1 a2 a3 a4 a5 a6 a7 a8).fold = a0 := rfl
set_option maxRecDepth 4096 in
theorem PQ.mk_cmp (a0 : Nat) (a1 : Nat) (a2 : Int32) (a3 : Nat) (a4 : Nat) (a5 : Nat) (a6 : Nat) (a7 : Nat) (a8 : Nat) : (PQ.mk a0 a1 a2 a3 a4 a5 a6 a7 a8).cmp = a1 := rfl
set_option maxRecDepth 4096 in
theorem PQ.mk_lim (a0 : Nat) (a1 : Nat) (a2 : Int32) (a3 : Nat) (a4 : Nat) (a5 : Nat) (a6 : Nat) (a7 : Nat) (a8 : Nat) : (PQ.mk a0 a1 a2 a3 a4 a5 a6 a7 a8).lim = a2 := rfl
set_option maxRecDepth 4096 in
theorem PQ.mk_jn (a0 : Nat) (a1 : Nat) (a2 : Int32) (a3 : Nat) (a4 : Nat) (a5 : Nat) (a6 : Nat) (a7 : Nat) (a8 : Nat) : (PQ.mk a0 a1 a2 a3 a4 a5 a6 a7 a8).jn = a3 := rfl
set_option maxRecDepth 4096 in
theorem PQ.mk_shape (a0 : Nat) (a1 : Nat) (a2 : Int32) (a3 : Nat) (a4 : Nat) (a5 : Nat) (a6 : Nat) (a7 : Nat) (a8 : Nat) : (PQ.mk a0 a1 a2 a3 a4 a5 a6 a7 a8).shape = a4 := rfl
set_option maxRecDepth 4096 in
theorem PQ.mk_sz (a0 : Nat) (a1 : Nat) (a2 : Int32) (a3 : Nat) (a4 : Nat) (a5 : Nat) (a6 : Nat) (a7 : Nat) (a8 : Nat) : (PQ.mk a0 a1 a2 a3 a4 a5 a6 a7 a8).sz = a5 := rfl
set_option maxRecDepth 4096 in
theorem PQ.mk_sl (a0 : Nat) (a1 : Nat) (a2 : Int32) (a3 : Nat) (a4 : Nat) (a5 : Nat) (a6 : Nat) (a7 : Nat) (a8 : Nat) : (PQ.mk a0 a1 a2 a3 a4 a5 a6 a7 a8).sl = a6 := rfl
set_option maxRecDepth 4096 in
theorem PQ.mk_lt (a0 : Nat) (a1 : Nat) (a2 : Int32) (a3 : Nat) (a4 : Nat) (a5 : Nat) (a6 : Nat) (a7 : Nat) (a8 : Nat) : (PQ.mk a0 a1 a2 a3 a4 a5 a6 a7 a8).lt = a7 := rfl
set_option maxRecDepth 4096 in
theorem PQ.mk_mode (a0 : Nat) (a1 : Nat) (a2 : Int32) (a3 : Nat) (a4 : Nat) (a5 : Nat) (a6 : Nat) (a7 : Nat) (a8 : Nat) : (PQ.mk a0 a1 a2 a3 a4 a5 a6 a7 a8).mode = a8 := rfl
set_option maxRecDepth 4096 in
theorem PQ.mk_eta (S : PQ) : PQ.mk S.fold S.cmp S.lim S.jn S.shape S.sz S.sl S.lt S.mode = S := rfl
abbrev FQ (S S' : CS) : Prop := (S'.R = S.R) ∧ (S'.cap = S.cap) ∧ (S'.g = S.g) ∧ (∀ k i, ¬ (8 ≤ k ∧ k ≤ 12 ∧ i = 1) → ¬ ((k = 20 ∨ k = 21) ∧ i = 0) → S'.x k i = S.x k i) ∧ (∀ k i, ¬ (3 ≤ k ∧ k ≤ 6 ∧ i = 1) → S'.y k i = S.y k i)
set_option maxRecDepth 4096 in
theorem FQ.R {S S' : CS} (h_ : FQ S S') : S'.R = S.R := h_.1
set_option maxRecDepth 4096 in
theorem FQ.cap {S S' : CS} (h_ : FQ S S') : S'.cap = S.cap := h_.2.1
set_option maxRecDepth 4096 in
theorem FQ.g {S S' : CS} (h_ : FQ S S') : S'.g = S.g := h_.2.2.1
set_option maxRecDepth 4096 in
theorem FQ.x {S S' : CS} (h_ : FQ S S') : ∀ k i, ¬ (8 ≤ k ∧ k ≤ 12 ∧ i = 1) → ¬ ((k = 20 ∨ k = 21) ∧ i = 0) → S'.x k i = S.x k i := h_.2.2.2.1
set_option maxRecDepth 4096 in
theorem FQ.y {S S' : CS} (h_ : FQ S S') : ∀ k i, ¬ (3 ≤ k ∧ k ≤ 6 ∧ i = 1) → S'.y k i = S.y k i := h_.2.2.2.2
set_option maxRecDepth 4096 in
theorem FQ.rfl' {S} : FQ S S := ⟨rfl, rfl, rfl, fun _ _ _ _ => rfl, fun _ _ _ => rfl⟩
set_option maxRecDepth 4096 in
theorem FQ.trans {S T U} (h : FQ S T) (h2 : FQ T U) : FQ S U := ⟨h2.R.trans h.R, h2.cap.trans h.cap, h2.g.trans h.g, fun k i a b => (h2.x k i a b).trans (h.x k i a b), fun k i a => (h2.y k i a).trans (h.y k i a)⟩
set_option maxRecDepth 4096 in
theorem TP.fr {S S' n c} (h : TP S n c) (f : FQ S S') : TP S' n c :=
  ⟨h.n60, by rw [f.x 17 0 (by omega) (by omega)]; exact h.s17, by rw [f.x 19 0 (by omega) (by omega)]; exact h.s19, by rw [f.y 9 0 (by omega)]; exact h.cap, by rw [f.y 9 0 (by omega)]; exact h.c70, by rw [f.g]; exact h.ch⟩
abbrev PXS (S : CS) (p s : Nat) (Q : PQ) : Prop := (S.x 20 0 = nI p) ∧ (S.x 21 0 = nI s) ∧ (S.x 8 1 = Q.lim) ∧ (S.x 9 1 = nI Q.jn) ∧ (S.x 10 1 = nI Q.sz) ∧ (S.x 11 1 = nI Q.sl) ∧ (S.x 12 1 = nI Q.lt) ∧ (S.y 3 1 = Q.fold) ∧ (S.y 4 1 = Q.cmp) ∧ (S.y 5 1 = Q.shape) ∧ (S.y 6 1 = Q.mode)
set_option maxRecDepth 4096 in
theorem PXS.p {S : CS} {p s : Nat} {Q : PQ} (h_ : PXS S p s Q) : S.x 20 0 = nI p := h_.1
set_option maxRecDepth 4096 in
theorem PXS.s {S : CS} {p s : Nat} {Q : PQ} (h_ : PXS S p s Q) : S.x 21 0 = nI s := h_.2.1
set_option maxRecDepth 4096 in
theorem PXS.lim {S : CS} {p s : Nat} {Q : PQ} (h_ : PXS S p s Q) : S.x 8 1 = Q.lim := h_.2.2.1
set_option maxRecDepth 4096 in
theorem PXS.jn {S : CS} {p s : Nat} {Q : PQ} (h_ : PXS S p s Q) : S.x 9 1 = nI Q.jn := h_.2.2.2.1
set_option maxRecDepth 4096 in
theorem PXS.sz {S : CS} {p s : Nat} {Q : PQ} (h_ : PXS S p s Q) : S.x 10 1 = nI Q.sz := h_.2.2.2.2.1
set_option maxRecDepth 4096 in
theorem PXS.sl {S : CS} {p s : Nat} {Q : PQ} (h_ : PXS S p s Q) : S.x 11 1 = nI Q.sl := h_.2.2.2.2.2.1
set_option maxRecDepth 4096 in
theorem PXS.lt {S : CS} {p s : Nat} {Q : PQ} (h_ : PXS S p s Q) : S.x 12 1 = nI Q.lt := h_.2.2.2.2.2.2.1
set_option maxRecDepth 4096 in
theorem PXS.fold {S : CS} {p s : Nat} {Q : PQ} (h_ : PXS S p s Q) : S.y 3 1 = Q.fold := h_.2.2.2.2.2.2.2.1
set_option maxRecDepth 4096 in
theorem PXS.cmp {S : CS} {p s : Nat} {Q : PQ} (h_ : PXS S p s Q) : S.y 4 1 = Q.cmp := h_.2.2.2.2.2.2.2.2.1
set_option maxRecDepth 4096 in
theorem PXS.shape {S : CS} {p s : Nat} {Q : PQ} (h_ : PXS S p s Q) : S.y 5 1 = Q.shape := h_.2.2.2.2.2.2.2.2.2.1
set_option maxRecDepth 4096 in
theorem PXS.mode {S : CS} {p s : Nat} {Q : PQ} (h_ : PXS S p s Q) : S.y 6 1 = Q.mode := h_.2.2.2.2.2.2.2.2.2.2
set_option maxRecDepth 4096 in
theorem FQ.x20 (S : CS) (v : Int32) : FQ S (uX S 20 0 v) := ⟨rfl, rfl, rfl, fun k i a b => by
  simp only [CS.mk_R, CS.mk_cap, CS.mk_x, CS.mk_y, CS.mk_g, CS.mk_eta, MS.mk_x, MS.mk_g, MS.mk_V, MS.mk_T, MS.mk_eta, GD.mk_n, GD.mk_rd, GD.mk_c, GD.mk_tk, GD.mk_sz, GD.mk_sl, GD.mk_lt, GD.mk_eta, PQ.mk_fold, PQ.mk_cmp, PQ.mk_lim, PQ.mk_jn, PQ.mk_shape, PQ.mk_sz, PQ.mk_sl, PQ.mk_lt, PQ.mk_mode, PQ.mk_eta, uX]
  by_cases e : k = 20
  · subst e; rw [p_ug, p_un _ _ (by omega)]
  · rw [p_un _ _ e], fun _ _ _ => rfl⟩
set_option maxRecDepth 4096 in
theorem FQ.x21 (S : CS) (v : Int32) : FQ S (uX S 21 0 v) := ⟨rfl, rfl, rfl, fun k i a b => by
  simp only [CS.mk_R, CS.mk_cap, CS.mk_x, CS.mk_y, CS.mk_g, CS.mk_eta, MS.mk_x, MS.mk_g, MS.mk_V, MS.mk_T, MS.mk_eta, GD.mk_n, GD.mk_rd, GD.mk_c, GD.mk_tk, GD.mk_sz, GD.mk_sl, GD.mk_lt, GD.mk_eta, PQ.mk_fold, PQ.mk_cmp, PQ.mk_lim, PQ.mk_jn, PQ.mk_shape, PQ.mk_sz, PQ.mk_sl, PQ.mk_lt, PQ.mk_mode, PQ.mk_eta, uX]
  by_cases e : k = 21
  · subst e; rw [p_ug, p_un _ _ (by omega)]
  · rw [p_un _ _ e], fun _ _ _ => rfl⟩
set_option maxRecDepth 4096 in
theorem FQ.xq (S : CS) {j : Nat} (h1 : 8 ≤ j) (h2 : j ≤ 12) (v : Int32) : FQ S (uX S j 1 v) := ⟨rfl, rfl, rfl, fun k i a b => by
  simp only [CS.mk_R, CS.mk_cap, CS.mk_x, CS.mk_y, CS.mk_g, CS.mk_eta, MS.mk_x, MS.mk_g, MS.mk_V, MS.mk_T, MS.mk_eta, GD.mk_n, GD.mk_rd, GD.mk_c, GD.mk_tk, GD.mk_sz, GD.mk_sl, GD.mk_lt, GD.mk_eta, PQ.mk_fold, PQ.mk_cmp, PQ.mk_lim, PQ.mk_jn, PQ.mk_shape, PQ.mk_sz, PQ.mk_sl, PQ.mk_lt, PQ.mk_mode, PQ.mk_eta, uX]
  by_cases e : k = j
  · subst e; rw [p_ug, p_un _ _ (by omega)]
  · rw [p_un _ _ e], fun _ _ _ => rfl⟩
set_option maxRecDepth 4096 in
theorem FQ.yq (S : CS) {j : Nat} (h1 : 3 ≤ j) (h2 : j ≤ 6) (v : Nat) : FQ S (cY S j 1 v) := ⟨rfl, rfl, rfl, fun _ _ _ _ => rfl, fun k i a => by
  simp only [CS.mk_R, CS.mk_cap, CS.mk_x, CS.mk_y, CS.mk_g, CS.mk_eta, MS.mk_x, MS.mk_g, MS.mk_V, MS.mk_T, MS.mk_eta, GD.mk_n, GD.mk_rd, GD.mk_c, GD.mk_tk, GD.mk_sz, GD.mk_sl, GD.mk_lt, GD.mk_eta, PQ.mk_fold, PQ.mk_cmp, PQ.mk_lim, PQ.mk_jn, PQ.mk_shape, PQ.mk_sz, PQ.mk_sl, PQ.mk_lt, PQ.mk_mode, PQ.mk_eta, cY]
  by_cases e : k = j
  · subst e; rw [p_ug, p_un _ _ (by omega)]
  · rw [p_un _ _ e]⟩
set_option maxRecDepth 4096 in
theorem p_chr : ∀ w, w < 127 → (((nI w) &&& 255).toUInt32 % 65536).toInt32 = nI w := by decide
set_option maxRecDepth 4096 in
theorem c_lgth {S n c x y g} (hc : RC S x y g) (t : TP S n c) {Φ : Int32 → Prop} (h : Φ (nI n)) : wJ4_length_8abf5 x y g Φ := by
  unfold wJ4_length_8abf5 wJ5_length_8abf5
  rw [hc.hx 19 (by omega), t.s19]; exact h
set_option maxRecDepth 4096 in
theorem c_charAt {S n c x y g} (hc : RC S x y g) (t : TP S n c) {i : Nat} (hi : i < n) {Φ : Int32 → Prop} (h : Φ (nI (c i))) : wJ4_charAt_5068e x y g (nI i) Φ := by
  have h1 := t.n60
  have h2 := t.cap
  have h3 := t.c70
  unfold wJ4_charAt_5068e wJ5_charAt_5068e
  rw [hc.hx 17 (by omega), t.s17, hc.hx 19 (by omega), t.s19, hc.hy 9 (by omega), hc.hg 3 (by omega)]
  rintro _ rfl
  rw [p_shr0, if_neg (nI_nlt h2 (by omega))]
  rintro _ rfl
  refine ⟨fun e => absurd e (nI_pos (by omega)), fun _ => ⟨fun _ => ⟨fun _ => ⟨vp_in_nI (by omega) (by omega), ?_⟩, fun e => absurd rfl e⟩, fun e => absurd (nI_lt hi (by omega)) e⟩⟩
  obtain ⟨e, _, hc3⟩ := t.ch i hi
  rw [p_cl (by omega), e, p_chr _ hc3]
  exact h
set_option maxRecDepth 4096 in
theorem c_sign {S n c x y g} (hc : RC S x y g) (t : TP S n c) {i : Nat} (hi : i < 2 ^ 20) {Φ : Int32 → Prop} (h : Φ (nI (sg n c i))) : wX3_signAt x y g (nI i) Φ := by
  have h1 := t.n60
  unfold wX3_signAt
  unfold sg at h
  refine ⟨fun e => absurd e (nI_pos (by omega)), fun _ => c_lgth hc t ⟨fun e => ?_, fun e => ?_⟩⟩
  · rw [nI_leI (by omega) (by omega)] at e
    rw [if_neg (by omega)] at h
    exact h
  · rw [nI_leI (by omega) (by omega)] at e
    rw [if_pos (by omega)] at h
    exact c_charAt hc t (by omega) h
set_option maxRecDepth 4096 in
theorem sg_lt {S n c} (t : TP S n c) (i : Nat) : 32 ≤ sg n c i ∧ sg n c i < 127 := by
  unfold sg
  split
  · next h => exact (t.ch i h).2
  · omega
set_option maxRecDepth 4096 in
theorem c_end {S n c x y g} (hc : RC S x y g) (t : TP S n c) {i : Nat} (hi : i < 2 ^ 20) {Φ : Int32 → Prop} (h1 : sg n c i = 32 → Φ 1) (h0 : sg n c i ≠ 32 → Φ 0) : wX3_isEndOfPart x y g (nI i) Φ := by
  have h := sg_lt t i
  refine c_sign hc t hi ⟨fun e => h1 ?_, fun e => h0 fun q => e (by rw [q]; rfl)⟩
  have := (nI_eq (a := sg n c i) (b := 32) (by omega) (by omega)).1 e
  exact this
def skp (n : Nat) (c : Nat → Nat) : Nat → Nat → Nat
  | 0, p => p
  | m + 1, p => if p < n ∧ c p = 32 then skp n c m (p + 1) else p
def skip (n : Nat) (c : Nat → Nat) (p : Nat) : Nat := skp n c (n - p) p
set_option maxRecDepth 4096 in
theorem skp_spec (n : Nat) (c : Nat → Nat) : ∀ (m p : Nat), n ≤ p + m → (p ≤ skp n c m p ∧ (p ≤ n → skp n c m p ≤ n) ∧ (skp n c m p < n → c (skp n c m p) ≠ 32)) := by
  intro m
  induction m with
  | zero => intro p h; exact ⟨Nat.le_refl _, fun h => h, fun h2 => by simp only [CS.mk_R, CS.mk_cap, CS.mk_x, CS.mk_y, CS.mk_g, CS.mk_eta, MS.mk_x, MS.mk_g, MS.mk_V, MS.mk_T, MS.mk_eta, GD.mk_n, GD.mk_rd, GD.mk_c, GD.mk_tk, GD.mk_sz, GD.mk_sl, GD.mk_lt, GD.mk_eta, PQ.mk_fold, PQ.mk_cmp, PQ.mk_lim, PQ.mk_jn, PQ.mk_shape, PQ.mk_sz, PQ.mk_sl, PQ.mk_lt, PQ.mk_mode, PQ.mk_eta, skp] at h2; omega⟩
  | succ m ih =>
    intro p h
    simp only [CS.mk_R, CS.mk_cap, CS.mk_x, CS.mk_y, CS.mk_g, CS.mk_eta, MS.mk_x, MS.mk_g, MS.mk_V, MS.mk_T, MS.mk_eta, GD.mk_n, GD.mk_rd, GD.mk_c, GD.mk_tk, GD.mk_sz, GD.mk_sl, GD.mk_lt, GD.mk_eta, PQ.mk_fold, PQ.mk_cmp, PQ.mk_lim, PQ.mk_jn, PQ.mk_shape, PQ.mk_sz, PQ.mk_sl, PQ.mk_lt, PQ.mk_mode, PQ.mk_eta, skp]
    by_cases e : p < n ∧ c p = 32
    · rw [if_pos e]
      obtain ⟨a, b, d⟩ := ih (p + 1) (by omega)
      exact ⟨by omega, fun _ => b (by omega), d⟩
    · rw [if_neg e]
      exact ⟨Nat.le_refl _, fun h => h, fun h2 q => e ⟨h2, q⟩⟩
set_option maxRecDepth 4096 in
theorem skip_step {n : Nat} {c : Nat → Nat} {p : Nat} (h : p < n) (h2 : c p = 32) : skip n c p = skip n c (p + 1) := by
  unfold skip
  rw [show n - p = (n - (p + 1)) + 1 by omega, skp, if_pos ⟨h, h2⟩]
set_option maxRecDepth 4096 in
theorem skip_stop {n : Nat} {c : Nat → Nat} {p : Nat} (h : ¬ (p < n ∧ c p = 32)) : skip n c p = p := by
  unfold skip
  cases e : n - p with
  | zero => rfl
  | succ m => rw [skp, if_neg h]
set_option maxRecDepth 4096 in
theorem skip_le {n : Nat} {c : Nat → Nat} {p : Nat} : p ≤ skip n c p ∧ (p ≤ n → skip n c p ≤ n) ∧ (skip n c p < n → c (skip n c p) ≠ 32) := skp_spec n c (n - p) p (by omega)
set_option maxRecDepth 4096 in
theorem PXS.setp {S p s Q} (h : PXS S p s Q) (p' : Nat) : PXS (uX S 20 0 (nI p')) p' s Q :=
  ⟨by simp only [CS.mk_R, CS.mk_cap, CS.mk_x, CS.mk_y, CS.mk_g, CS.mk_eta, MS.mk_x, MS.mk_g, MS.mk_V, MS.mk_T, MS.mk_eta, GD.mk_n, GD.mk_rd, GD.mk_c, GD.mk_tk, GD.mk_sz, GD.mk_sl, GD.mk_lt, GD.mk_eta, PQ.mk_fold, PQ.mk_cmp, PQ.mk_lim, PQ.mk_jn, PQ.mk_shape, PQ.mk_sz, PQ.mk_sl, PQ.mk_lt, PQ.mk_mode, PQ.mk_eta, uX, p_ug], h.s, h.lim, h.jn, h.sz, h.sl, h.lt, h.fold, h.cmp, h.shape, h.mode⟩
set_option maxRecDepth 4096 in
theorem c_skipL {n : Nat} {c : Nat → Nat} {s : Nat} {Q : PQ} {S0 : CS} {Φ : pK} : ∀ (m f p : Nat) (S : CS) (x : Nat → Nat → Int32) (y : Nat → Nat → Nat) (g : Nat → Nat → Nat → Int32), RC S x y g → TP S n c → FQ S0 S → PXS S p s Q → p + m = n → m < f → (∀ S' x y g, RC S' x y g → FQ S0 S' → PXS S' (skip n c p) s Q → Φ x y g) → lX3_skipBlanks_0 Φ f x y g := by
  intro m
  induction m with
  | zero =>
    intro f p S x y g hc t fq px hp hf hΦ
    obtain ⟨f, rfl⟩ : ∃ n', f = n' + 1 := ⟨f - 1, by omega⟩
    have h1 := t.n60
    refine c_lgth hc t ⟨fun _ => ?_, fun e => ?_⟩
    · rw [skip_stop (by omega)] at hΦ
      exact hΦ S x y g hc fq px
    · rw [hc.hx 20 (by omega), px.p] at e
      exact absurd (nI_le (by omega) (by omega)) e
  | succ m ih =>
    intro f p S x y g hc t fq px hp hf hΦ
    obtain ⟨f, rfl⟩ : ∃ n', f = n' + 1 := ⟨f - 1, by omega⟩
    have h1 := t.n60
    refine c_lgth hc t ⟨fun e => ?_, fun _ => ?_⟩
    · rw [hc.hx 20 (by omega), px.p] at e
      exact absurd e (nI_ge (by omega) (by omega))
    · rw [hc.hx 20 (by omega), px.p]
      refine c_charAt hc t (by omega) ⟨fun e => ?_, fun e => ?_⟩
      · have e2 : c p = 32 := (nI_eq (b := 32) (by have := (t.ch p (by omega)).2; omega) (by omega)).1 e
        rw [skip_step (by omega) e2] at hΦ
        have h5 := hc.X (k := 20) (i := 0) (v := nI (p + 1)) (by omega)
        rw [hc.hx 20 (by omega)] at h5
        rw [nI_1]
        exact ih f (p + 1) _ _ _ _ h5 (t.fr (FQ.x20 S _)) (fq.trans (FQ.x20 S _)) (px.setp (p + 1)) (by omega) (by omega) hΦ
      · rw [skip_stop (fun q => e (by rw [q.2]; rfl))] at hΦ
        exact hΦ S x y g hc fq px
set_option maxRecDepth 4096 in
theorem c_skip {S n c p s Q x y g} (hc : RC S x y g) (t : TP S n c) (px : PXS S p s Q) (hp : p ≤ n) {Φ : pK} (hΦ : ∀ S' x y g, RC S' x y g → FQ S S' → PXS S' (skip n c p) s Q → Φ x y g) : wX3_skipBlanks x y g Φ :=
  ⟨n - p + 1, c_skipL (n - p) _ p S x y g hc t FQ.rfl' px (by omega) (by omega) hΦ⟩
def spN (k : Nat) : List Nat := ([[115, 117, 109], [99, 111, 117, 110, 116], [109, 97, 120], [105, 102], [60], [61], [62], [106, 111, 105, 110], [102, 105, 120, 101, 100], [115, 108, 105, 100, 105, 110, 103], [115, 101, 115, 115, 105, 111, 110], [108, 97, 116, 101], [97, 110, 101, 119], [100, 105, 102, 102], [98, 97, 99, 107]] : List (List Nat)).getD k []
def lcp (f : Nat → Nat) : List Nat → Nat → Nat
  | [], _ => 0
  | w :: ws, p => if f p = w then lcp f ws (p + 1) + 1 else 0
set_option maxRecDepth 4096 in
theorem lcp_le (f : Nat → Nat) : ∀ (ws : List Nat) (p : Nat), lcp f ws p ≤ ws.length := by
  intro ws
  induction ws with
  | nil => intro p; exact Nat.le_refl _
  | cons w ws ih =>
    intro p
    simp only [CS.mk_R, CS.mk_cap, CS.mk_x, CS.mk_y, CS.mk_g, CS.mk_eta, MS.mk_x, MS.mk_g, MS.mk_V, MS.mk_T, MS.mk_eta, GD.mk_n, GD.mk_rd, GD.mk_c, GD.mk_tk, GD.mk_sz, GD.mk_sl, GD.mk_lt, GD.mk_eta, PQ.mk_fold, PQ.mk_cmp, PQ.mk_lim, PQ.mk_jn, PQ.mk_shape, PQ.mk_sz, PQ.mk_sl, PQ.mk_lt, PQ.mk_mode, PQ.mk_eta, lcp, List.length_cons]
    have := ih (p + 1)
    split <;> omega
set_option maxRecDepth 4096 in
theorem sp_ok : ∀ k, k < 15 → wLen k = (spN k).length ∧ ∀ i, i < (spN k).length → ((((wSpell k).getD i 0) &&& 255).toUInt32 % 65536).toInt32 = nI ((spN k).getD i 0) ∧ (spN k).getD i 0 < 127 := by decide
set_option maxRecDepth 4096 in
theorem spN_len : ∀ k, k < 15 → 1 ≤ (spN k).length ∧ (spN k).length ≤ 7 := by decide
set_option maxRecDepth 4096 in
theorem c_wlen {x y g k} (hk : k < 15) {Φ : Int32 → Prop} (h : Φ (nI (spN k).length)) : wJ0_length_8abf5 x y g k Φ := by
  show Φ (nI (wLen k) >>> ((0 : Int32) &&& 31))
  rw [p_shr0, (sp_ok k hk).1]; exact h
set_option maxRecDepth 4096 in
theorem c_wchar {x y g k j} (hk : k < 15) (hj : j < (spN k).length) {Φ : Int32 → Prop} (h : Φ (nI ((spN k).getD j 0))) : wJ0_charAt_5068e x y g k (nI j) Φ := by
  obtain ⟨hl, hs⟩ := sp_ok k hk
  have hl7 := spN_len k hk
  unfold wJ0_charAt_5068e wJ0_isLatin1_aae02 wJ1_charAt_3b067 wJ0_checkIndex_df160 wJ3_checkIndex_8e157
  rw [hl]
  refine ⟨fun e => absurd e (by decide), fun _ => ⟨fun e => absurd e (nI_pos (by omega)), fun _ => ⟨fun _ => ⟨vp_in_nI (by omega) (by omega), ?_⟩, fun e => absurd (nI_lt (by omega) (by omega)) e⟩⟩⟩
  rw [p_cl (by omega), (hs j hj).1]; exact h
set_option maxRecDepth 4096 in
theorem c_alikeL {S n c x y g} (hc : RC S x y g) (t : TP S n c) {k p : Nat} (hk : k < 15) (hp : p ≤ 60) (h20 : S.x 20 0 = nI p) {Φ : Int32 → Prop} (hΦ : Φ (nI (lcp (sg n c) (spN k) p))) : ∀ (ws : List Nat) (f j : Nat), (spN k).drop j = ws → j + ws.length = (spN k).length → j + lcp (sg n c) ws (p + j) = lcp (sg n c) (spN k) p → ws.length < f → lX3_howFarAlike_2 Φ f x y g k (nI j) := by
  obtain ⟨hl, hs⟩ := sp_ok k hk
  have hl7 := spN_len k hk
  intro ws
  induction ws with
  | nil =>
    intro f j hd hj he hf
    obtain ⟨f, rfl⟩ : ∃ n', f = n' + 1 := ⟨f - 1, by omega⟩
    simp only [CS.mk_R, CS.mk_cap, CS.mk_x, CS.mk_y, CS.mk_g, CS.mk_eta, MS.mk_x, MS.mk_g, MS.mk_V, MS.mk_T, MS.mk_eta, GD.mk_n, GD.mk_rd, GD.mk_c, GD.mk_tk, GD.mk_sz, GD.mk_sl, GD.mk_lt, GD.mk_eta, PQ.mk_fold, PQ.mk_cmp, PQ.mk_lim, PQ.mk_jn, PQ.mk_shape, PQ.mk_sz, PQ.mk_sl, PQ.mk_lt, PQ.mk_mode, PQ.mk_eta, List.length_nil, Nat.add_zero] at hj
    simp only [CS.mk_R, CS.mk_cap, CS.mk_x, CS.mk_y, CS.mk_g, CS.mk_eta, MS.mk_x, MS.mk_g, MS.mk_V, MS.mk_T, MS.mk_eta, GD.mk_n, GD.mk_rd, GD.mk_c, GD.mk_tk, GD.mk_sz, GD.mk_sl, GD.mk_lt, GD.mk_eta, PQ.mk_fold, PQ.mk_cmp, PQ.mk_lim, PQ.mk_jn, PQ.mk_shape, PQ.mk_sz, PQ.mk_sl, PQ.mk_lt, PQ.mk_mode, PQ.mk_eta, lcp, Nat.add_zero] at he
    refine c_wlen hk ⟨fun _ => ?_, fun e => absurd (nI_le (by omega) (by omega)) e⟩
    rw [he]; exact hΦ
  | cons w ws ih =>
    intro f j hd hj he hf
    simp only [CS.mk_R, CS.mk_cap, CS.mk_x, CS.mk_y, CS.mk_g, CS.mk_eta, MS.mk_x, MS.mk_g, MS.mk_V, MS.mk_T, MS.mk_eta, GD.mk_n, GD.mk_rd, GD.mk_c, GD.mk_tk, GD.mk_sz, GD.mk_sl, GD.mk_lt, GD.mk_eta, PQ.mk_fold, PQ.mk_cmp, PQ.mk_lim, PQ.mk_jn, PQ.mk_shape, PQ.mk_sz, PQ.mk_sl, PQ.mk_lt, PQ.mk_mode, PQ.mk_eta, List.length_cons] at hj hf
    obtain ⟨f, rfl⟩ : ∃ n', f = n' + 1 := ⟨f - 1, by omega⟩
    have hw : (spN k).getD j 0 = w := by
      have : (spN k)[j]? = some w := by
        have := congrArg (fun l => l[0]?) hd
        simpa [List.getElem?_drop] using this
      simp [CS.mk_R, CS.mk_cap, CS.mk_x, CS.mk_y, CS.mk_g, CS.mk_eta, MS.mk_x, MS.mk_g, MS.mk_V, MS.mk_T, MS.mk_eta, GD.mk_n, GD.mk_rd, GD.mk_c, GD.mk_tk, GD.mk_sz, GD.mk_sl, GD.mk_lt, GD.mk_eta, PQ.mk_fold, PQ.mk_cmp, PQ.mk_lim, PQ.mk_jn, PQ.mk_shape, PQ.mk_sz, PQ.mk_sl, PQ.mk_lt, PQ.mk_mode, PQ.mk_eta, List.getD, this]
    have hd2 : (spN k).drop (j + 1) = ws := by
      have := congrArg List.tail hd
      simpa using this
    refine c_wlen hk ⟨fun e => absurd e (nI_ge (by omega) (by omega)), fun _ => ?_⟩
    rw [hc.hx 20 (by omega), h20, nI_add]
    refine c_sign hc t (by omega) (c_wchar hk (by omega) ?_)
    obtain ⟨s1, s2⟩ := hs j (by omega)
    have hsg := sg_lt t (p + j)
    rw [hw]
    rw [hw] at s2
    simp only [CS.mk_R, CS.mk_cap, CS.mk_x, CS.mk_y, CS.mk_g, CS.mk_eta, MS.mk_x, MS.mk_g, MS.mk_V, MS.mk_T, MS.mk_eta, GD.mk_n, GD.mk_rd, GD.mk_c, GD.mk_tk, GD.mk_sz, GD.mk_sl, GD.mk_lt, GD.mk_eta, PQ.mk_fold, PQ.mk_cmp, PQ.mk_lim, PQ.mk_jn, PQ.mk_shape, PQ.mk_sz, PQ.mk_sl, PQ.mk_lt, PQ.mk_mode, PQ.mk_eta, lcp] at he
    refine ⟨fun e => ?_, fun e => ?_⟩
    · rintro _ rfl
      have e2 : sg n c (p + j) = w := (nI_eq (by omega) (by omega)).1 e
      rw [if_pos e2] at he
      rw [nI_1]
      exact ih f (j + 1) hd2 (by omega) (by rw [← he, show p + (j + 1) = p + j + 1 by omega]; omega) (by omega)
    · rw [if_neg (fun q => e (by rw [q]))] at he
      rw [show j = lcp (sg n c) (spN k) p by omega]; exact hΦ
set_option maxRecDepth 4096 in
theorem c_alike {S n c x y g} (hc : RC S x y g) (t : TP S n c) {k p : Nat} (hk : k < 15) (hp : p ≤ 60) (h20 : S.x 20 0 = nI p) {Φ : Int32 → Prop} (hΦ : Φ (nI (lcp (sg n c) (spN k) p))) : wX3_howFarAlike x y g k Φ :=
  ⟨(spN k).length + 1, c_alikeL hc t hk hp h20 hΦ (spN k) _ 0 rfl (by omega) (by rw [Nat.zero_add, Nat.add_zero]) (by omega)⟩
abbrev may (s k : Nat) : Prop := (((wStages k) >>> (nI s &&& 31)) &&& 1) = 1
abbrev wFull (f : Nat → Nat) (p k : Nat) : Prop := lcp f (spN k) p = (spN k).length ∧ f (p + (spN k).length) = 32
def rwF (f : Nat → Nat) (s p : Nat) : Nat → Nat → Nat → Nat ⊕ Nat
  | 0, _, b => .inr (p + b)
  | m + 1, k, b => if may s k then (if wFull f p k then .inl k else rwF f s p m (k + 1) (max b (lcp f (spN k) p))) else rwF f s p m (k + 1) b
def rw0 (f : Nat → Nat) (s p : Nat) : Nat ⊕ Nat := rwF f s p 15 0 0
set_option maxRecDepth 4096 in
theorem rwF_a {f : Nat → Nat} {s p k0 : Nat} (h0 : may s k0) (hf : wFull f p k0) (ho : ∀ k, k < 15 → may s k → k ≠ k0 → ¬ wFull f p k) : ∀ (m k b : Nat), k + m = 15 → k ≤ k0 → k0 < 15 → rwF f s p m k b = .inl k0 := by
  intro m
  induction m with
  | zero => intro k b h1 h2 h3; omega
  | succ m ih =>
    intro k b h1 h2 h3
    simp only [CS.mk_R, CS.mk_cap, CS.mk_x, CS.mk_y, CS.mk_g, CS.mk_eta, MS.mk_x, MS.mk_g, MS.mk_V, MS.mk_T, MS.mk_eta, GD.mk_n, GD.mk_rd, GD.mk_c, GD.mk_tk, GD.mk_sz, GD.mk_sl, GD.mk_lt, GD.mk_eta, PQ.mk_fold, PQ.mk_cmp, PQ.mk_lim, PQ.mk_jn, PQ.mk_shape, PQ.mk_sz, PQ.mk_sl, PQ.mk_lt, PQ.mk_mode, PQ.mk_eta, rwF]
    by_cases e : k = k0
    · subst e; rw [if_pos h0, if_pos hf]
    · by_cases c : may s k
      · rw [if_pos c, if_neg (ho k (by omega) c e)]; exact ih _ _ (by omega) (by omega) h3
      · rw [if_neg c]; exact ih _ _ (by omega) (by omega) h3
set_option maxRecDepth 4096 in
theorem rwF_b {f : Nat → Nat} {s p M : Nat} (ho : ∀ k, k < 15 → may s k → ¬ wFull f p k) (hM : ∀ k, k < 15 → may s k → lcp f (spN k) p ≤ M) : ∀ (m k b : Nat), k + m = 15 → b ≤ M → (b = M ∨ ∃ k', k ≤ k' ∧ k' < 15 ∧ may s k' ∧ lcp f (spN k') p = M) → rwF f s p m k b = .inr (p + M) := by
  intro m
  induction m with
  | zero =>
    intro k b h1 h2 h3
    simp only [CS.mk_R, CS.mk_cap, CS.mk_x, CS.mk_y, CS.mk_g, CS.mk_eta, MS.mk_x, MS.mk_g, MS.mk_V, MS.mk_T, MS.mk_eta, GD.mk_n, GD.mk_rd, GD.mk_c, GD.mk_tk, GD.mk_sz, GD.mk_sl, GD.mk_lt, GD.mk_eta, PQ.mk_fold, PQ.mk_cmp, PQ.mk_lim, PQ.mk_jn, PQ.mk_shape, PQ.mk_sz, PQ.mk_sl, PQ.mk_lt, PQ.mk_mode, PQ.mk_eta, rwF]
    rcases h3 with e | ⟨k', q1, q2, _⟩
    · rw [e]
    · omega
  | succ m ih =>
    intro k b h1 h2 h3
    simp only [CS.mk_R, CS.mk_cap, CS.mk_x, CS.mk_y, CS.mk_g, CS.mk_eta, MS.mk_x, MS.mk_g, MS.mk_V, MS.mk_T, MS.mk_eta, GD.mk_n, GD.mk_rd, GD.mk_c, GD.mk_tk, GD.mk_sz, GD.mk_sl, GD.mk_lt, GD.mk_eta, PQ.mk_fold, PQ.mk_cmp, PQ.mk_lim, PQ.mk_jn, PQ.mk_shape, PQ.mk_sz, PQ.mk_sl, PQ.mk_lt, PQ.mk_mode, PQ.mk_eta, rwF]
    by_cases c : may s k
    · have := hM k (by omega) c
      rw [if_pos c, if_neg (ho k (by omega) c)]
      refine ih _ _ (by omega) (by omega) ?_
      rcases h3 with e | ⟨k', q1, q2, q3, q4⟩
      · left; omega
      · by_cases e : k' = k
        · subst e; left; omega
        · right; exact ⟨k', by omega, q2, q3, q4⟩
    · rw [if_neg c]
      refine ih _ _ (by omega) h2 ?_
      rcases h3 with e | ⟨k', q1, q2, q3, q4⟩
      · exact .inl e
      · by_cases e : k' = k
        · subst e; exact absurd q3 c
        · right; exact ⟨k', by omega, q2, q3, q4⟩
set_option maxRecDepth 4096 in
theorem full_pos {f : Nat → Nat} {p k : Nat} (hk : k < 15) (h : wFull f p k) : 1 ≤ lcp f (spN k) p := by
  have := (spN_len k hk).1
  rw [h.1]; exact this
set_option maxRecDepth 4096 in
theorem rw_one {f : Nat → Nat} {s p k0 : Nat} (hk : k0 < 15) (h0 : may s k0) (ho : ∀ k, k < 15 → may s k → k ≠ k0 → lcp f (spN k) p = 0) : rw0 f s p = if wFull f p k0 then .inl k0 else .inr (p + lcp f (spN k0) p) := by
  have hof : ∀ k, k < 15 → may s k → k ≠ k0 → ¬ wFull f p k := fun k h1 h2 h3 h4 => by
    have := full_pos h1 h4
    rw [ho k h1 h2 h3] at this
    omega
  by_cases c : wFull f p k0
  · rw [if_pos c]; exact rwF_a h0 c hof 15 0 0 (by omega) (by omega) hk
  · rw [if_neg c]
    refine rwF_b (fun k h1 h2 => ?_) (fun k h1 h2 => ?_) 15 0 0 (by omega) (by omega) (.inr ⟨k0, by omega, hk, h0, rfl⟩)
    · by_cases e : k = k0
      · rw [e]; exact c
      · exact hof k h1 h2 e
    · by_cases e : k = k0
      · rw [e]; exact Nat.le_refl _
      · rw [ho k h1 h2 e]; exact Nat.zero_le _
set_option maxRecDepth 4096 in
theorem rw_none {f : Nat → Nat} {s p : Nat} (ho : ∀ k, k < 15 → may s k → lcp f (spN k) p = 0) : rw0 f s p = .inr p := by
  have := rwF_b (f := f) (s := s) (p := p) (M := 0) (fun k h1 h2 h3 => by have := full_pos h1 h3; rw [ho k h1 h2] at this; omega) (fun k h1 h2 => by rw [ho k h1 h2]; exact Nat.le_refl _) 15 0 0 (by omega) (by omega) (.inl rfl)
  exact this
set_option maxRecDepth 4096 in
theorem rw_two {f : Nat → Nat} {s p k0 k1 : Nat} (hk : k0 < 15) (h0 : may s k0) (ho : ∀ k, k < 15 → may s k → k ≠ k0 → k ≠ k1 → lcp f (spN k) p = 0) (h1 : lcp f (spN k1) p ≤ lcp f (spN k0) p) (h2 : lcp f (spN k1) p < (spN k1).length) : rw0 f s p = if wFull f p k0 then .inl k0 else .inr (p + lcp f (spN k0) p) := by
  have hof : ∀ k, k < 15 → may s k → k ≠ k0 → ¬ wFull f p k := fun k g1 g2 g3 g4 => by
    by_cases e : k = k1
    · subst e; have := g4.1; omega
    · have := full_pos g1 g4
      rw [ho k g1 g2 g3 e] at this
      omega
  by_cases c : wFull f p k0
  · rw [if_pos c]; exact rwF_a h0 c hof 15 0 0 (by omega) (by omega) hk
  · rw [if_neg c]
    refine rwF_b (fun k g1 g2 => ?_) (fun k g1 g2 => ?_) 15 0 0 (by omega) (by omega) (.inr ⟨k0, by omega, hk, h0, rfl⟩)
    · by_cases e : k = k0
      · rw [e]; exact c
      · exact hof k g1 g2 e
    · by_cases e : k = k0
      · rw [e]; exact Nat.le_refl _
      · by_cases e2 : k = k1
        · rw [e2]; exact h1
        · rw [ho k g1 g2 e e2]; exact Nat.zero_le _
def wN (k : Nat) : Nat := ([1, 1, 1, 2, 3, 3, 3, 5, 6, 6, 6, 9, 11, 11, 11] : List Nat).getD k 0
set_option maxRecDepth 4096 in
theorem wN_ok : ∀ k, k < 15 → wNext k = nI (wN k) ∧ wN k ≤ 11 := by decide
def twQ (s k : Nat) (Q : PQ) : PQ := if s = 0 then (PQ.mk (k) Q.cmp Q.lim Q.jn Q.shape Q.sz Q.sl Q.lt Q.mode) else if s = 2 then (PQ.mk Q.fold (k) Q.lim Q.jn Q.shape Q.sz Q.sl Q.lt Q.mode) else if k = 7 then (PQ.mk Q.fold Q.cmp Q.lim (1) Q.shape Q.sz Q.sl Q.lt Q.mode) else if wN k = 6 then (PQ.mk Q.fold Q.cmp Q.lim Q.jn (k) Q.sz Q.sl Q.lt Q.mode) else if wN k = 11 then (PQ.mk Q.fold Q.cmp Q.lim Q.jn Q.shape Q.sz Q.sl Q.lt (k)) else Q
set_option maxRecDepth 4096 in
theorem c_takeWord {S p s Q x y g} (hc : RC S x y g) (px : PXS S p s Q) (hs : s ≤ 11) {k : Nat} (hk : k < 15) {Φ : pK} (hΦ : ∀ S' x y g, RC S' x y g → FQ S S' → PXS S' p (wN k) (twQ s k Q) → Φ x y g) : wX3_takeWord x y g k Φ := by
  obtain ⟨w1, w2⟩ := wN_ok k hk
  unfold wX3_takeWord
  rw [hc.hx 21 (by omega), px.s, w1]
  have e21 : ∀ S x y g, RC S x y g → S.x 21 = S.x 21 → RC (uX S 21 0 (nI (wN k))) (va_up x 21 (va_up (S.x 21) 0 (nI (wN k)))) y g := fun S x y g h _ => by
    have := h.X (k := 21) (i := 0) (v := nI (wN k)) (by omega)
    rwa [h.hx 21 (by omega)] at this
  have z0 : nI s = 0 ↔ s = 0 := nI_eq (b := 0) (by omega) (by omega)
  have z2 : nI s = 2 ↔ s = 2 := nI_eq (b := 2) (by omega) (by omega)
  have z6 : nI (wN k) = 6 ↔ wN k = 6 := nI_eq (b := 6) (by omega) (by omega)
  have z11 : nI (wN k) = 11 ↔ wN k = 11 := nI_eq (b := 11) (by omega) (by omega)
  refine ⟨fun c => ?_, fun c => ⟨fun c2 => ?_, fun c2 => ⟨fun c7 => ?_, fun c7 => ⟨fun c6 => ?_, fun c6 => ⟨fun c11 => ?_, fun c11 => ?_⟩⟩⟩⟩⟩
  · have h1 := hc.Y (k := 3) (i := 1) (v := k) (by omega)
    have h2 := e21 _ _ _ _ h1 rfl
    rw [z0] at c
    refine hΦ _ _ _ _ h2 ((FQ.yq S (by omega) (by omega) k).trans (FQ.x21 _ _)) ?_
    unfold twQ
    rw [if_pos c]
    exact ⟨px.p, by simp only [CS.mk_R, CS.mk_cap, CS.mk_x, CS.mk_y, CS.mk_g, CS.mk_eta, MS.mk_x, MS.mk_g, MS.mk_V, MS.mk_T, MS.mk_eta, GD.mk_n, GD.mk_rd, GD.mk_c, GD.mk_tk, GD.mk_sz, GD.mk_sl, GD.mk_lt, GD.mk_eta, PQ.mk_fold, PQ.mk_cmp, PQ.mk_lim, PQ.mk_jn, PQ.mk_shape, PQ.mk_sz, PQ.mk_sl, PQ.mk_lt, PQ.mk_mode, PQ.mk_eta, uX, p_ug], px.lim, px.jn, px.sz, px.sl, px.lt, by simp only [CS.mk_R, CS.mk_cap, CS.mk_x, CS.mk_y, CS.mk_g, CS.mk_eta, MS.mk_x, MS.mk_g, MS.mk_V, MS.mk_T, MS.mk_eta, GD.mk_n, GD.mk_rd, GD.mk_c, GD.mk_tk, GD.mk_sz, GD.mk_sl, GD.mk_lt, GD.mk_eta, PQ.mk_fold, PQ.mk_cmp, PQ.mk_lim, PQ.mk_jn, PQ.mk_shape, PQ.mk_sz, PQ.mk_sl, PQ.mk_lt, PQ.mk_mode, PQ.mk_eta, uX, cY, p_ug], px.cmp, px.shape, px.mode⟩
  · rw [z0] at c
    rw [z2] at c2
    have h1 := hc.Y (k := 4) (i := 1) (v := k) (by omega)
    have h2 := e21 _ _ _ _ h1 rfl
    refine hΦ _ _ _ _ h2 ((FQ.yq S (by omega) (by omega) k).trans (FQ.x21 _ _)) ?_
    unfold twQ
    rw [if_neg c, if_pos c2]
    exact ⟨px.p, by simp only [CS.mk_R, CS.mk_cap, CS.mk_x, CS.mk_y, CS.mk_g, CS.mk_eta, MS.mk_x, MS.mk_g, MS.mk_V, MS.mk_T, MS.mk_eta, GD.mk_n, GD.mk_rd, GD.mk_c, GD.mk_tk, GD.mk_sz, GD.mk_sl, GD.mk_lt, GD.mk_eta, PQ.mk_fold, PQ.mk_cmp, PQ.mk_lim, PQ.mk_jn, PQ.mk_shape, PQ.mk_sz, PQ.mk_sl, PQ.mk_lt, PQ.mk_mode, PQ.mk_eta, uX, p_ug], px.lim, px.jn, px.sz, px.sl, px.lt, px.fold, by simp only [CS.mk_R, CS.mk_cap, CS.mk_x, CS.mk_y, CS.mk_g, CS.mk_eta, MS.mk_x, MS.mk_g, MS.mk_V, MS.mk_T, MS.mk_eta, GD.mk_n, GD.mk_rd, GD.mk_c, GD.mk_tk, GD.mk_sz, GD.mk_sl, GD.mk_lt, GD.mk_eta, PQ.mk_fold, PQ.mk_cmp, PQ.mk_lim, PQ.mk_jn, PQ.mk_shape, PQ.mk_sz, PQ.mk_sl, PQ.mk_lt, PQ.mk_mode, PQ.mk_eta, uX, cY, p_ug], px.shape, px.mode⟩
  · rw [z0] at c
    rw [z2] at c2
    have h1 := hc.X (k := 9) (i := 1) (v := 1) (by omega)
    have h2 := e21 _ _ _ _ h1 rfl
    refine hΦ _ _ _ _ h2 ((FQ.xq S (by omega) (by omega) 1).trans (FQ.x21 _ _)) ?_
    unfold twQ
    rw [if_neg c, if_neg c2, if_pos c7]
    exact ⟨px.p, by simp only [CS.mk_R, CS.mk_cap, CS.mk_x, CS.mk_y, CS.mk_g, CS.mk_eta, MS.mk_x, MS.mk_g, MS.mk_V, MS.mk_T, MS.mk_eta, GD.mk_n, GD.mk_rd, GD.mk_c, GD.mk_tk, GD.mk_sz, GD.mk_sl, GD.mk_lt, GD.mk_eta, PQ.mk_fold, PQ.mk_cmp, PQ.mk_lim, PQ.mk_jn, PQ.mk_shape, PQ.mk_sz, PQ.mk_sl, PQ.mk_lt, PQ.mk_mode, PQ.mk_eta, uX, p_ug], px.lim, rfl, px.sz, px.sl, px.lt, px.fold, px.cmp, px.shape, px.mode⟩
  · rw [z0] at c
    rw [z2] at c2
    rw [z6] at c6
    have h1 := hc.Y (k := 5) (i := 1) (v := k) (by omega)
    have h2 := e21 _ _ _ _ h1 rfl
    refine hΦ _ _ _ _ h2 ((FQ.yq S (by omega) (by omega) k).trans (FQ.x21 _ _)) ?_
    unfold twQ
    rw [if_neg c, if_neg c2, if_neg c7, if_pos c6]
    exact ⟨px.p, by simp only [CS.mk_R, CS.mk_cap, CS.mk_x, CS.mk_y, CS.mk_g, CS.mk_eta, MS.mk_x, MS.mk_g, MS.mk_V, MS.mk_T, MS.mk_eta, GD.mk_n, GD.mk_rd, GD.mk_c, GD.mk_tk, GD.mk_sz, GD.mk_sl, GD.mk_lt, GD.mk_eta, PQ.mk_fold, PQ.mk_cmp, PQ.mk_lim, PQ.mk_jn, PQ.mk_shape, PQ.mk_sz, PQ.mk_sl, PQ.mk_lt, PQ.mk_mode, PQ.mk_eta, uX, p_ug], px.lim, px.jn, px.sz, px.sl, px.lt, px.fold, px.cmp, by simp only [CS.mk_R, CS.mk_cap, CS.mk_x, CS.mk_y, CS.mk_g, CS.mk_eta, MS.mk_x, MS.mk_g, MS.mk_V, MS.mk_T, MS.mk_eta, GD.mk_n, GD.mk_rd, GD.mk_c, GD.mk_tk, GD.mk_sz, GD.mk_sl, GD.mk_lt, GD.mk_eta, PQ.mk_fold, PQ.mk_cmp, PQ.mk_lim, PQ.mk_jn, PQ.mk_shape, PQ.mk_sz, PQ.mk_sl, PQ.mk_lt, PQ.mk_mode, PQ.mk_eta, uX, cY, p_ug], px.mode⟩
  · rw [z0] at c
    rw [z2] at c2
    rw [z6] at c6
    rw [z11] at c11
    have h1 := hc.Y (k := 6) (i := 1) (v := k) (by omega)
    have h2 := e21 _ _ _ _ h1 rfl
    refine hΦ _ _ _ _ h2 ((FQ.yq S (by omega) (by omega) k).trans (FQ.x21 _ _)) ?_
    unfold twQ
    rw [if_neg c, if_neg c2, if_neg c7, if_neg c6, if_pos c11]
    exact ⟨px.p, by simp only [CS.mk_R, CS.mk_cap, CS.mk_x, CS.mk_y, CS.mk_g, CS.mk_eta, MS.mk_x, MS.mk_g, MS.mk_V, MS.mk_T, MS.mk_eta, GD.mk_n, GD.mk_rd, GD.mk_c, GD.mk_tk, GD.mk_sz, GD.mk_sl, GD.mk_lt, GD.mk_eta, PQ.mk_fold, PQ.mk_cmp, PQ.mk_lim, PQ.mk_jn, PQ.mk_shape, PQ.mk_sz, PQ.mk_sl, PQ.mk_lt, PQ.mk_mode, PQ.mk_eta, uX, p_ug], px.lim, px.jn, px.sz, px.sl, px.lt, px.fold, px.cmp, px.shape, by simp only [CS.mk_R, CS.mk_cap, CS.mk_x, CS.mk_y, CS.mk_g, CS.mk_eta, MS.mk_x, MS.mk_g, MS.mk_V, MS.mk_T, MS.mk_eta, GD.mk_n, GD.mk_rd, GD.mk_c, GD.mk_tk, GD.mk_sz, GD.mk_sl, GD.mk_lt, GD.mk_eta, PQ.mk_fold, PQ.mk_cmp, PQ.mk_lim, PQ.mk_jn, PQ.mk_shape, PQ.mk_sz, PQ.mk_sl, PQ.mk_lt, PQ.mk_mode, PQ.mk_eta, uX, cY, p_ug]⟩
  · rw [z0] at c
    rw [z2] at c2
    rw [z6] at c6
    rw [z11] at c11
    have h2 := e21 _ _ _ _ hc rfl
    refine hΦ _ _ _ _ h2 (FQ.x21 _ _) ?_
    unfold twQ
    rw [if_neg c, if_neg c2, if_neg c7, if_neg c6, if_neg c11]
    exact ⟨px.p, by simp only [CS.mk_R, CS.mk_cap, CS.mk_x, CS.mk_y, CS.mk_g, CS.mk_eta, MS.mk_x, MS.mk_g, MS.mk_V, MS.mk_T, MS.mk_eta, GD.mk_n, GD.mk_rd, GD.mk_c, GD.mk_tk, GD.mk_sz, GD.mk_sl, GD.mk_lt, GD.mk_eta, PQ.mk_fold, PQ.mk_cmp, PQ.mk_lim, PQ.mk_jn, PQ.mk_shape, PQ.mk_sz, PQ.mk_sl, PQ.mk_lt, PQ.mk_mode, PQ.mk_eta, uX, p_ug], px.lim, px.jn, px.sz, px.sl, px.lt, px.fold, px.cmp, px.shape, px.mode⟩
set_option maxRecDepth 4096 in
theorem c_rwL {S n c x y g p s Q} (hc : RC S x y g) (t : TP S n c) (px : PXS S p s Q) (hp : p ≤ 60) (hs : s ≤ 11) {Φ : Int32 → pK} : ∀ (m f k b : Nat), k + m = 15 → m < f → b ≤ 7 → (∀ e, rwF (sg n c) s p m k b = .inr e → Φ (nI e) x y g) → (∀ k0, rwF (sg n c) s p m k b = .inl k0 → k0 < 15 → ∀ S' x y g, RC S' x y g → FQ S S' → PXS S' (p + (spN k0).length) (wN k0) (twQ s k0 Q) → Φ (-1) x y g) → lX3_readWord_4 Φ f x y g (nI b) (nI k) := by
  intro m
  induction m with
  | zero =>
    intro f k b hk hf hb h1 h2
    obtain ⟨f, rfl⟩ : ∃ n', f = n' + 1 := ⟨f - 1, by omega⟩
    refine ⟨fun _ => ?_, fun e => absurd (nI_le (by omega) (by omega)) e⟩
    rw [hc.hx 20 (by omega), px.p, nI_add]
    exact h1 _ rfl
  | succ m ih =>
    intro f k b hk hf hb h1 h2
    obtain ⟨f, rfl⟩ : ∃ n', f = n' + 1 := ⟨f - 1, by omega⟩
    have hl7 := spN_len k (by omega)
    have hle := lcp_le (sg n c) (spN k) p
    simp only [CS.mk_R, CS.mk_cap, CS.mk_x, CS.mk_y, CS.mk_g, CS.mk_eta, MS.mk_x, MS.mk_g, MS.mk_V, MS.mk_T, MS.mk_eta, GD.mk_n, GD.mk_rd, GD.mk_c, GD.mk_tk, GD.mk_sz, GD.mk_sl, GD.mk_lt, GD.mk_eta, PQ.mk_fold, PQ.mk_cmp, PQ.mk_lim, PQ.mk_jn, PQ.mk_shape, PQ.mk_sz, PQ.mk_sl, PQ.mk_lt, PQ.mk_mode, PQ.mk_eta, rwF] at h1 h2
    refine ⟨fun e => absurd e (nI_ge (by omega) (by omega)), fun _ => ⟨vp_in_nI (by omega) (by omega), ?_⟩⟩
    unfold wX7_mayStandBehind
    rw [hc.hx 21 (by omega), px.s, p_cl (by omega)]
    have skip : ∀ b2, b2 ≤ 7 → (∀ e, rwF (sg n c) s p m (k + 1) b2 = .inr e → Φ (nI e) x y g) → (∀ k0, rwF (sg n c) s p m (k + 1) b2 = .inl k0 → k0 < 15 → ∀ S' x y g, RC S' x y g → FQ S S' → PXS S' (p + (spN k0).length) (wN k0) (twQ s k0 Q) → Φ (-1) x y g) → ∀ w : Int32, w = nI k + 1 → lX3_readWord_4 Φ f x y g (nI b2) w := by
      rintro b2 hb2 q1 q2 _ rfl
      rw [nI_1]
      exact ih f (k + 1) b2 (by omega) (by omega) hb2 q1 q2
    refine ⟨fun m1 => ite1 ?_, fun m0 => ite0 ?_⟩
    · have hm : may s k := m1
      rw [if_pos hm] at h1 h2
      refine c_alike hc t (by omega) hp px.p (c_wlen (by omega) ?_)
      have go : ¬ wFull (sg n c) p k → ∀ w : Int32, w = (if nI b < nI (lcp (sg n c) (spN k) p) then nI (lcp (sg n c) (spN k) p) else nI b) → ∀ v : Int32, v = nI k + 1 → lX3_readWord_4 Φ f x y g w v := by
        rintro hnf _ rfl v hv
        rw [if_neg hnf] at h1 h2
        have e : (if nI b < nI (lcp (sg n c) (spN k) p) then nI (lcp (sg n c) (spN k) p) else nI b) = nI (max b (lcp (sg n c) (spN k) p)) := by
          by_cases q : b < lcp (sg n c) (spN k) p
          · rw [if_pos (nI_lt q (by omega)), Nat.max_eq_right (by omega)]
          · rw [if_neg (nI_nlt (by omega) (by omega)), Nat.max_eq_left (by omega)]
        rw [e]
        exact skip _ (by omega) h1 h2 v hv
      refine ⟨fun e => ?_, fun e => ?_⟩
      · have e2 : lcp (sg n c) (spN k) p = (spN k).length := (nI_eq (by omega) (by omega)).1 e
        rw [hc.hx 20 (by omega), px.p, nI_add]
        refine c_end hc t (by omega) (fun q => ite1 ?_) (fun q => ite0 (go fun hf => q (by rw [e2]; exact hf.2)))
        have hf : wFull (sg n c) p k := ⟨e2, by rw [← e2]; exact q⟩
        rw [if_pos hf] at h2
        have h5 := hc.X (k := 20) (i := 0) (v := nI (p + (spN k).length)) (by omega)
        rw [hc.hx 20 (by omega)] at h5
        rw [e2]
        exact c_takeWord h5 (px.setp _) hs (by omega) fun S' x y g a1 a2 a3 => h2 k rfl (by omega) S' x y g a1 ((FQ.x20 S _).trans a2) a3
      · exact go fun hf => e (by rw [hf.1])
    · have hm : ¬ may s k := m0
      rw [if_neg hm] at h1 h2
      exact skip b hb h1 h2
set_option maxRecDepth 4096 in
theorem c_readWord {S n c x y g p s Q} (hc : RC S x y g) (t : TP S n c) (px : PXS S p s Q) (hp : p ≤ 60) (hs : s ≤ 11) {Φ : Int32 → pK} (h1 : ∀ e, rw0 (sg n c) s p = .inr e → Φ (nI e) x y g) (h2 : ∀ k0, rw0 (sg n c) s p = .inl k0 → k0 < 15 → ∀ S' x y g, RC S' x y g → FQ S S' → PXS S' (p + (spN k0).length) (wN k0) (twQ s k0 Q) → Φ (-1) x y g) : wX3_readWord x y g Φ :=
  ⟨16, c_rwL hc t px hp hs 15 16 0 0 (by omega) (by omega) (by omega) h1 h2⟩
def nmF (f : Nat → Nat) (z : Bool) (a : Nat) : Nat ⊕ (Nat × Nat) :=
  if f a < 48 ∨ 57 < f a ∨ (f a = 48 ∧ z = false) then .inl a
  else if 0 < f a - 48 ∧ 48 ≤ f (a + 1) ∧ f (a + 1) ≤ 57 then .inr (10 * (f a - 48) + (f (a + 1) - 48), a + 2) else .inr (f a - 48, a + 1)
set_option maxRecDepth 4096 in
theorem nmF_b {f : Nat → Nat} {z : Bool} {a v e : Nat} (h : nmF f z a = .inr (v, e)) : v ≤ 99 ∧ a < e ∧ e ≤ a + 2 ∧ (z = false → 1 ≤ v) := by
  unfold nmF at h
  split at h
  · exact absurd h (by simp)
  · next hn =>
    split at h
    · injection h with h; injection h with h1 h2; subst h1 h2
      refine ⟨by omega, by omega, by omega, fun _ => by omega⟩
    · injection h with h; injection h with h1 h2; subst h1 h2
      refine ⟨by omega, by omega, by omega, fun hz => ?_⟩
      rcases Nat.lt_or_ge 48 (f a) with q | q
      · omega
      · exact absurd (Or.inr (Or.inr ⟨by omega, hz⟩)) hn
def tnS (s : Nat) (Q : PQ) : Nat := if s = 3 then 4 else if s = 9 then 10 else if s = 7 then 8 else if Q.shape = 9 then 7 else 8
def tnQ (s v : Nat) (neg : Bool) (Q : PQ) : PQ := if s = 3 then (PQ.mk Q.fold Q.cmp (if neg then -(nI v) else nI v) Q.jn Q.shape Q.sz Q.sl Q.lt Q.mode) else if s = 9 then (PQ.mk Q.fold Q.cmp Q.lim Q.jn Q.shape Q.sz Q.sl (v) Q.mode) else if s = 7 then (PQ.mk Q.fold Q.cmp Q.lim Q.jn Q.shape Q.sz (v) Q.lt Q.mode) else (PQ.mk Q.fold Q.cmp Q.lim Q.jn Q.shape (v) (v) Q.lt Q.mode)
set_option maxRecDepth 4096 in
theorem c_takeNumber {S p s Q x y g} (hc : RC S x y g) (px : PXS S p s Q) (hs : s ≤ 11) {v : Nat} {neg : Bool} {a : Int32} (ha : a = if neg then -(nI v) else nI v) (hn : s ≠ 3 → neg = false) {Φ : pK} (hΦ : ∀ S' x y g, RC S' x y g → FQ S S' → PXS S' p (tnS s Q) (tnQ s v neg Q) → Φ x y g) : wX3_takeNumber x y g a Φ := by
  unfold wX3_takeNumber
  rw [hc.hx 21 (by omega), px.s, hc.hy 5 (by omega), px.shape]
  have z3 : nI s = 3 ↔ s = 3 := nI_eq (b := 3) (by omega) (by omega)
  have z9 : nI s = 9 ↔ s = 9 := nI_eq (b := 9) (by omega) (by omega)
  have z7 : nI s = 7 ↔ s = 7 := nI_eq (b := 7) (by omega) (by omega)
  have e21 : ∀ (S1 : CS) x y g w, RC S1 x y g → S1.x 21 = S.x 21 → RC (uX S1 21 0 w) (va_up x 21 (va_up (S.x 21) 0 w)) y g := fun S1 x y g w h e => by
    have := h.X (k := 21) (i := 0) (v := w) (by omega)
    rwa [h.hx 21 (by omega), e] at this
  unfold tnS tnQ at hΦ
  refine ⟨fun c => ?_, fun c => ⟨fun c2 => ?_, fun c2 => ⟨fun c3 => ?_, fun c3 => ⟨fun c4 => ?_, fun c4 => ?_⟩⟩⟩⟩
  · rw [z3] at c
    rw [if_pos c, if_pos c] at hΦ
    have h2 := e21 _ _ _ _ 4 (hc.X (k := 8) (i := 1) (v := a) (by omega)) rfl
    exact hΦ _ _ _ _ h2 ((FQ.xq S (by omega) (by omega) a).trans (FQ.x21 _ _)) ⟨px.p, rfl, ha, px.jn, px.sz, px.sl, px.lt, px.fold, px.cmp, px.shape, px.mode⟩
  · rw [z3] at c
    rw [z9] at c2
    rw [if_neg c, if_pos c2, if_neg c, if_pos c2] at hΦ
    have h2 := e21 _ _ _ _ 10 (hc.X (k := 12) (i := 1) (v := a) (by omega)) rfl
    rw [hn c] at ha
    exact hΦ _ _ _ _ h2 ((FQ.xq S (by omega) (by omega) a).trans (FQ.x21 _ _)) ⟨px.p, rfl, px.lim, px.jn, px.sz, px.sl, ha, px.fold, px.cmp, px.shape, px.mode⟩
  · rw [z3] at c
    rw [z9] at c2
    rw [z7] at c3
    rw [if_neg c, if_neg c2, if_pos c3, if_neg c, if_neg c2, if_pos c3] at hΦ
    have h2 := e21 _ _ _ _ 8 (hc.X (k := 11) (i := 1) (v := a) (by omega)) rfl
    rw [hn c] at ha
    exact hΦ _ _ _ _ h2 ((FQ.xq S (by omega) (by omega) a).trans (FQ.x21 _ _)) ⟨px.p, rfl, px.lim, px.jn, px.sz, ha, px.lt, px.fold, px.cmp, px.shape, px.mode⟩
  · rw [z3] at c
    rw [z9] at c2
    rw [z7] at c3
    rw [if_neg c, if_neg c2, if_neg c3, if_pos c4, if_neg c, if_neg c2, if_neg c3] at hΦ
    have h2 := e21 _ _ _ _ 7 ((hc.X (k := 10) (i := 1) (v := a) (by omega)).X (k := 11) (i := 1) (v := a) (by omega)) rfl
    rw [hn c] at ha
    exact hΦ _ _ _ _ h2 (((FQ.xq S (by omega) (by omega) a).trans (FQ.xq _ (by omega) (by omega) a)).trans (FQ.x21 _ _)) ⟨px.p, rfl, px.lim, px.jn, ha, ha, px.lt, px.fold, px.cmp, px.shape, px.mode⟩
  · rw [z3] at c
    rw [z9] at c2
    rw [z7] at c3
    rw [if_neg c, if_neg c2, if_neg c3, if_neg c4, if_neg c, if_neg c2, if_neg c3] at hΦ
    have h2 := e21 _ _ _ _ 8 ((hc.X (k := 10) (i := 1) (v := a) (by omega)).X (k := 11) (i := 1) (v := a) (by omega)) rfl
    rw [hn c] at ha
    exact hΦ _ _ _ _ h2 (((FQ.xq S (by omega) (by omega) a).trans (FQ.xq _ (by omega) (by omega) a)).trans (FQ.x21 _ _)) ⟨px.p, rfl, px.lim, px.jn, ha, ha, px.lt, px.fold, px.cmp, px.shape, px.mode⟩
set_option maxRecDepth 4096 in
theorem c_digit {w : Nat} (hw : w < 127) {Φ : Int32 → Prop} (h1 : 48 ≤ w → w ≤ 57 → Φ 1) (h0 : w < 48 ∨ 57 < w → Φ 0) : wX3_isDigit (nI w) Φ := by
  have a : nI w < 48 ↔ w < 48 := nI_ltI (b := 48) (by omega) (by omega)
  have b : (57 : Int32) < nI w ↔ 57 < w := nI_ltI (a := 57) (by omega) (by omega)
  unfold wX3_isDigit
  rw [a, b]
  exact ⟨fun c => h0 (.inl c), fun c => ⟨fun c2 => h0 (.inr c2), fun c2 => h1 (by omega) (by omega)⟩⟩
def zOK (s : Nat) : Bool := s == 3 || s == 9
def ngF (f : Nat → Nat) (s p : Nat) : Bool := s == 3 && f p == 45
set_option maxRecDepth 4096 in
theorem c_readNumber {S n c x y g p s Q} (hc : RC S x y g) (t : TP S n c) (px : PXS S p s Q) (hp : p ≤ 60) (hs : s ≤ 11) {Φ : Int32 → pK}
    (h1 : ∀ e, nmF (sg n c) (zOK s) (if ngF (sg n c) s p then p + 1 else p) = .inl e → Φ (nI e) x y g)
    (h2 : ∀ v e, nmF (sg n c) (zOK s) (if ngF (sg n c) s p then p + 1 else p) = .inr (v, e) → sg n c e ≠ 32 → Φ (nI e) x y g)
    (h3 : ∀ v e, nmF (sg n c) (zOK s) (if ngF (sg n c) s p then p + 1 else p) = .inr (v, e) → sg n c e = 32 → ∀ S' x y g, RC S' x y g → FQ S S' → PXS S' e (tnS s Q) (tnQ s v (ngF (sg n c) s p) Q) → Φ (-1) x y g) : wX3_readNumber x y g Φ := by
  have z3 : nI s = 3 ↔ s = 3 := nI_eq (b := 3) (by omega) (by omega)
  have z9 : nI s = 9 ↔ s = 9 := nI_eq (b := 9) (by omega) (by omega)
  have x21 : x 21 0 = nI s := by rw [hc.hx 21 (by omega), px.s]
  have x20 : x 20 0 = nI p := by rw [hc.hx 20 (by omega), px.p]
  generalize hng : ngF (sg n c) s p = ng at *
  generalize ha0 : (if ng = true then p + 1 else p) = a at *
  have ha : a ≤ 61 := by rw [← ha0]; split <;> omega
  have sga := sg_lt t a
  have sga1 := sg_lt t (a + 1)
  have j143 : ∀ v e, e < 2 ^ 20 → v ≤ 99 → nmF (sg n c) (zOK s) a = .inr (v, e) → jX3_readNumber_143 Φ x y g (if ng then 1 else 0) (nI e) (nI v) := by
    intro v e he hv hnm
    unfold jX3_readNumber_143
    refine c_end hc t he (fun q => ite1 ?_) (fun q => ite0 (h2 v e hnm q))
    rw [hc.hx 20 (by omega)]
    have h5 := hc.X (k := 20) (i := 0) (v := nI e) (by omega)
    rw [hc.hx 20 (by omega)] at h5
    have tk : ∀ w : Int32, w = (if ng then -(nI v) else nI v) → wX3_takeNumber (va_up x 20 (va_up (S.x 20) 0 (nI e))) y g w (fun x_171 y_171 g_171 => Φ (-1) x_171 y_171 g_171) := fun w hw =>
      c_takeNumber h5 (px.setp e) hs hw (fun hs3 => by rw [← hng]; simp [CS.mk_R, CS.mk_cap, CS.mk_x, CS.mk_y, CS.mk_g, CS.mk_eta, MS.mk_x, MS.mk_g, MS.mk_V, MS.mk_T, MS.mk_eta, GD.mk_n, GD.mk_rd, GD.mk_c, GD.mk_tk, GD.mk_sz, GD.mk_sl, GD.mk_lt, GD.mk_eta, PQ.mk_fold, PQ.mk_cmp, PQ.mk_lim, PQ.mk_jn, PQ.mk_shape, PQ.mk_sz, PQ.mk_sl, PQ.mk_lt, PQ.mk_mode, PQ.mk_eta, ngF, hs3]) fun S' x y g a1 a2 a3 => h3 v e hnm q S' x y g a1 ((FQ.x20 S _).trans a2) a3
    cases ng with
    | true => exact ⟨fun e => absurd e (by decide), fun _ => tk _ (by simp)⟩
    | false => exact ⟨fun _ => tk _ (by simp), fun e => absurd rfl e⟩
  have bad : ∀ {P : Prop}, (sg n c a < 48 ∨ 57 < sg n c a ∨ (sg n c a = 48 ∧ zOK s = false)) → Φ (nI a) x y g := fun q => h1 a (by unfold nmF; rw [if_pos q])
  have j95 : ¬ (sg n c a < 48 ∨ 57 < sg n c a ∨ (sg n c a = 48 ∧ zOK s = false)) → jX3_readNumber_95 Φ x y g (if ng then 1 else 0) (nI a) := by
    intro q
    unfold jX3_readNumber_95
    refine c_sign hc t (by omega) ?_
    rintro _ rfl _ rfl
    have e1 : nI (sg n c a) - 48 = nI (sg n c a - 48) := p_sub (b := 48) (by omega)
    rw [e1, nI_1]
    refine ⟨fun c0 => ?_, fun c0 => ?_⟩
    · have : sg n c a - 48 = 0 := by
        have := (nI_leI (a := sg n c a - 48) (b := 0) (by omega) (by omega)).1 c0
        omega
      exact j143 _ _ (by omega) (by omega) (by unfold nmF; rw [if_neg q, if_neg (by omega)])
    · have hpos : 0 < sg n c a - 48 := by
        rcases Nat.eq_zero_or_pos (sg n c a - 48) with z | z
        · exact absurd (by rw [z]; decide) c0
        · exact z
      refine c_sign hc t (by omega) (c_digit sga1.2 (fun d1 d2 => ite1 (c_sign hc t (by omega) ?_)) fun d => ite0 (j143 _ _ (by omega) (by omega) (by unfold nmF; rw [if_neg q, if_neg (by omega)])))
      rintro _ rfl _ rfl
      have e2 : nI (sg n c a - 48) * 10 + nI (sg n c (a + 1)) - 48 = nI (10 * (sg n c a - 48) + (sg n c (a + 1) - 48)) := by
        rw [show (10 : Int32) = nI 10 from rfl, p_mul, nI_add]
        rw [show (nI ((sg n c a - 48) * 10 + sg n c (a + 1)) - 48 : Int32) = nI ((sg n c a - 48) * 10 + sg n c (a + 1) - 48) from p_sub (b := 48) (by omega)]
        congr 1; omega
      rw [e2, nI_1]
      exact j143 _ _ (by omega) (by omega) (by unfold nmF; rw [if_neg q, if_pos (by omega)])
  have j67 : jX3_readNumber_67 Φ x y g (if ng then 1 else 0) (nI a) (if zOK s then 1 else 0) := by
    unfold jX3_readNumber_67
    refine c_sign hc t (by omega) (c_digit sga.2 (fun d1 d2 => ite1 (c_sign hc t (by omega) ⟨fun e => ?_, fun e => ?_⟩)) fun d => ite0 (bad (P := True) (by omega)))
    · have e48 : sg n c a = 48 := (nI_eq (b := 48) (by omega) (by omega)).1 e
      cases hz : zOK s with
      | true => exact ⟨fun q => absurd q (by decide), fun _ => j95 (by rw [hz]; simp; omega)⟩
      | false => exact ⟨fun _ => bad (P := True) (.inr (.inr ⟨e48, hz⟩)), fun q => absurd rfl q⟩
    · have ne : sg n c a ≠ 48 := fun q => e (by rw [q]; rfl)
      exact j95 (by omega)
  have j44 : jX3_readNumber_44 Φ x y g (if ng then 1 else 0) (nI a) := by
    unfold jX3_readNumber_44 jX3_readNumber_62
    rw [x21, z3, z9]
    refine ⟨fun e => ?_, fun e => ⟨fun e2 => ?_, fun e2 => ?_⟩⟩
    · rw [show zOK s = true by simp [CS.mk_R, CS.mk_cap, CS.mk_x, CS.mk_y, CS.mk_g, CS.mk_eta, MS.mk_x, MS.mk_g, MS.mk_V, MS.mk_T, MS.mk_eta, GD.mk_n, GD.mk_rd, GD.mk_c, GD.mk_tk, GD.mk_sz, GD.mk_sl, GD.mk_lt, GD.mk_eta, PQ.mk_fold, PQ.mk_cmp, PQ.mk_lim, PQ.mk_jn, PQ.mk_shape, PQ.mk_sz, PQ.mk_sl, PQ.mk_lt, PQ.mk_mode, PQ.mk_eta, zOK, e]] at j67; exact j67
    · rw [show zOK s = true by simp [CS.mk_R, CS.mk_cap, CS.mk_x, CS.mk_y, CS.mk_g, CS.mk_eta, MS.mk_x, MS.mk_g, MS.mk_V, MS.mk_T, MS.mk_eta, GD.mk_n, GD.mk_rd, GD.mk_c, GD.mk_tk, GD.mk_sz, GD.mk_sl, GD.mk_lt, GD.mk_eta, PQ.mk_fold, PQ.mk_cmp, PQ.mk_lim, PQ.mk_jn, PQ.mk_shape, PQ.mk_sz, PQ.mk_sl, PQ.mk_lt, PQ.mk_mode, PQ.mk_eta, zOK, e2]] at j67; exact j67
    · rw [show zOK s = false by simp [CS.mk_R, CS.mk_cap, CS.mk_x, CS.mk_y, CS.mk_g, CS.mk_eta, MS.mk_x, MS.mk_g, MS.mk_V, MS.mk_T, MS.mk_eta, GD.mk_n, GD.mk_rd, GD.mk_c, GD.mk_tk, GD.mk_sz, GD.mk_sl, GD.mk_lt, GD.mk_eta, PQ.mk_fold, PQ.mk_cmp, PQ.mk_lim, PQ.mk_jn, PQ.mk_shape, PQ.mk_sz, PQ.mk_sl, PQ.mk_lt, PQ.mk_mode, PQ.mk_eta, zOK, e, e2]] at j67; exact j67
  unfold wX3_readNumber jX3_readNumber_25 jX3_readNumber_26
  rw [x21, x20, z3]
  refine ⟨fun e => c_sign hc t (by omega) ⟨fun e2 => ite1 ?_, fun e2 => ite0 ?_⟩, fun e => ite0 ?_⟩
  · have e3 : sg n c p = 45 := (nI_eq (b := 45) (by have := (sg_lt t p).2; omega) (by omega)).1 e2
    have hn1 : ng = true := by rw [← hng]; simp [CS.mk_R, CS.mk_cap, CS.mk_x, CS.mk_y, CS.mk_g, CS.mk_eta, MS.mk_x, MS.mk_g, MS.mk_V, MS.mk_T, MS.mk_eta, GD.mk_n, GD.mk_rd, GD.mk_c, GD.mk_tk, GD.mk_sz, GD.mk_sl, GD.mk_lt, GD.mk_eta, PQ.mk_fold, PQ.mk_cmp, PQ.mk_lim, PQ.mk_jn, PQ.mk_shape, PQ.mk_sz, PQ.mk_sl, PQ.mk_lt, PQ.mk_mode, PQ.mk_eta, ngF, e, e3]
    rw [hn1] at j44 ha0
    rw [nI_1]
    rw [if_pos rfl] at j44 ha0
    rw [← ha0] at j44
    exact j44
  · have e3 : sg n c p ≠ 45 := fun q => e2 (by rw [q]; rfl)
    have hn1 : ng = false := by rw [← hng]; simp [CS.mk_R, CS.mk_cap, CS.mk_x, CS.mk_y, CS.mk_g, CS.mk_eta, MS.mk_x, MS.mk_g, MS.mk_V, MS.mk_T, MS.mk_eta, GD.mk_n, GD.mk_rd, GD.mk_c, GD.mk_tk, GD.mk_sz, GD.mk_sl, GD.mk_lt, GD.mk_eta, PQ.mk_fold, PQ.mk_cmp, PQ.mk_lim, PQ.mk_jn, PQ.mk_shape, PQ.mk_sz, PQ.mk_sl, PQ.mk_lt, PQ.mk_mode, PQ.mk_eta, ngF, e3]
    rw [hn1] at j44 ha0
    simp only [CS.mk_R, CS.mk_cap, CS.mk_x, CS.mk_y, CS.mk_g, CS.mk_eta, MS.mk_x, MS.mk_g, MS.mk_V, MS.mk_T, MS.mk_eta, GD.mk_n, GD.mk_rd, GD.mk_c, GD.mk_tk, GD.mk_sz, GD.mk_sl, GD.mk_lt, GD.mk_eta, PQ.mk_fold, PQ.mk_cmp, PQ.mk_lim, PQ.mk_jn, PQ.mk_shape, PQ.mk_sz, PQ.mk_sl, PQ.mk_lt, PQ.mk_mode, PQ.mk_eta, Bool.false_eq_true, if_false] at j44 ha0
    rw [← ha0] at j44
    exact j44
  · have hn1 : ng = false := by rw [← hng]; simp [CS.mk_R, CS.mk_cap, CS.mk_x, CS.mk_y, CS.mk_g, CS.mk_eta, MS.mk_x, MS.mk_g, MS.mk_V, MS.mk_T, MS.mk_eta, GD.mk_n, GD.mk_rd, GD.mk_c, GD.mk_tk, GD.mk_sz, GD.mk_sl, GD.mk_lt, GD.mk_eta, PQ.mk_fold, PQ.mk_cmp, PQ.mk_lim, PQ.mk_jn, PQ.mk_shape, PQ.mk_sz, PQ.mk_sl, PQ.mk_lt, PQ.mk_mode, PQ.mk_eta, ngF, e]
    rw [hn1] at j44 ha0
    simp only [CS.mk_R, CS.mk_cap, CS.mk_x, CS.mk_y, CS.mk_g, CS.mk_eta, MS.mk_x, MS.mk_g, MS.mk_V, MS.mk_T, MS.mk_eta, GD.mk_n, GD.mk_rd, GD.mk_c, GD.mk_tk, GD.mk_sz, GD.mk_sl, GD.mk_lt, GD.mk_eta, PQ.mk_fold, PQ.mk_cmp, PQ.mk_lim, PQ.mk_jn, PQ.mk_shape, PQ.mk_sz, PQ.mk_sl, PQ.mk_lt, PQ.mk_mode, PQ.mk_eta, Bool.false_eq_true, if_false] at j44 ha0
    rw [← ha0] at j44
    exact j44
abbrev isNum (s : Nat) : Prop := s = 3 ∨ s = 6 ∨ s = 7 ∨ s = 9
abbrev isEnd (s : Nat) : Prop := s = 8 ∨ s = 10 ∨ s = 11
set_option maxRecDepth 4096 in
theorem c_allEnd {S n c x y g s Q} (hc : RC S x y g) (t : TP S n c) (px : PXS S n s Q) (hs : s ≤ 11) {j f : Nat} (hj : j ≤ n) {Φ : Int32 → pK} (h : Φ (if isEnd s then -1 else nI n) x y g) : lX3_readAll_2 Φ (f + 1) x y g (nI j) := by
  have h1 := t.n60
  have z8 : nI s = 8 ↔ s = 8 := nI_eq (b := 8) (by omega) (by omega)
  have z10 : nI s = 10 ↔ s = 10 := nI_eq (b := 10) (by omega) (by omega)
  have z11 : nI s = 11 ↔ s = 11 := nI_eq (b := 11) (by omega) (by omega)
  have j58 : jX3_readAll_58 Φ x y g := by
    unfold jX3_readAll_58 jX3_readAll_85 jX3_readAll_90
    rw [hc.hx 21 (by omega), px.s, z8, z10, z11]
    refine ⟨fun e => ?_, fun e => ⟨fun e2 => ?_, fun e2 => ⟨fun e3 => ?_, fun e3 => ?_⟩⟩⟩
    · rw [if_pos (show isEnd s from .inl e)] at h; exact ite1 h
    · rw [if_pos (show isEnd s from .inr (.inl e2))] at h; exact ite1 h
    · rw [if_pos (show isEnd s from .inr (.inr e3))] at h; exact ite1 h
    · rw [if_neg (show ¬ isEnd s from by unfold isEnd; omega)] at h
      exact ite0 (c_lgth hc t h)
  refine ⟨fun _ => j58, fun _ => c_lgth hc t ⟨fun _ => j58, fun e => absurd ?_ e⟩⟩
  rw [hc.hx 20 (by omega), px.p]
  exact nI_le (Nat.le_refl _) (by omega)
set_option maxRecDepth 4096 in
theorem c_due {S x y g p s Q} (hc : RC S x y g) (px : PXS S p s Q) (hs : s ≤ 11) {Φ : Int32 → Prop} (h1 : isNum s → Φ 1) (h0 : ¬ isNum s → Φ 0) : wX3_isNumberDue x y g Φ := by
  have z3 : nI s = 3 ↔ s = 3 := nI_eq (b := 3) (by omega) (by omega)
  have z6 : nI s = 6 ↔ s = 6 := nI_eq (b := 6) (by omega) (by omega)
  have z7 : nI s = 7 ↔ s = 7 := nI_eq (b := 7) (by omega) (by omega)
  have z9 : nI s = 9 ↔ s = 9 := nI_eq (b := 9) (by omega) (by omega)
  unfold wX3_isNumberDue
  rw [hc.hx 21 (by omega), px.s, z3, z6, z7, z9]
  unfold isNum at h1 h0
  exact ⟨fun e => h1 (by omega), fun e => ⟨fun e2 => h1 (by omega), fun e2 => ⟨fun e3 => h1 (by omega), fun e3 => ⟨fun e4 => h1 (by omega), fun e4 => h0 (by omega)⟩⟩⟩⟩
set_option maxRecDepth 4096 in
theorem skip_bound {S n c} (t : TP S n c) {e : Nat} (he : sg n c e = 32) (hle : e ≤ n) : skip n c e ≤ n ∧ e ≤ skip n c e ∧ (skip n c e < n → c (skip n c e) ≠ 32) := by
  obtain ⟨a, b, d⟩ := skip_le (n := n) (c := c) (p := e)
  exact ⟨b hle, a, d⟩
set_option maxRecDepth 4096 in
theorem c_allWord {S n c x y g p s Q} (hc : RC S x y g) (t : TP S n c) (px : PXS S p s Q) (hp : p < n) (hs : s ≤ 11) (hns : ¬ isNum s) {j f : Nat} (hj : j ≤ p) {Φ : Int32 → pK} (h1 : ∀ e, rw0 (sg n c) s p = .inr e → Φ (nI e) x y g) (h2 : ∀ k, rw0 (sg n c) s p = .inl k → k < 15 → ∀ S' x y g, RC S' x y g → FQ S S' → PXS S' (skip n c (p + (spN k).length)) (wN k) (twQ s k Q) → p + (spN k).length ≤ n → lX3_readAll_2 Φ f x y g (nI (j + 1))) : lX3_readAll_2 Φ (f + 1) x y g (nI j) := by
  have hn := t.n60
  refine ⟨fun e => absurd (show nI 60 < nI j from e) (nI_nlt (by omega) (by omega)), fun _ => c_lgth hc t ⟨fun e => ?_, fun _ => c_due hc px hs (fun q => absurd q hns) fun _ => ite0 ?_⟩⟩
  · rw [hc.hx 20 (by omega), px.p] at e
    exact absurd e (nI_ge hp (by omega))
  · refine c_readWord hc t px (by omega) hs (fun e he => ?_) (fun k hk hk15 S' x y g hS fq hpx => ?_)
    · have ene : ¬ nI e = -1 ∨ nI e = -1 := (Classical.em _).symm
      rcases ene with q | q
      · exact ⟨fun z => absurd z q, fun _ => h1 e he⟩
      ·
        have : e < 2 ^ 31 := by
          have aux : ∀ (m k b : Nat), b ≤ 7 → ∀ e, rwF (sg n c) s p m k b = .inr e → k + m = 15 → e ≤ p + 7 := by
            intro m
            induction m with
            | zero => intro k b hb e h _; simp only [CS.mk_R, CS.mk_cap, CS.mk_x, CS.mk_y, CS.mk_g, CS.mk_eta, MS.mk_x, MS.mk_g, MS.mk_V, MS.mk_T, MS.mk_eta, GD.mk_n, GD.mk_rd, GD.mk_c, GD.mk_tk, GD.mk_sz, GD.mk_sl, GD.mk_lt, GD.mk_eta, PQ.mk_fold, PQ.mk_cmp, PQ.mk_lim, PQ.mk_jn, PQ.mk_shape, PQ.mk_sz, PQ.mk_sl, PQ.mk_lt, PQ.mk_mode, PQ.mk_eta, rwF] at h; injection h with h; omega
            | succ m ih =>
              intro k b hb e h hkm
              simp only [CS.mk_R, CS.mk_cap, CS.mk_x, CS.mk_y, CS.mk_g, CS.mk_eta, MS.mk_x, MS.mk_g, MS.mk_V, MS.mk_T, MS.mk_eta, GD.mk_n, GD.mk_rd, GD.mk_c, GD.mk_tk, GD.mk_sz, GD.mk_sl, GD.mk_lt, GD.mk_eta, PQ.mk_fold, PQ.mk_cmp, PQ.mk_lim, PQ.mk_jn, PQ.mk_shape, PQ.mk_sz, PQ.mk_sl, PQ.mk_lt, PQ.mk_mode, PQ.mk_eta, rwF] at h
              have hl := lcp_le (sg n c) (spN k) p
              have hl7 := spN_len k (by omega)
              split at h
              · split at h
                · exact absurd h (by simp)
                · exact ih _ _ (by omega) e h (by omega)
              · exact ih _ _ hb e h (by omega)
          have := aux 15 0 0 (by omega) e he (by omega)
          omega
        exact absurd q (p_m1 this)
    · have hl7 := spN_len k hk15
      have hfull : wFull (sg n c) p k := by
        have aux : ∀ (m k b : Nat), ∀ k0, rwF (sg n c) s p m k b = .inl k0 → wFull (sg n c) p k0 := by
          intro m
          induction m with
          | zero => intro k b k0 h; simp [CS.mk_R, CS.mk_cap, CS.mk_x, CS.mk_y, CS.mk_g, CS.mk_eta, MS.mk_x, MS.mk_g, MS.mk_V, MS.mk_T, MS.mk_eta, GD.mk_n, GD.mk_rd, GD.mk_c, GD.mk_tk, GD.mk_sz, GD.mk_sl, GD.mk_lt, GD.mk_eta, PQ.mk_fold, PQ.mk_cmp, PQ.mk_lim, PQ.mk_jn, PQ.mk_shape, PQ.mk_sz, PQ.mk_sl, PQ.mk_lt, PQ.mk_mode, PQ.mk_eta, rwF] at h
          | succ m ih =>
            intro k b k0 h
            simp only [CS.mk_R, CS.mk_cap, CS.mk_x, CS.mk_y, CS.mk_g, CS.mk_eta, MS.mk_x, MS.mk_g, MS.mk_V, MS.mk_T, MS.mk_eta, GD.mk_n, GD.mk_rd, GD.mk_c, GD.mk_tk, GD.mk_sz, GD.mk_sl, GD.mk_lt, GD.mk_eta, PQ.mk_fold, PQ.mk_cmp, PQ.mk_lim, PQ.mk_jn, PQ.mk_shape, PQ.mk_sz, PQ.mk_sl, PQ.mk_lt, PQ.mk_mode, PQ.mk_eta, rwF] at h
            split at h
            · split at h
              · next hf => injection h with h; rw [← h]; exact hf
              · exact ih _ _ _ h
            · exact ih _ _ _ h
        exact aux 15 0 0 k hk
      have hle : p + (spN k).length ≤ n := by
        have aux : ∀ (ws : List Nat) (q : Nat), lcp (sg n c) ws q = ws.length → (∀ w, w ∈ ws → w ≠ 32) → q + ws.length ≤ n ∨ ws = [] := by
          intro ws
          induction ws with
          | nil => intro q _ _; exact .inr rfl
          | cons w ws ih =>
            intro q h hw
            simp only [CS.mk_R, CS.mk_cap, CS.mk_x, CS.mk_y, CS.mk_g, CS.mk_eta, MS.mk_x, MS.mk_g, MS.mk_V, MS.mk_T, MS.mk_eta, GD.mk_n, GD.mk_rd, GD.mk_c, GD.mk_tk, GD.mk_sz, GD.mk_sl, GD.mk_lt, GD.mk_eta, PQ.mk_fold, PQ.mk_cmp, PQ.mk_lim, PQ.mk_jn, PQ.mk_shape, PQ.mk_sz, PQ.mk_sl, PQ.mk_lt, PQ.mk_mode, PQ.mk_eta, lcp, List.length_cons] at h
            by_cases e : sg n c q = w
            · rw [if_pos e] at h
              have hq : q < n := by
                rcases Nat.lt_or_ge q n with z | z
                · exact z
                · have : sg n c q = 32 := by unfold sg; rw [if_neg (by omega)]
                  exact absurd (e.symm.trans this) (hw w List.mem_cons_self)
              rcases ih (q + 1) (by omega) (fun v hv => hw v (List.mem_cons_of_mem _ hv)) with z | z
              · left; simp only [CS.mk_R, CS.mk_cap, CS.mk_x, CS.mk_y, CS.mk_g, CS.mk_eta, MS.mk_x, MS.mk_g, MS.mk_V, MS.mk_T, MS.mk_eta, GD.mk_n, GD.mk_rd, GD.mk_c, GD.mk_tk, GD.mk_sz, GD.mk_sl, GD.mk_lt, GD.mk_eta, PQ.mk_fold, PQ.mk_cmp, PQ.mk_lim, PQ.mk_jn, PQ.mk_shape, PQ.mk_sz, PQ.mk_sl, PQ.mk_lt, PQ.mk_mode, PQ.mk_eta, List.length_cons]; omega
              · left; subst z; simp; omega
            · rw [if_neg e] at h; omega
        have nb : ∀ k, k < 15 → ∀ w, w ∈ spN k → w ≠ 32 := by decide
        rcases aux (spN k) p hfull.1 (nb k hk15) with z | z
        · exact z
        · rw [z] at hl7; simp at hl7
      refine ⟨fun _ => ?_, fun z => absurd rfl z⟩
      refine c_skip hS (t.fr fq) hpx hle fun S2 x y g a1 a2 a3 => ?_
      rintro _ rfl
      rw [nI_1]
      exact h2 k hk hk15 S2 x y g a1 (fq.trans a2) a3 hle
set_option maxRecDepth 4096 in
theorem nmF_n {S n c} (t : TP S n c) {z : Bool} {a v e : Nat} (h : nmF (sg n c) z a = .inr (v, e)) : e ≤ n := by
  have dig : ∀ q, 48 ≤ sg n c q → q < n := fun q hq => by
    rcases Nat.lt_or_ge q n with z | z
    · exact z
    · unfold sg at hq; rw [if_neg (by omega)] at hq; omega
  unfold nmF at h
  split at h
  · exact absurd h (by simp)
  · next hn =>
    have h1 := dig a (by omega)
    split at h
    · next h2 => have := dig (a + 1) h2.2.1; injection h with h; injection h with _ h; omega
    · injection h with h; injection h with _ h; omega
set_option maxRecDepth 4096 in
theorem c_allNum {S n c x y g p s Q} (hc : RC S x y g) (t : TP S n c) (px : PXS S p s Q) (hp : p < n) (hs : s ≤ 11) (hns : isNum s) {j f : Nat} (hj : j ≤ p) {Φ : Int32 → pK}
    (h1 : ∀ e, nmF (sg n c) (zOK s) (if ngF (sg n c) s p then p + 1 else p) = .inl e → Φ (nI e) x y g)
    (h2 : ∀ v e, nmF (sg n c) (zOK s) (if ngF (sg n c) s p then p + 1 else p) = .inr (v, e) → sg n c e ≠ 32 → Φ (nI e) x y g)
    (h3 : ∀ v e, nmF (sg n c) (zOK s) (if ngF (sg n c) s p then p + 1 else p) = .inr (v, e) → sg n c e = 32 → ∀ S' x y g, RC S' x y g → FQ S S' → PXS S' (skip n c e) (tnS s Q) (tnQ s v (ngF (sg n c) s p) Q) → lX3_readAll_2 Φ f x y g (nI (j + 1))) : lX3_readAll_2 Φ (f + 1) x y g (nI j) := by
  have hn := t.n60
  refine ⟨fun e => absurd (show nI 60 < nI j from e) (nI_nlt (by omega) (by omega)), fun _ => c_lgth hc t ⟨fun e => ?_, fun _ => c_due hc px hs (fun _ => ite1 ?_) fun q => absurd hns q⟩⟩
  · rw [hc.hx 20 (by omega), px.p] at e
    exact absurd e (nI_ge hp (by omega))
  · refine c_readNumber hc t px (by omega) hs (fun e he => ?_) (fun v e he hne => ?_) (fun v e he hne S' x y g hS fq hpx => ?_)
    · have : e ≤ p + 1 := by
        have ha : (if ngF (sg n c) s p = true then p + 1 else p) ≤ p + 1 := by split <;> omega
        generalize (if ngF (sg n c) s p = true then p + 1 else p) = a at he ha
        unfold nmF at he
        by_cases q : sg n c a < 48 ∨ 57 < sg n c a ∨ (sg n c a = 48 ∧ zOK s = false)
        · rw [if_pos q] at he; injection he with he; omega
        · rw [if_neg q] at he; split at he <;> exact absurd he (by simp)
      exact ⟨fun z => absurd z (p_m1 (by omega)), fun _ => h1 e he⟩
    · have := nmF_n t he
      exact ⟨fun z => absurd z (p_m1 (by omega)), fun _ => h2 v e he hne⟩
    · refine ⟨fun _ => ?_, fun z => absurd rfl z⟩
      refine c_skip hS (t.fr fq) hpx (nmF_n t he) fun S2 x y g a1 a2 a3 => ?_
      rintro _ rfl
      rw [nI_1]
      exact h3 v e he hne S2 x y g a1 (fq.trans a2) a3
abbrev RT (M : MS) (n : Nat) (c : Nat → Nat) : Prop := (n ≤ 60) ∧ (M.x 0 = nI n) ∧ (∀ i, i < n → M.g 4 i = nI (c i) ∧ 32 ≤ c i ∧ c i < 127)
set_option maxRecDepth 4096 in
theorem RT.n60 {M : MS} {n : Nat} {c : Nat → Nat} (h_ : RT M n c) : n ≤ 60 := h_.1
set_option maxRecDepth 4096 in
theorem RT.x0 {M : MS} {n : Nat} {c : Nat → Nat} (h_ : RT M n c) : M.x 0 = nI n := h_.2.1
set_option maxRecDepth 4096 in
theorem RT.ch {M : MS} {n : Nat} {c : Nat → Nat} (h_ : RT M n c) : ∀ i, i < n → M.g 4 i = nI (c i) ∧ 32 ≤ c i ∧ c i < 127 := h_.2.2
abbrev FM (M M' : MS) : Prop := (M'.V = M.V) ∧ (M'.T = M.T) ∧ (∀ k, k ≠ 1 → k ≠ 2 → k ≠ 3 → M'.x k = M.x k) ∧ (∀ k, k ≠ 7 → M'.g k = M.g k)
set_option maxRecDepth 4096 in
theorem FM.V {M M' : MS} (h_ : FM M M') : M'.V = M.V := h_.1
set_option maxRecDepth 4096 in
theorem FM.T {M M' : MS} (h_ : FM M M') : M'.T = M.T := h_.2.1
set_option maxRecDepth 4096 in
theorem FM.x {M M' : MS} (h_ : FM M M') : ∀ k, k ≠ 1 → k ≠ 2 → k ≠ 3 → M'.x k = M.x k := h_.2.2.1
set_option maxRecDepth 4096 in
theorem FM.g {M M' : MS} (h_ : FM M M') : ∀ k, k ≠ 7 → M'.g k = M.g k := h_.2.2.2
set_option maxRecDepth 4096 in
theorem FM.refl {M} : FM M M := ⟨rfl, rfl, fun _ _ _ _ => rfl, fun _ _ => rfl⟩
set_option maxRecDepth 4096 in
theorem FM.trans {S T U} (h : FM S T) (h2 : FM T U) : FM S U := ⟨h2.V.trans h.V, h2.T.trans h.T, fun k a b c => (h2.x k a b c).trans (h.x k a b c), fun k a => (h2.g k a).trans (h.g k a)⟩
set_option maxRecDepth 4096 in
theorem FM.X (M : MS) {k : Nat} (h1 : 1 ≤ k) (h2 : k ≤ 3) (v : Int32) : FM M (mX M k v) := ⟨rfl, rfl, fun j a b c => by simp only [CS.mk_R, CS.mk_cap, CS.mk_x, CS.mk_y, CS.mk_g, CS.mk_eta, MS.mk_x, MS.mk_g, MS.mk_V, MS.mk_T, MS.mk_eta, GD.mk_n, GD.mk_rd, GD.mk_c, GD.mk_tk, GD.mk_sz, GD.mk_sl, GD.mk_lt, GD.mk_eta, PQ.mk_fold, PQ.mk_cmp, PQ.mk_lim, PQ.mk_jn, PQ.mk_shape, PQ.mk_sz, PQ.mk_sl, PQ.mk_lt, PQ.mk_mode, PQ.mk_eta, mX]; exact p_un _ _ (by omega), fun _ _ => rfl⟩
set_option maxRecDepth 4096 in
theorem FM.Q (M : MS) (i : Nat) (v : Int32) : FM M (mG M 7 i v) := ⟨rfl, rfl, fun _ _ _ _ => rfl, fun k a => by simp only [CS.mk_R, CS.mk_cap, CS.mk_x, CS.mk_y, CS.mk_g, CS.mk_eta, MS.mk_x, MS.mk_g, MS.mk_V, MS.mk_T, MS.mk_eta, GD.mk_n, GD.mk_rd, GD.mk_c, GD.mk_tk, GD.mk_sz, GD.mk_sl, GD.mk_lt, GD.mk_eta, PQ.mk_fold, PQ.mk_cmp, PQ.mk_lim, PQ.mk_jn, PQ.mk_shape, PQ.mk_sz, PQ.mk_sl, PQ.mk_lt, PQ.mk_mode, PQ.mk_eta, mG]; exact p_un _ _ a⟩
set_option maxRecDepth 4096 in
theorem RT.fr {M M' n c} (h : RT M n c) (f : FM M M') : RT M' n c := ⟨h.n60, by rw [f.x 0 (by decide) (by decide) (by decide)]; exact h.x0, by rw [f.g 4 (by decide)]; exact h.ch⟩
def atv (n : Nat) (c : Nat → Nat) (i : Nat) : Int32 := if i < n then nI (c i) else -1
set_option maxRecDepth 4096 in
theorem atv_eq {M n c} (t : RT M n c) {i w : Nat} (hw : w ≠ 32) (hw2 : w < 127) : atv n c i = nI w ↔ sg n c i = w := by
  unfold atv sg
  by_cases h : i < n
  · rw [if_pos h, if_pos h]
    have := (t.ch i h).2
    exact nI_eq (by omega) (by omega)
  · rw [if_neg h, if_neg h]
    refine ⟨fun e => absurd e.symm (p_m1 (by omega)), fun e => absurd e.symm hw⟩
set_option maxRecDepth 4096 in
theorem atv_32 {M n c} (t : RT M n c) {i : Nat} : atv n c i = 32 ↔ (i < n ∧ c i = 32) := by
  unfold atv
  by_cases h : i < n
  · rw [if_pos h]
    have := (t.ch i h).2
    have e := nI_eq (a := c i) (b := 32) (by omega) (by omega)
    exact ⟨fun q => ⟨h, e.1 q⟩, fun q => e.2 q.2⟩
  · rw [if_neg h]
    exact ⟨fun q => absurd q (by decide), fun q => absurd q.1 h⟩
set_option maxRecDepth 4096 in
theorem atv_m1 {M n c} (t : RT M n c) {i : Nat} : atv n c i = -1 ↔ n ≤ i := by
  unfold atv
  by_cases h : i < n
  · rw [if_pos h]
    have := (t.ch i h).2
    exact ⟨fun q => absurd q (p_m1 (by omega)), fun q => by omega⟩
  · rw [if_neg h]
    exact ⟨fun _ => by omega, fun _ => rfl⟩
