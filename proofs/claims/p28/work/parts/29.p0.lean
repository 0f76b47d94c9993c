abbrev pRow := Nat → Int32
def pz : pRow := fun _ => 0
def pwq (q : Nat) : Nat := if q = 3 then 3 else if q = 4 then 5 else 6
def pgrow (c n : Nat) : Nat := if n ≤ c then c else max n (2 * c)
theorem p_tn0 : (0 : Int32).toNatClampNeg = 0 := rfl
theorem p_cl {n : Nat} (h : n < 2 ^ 31) : (nI n).toNatClampNeg = n := nI_clamp h
theorem p_mul (a b : Nat) : nI a * nI b = nI (a * b) := by simp [nI, Int32.ofNat_mul]
theorem p_sub {a b : Nat} (h : b ≤ a) : nI a - nI b = nI (a - b) := by
  obtain ⟨c, rfl⟩ := Nat.exists_eq_add_of_le h
  rw [Nat.add_sub_cancel_left, ← nI_add, Int32.add_comm, Int32.add_sub_cancel]
theorem p_lit (n : Nat) : (OfNat.ofNat n : Int32) = nI n := rfl
theorem p_m1 {n : Nat} (h : n < 2 ^ 31) : ¬ nI n = -1 := fun e => by
  have := nI_toInt h
  rw [e] at this
  have h2 : (-1 : Int32).toInt = -1 := by decide
  omega
abbrev RI (x : Nat → Nat → Int32) (y : Nat → Nat → Nat) (g : Nat → Nat → Nat → Int32) (q w : Nat) (W : List pRow) (c : Nat) : Prop := (1 ≤ w) ∧ (w ≤ 6) ∧ (x 0 q = nI w) ∧ (x 1 q = nI W.length) ∧ (y 1 q = c) ∧ (W.length * w ≤ c) ∧ (W.length ≤ 4096) ∧ (8 * w ≤ c) ∧ (c ≤ 8192 * w) ∧ (∀ r k, r < W.length → k < w → g 0 q (r * w + k) = (W.getD r pz) k)
theorem RI.w1 {x : Nat → Nat → Int32} {y : Nat → Nat → Nat} {g : Nat → Nat → Nat → Int32} {q w : Nat} {W : List pRow} {c : Nat} (h_ : RI x y g q w W c) : 1 ≤ w := h_.1
theorem RI.w6 {x : Nat → Nat → Int32} {y : Nat → Nat → Nat} {g : Nat → Nat → Nat → Int32} {q w : Nat} {W : List pRow} {c : Nat} (h_ : RI x y g q w W c) : w ≤ 6 := h_.2.1
theorem RI.x0 {x : Nat → Nat → Int32} {y : Nat → Nat → Nat} {g : Nat → Nat → Nat → Int32} {q w : Nat} {W : List pRow} {c : Nat} (h_ : RI x y g q w W c) : x 0 q = nI w := h_.2.2.1
theorem RI.x1 {x : Nat → Nat → Int32} {y : Nat → Nat → Nat} {g : Nat → Nat → Nat → Int32} {q w : Nat} {W : List pRow} {c : Nat} (h_ : RI x y g q w W c) : x 1 q = nI W.length := h_.2.2.2.1
theorem RI.y1 {x : Nat → Nat → Int32} {y : Nat → Nat → Nat} {g : Nat → Nat → Nat → Int32} {q w : Nat} {W : List pRow} {c : Nat} (h_ : RI x y g q w W c) : y 1 q = c := h_.2.2.2.2.1
theorem RI.lo {x : Nat → Nat → Int32} {y : Nat → Nat → Nat} {g : Nat → Nat → Nat → Int32} {q w : Nat} {W : List pRow} {c : Nat} (h_ : RI x y g q w W c) : W.length * w ≤ c := h_.2.2.2.2.2.1
theorem RI.n {x : Nat → Nat → Int32} {y : Nat → Nat → Nat} {g : Nat → Nat → Nat → Int32} {q w : Nat} {W : List pRow} {c : Nat} (h_ : RI x y g q w W c) : W.length ≤ 4096 := h_.2.2.2.2.2.2.1
theorem RI.c8 {x : Nat → Nat → Int32} {y : Nat → Nat → Nat} {g : Nat → Nat → Nat → Int32} {q w : Nat} {W : List pRow} {c : Nat} (h_ : RI x y g q w W c) : 8 * w ≤ c := h_.2.2.2.2.2.2.2.1
theorem RI.cm {x : Nat → Nat → Int32} {y : Nat → Nat → Nat} {g : Nat → Nat → Nat → Int32} {q w : Nat} {W : List pRow} {c : Nat} (h_ : RI x y g q w W c) : c ≤ 8192 * w := h_.2.2.2.2.2.2.2.2.1
theorem RI.gd {x : Nat → Nat → Int32} {y : Nat → Nat → Nat} {g : Nat → Nat → Nat → Int32} {q w : Nat} {W : List pRow} {c : Nat} (h_ : RI x y g q w W c) : ∀ r k, r < W.length → k < w → g 0 q (r * w + k) = (W.getD r pz) k := h_.2.2.2.2.2.2.2.2.2
theorem RI.cB {x y g q w W c} (h : RI x y g q w W c) : c ≤ 49152 := by have := h.cm; have := h.w6; omega
theorem RI.ix {x y g q w W c} (h : RI x y g q w W c) {r k : Nat} (hr : r < W.length) (hk : k < w) : r * w + k < c := by
  have h1 : (r + 1) * w ≤ W.length * w := Nat.mul_le_mul_right w hr
  have := h.lo
  rw [Nat.succ_mul] at h1
  omega
theorem k_holds {x y g q w W c} (h : RI x y g q w W c) {r k : Nat} (hr : r < W.length) (hk : k < w) {Φ : Int32 → Prop} (hΦ : Φ 1) : wX4_holds x y g q (nI r) (nI k) Φ := by
  have := h.n; have := h.w6
  unfold wX4_holds
  rw [h.x0, h.x1]
  refine ⟨fun e => absurd e (nI_pos (by omega)), fun _ => ⟨fun e => absurd e (nI_ge hr (by omega)), fun _ => ⟨fun e => absurd e (nI_pos (by omega)), fun _ => ⟨fun e => absurd e (nI_ge hk (by omega)), fun _ => hΦ⟩⟩⟩⟩
theorem k_ix {x y g q w W c} (h : RI x y g q w W c) {r k : Nat} (hr : r < W.length) (hk : k < w) : vp_in (nI r * x 0 q + nI k) (y 1 q) ∧ (nI r * x 0 q + nI k).toNatClampNeg = r * w + k := by
  have h1 := h.ix hr hk
  have h2 := h.cB
  rw [h.x0, h.y1, p_mul, nI_add]
  exact ⟨vp_in_nI h1 (by omega), p_cl (by omega)⟩
theorem k_get {x y g q w W c} (h : RI x y g q w W c) {r k : Nat} (hr : r < W.length) (hk : k < w) {Φ : Int32 → Prop} (hΦ : Φ ((W.getD r pz) k)) : wX4_get x y g q (nI r) (nI k) Φ := by
  obtain ⟨h1, h2⟩ := k_ix h hr hk
  refine k_holds h hr hk ⟨fun e => absurd e (by decide), fun _ => ⟨h1, ?_⟩⟩
  rw [h2, h.gd r k hr hk]
  exact hΦ
def pg (g : Nat → Nat → Nat → Int32) (q : Nat) (z : Nat → Int32) : Nat → Nat → Nat → Int32 := va_up g 0 (va_up (g 0) q z)
theorem k_set {x y g q w W c} (h : RI x y g q w W c) {r k : Nat} {v : Int32} (hr : r < W.length) (hk : k < w) {Φ : (Nat → Nat → Int32) → (Nat → Nat → Nat) → (Nat → Nat → Nat → Int32) → Prop} (hΦ : ∀ z, RI x y (pg g q z) q w (W.set r (upd (W.getD r pz) k v)) c → Φ x y (pg g q z)) : wX4_set x y g q (nI r) (nI k) v Φ := by
  obtain ⟨h1, h2⟩ := k_ix h hr hk
  refine k_holds h hr hk ⟨fun e => absurd e (by decide), fun _ => ⟨h1, hΦ _ ?_⟩⟩
  rw [h2]
  refine ⟨h.w1, h.w6, h.x0, by rw [List.length_set]; exact h.x1, h.y1, by rw [List.length_set]; exact h.lo, by rw [List.length_set]; exact h.n, h.c8, h.cm, fun r2 k2 hr2 hk2 => ?_⟩
  rw [List.length_set] at hr2
  have e0 : (pg g q (upd (g 0 q) (r * w + k) v)) 0 q = upd (g 0 q) (r * w + k) v := by simp [pg, va_up]
  rw [e0, upd]
  by_cases e : r2 = r
  · subst e
    have e1 : (W.set r2 (upd (W.getD r2 pz) k v)).getD r2 pz = upd (W.getD r2 pz) k v := by simp [List.getD, hr]
    rw [e1, upd]
    by_cases e2 : k2 = k
    · rw [if_pos (by rw [e2]), if_pos e2]
    · rw [if_neg (by omega), if_neg e2, h.gd _ _ hr hk2]
  · have e1 : (W.set r (upd (W.getD r pz) k v)).getD r2 pz = W.getD r2 pz := by simp [List.getD, List.getElem?_set, Ne.symm e]
    rw [e1, if_neg, h.gd _ _ hr2 hk2]
    intro e3
    rcases Nat.lt_or_gt_of_ne e with h5 | h5
    · have := Nat.mul_le_mul_right w h5
      rw [Nat.succ_mul] at this
      omega
    · have := Nat.mul_le_mul_right w h5
      rw [Nat.succ_mul] at this
      omega
theorem p_us {α : Type} (f : Nat → α) (k : Nat) : va_up f k (f k) = f := funext fun j => by
  unfold va_up; split
  · next h => rw [h]
  · rfl
theorem p_uu {α : Type} (f : Nat → α) (k : Nat) (a b : α) : va_up (va_up f k a) k b = va_up f k b := funext fun j => by
  unfold va_up; split <;> rfl
theorem p_ug {α : Type} (f : Nat → α) (k : Nat) (a : α) : va_up f k a k = a := by simp [va_up]
theorem p_un {α : Type} (f : Nat → α) {k j : Nat} (a : α) (h : j ≠ k) : va_up f k a j = f j := by simp [va_up, h]
def py (y : Nat → Nat → Nat) (q a c : Nat) : Nat → Nat → Nat := va_up (va_up y 0 (va_up (y 0) q a)) 1 (va_up (y 1) q c)
theorem pg_self (g : Nat → Nat → Nat → Int32) (q : Nat) : pg g q (g 0 q) = g := by unfold pg; rw [p_us, p_us]
theorem pg_pg (g : Nat → Nat → Nat → Int32) (q : Nat) (a b : Nat → Int32) : pg (pg g q a) q b = pg g q b := by unfold pg; rw [p_ug, p_uu, p_uu]
theorem py_self (y : Nat → Nat → Nat) (q : Nat) : py y q (y 0 q) (y 1 q) = y := by unfold py; rw [p_us, p_us, p_us, p_us]
theorem pg_0 (g : Nat → Nat → Nat → Int32) (q : Nat) (z : Nat → Int32) : pg g q z 0 q = z := by unfold pg; rw [p_ug, p_ug]
theorem p_cpy {f g : Nat → Int32} {sp dp n k : Nat} : va_cpy f g sp dp n k = if dp ≤ k ∧ k < dp + n then f (sp + (k - dp)) else g k := rfl
theorem pgrow_ge (c n : Nat) : c ≤ pgrow c n := by unfold pgrow; split <;> omega
theorem pgrow_n (c n : Nat) : n ≤ pgrow c n := by unfold pgrow; split <;> omega
theorem pgrow_le {c n M : Nat} (h1 : c ≤ M) (h2 : n ≤ M) (h3 : 2 * n ≤ M) : pgrow c n ≤ M := by unfold pgrow; split <;> omega
theorem k_makeRoom {x y g q w W c} (h : RI x y g q w W c) {n bc bs : Nat} (hn : n ≤ 4096) (hc : pgrow c (n * w) ≤ c + bc) (hs : 2 * pgrow c (n * w) ≤ 2 * c + bs) {Φ : (Nat → Nat → Int32) → (Nat → Nat → Nat) → (Nat → Nat → Nat → Int32) → Prop} (hΦ : ∀ a z, RI x (py y q a (pgrow c (n * w))) (pg g q z) q w W (pgrow c (n * w)) → Φ x (py y q a (pgrow c (n * w))) (pg g q z)) : wX4_makeRoom x y g q (nI n) bc bs Φ := by
  have hB := h.cB
  have hw := h.w6
  have hm : n * w ≤ 4096 * w := Nat.mul_le_mul_right w hn
  have hl := h.lo
  have hm2 : n * w ≤ 24576 := by omega
  unfold wX4_makeRoom
  rw [h.x0, h.x1, h.y1, p_mul]
  rintro _ rfl
  refine ⟨fun hlt => ?_, fun hlt => ?_⟩
  · rw [nI_ltI (by omega) (by omega)] at hlt
    have hg : pgrow c (n * w) = max (n * w) (2 * c) := by unfold pgrow; rw [if_neg (by omega)]
    have e : (if nI (n * w) < 2 * nI c then 2 * nI c else nI (n * w)) = nI (pgrow c (n * w)) := by
      rw [hg, show (2 : Int32) = nI 2 from rfl, p_mul]
      by_cases h2 : n * w < 2 * c
      · rw [if_pos ((nI_ltI (by omega) (by omega)).2 h2), Nat.max_eq_right (by omega)]
      · rw [if_neg (fun e => h2 ((nI_ltI (by omega) (by omega)).1 e)), Nat.max_eq_left (by omega)]
    have hg2 : 2 * c ≤ pgrow c (n * w) := by omega
    have hg3 : pgrow c (n * w) ≤ 8192 * w := by omega
    rw [e, p_cl (by omega), p_mul, p_cl (by omega)]
    refine ⟨nI_pos (by omega), by omega, bc - 1, bs - pgrow c (n * w), by have := h.c8; have := h.w1; omega, by omega, fun q28 => ⟨by decide, by decide, nI_pos (by omega), by rw [p_tn0]; omega, by rw [p_tn0]; omega, ?_⟩⟩
    refine hΦ q28 _ ⟨h.w1, h.w6, h.x0, h.x1, by unfold py; rw [p_ug, p_ug], by omega, h.n, by have := h.c8; omega, hg3, fun r k hr hk => ?_⟩
    rw [pg_0, p_cpy, p_tn0]
    have h5 : r * w + k < W.length * w := by
      have := Nat.mul_le_mul_right w hr
      rw [Nat.succ_mul] at this
      omega
    rw [if_pos (by omega), Nat.zero_add, Nat.sub_zero]
    exact h.gd r k hr hk
  · rw [nI_ltI (by omega) (by omega)] at hlt
    have hg : pgrow c (n * w) = c := by unfold pgrow; rw [if_pos (by omega)]
    have h9 := hΦ (y 0 q) (g 0 q)
    rw [hg, pg_self, show c = y 1 q from h.y1.symm, py_self, h.y1] at h9
    exact h9 h
theorem p_ins {W : List pRow} {r : Nat} (hr : r ≤ W.length) (j : Nat) : (W.insertIdx r pz).getD j pz = if j < r then W.getD j pz else if j = r then pz else W.getD (j - 1) pz := by
  simp only [List.getD, List.getElem?_insertIdx]
  split
  · rfl
  · split
    · next e => rw [if_pos (by omega)]; rfl
    · rfl
theorem l_insert {x : Nat → Nat → Int32} {y : Nat → Nat → Nat} {g0 : Nat → Nat → Nat → Int32} {q w : Nat} {W : List pRow} {c : Nat} (hw1 : 1 ≤ w) (hw6 : w ≤ 6) (hx0 : x 0 q = nI w) (hx1 : x 1 q = nI W.length) (hy1 : y 1 q = c) (hlo : (W.length + 1) * w ≤ c) (hn : W.length < 4096) (hc8 : 8 * w ≤ c) (hcm : c ≤ 8192 * w) {r bc bs : Nat} (hr : r ≤ W.length) {Φ : (Nat → Nat → Int32) → (Nat → Nat → Nat) → (Nat → Nat → Nat → Int32) → Prop}
    (hΦ : ∀ z, RI (va_up x 1 (va_up (x 1) q (nI (W.length + 1)))) y (pg g0 q z) q w (W.insertIdx r pz) c → Φ (va_up x 1 (va_up (x 1) q (nI (W.length + 1)))) y (pg g0 q z)) :
    ∀ (j n k : Nat) (z : Nat → Int32), j + k = w → k ≤ w → j < n → (∀ i, i < r * w → z i = (W.getD (i / w) pz) (i % w)) → (∀ i, i < k → z (r * w + i) = 0) → (∀ i, (r + 1) * w ≤ i → i < (W.length + 1) * w → z i = (W.getD (i / w - 1) pz) (i % w)) → lX4_insert_71 Φ n x y (pg g0 q z) q (nI (r * w)) (nI k) bc bs := by
  have hB : c ≤ 49152 := by omega
  have hrw : (r + 1) * w ≤ (W.length + 1) * w := Nat.mul_le_mul_right w (by omega)
  have hrw2 : (r + 1) * w = r * w + w := Nat.succ_mul r w
  intro j
  induction j with
  | zero =>
    intro n k z hk _ hn1 h1 h2 h3
    obtain ⟨n, rfl⟩ : ∃ n', n = n' + 1 := ⟨n - 1, by omega⟩
    simp only [lX4_insert_71, hx0, hx1]
    refine ⟨fun _ => ?_, fun e => absurd (nI_le (by omega) (by omega)) e⟩
    rw [nI_1]
    refine hΦ z ⟨hw1, hw6, by rw [p_un _ _ (by decide)]; exact hx0, by rw [p_ug, p_ug, List.length_insertIdx_of_le_length hr], hy1, by rw [List.length_insertIdx_of_le_length hr]; exact hlo, by rw [List.length_insertIdx_of_le_length hr]; omega, hc8, hcm, fun r2 k2 hr2 hk2 => ?_⟩
    rw [List.length_insertIdx_of_le_length hr] at hr2
    rw [pg_0, p_ins hr]
    have hd : (r2 * w + k2) / w = r2 := by rw [Nat.mul_comm, Nat.mul_add_div (by omega), Nat.div_eq_of_lt hk2, Nat.add_zero]
    have hmo : (r2 * w + k2) % w = k2 := by rw [Nat.mul_comm, Nat.mul_add_mod, Nat.mod_eq_of_lt hk2]
    have hs2 : r2 * w + k2 < (r2 + 1) * w := by rw [Nat.succ_mul]; omega
    split
    · next hlt =>
      have := Nat.mul_le_mul_right w (show r2 + 1 ≤ r by omega)
      rw [h1 _ (by omega), hd, hmo]
    · split
      · next e =>
        subst e
        rw [h2 k2 (by omega)]
        rfl
      · have := Nat.mul_le_mul_right w (show r + 1 ≤ r2 by omega)
        have := Nat.mul_le_mul_right w (show r2 + 1 ≤ W.length + 1 by omega)
        rw [h3 _ (by omega) (by omega), hd, hmo]
  | succ j ih =>
    intro n k z hk hk2 hn1 h1 h2 h3
    obtain ⟨n, rfl⟩ : ∃ n', n = n' + 1 := ⟨n - 1, by omega⟩
    simp only [lX4_insert_71, hx0, hy1]
    refine ⟨fun e => absurd e (nI_ge (by omega) (by omega)), fun _ => ?_⟩
    rw [nI_add, nI_1, p_cl (by omega)]
    refine ⟨vp_in_nI (by omega) (by omega), ?_⟩
    rintro _ rfl
    have e0 : va_up (pg g0 q z) 0 (va_up (pg g0 q z 0) q (upd (pg g0 q z 0 q) (r * w + k) 0)) = pg g0 q (upd z (r * w + k) 0) := by
      rw [pg_0]; unfold pg; rw [p_ug, p_uu, p_uu]
    rw [e0]
    refine ih n (k + 1) _ (by omega) (by omega) (by omega) (fun i hi => ?_) (fun i hi => ?_) (fun i hi hi2 => ?_)
    · unfold upd; rw [if_neg (by omega)]; exact h1 i hi
    · unfold upd
      by_cases e : i = k
      · rw [e, if_pos rfl]
      · rw [if_neg (by omega)]; exact h2 i (by omega)
    · unfold upd; rw [if_neg (by omega)]; exact h3 i hi hi2
def px1 (x : Nat → Nat → Int32) (q n : Nat) : Nat → Nat → Int32 := va_up x 1 (va_up (x 1) q (nI n))
theorem p_divw {w k : Nat} (r : Nat) (hk : k < w) : (r * w + k) / w = r ∧ (r * w + k) % w = k := by
  constructor
  · rw [Nat.mul_comm, Nat.mul_add_div (by omega), Nat.div_eq_of_lt hk, Nat.add_zero]
  · rw [Nat.mul_comm, Nat.mul_add_mod, Nat.mod_eq_of_lt hk]
theorem RI.gi {x y g q w W c} (h : RI x y g q w W c) {i : Nat} (hi : i < W.length * w) : g 0 q i = (W.getD (i / w) pz) (i % w) := by
  have hw := h.w1
  have h1 : i / w < W.length := Nat.div_lt_of_lt_mul (by rwa [Nat.mul_comm])
  have h2 := h.gd _ _ h1 (Nat.mod_lt i (by omega))
  rwa [Nat.mul_comm (i / w) w, Nat.div_add_mod] at h2
theorem k_insert {x y g q w W c} (h : RI x y g q w W c) {r bc bs : Nat} (hr : r ≤ W.length) (hn : W.length < 4096) (hc : pgrow c ((W.length + 1) * w) ≤ c + bc) (hs : 2 * pgrow c ((W.length + 1) * w) ≤ 2 * c + bs) {Φ : (Nat → Nat → Int32) → (Nat → Nat → Nat) → (Nat → Nat → Nat → Int32) → Prop}
    (hΦ : ∀ a z, RI (px1 x q (W.length + 1)) (py y q a (pgrow c ((W.length + 1) * w))) (pg g q z) q w (W.insertIdx r pz) (pgrow c ((W.length + 1) * w)) → Φ (px1 x q (W.length + 1)) (py y q a (pgrow c ((W.length + 1) * w))) (pg g q z)) : wX4_insert x y g q (nI r) bc bs Φ := by
  unfold wX4_insert
  have hw6 := h.w6
  have hw1 := h.w1
  have e1 : x 1 q + 1 = nI (W.length + 1) := by rw [h.x1, nI_1]
  refine ⟨fun e => absurd e (nI_pos (by omega)), fun _ => ⟨fun e => absurd e (by rw [h.x1]; exact nI_nlt hr (by omega)), fun _ => ⟨fun _ => ⟨bc, bs, 0, 0, by omega, by omega, ?_⟩, fun e => absurd (by rw [h.x1]; exact (show nI W.length < nI 4096 from nI_lt hn (by decide))) e⟩⟩⟩
  rw [e1]
  refine k_makeRoom h (by omega) hc hs fun a z hI => ?_
  have hm : (W.length + 1) * w ≤ 24576 := by have := Nat.mul_le_mul_right w (show W.length + 1 ≤ 4096 by omega); omega
  have hrw : (r + 1) * w ≤ (W.length + 1) * w := Nat.mul_le_mul_right w (by omega)
  have hrw2 : (r + 1) * w = r * w + w := Nat.succ_mul r w
  have hrw3 : (W.length + 1) * w = W.length * w + w := Nat.succ_mul _ _
  have hrw4 : r * w ≤ W.length * w := Nat.mul_le_mul_right w hr
  have hd : (W.length - r) * w = (W.length + 1) * w - (r + 1) * w := by rw [← Nat.sub_mul]; congr 1; omega
  have hlo := pgrow_n c ((W.length + 1) * w)
  rw [hI.x0, hI.x1, hI.y1, p_mul]
  rintro _ rfl
  rw [nI_add, p_sub hr, p_mul, p_cl (by omega), p_cl (by omega), p_cl (by omega)]
  refine ⟨nI_pos (by omega), nI_pos (by omega), nI_pos (by omega), by omega, by omega, w + 1, ?_⟩
  have e0 : ∀ zz, va_up (pg g q z) 0 (va_up (pg g q z 0) q zz) = pg g q zz := fun zz => by unfold pg; rw [p_ug, p_uu, p_uu]
  rw [e0, pg_0]
  have e2 : (0 : Int32) = nI 0 := rfl
  rw [e2]
  refine l_insert hw1 hw6 hI.x0 hI.x1 hI.y1 hlo hn hI.c8 hI.cm hr (fun zz hz => hΦ a zz hz) w (w + 1) 0 _ (by omega) (by omega) (by omega) (fun i hi => ?_) (fun i hi => absurd hi (by omega)) (fun i hi hi2 => ?_)
  · rw [p_cpy, if_neg (by omega), ← pg_0 g q z, hI.gi (by omega)]
  · rw [p_cpy, if_pos (by omega), ← pg_0 g q z, hI.gi (by omega)]
    have h3 : r * w + (i - (r * w + w)) = i - w := by omega
    have h4 : i / w - 1 = (i - w) / w := by
      have := Nat.sub_mul_div i w 1
      rw [Nat.mul_one] at this
      omega
    have h5 : i % w = (i - w) % w := by
      rw [← Nat.mod_eq_sub_mod (by omega)]
    rw [h3, h4, h5]
theorem k_remove {x y g q w W c} (h : RI x y g q w W c) {r m : Nat} (hr : r + m ≤ W.length) {Φ : (Nat → Nat → Int32) → (Nat → Nat → Nat) → (Nat → Nat → Nat → Int32) → Prop}
    (hΦ : ∀ z, RI (px1 x q (W.length - m)) y (pg g q z) q w (W.take r ++ W.drop (r + m)) c → Φ (px1 x q (W.length - m)) y (pg g q z)) : wX4_remove x y g q (nI r) (nI m) Φ := by
  have hw6 := h.w6
  have hw1 := h.w1
  have hn := h.n
  have hlo := h.lo
  have hB := h.cB
  have hl : (W.take r ++ W.drop (r + m)).length = W.length - m := by rw [List.length_append, List.length_take, List.length_drop]; omega
  have hm : (r + m) * w ≤ W.length * w := Nat.mul_le_mul_right w hr
  have hm2 : (r + m) * w = r * w + m * w := Nat.add_mul r m w
  have hd : (W.length - (r + m)) * w = W.length * w - (r + m) * w := Nat.sub_mul _ _ _
  have hd2 : (W.length - m) * w = W.length * w - m * w := Nat.sub_mul _ _ _
  unfold wX4_remove
  rw [h.x0, h.x1, h.y1, p_sub (by omega), p_mul]
  refine ⟨fun e => absurd e (nI_pos (by omega)), fun _ => ⟨fun e => absurd e (nI_pos (by omega)), fun _ => ⟨fun _ => ?_, fun e => absurd (nI_le (by omega) (by omega)) e⟩⟩⟩
  rintro _ rfl
  rw [nI_add, p_mul, p_sub hr, p_mul, p_cl (by omega), p_cl (by omega), p_cl (by omega)]
  refine ⟨nI_pos (by omega), nI_pos (by omega), nI_pos (by omega), by omega, by omega, hΦ _ ⟨hw1, hw6, by unfold px1; rw [p_un _ _ (by decide)]; exact h.x0, by unfold px1; rw [p_ug, p_ug, hl], h.y1, by rw [hl]; omega, by rw [hl]; omega, h.c8, h.cm, fun r2 k2 hr2 hk2 => ?_⟩⟩
  rw [hl] at hr2
  rw [pg_0, p_cpy]
  have hs2 : r2 * w + k2 < (r2 + 1) * w := by rw [Nat.succ_mul]; omega
  by_cases h2 : r2 < r
  · have := Nat.mul_le_mul_right w (show r2 + 1 ≤ r by omega)
    rw [if_neg (by omega), h.gd _ _ (by omega) hk2]
    congr 1
    simp only [List.getD, List.getElem?_append, List.length_take]
    rw [if_pos (by omega), List.getElem?_take, if_pos h2]
  · have := Nat.mul_le_mul_right w (show r ≤ r2 by omega)
    have := Nat.mul_le_mul_right w (show r2 + 1 ≤ W.length - m by omega)
    have e : (r + m) * w + (r2 * w + k2 - r * w) = (r2 + m) * w + k2 := by rw [Nat.add_mul r2 m w]; omega
    rw [if_pos (by omega), e, h.gd _ _ (by omega) hk2]
    congr 1
    simp only [List.getD, List.getElem?_append, List.length_take, List.getElem?_drop]
    rw [if_neg (by omega), show r + m + (r2 - min r W.length) = r2 + m by omega]
theorem k_cutTo {x y g q w W c} (h : RI x y g q w W c) {m : Nat} (hm : m ≤ W.length) {Φ : (Nat → Nat → Int32) → (Nat → Nat → Nat) → (Nat → Nat → Nat → Int32) → Prop}
    (hΦ : RI (px1 x q m) y g q w (W.take m) c → Φ (px1 x q m) y g) : wX4_cutTo x y g q (nI m) Φ := by
  have hw6 := h.w6
  have hn := h.n
  unfold wX4_cutTo
  rw [h.x1]
  have hR : RI (px1 x q m) y g q w (W.take m) c := by
    have hl : (W.take m).length = m := by rw [List.length_take]; omega
    have h3 := Nat.mul_le_mul_right w hm
    have hlo := h.lo
    refine ⟨h.w1, hw6, by unfold px1; rw [p_un _ _ (by decide)]; exact h.x0, by unfold px1; rw [p_ug, p_ug, hl], h.y1, by rw [hl]; omega, by rw [hl]; omega, h.c8, h.cm, fun r k hr hk => ?_⟩
    rw [hl] at hr
    rw [h.gd r k (by omega) hk]
    congr 1
    simp only [List.getD, List.getElem?_take]
    rw [if_pos hr]
  refine ⟨fun e => absurd e (nI_pos (by omega)), fun _ => ⟨fun e => ?_, fun _ => hΦ hR⟩⟩
  have hmm : m = W.length := by rw [nI_leI (by omega) (by omega)] at e; omega
  have : px1 x q m = x := by unfold px1; rw [hmm, ← h.x1, p_us, p_us]
  have h9 := hΦ hR
  rwa [this] at h9
theorem k_copyFrom {x y g q q' w W W' c c'} (h : RI x y g q w W c) (h' : RI x y g q' w W' c') (hq : q' ≠ q) {bc bs : Nat} (hc : pgrow c (W'.length * w) ≤ c + bc) (hs : 2 * pgrow c (W'.length * w) ≤ 2 * c + bs) {Φ : (Nat → Nat → Int32) → (Nat → Nat → Nat) → (Nat → Nat → Nat → Int32) → Prop}
    (hΦ : ∀ a z, RI (px1 x q W'.length) (py y q a (pgrow c (W'.length * w))) (pg g q z) q w W' (pgrow c (W'.length * w)) → Φ (px1 x q W'.length) (py y q a (pgrow c (W'.length * w))) (pg g q z)) : wX4_copyFrom x y g q q' bc bs Φ := by
  have hw6 := h.w6
  have hn := h'.n
  have hB := h'.cB
  have hlo' := h'.lo
  have hlo := pgrow_n c (W'.length * w)
  unfold wX4_copyFrom
  rw [h'.x0, h.x0, h'.x1]
  refine ⟨fun _ => ⟨bc, bs, 0, 0, by omega, by omega, k_makeRoom h hn hc hs fun a z hI => ?_⟩, fun e => absurd rfl e⟩
  have hy : py y q a (pgrow c (W'.length * w)) 1 q' = c' := by unfold py; rw [p_ug, p_un _ _ hq]; exact h'.y1
  rw [hI.x0, hI.y1, hy, h'.x1, p_mul, p_cl (by omega), p_tn0]
  refine ⟨by decide, by decide, nI_pos (by omega), by omega, by omega, ?_⟩
  have e0 : ∀ zz, va_up (pg g q z) 0 (va_up (pg g q z 0) q zz) = pg g q zz := fun zz => by unfold pg; rw [p_ug, p_uu, p_uu]
  rw [e0]
  refine hΦ a _ ⟨h.w1, hw6, by unfold px1; rw [p_un _ _ (by decide)]; exact h.x0, by unfold px1; rw [p_ug, p_ug], hI.y1, hlo, hn, hI.c8, hI.cm, fun r k hr hk => ?_⟩
  have h5 : r * w + k < W'.length * w := by
    have := Nat.mul_le_mul_right w hr
    rw [Nat.succ_mul] at this
    omega
  rw [pg_0, p_cpy, if_pos (by omega), Nat.zero_add, Nat.sub_zero, ← h'.gd r k hr hk]
  unfold pg
  rw [p_ug, p_un _ _ hq]
abbrev CS : Type := (Nat → List pRow) × (Nat → Nat) × (Nat → Nat → Int32) × (Nat → Nat → Nat) × (Nat → Nat → Nat → Int32)
abbrev CS.mk (a0 : Nat → List pRow) (a1 : Nat → Nat) (a2 : Nat → Nat → Int32) (a3 : Nat → Nat → Nat) (a4 : Nat → Nat → Nat → Int32) : CS := (a0, a1, a2, a3, a4)
abbrev CS.R (S : CS) : Nat → List pRow := Prod.fst S
abbrev CS.cap (S : CS) : Nat → Nat := Prod.fst (Prod.snd S)
abbrev CS.x (S : CS) : Nat → Nat → Int32 := Prod.fst (Prod.snd (Prod.snd S))
abbrev CS.y (S : CS) : Nat → Nat → Nat := Prod.fst (Prod.snd (Prod.snd (Prod.snd S)))
abbrev CS.g (S : CS) : Nat → Nat → Nat → Int32 := (Prod.snd (Prod.snd (Prod.snd (Prod.snd S))))
theorem CS.mk_R (a0 : Nat → List pRow) (a1 : Nat → Nat) (a2 : Nat → Nat → Int32) (a3 : Nat → Nat → Nat) (a4 : Nat → Nat → Nat → Int32) : (CS.mk a0 a1 a2 a3 a4).R = a0 := rfl
theorem CS.mk_cap (a0 : Nat → List pRow) (a1 : Nat → Nat) (a2 : Nat → Nat → Int32) (a3 : Nat → Nat → Nat) (a4 : Nat → Nat → Nat → Int32) : (CS.mk a0 a1 a2 a3 a4).cap = a1 := rfl
theorem CS.mk_x (a0 : Nat → List pRow) (a1 : Nat → Nat) (a2 : Nat → Nat → Int32) (a3 : Nat → Nat → Nat) (a4 : Nat → Nat → Nat → Int32) : (CS.mk a0 a1 a2 a3 a4).x = a2 := rfl
theorem CS.mk_y (a0 : Nat → List pRow) (a1 : Nat → Nat) (a2 : Nat → Nat → Int32) (a3 : Nat → Nat → Nat) (a4 : Nat → Nat → Nat → Int32) : (CS.mk a0 a1 a2 a3 a4).y = a3 := rfl
theorem CS.mk_g (a0 : Nat → List pRow) (a1 : Nat → Nat) (a2 : Nat → Nat → Int32) (a3 : Nat → Nat → Nat) (a4 : Nat → Nat → Nat → Int32) : (CS.mk a0 a1 a2 a3 a4).g = a4 := rfl
theorem CS.mk_eta (S : CS) : CS.mk S.R S.cap S.x S.y S.g = S := rfl
abbrev RC (S : CS) (x : Nat → Nat → Int32) (y : Nat → Nat → Nat) (g : Nat → Nat → Nat → Int32) : Prop := (∀ q, q < 12 → RI x y g q (pwq q) (S.R q) (S.cap q)) ∧ (∀ k, 2 ≤ k → x k = S.x k) ∧ (∀ k, 2 ≤ k → y k = S.y k) ∧ (∀ k, 1 ≤ k → g k = S.g k)
theorem RC.rows {S : CS} {x : Nat → Nat → Int32} {y : Nat → Nat → Nat} {g : Nat → Nat → Nat → Int32} (h_ : RC S x y g) : ∀ q, q < 12 → RI x y g q (pwq q) (S.R q) (S.cap q) := h_.1
theorem RC.hx {S : CS} {x : Nat → Nat → Int32} {y : Nat → Nat → Nat} {g : Nat → Nat → Nat → Int32} (h_ : RC S x y g) : ∀ k, 2 ≤ k → x k = S.x k := h_.2.1
theorem RC.hy {S : CS} {x : Nat → Nat → Int32} {y : Nat → Nat → Nat} {g : Nat → Nat → Nat → Int32} (h_ : RC S x y g) : ∀ k, 2 ≤ k → y k = S.y k := h_.2.2.1
theorem RC.hg {S : CS} {x : Nat → Nat → Int32} {y : Nat → Nat → Nat} {g : Nat → Nat → Nat → Int32} (h_ : RC S x y g) : ∀ k, 1 ≤ k → g k = S.g k := h_.2.2.2
abbrev pK := (Nat → Nat → Int32) → (Nat → Nat → Nat) → (Nat → Nat → Nat → Int32) → Prop
def pSum (c : Nat → Nat) : Nat := c 0 + c 1 + c 2 + c 3 + c 4 + c 5 + c 6 + c 7 + c 8 + c 9 + c 10 + c 11
theorem pSum_up (c : Nat → Nat) {q : Nat} (hq : q < 12) (v : Nat) : pSum (va_up c q v) + c q = pSum c + v := by
  have h : q = 0 ∨ q = 1 ∨ q = 2 ∨ q = 3 ∨ q = 4 ∨ q = 5 ∨ q = 6 ∨ q = 7 ∨ q = 8 ∨ q = 9 ∨ q = 10 ∨ q = 11 := by omega
  rcases h with h | h | h | h | h | h | h | h | h | h | h | h <;> subst h <;> simp [CS.mk_R, CS.mk_cap, CS.mk_x, CS.mk_y, CS.mk_g, CS.mk_eta, pSum, va_up] <;> omega
theorem RI.frame {x y g q w W c} (h : RI x y g q w W c) {q' : Nat} (hq : q ≠ q') (n a c' : Nat) (z : Nat → Int32) : RI (px1 x q' n) (py y q' a c') (pg g q' z) q w W c :=
  ⟨h.w1, h.w6, by unfold px1; rw [p_un _ _ (by decide)]; exact h.x0, by unfold px1; rw [p_ug, p_un _ _ hq]; exact h.x1, by unfold py; rw [p_ug, p_un _ _ hq]; exact h.y1, h.lo, h.n, h.c8, h.cm, fun r k hr hk => by unfold pg; rw [p_ug, p_un _ _ hq]; exact h.gd r k hr hk⟩
theorem px1_self {x y g q w W c} (h : RI x y g q w W c) : px1 x q W.length = x := by unfold px1; rw [← h.x1, p_us, p_us]
theorem py1_self {x y g q w W c} (h : RI x y g q w W c) : py y q (y 0 q) c = y := by rw [← h.y1, py_self]
def cRw (S : CS) (q : Nat) (W : List pRow) (c : Nat) : CS := (CS.mk (va_up S.R q W) (va_up S.cap q c) S.x S.y S.g)
theorem RC.put {S x y g} (h : RC S x y g) {q : Nat} (hq : q < 12) {W : List pRow} {n a c : Nat} {z : Nat → Int32} (hI : RI (px1 x q n) (py y q a c) (pg g q z) q (pwq q) W c) : RC (cRw S q W c) (px1 x q n) (py y q a c) (pg g q z) := by
  refine ⟨fun q' hq' => ?_, fun k hk => ?_, fun k hk => ?_, fun k hk => ?_⟩
  · by_cases e : q' = q
    · subst e
      simp only [CS.mk_R, CS.mk_cap, CS.mk_x, CS.mk_y, CS.mk_g, CS.mk_eta, cRw, p_ug]
      exact hI
    · simp only [CS.mk_R, CS.mk_cap, CS.mk_x, CS.mk_y, CS.mk_g, CS.mk_eta, cRw, p_un _ _ e]
      exact (h.rows q' hq').frame e n a c z
  · unfold px1; rw [p_un _ _ (by omega)]; exact h.hx k hk
  · unfold py; rw [p_un _ _ (by omega), p_un _ _ (by omega)]; exact h.hy k hk
  · unfold pg; rw [p_un _ _ (by omega)]; exact h.hg k hk
theorem c_get {S x y g} (h : RC S x y g) {q r k : Nat} (hq : q < 12) (hr : r < (S.R q).length) (hk : k < pwq q) {Φ : Int32 → Prop} (hΦ : Φ (((S.R q).getD r pz) k)) : wX4_get x y g q (nI r) (nI k) Φ := k_get (h.rows q hq) hr hk hΦ
theorem c_set {S x y g} (h : RC S x y g) {q r k : Nat} {v : Int32} (hq : q < 12) (hr : r < (S.R q).length) (hk : k < pwq q) {Φ : pK} (hΦ : ∀ x y g, RC (cRw S q ((S.R q).set r (upd ((S.R q).getD r pz) k v)) (S.cap q)) x y g → Φ x y g) : wX4_set x y g q (nI r) (nI k) v Φ := by
  have hI := h.rows q hq
  refine k_set hI hr hk fun z hz => hΦ _ _ _ ?_
  have e1 := px1_self hz
  have e2 := py1_self hI
  have := RC.put (z := z) (n := ((S.R q).set r (upd ((S.R q).getD r pz) k v)).length) (a := y 0 q) (c := S.cap q) h hq (W := (S.R q).set r (upd ((S.R q).getD r pz) k v)) (by rw [e1, e2]; exact hz)
  rwa [e1, e2] at this
def cIns (S : CS) (q r : Nat) : CS := cRw S q ((S.R q).insertIdx r pz) (pgrow (S.cap q) (((S.R q).length + 1) * pwq q))
abbrev cOK (S T : CS) (bc bs : Nat) : Prop := (pSum T.cap ≤ pSum S.cap + bc) ∧ (2 * pSum T.cap ≤ 2 * pSum S.cap + bs)
theorem cOK.c {S T : CS} {bc bs : Nat} (h_ : cOK S T bc bs) : pSum T.cap ≤ pSum S.cap + bc := h_.1
theorem cOK.s {S T : CS} {bc bs : Nat} (h_ : cOK S T bc bs) : 2 * pSum T.cap ≤ 2 * pSum S.cap + bs := h_.2
theorem cOK.rw {S : CS} {q : Nat} {W : List pRow} {c bc bs : Nat} (hq : q < 12) (h : cOK S (cRw S q W c) bc bs) : c ≤ S.cap q + bc ∧ 2 * c ≤ 2 * S.cap q + bs := by
  have h1 := pSum_up S.cap hq c
  have h2 := h.c
  have h3 := h.s
  simp only [CS.mk_R, CS.mk_cap, CS.mk_x, CS.mk_y, CS.mk_g, CS.mk_eta, cRw] at h2 h3
  omega
theorem cMon_rw {S : CS} {q : Nat} (W : List pRow) {c : Nat} (hq : q < 12) (h : S.cap q ≤ c) : pSum S.cap ≤ pSum (cRw S q W c).cap := by
  have h1 := pSum_up S.cap hq c
  simp only [CS.mk_R, CS.mk_cap, CS.mk_x, CS.mk_y, CS.mk_g, CS.mk_eta, cRw]
  omega
theorem c_insert {S x y g} (h : RC S x y g) {q r bc bs : Nat} (hq : q < 12) (hr : r ≤ (S.R q).length) (hn : (S.R q).length < 4096) (hc : cOK S (cIns S q r) bc bs) {Φ : pK} (hΦ : ∀ x y g, RC (cIns S q r) x y g → Φ x y g) : wX4_insert x y g q (nI r) bc bs Φ := by
  obtain ⟨h1, h2⟩ := cOK.rw hq hc
  exact k_insert (h.rows q hq) hr hn h1 h2 fun a z hz => hΦ _ _ _ (RC.put h hq hz)
theorem c_remove {S x y g} (h : RC S x y g) {q r m : Nat} (hq : q < 12) (hr : r + m ≤ (S.R q).length) {Φ : pK} (hΦ : ∀ x y g, RC (cRw S q ((S.R q).take r ++ (S.R q).drop (r + m)) (S.cap q)) x y g → Φ x y g) : wX4_remove x y g q (nI r) (nI m) Φ := by
  have hI := h.rows q hq
  refine k_remove hI hr fun z hz => hΦ _ _ _ ?_
  have e2 := py1_self hI
  have := RC.put (z := z) (n := (S.R q).length - m) (a := y 0 q) (c := S.cap q) h hq (W := (S.R q).take r ++ (S.R q).drop (r + m)) (by rw [e2]; exact hz)
  rwa [e2] at this
theorem c_cutTo {S x y g} (h : RC S x y g) {q m : Nat} (hq : q < 12) (hm : m ≤ (S.R q).length) {Φ : pK} (hΦ : ∀ x y g, RC (cRw S q ((S.R q).take m) (S.cap q)) x y g → Φ x y g) : wX4_cutTo x y g q (nI m) Φ := by
  have hI := h.rows q hq
  refine k_cutTo hI hm fun hz => hΦ _ _ _ ?_
  have e2 := py1_self hI
  have := RC.put (z := g 0 q) (n := m) (a := y 0 q) (c := S.cap q) h hq (W := (S.R q).take m) (by rw [e2, pg_self]; exact hz)
  rwa [e2, pg_self] at this
def cCopy (S : CS) (q q' : Nat) : CS := cRw S q (S.R q') (pgrow (S.cap q) ((S.R q').length * pwq q))
theorem c_copyFrom {S x y g} (h : RC S x y g) {q q' bc bs : Nat} (hq : q < 12) (hq' : q' < 12) (hw : pwq q' = pwq q) (hne : q' ≠ q) (hc : cOK S (cCopy S q q') bc bs) {Φ : pK} (hΦ : ∀ x y g, RC (cCopy S q q') x y g → Φ x y g) : wX4_copyFrom x y g q q' bc bs Φ := by
  obtain ⟨h1, h2⟩ := cOK.rw hq hc
  exact k_copyFrom (h.rows q hq) (hw ▸ h.rows q' hq') hne h1 h2 fun a z hz => hΦ _ _ _ (RC.put h hq hz)
def uX (S : CS) (k i : Nat) (v : Int32) : CS := (CS.mk S.R S.cap (va_up S.x k (va_up (S.x k) i v)) S.y S.g)
def cY (S : CS) (k i v : Nat) : CS := (CS.mk S.R S.cap S.x (va_up S.y k (va_up (S.y k) i v)) S.g)
def cG (S : CS) (k i : Nat) (f : Nat → Int32) : CS := (CS.mk S.R S.cap S.x S.y (va_up S.g k (va_up (S.g k) i f)))
theorem RC.X {S x y g} (h : RC S x y g) {k i : Nat} {v : Int32} (hk : 2 ≤ k) : RC (uX S k i v) (va_up x k (va_up (x k) i v)) y g := by
  refine ⟨fun q hq => ?_, fun j hj => ?_, h.hy, h.hg⟩
  · have hI := h.rows q hq
    exact ⟨hI.w1, hI.w6, by rw [p_un _ _ (by omega)]; exact hI.x0, by rw [p_un _ _ (by omega)]; exact hI.x1, hI.y1, hI.lo, hI.n, hI.c8, hI.cm, hI.gd⟩
  · simp only [CS.mk_R, CS.mk_cap, CS.mk_x, CS.mk_y, CS.mk_g, CS.mk_eta, uX, ← h.hx k hk]
    by_cases e : j = k
    · rw [e, p_ug, p_ug]
    · rw [p_un _ _ e, p_un _ _ e]; exact h.hx j hj
theorem RC.Y {S x y g} (h : RC S x y g) {k i v : Nat} (hk : 2 ≤ k) : RC (cY S k i v) x (va_up y k (va_up (y k) i v)) g := by
  refine ⟨fun q hq => ?_, h.hx, fun j hj => ?_, h.hg⟩
  · have hI := h.rows q hq
    exact ⟨hI.w1, hI.w6, hI.x0, hI.x1, by rw [p_un _ _ (by omega)]; exact hI.y1, hI.lo, hI.n, hI.c8, hI.cm, hI.gd⟩
  · simp only [CS.mk_R, CS.mk_cap, CS.mk_x, CS.mk_y, CS.mk_g, CS.mk_eta, cY, ← h.hy k hk]
    by_cases e : j = k
    · rw [e, p_ug, p_ug]
    · rw [p_un _ _ e, p_un _ _ e]; exact h.hy j hj
theorem RC.G {S x y g} (h : RC S x y g) {k i : Nat} {f : Nat → Int32} (hk : 1 ≤ k) : RC (cG S k i f) x y (va_up g k (va_up (g k) i f)) := by
  refine ⟨fun q hq => ?_, h.hx, h.hy, fun j hj => ?_⟩
  · have hI := h.rows q hq
    exact ⟨hI.w1, hI.w6, hI.x0, hI.x1, hI.y1, hI.lo, hI.n, hI.c8, hI.cm, fun r k2 hr hk2 => by rw [p_un _ _ (by omega)]; exact hI.gd r k2 hr hk2⟩
  · simp only [CS.mk_R, CS.mk_cap, CS.mk_x, CS.mk_y, CS.mk_g, CS.mk_eta, cG, ← h.hg k hk]
    by_cases e : j = k
    · rw [e, p_ug, p_ug]
    · rw [p_un _ _ e, p_un _ _ e]; exact h.hg j hj
theorem RC.len {S x y g} (h : RC S x y g) {q : Nat} (hq : q < 12) : x 1 q = nI (S.R q).length := (h.rows q hq).x1
theorem RC.n {S x y g} (h : RC S x y g) {q : Nat} (hq : q < 12) : (S.R q).length ≤ 4096 := (h.rows q hq).n
