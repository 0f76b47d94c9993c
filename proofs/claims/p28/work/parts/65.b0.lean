/-! ===== the law's own checks: totals ===== -/
theorem cTotE_FF (S : CS) (rd : Nat → Nat) (k b : Int32) : cTotE S rd k b = (FF (S.y 3 0) (S.x 10 0) (EV S rd) k b).getD 0 := by
  unfold cTotE
  rw [EV_flat, FF_te]
theorem tot_at {S M d i} (hr : Rel S M d i) (h5 : M.x 5 = 1) (hT : TS0 S d) (hs : S.y 5 0 ≠ 10) {k j : Nat} (hk : k < 8) (hj : j * d.sl < 1000) : cTotA S d.rd d.sl (nI k) (nI (j * d.sl)) = TR (S.R 4) (nI k) (nI (j * d.sl)) := by
  have hQ := hr.pl.q h5
  have s1 := hQ.s1
  have s2 := hQ.s2
  have z2 := hQ.z2
  have := ((hT.2.2 hs).2 k j hk hj).1
  rw [this]
  unfold cTotA
  rw [if_neg (nI_pos (by omega)), if_neg (show ¬ (999 : Int32) < nI (j * d.sl) from nI_nlt (a := 999) (by omega) (by omega)), p_rem (by omega) (by omega) (by omega), Nat.mul_mod_left, if_pos (show nI 0 = 0 from rfl), hQ.zc, nI_add, cTotE_FF, hQ.zc]
theorem tot_off {S : CS} {rd : Nat → Nat} {sl k j : Nat} (h1 : 1 < sl) (h2 : sl < 100) (hj : j * sl < 1000) : cTotA S rd sl (nI k) (nI (j * sl + 1)) = 0 := by
  unfold cTotA
  rw [if_neg (nI_pos (by omega))]
  split
  · rfl
  · rw [p_rem (by omega) (by omega) (by omega), if_neg]
    intro e
    have : (j * sl + 1) % sl = 1 := by rw [Nat.mul_comm, Nat.mul_add_mod, Nat.mod_eq_of_lt h1]
    rw [this] at e
    exact absurd e (by decide)
theorem tot_m1 {S : CS} {rd : Nat → Nat} {sl : Nat} {k : Int32} : cTotA S rd sl k (-1) = 0 := by
  unfold cTotA
  exact if_pos (by decide)
theorem a_totX {S M d i x y g} {qf cf : Nat → Int32} (hc : RC S x y g) (hr : Rel S M d i) (hz : (M.x 5 = 0 ∧ cf 6 = 0) ∨ (S.y 5 0 = 10 ∧ qf 1 = 2)) {X : Nat} (hX : X < 2 ^ 30) {v5 : Int32} {Φ : pL} (hΦ : Φ 1 x y g qf cf) : ∀ (m f k : Nat) (bc bs : Nat), k + m = 8 → m < f → m ≤ bc → 6 * m ≤ bs → lL_areTotals_24 Φ f x y g qf cf (nI X) 1 v5 (nI k) bc bs := by
  intro m
  induction m with
  | zero =>
    intro f k bc bs hk hf h1 h2
    obtain ⟨f, rfl⟩ : ∃ f', f = f' + 1 := ⟨f - 1, by omega⟩
    have e : k = 8 := by omega
    subst e
    simp only [lL_areTotals_24]
    exact ify (by decide) ⟨.inr trivial, hΦ⟩
  | succ m ih =>
    intro f k bc bs hk hf h1 h2
    obtain ⟨f, rfl⟩ : ∃ f', f = f' + 1 := ⟨f - 1, by omega⟩
    have nxt := ih f (k + 1) (bc - 1) (bs - 6) (by omega) (by omega) (by omega) (by omega)
    have j89 : jL_areTotals_89 (lL_areTotals_24 Φ f) Φ x y g qf cf (nI X) v5 (nI k) (-70008) (bc - 1) (bs - 6) := by
      unfold jL_areTotals_89
      refine ify rfl ?_
      rintro _ rfl
      rw [nI_1]; exact nxt
    simp only [lL_areTotals_24]
    refine ifn (nI_ge (b := 8) (by omega) (by omega)) (ifn (by decide) ?_)
    rintro _ rfl _ rfl
    rw [nI_add, show (8 : Int32) = nI 8 from rfl, p_rem (by omega) (by omega) (by omega)]
    refine ⟨1, 6, bc - 1, bs - 6, by omega, by omega, asks_6 (q_anewX hc hr (Nat.mod_lt _ (by omega)) (Nat.le_refl _) (Nat.le_refl _) (hz.imp (·.1) (·.1)) (AX.ise ⟨fun _ => j89, fun c => ⟨fun _ => j89, fun c2 => ?_⟩⟩))⟩
    rcases hz with ⟨_, z⟩ | ⟨_, z⟩
    · exact absurd z c2
    · exact absurd z c
theorem a_totP {S M d i x y g} {qf cf : Nat → Int32} (hc : RC S x y g) (hr : Rel S M d i) (h5 : M.x 5 = 1) (hT : TS0 S d) (hs : S.y 5 0 ≠ 10) (h1 : qf 1 ≠ 2) (h6 : cf 6 ≠ 0) (h12 : d.sl ≤ 12) {X : Nat} (hX : X < 2 ^ 30) {Φ : pL} (hΦ : Φ 1 x y g qf cf) {bc bs : Nat} : ∀ (m f k : Nat), k + m = 8 → m < f → lL_areTotals_24 Φ f x y g qf cf (nI X) 1 (nI d.sl) (nI k) bc bs := by
  have hQ := hr.pl.q h5
  have s1 := hQ.s1
  intro m
  induction m with
  | zero =>
    intro f k hk hf
    obtain ⟨f, rfl⟩ : ∃ f', f = f' + 1 := ⟨f - 1, by omega⟩
    have e : k = 8 := by omega
    subst e
    simp only [lL_areTotals_24]
    exact ify (by decide) ⟨.inr trivial, hΦ⟩
  | succ m ih =>
    intro f k hk hf
    obtain ⟨f, rfl⟩ : ∃ f', f = f' + 1 := ⟨f - 1, by omega⟩
    have nxt := ih f (k + 1) (by omega) (by omega)
    have hkk : (X + k) % 8 < 8 := Nat.mod_lt _ (by omega)
    have hxx : X / 8 % 8 < 8 := Nat.mod_lt _ (by omega)
    have hj : (X / 8 % 8 + k) * d.sl < 1000 := by
      have : (X / 8 % 8 + k) * d.sl ≤ 14 * 12 := Nat.mul_le_mul (by omega) h12
      omega
    have j138 : jL_areTotals_138 (lL_areTotals_24 Φ f) Φ x y g qf cf (nI X) (nI d.sl) (nI k) (nI ((X + k) % 8)) bc bs := by
      unfold jL_areTotals_138
      refine ⟨0, 0, bc, bs, by omega, by omega, asks_6 (q_anew hc hr h5 hs hkk (ify tot_m1 ?_))⟩
      rintro _ rfl
      rw [nI_1]; exact nxt
    simp only [lL_areTotals_24]
    refine ifn (nI_ge (b := 8) (by omega) (by omega)) (ifn (by decide) ?_)
    rintro _ rfl _ rfl
    rw [nI_add, show (8 : Int32) = nI 8 from rfl, p_rem (by omega) (by omega) (by omega), p_div (by omega) (by omega) (by omega), p_rem (by omega) (by omega) (by omega), p_mul, p_mul, nI_add, ← Nat.add_mul]
    refine ⟨0, 0, bc, bs, by omega, by omega, asks_6 (q_anew hc hr h5 hs hkk (ifn h1 (ifn h6 ⟨0, 0, bc, bs, by omega, by omega, q_total hc hkk (ify (tot_at hr h5 hT hs hkk hj) ⟨fun _ => j138, fun c => ?_⟩)⟩)))⟩
    have hsl : 1 < d.sl := by
      have : d.sl ≠ 1 := fun z => c (by rw [z]; rfl)
      omega
    rw [nI_1]
    exact ⟨0, 0, bc, bs, by omega, by omega, asks_6 (q_anew hc hr h5 hs hkk (ify (tot_off hsl (by omega) hj) j138))⟩
theorem a_totals {S M d i x y g} {qf cf : Nat → Int32} (hc : RC S x y g) (hr : Rel S M d i) (hp : M.x 5 = 1 → TS0 S d ∧ QCp S M d qf cf ∧ d.sl ≤ 12) (h6 : cf 6 = M.x 5) {X : Nat} (hX : X < 2 ^ 30) {bc bs : Nat} (h1 : 8 ≤ bc) (h2 : 48 ≤ bs) {Φ : pL} (hΦ : Φ 1 x y g qf cf) : wL_areTotals x y g qf cf (nI X) bc bs Φ := by
  unfold wL_areTotals
  rcases hr.pl.b with z | z
  · have := fun v5 => a_totX (v5 := v5) hc hr (.inl ⟨z, h6.trans z⟩) hX hΦ 8 9 0 bc bs (by omega) (by omega) h1 h2
    exact ⟨fun _ v5 _ => ⟨9, this v5⟩, fun _ v5 _ => ⟨9, this v5⟩⟩
  · obtain ⟨hT, hq, h12⟩ := hp z
    have hQ := hr.pl.q z
    have sh1 := hQ.sh1
    have sh2 := hQ.sh2
    obtain ⟨q0, q1, q2, q3, q3', q4, q5⟩ := hq
    by_cases hs : S.y 5 0 = 10
    · have e1 : qf 1 = 2 := by rw [q1, hs]; rfl
      have := fun v5 => a_totX (v5 := v5) hc hr (.inr ⟨hs, e1⟩) hX hΦ 8 9 0 bc bs (by omega) (by omega) h1 h2
      exact ⟨fun _ v5 _ => ⟨9, this v5⟩, fun _ v5 _ => ⟨9, this v5⟩⟩
    · have n2 : qf 1 ≠ 2 := fun e => by
        rw [q1] at e
        have := nI_inj (b := 2) (by omega) (by omega) e
        omega
      have n6 : cf 6 ≠ 0 := by rw [h6, z]; decide
      have := a_totP hc hr z hT hs n2 n6 h12 hX hΦ (bc := bc) (bs := bs) 8 9 0 (by omega) (by omega)
      refine ⟨fun c v5 e => ⟨9, ?_⟩, fun c v5 e => ⟨9, ?_⟩⟩
      · have h9 : S.y 5 0 = 9 := by
          rw [q1] at c
          have := nI_inj (b := 1) (by omega) (by omega) c
          omega
        rw [e, q3 h9]; exact this
      · have h8 : S.y 5 0 ≠ 9 := fun z9 => c (by rw [q1, z9]; rfl)
        rw [e, q2, ← (hQ.s8 h8).2]; exact this
/-! ===== the law's own checks: results ===== -/
theorem a_resL {S M d x y g} {qf cf : Nat → Int32} (hc : RC S x y g) (hq : QCp S M d qf cf) {Φ : pL} (hΦ : Φ 1 x y g qf cf) {bc bs : Nat} : ∀ (m f k : Nat), (S.R 4).length ≤ k + m → m < f → k + m < 2 ^ 30 → (∀ j, k ≤ j → j < (S.R 4).length → RNp (S.y 6 0) (S.x 2 0) ((S.R 4).getD j pz)) → lL_areResults_47 Φ f x y g qf cf (nI (S.R 4).length) 1 (nI k) bc bs := by
  have hn := hc.n (q := 4) (by omega)
  obtain ⟨q0, q1, q2, q3, q3', q4, q5⟩ := hq
  intro m
  induction m with
  | zero =>
    intro f k hk hf hb _
    obtain ⟨f, rfl⟩ : ∃ f', f = f' + 1 := ⟨f - 1, by omega⟩
    simp only [lL_areResults_47]
    exact ify (nI_le (by omega) (by omega)) ⟨.inr trivial, hΦ⟩
  | succ m ih =>
    intro f k hk hf hb hR
    obtain ⟨f, rfl⟩ : ∃ f', f = f' + 1 := ⟨f - 1, by omega⟩
    simp only [lL_areResults_47]
    by_cases hkl : (S.R 4).length ≤ k
    · exact ify (nI_le hkl (by omega)) ⟨.inr trivial, hΦ⟩
    · have hkl : k < (S.R 4).length := by omega
      have nxt := ih f (k + 1) (by omega) (by omega) (by omega) (fun j hj => hR j (by omega))
      obtain ⟨⟨kk, b, e, d0, d1, d2, c0, c1, c2⟩, n1, n2⟩ := hR k (Nat.le_refl _) hkl
      obtain ⟨W, hW⟩ : ∃ W, W = lL_areResults_47 Φ f := ⟨_, rfl⟩
      rw [← hW] at nxt ⊢
      have j105 : jL_areResults_105 W Φ x y g qf cf (nI (S.R 4).length) (nI k) (((S.R 4).getD k pz) 4) bc bs := by
        unfold jL_areResults_105
        refine ⟨0, 0, bc, bs, by omega, by omega, q_res hc hkl (c := 0) (by omega) ?_⟩
        rw [c0]
        refine ifn (nI_ge (b := 8) d0 (by omega)) ⟨fun _ => ?_, fun c => ?_⟩
        · rintro _ rfl
          rw [nI_1]; exact nxt
        · have n3 := n2.resolve_left c
          rcases q5 with ⟨m1, m2⟩ | ⟨m1, m2⟩
          · rw [if_pos m1] at n3
            refine ifn (by rcases m2 with z | z <;> rw [z] <;> decide) (ify n3 ?_)
            rintro _ rfl
            rw [nI_1]; exact nxt
          · rw [if_neg m1] at n3
            refine ify (by rcases m2 with z | z <;> rw [z] <;> decide) (ify n3 ?_)
            rintro _ rfl
            rw [nI_1]; exact nxt
      refine ifn (nI_ge hkl (by omega)) (ifn (by decide) ⟨0, 0, bc, bs, by omega, by omega, q_res hc hkl (c := 4) (by omega) ⟨0, 0, bc, bs, by omega, by omega, q_res hc hkl (c := 2) (by omega) ⟨0, 0, bc, bs, by omega, by omega, q_res hc hkl (c := 1) (by omega) (ifn ?_ ⟨0, 0, bc, bs, by omega, by omega, q_res hc hkl (c := 2) (by omega) ?_⟩)⟩⟩⟩)
      · rw [c2, c1]
        exact nI_ge d1 (by omega)
      · unfold wX8_watermark
        rw [hc.hx 2 (by omega)]
        refine ⟨fun _ => j105, fun c => ⟨fun _ => j105, fun c' => ?_⟩⟩
        exact absurd (n1.resolve_left c) c'
theorem a_results {S M d x y g} {qf cf : Nat → Int32} (hc : RC S x y g) (hq : QCp S M d qf cf) (h4 : cf 4 = S.x 4 1) {m : Nat} (hm : S.x 4 1 = nI m) (hml : m ≤ (S.R 4).length) {k : Nat} (hk : k ≤ 2 ^ 20) (hR : ∀ j, k ≤ j → j < (S.R 4).length → RNp (S.y 6 0) (S.x 2 0) ((S.R 4).getD j pz)) {bc bs : Nat} (h1 : 1 ≤ bc) (h2 : 6 ≤ bs) {Φ : pL} (hΦ : Φ 1 x y g qf cf) : wL_areResults x y g qf cf (nI k) bc bs Φ := by
  have hn := hc.n (q := 4) (by omega)
  unfold wL_areResults wX8_results wX8_committed
  rw [hc.len (q := 4) (by omega), hc.hx 4 (by omega), h4, hm]
  refine ify rfl (ifn (nI_nlt hml (by omega)) ⟨1, 6, 0, 0, by omega, by omega, asks_5 (q_resX hc (Nat.le_refl _) (Nat.le_refl _) (AX.iob (ify rfl ⟨(S.R 4).length + 1, ?_⟩)))⟩)
  exact a_resL hc hq hΦ (S.R 4).length ((S.R 4).length + 1) k (by omega) (by omega) (by omega) hR
