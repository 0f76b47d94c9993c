/-! ===== a loom's checks behind each step ===== -/
abbrev pLW := (Nat → Nat → Int32) → (Nat → Nat → Nat) → (Nat → Nat → Nat → Int32) → (Nat → Int32) → (Nat → Int32) → Int32 → Int32 → Int32 → Nat → Nat → Prop
section LOOM
variable {L : Nat} {xs : Nat → Int32} {W37 : pLW} {Ω : pLB}
theorem h_519 {k W V S M d x y g qf cf bc bs} (h : LI k W V S M d x y g qf cf bc bs) (hW : 20 ≤ W) (hV : 200 ≤ V) {n : Nat} (hn : n ≤ 2 ^ 20) (hN : ∀ j, n ≤ j → j < (S.R 4).length → RNp (S.y 6 0) (S.x 2 0) ((S.R 4).getD j pz)) {Y : Nat} (hY : Y < 2 ^ 30) {K : Nat} (hK : K < 2 ^ 20) {at_ : Int32}
    (hnext : ∀ b2 s2, LI k (W - 20) (V - 200) S M d x y g qf cf b2 s2 → W37 x y g qf cf at_ 1 (nI (K + 1)) b2 s2) : jL_loom_519 L xs W37 Ω x y g qf cf at_ 1 (nI K) (nI Y) (nI n) bc bs := by
  obtain ⟨rW, rV⟩ := h.room
  obtain ⟨m, hm, hml⟩ := h.m1
  obtain ⟨hc, hr, hC, hb, hP, hT0, hL, hI⟩ := h
  have hI0 := hI
  obtain ⟨c0, c1, c2, c3, c4, c5, c6, c7, ⟨nw, w1, w2, w3, w4⟩, c9⟩ := hI
  have last : ∀ b2 s2, bc ≤ 20 + b2 → bs ≤ 200 + s2 → ∀ v6_583 : Int32, v6_583 = nI K + 1 → W37 x y g qf cf at_ 1 v6_583 b2 s2 := fun b2 s2 h1 h2 => by
    rintro _ rfl
    rw [nI_1]
    exact hnext b2 s2 ⟨hc, hr, hC, hb.less (by omega) (by omega), hP, hT0, hL, hI0⟩
  have e3 : nI K - nI K / 3 * 3 = nI (K % 3) := by
    rw [show (3 : Int32) = nI 3 from rfl, p_rem (by omega) (by omega) (by omega)]
  have j556 : ∀ b2 s2, bc ≤ 10 + b2 → bs ≤ 100 + s2 → jL_loom_556 L xs W37 Ω x y g qf cf at_ (nI K) (nI Y) b2 s2 := fun b2 s2 h1 h2 => by
    unfold jL_loom_556
    refine ⟨fun _ => last b2 s2 (by omega) (by omega), fun _ => ⟨8, 48, b2 - 8, s2 - 48, by omega, by omega, a_totals hc hr (fun z => ?_) c7 hY (Nat.le_refl _) (Nat.le_refl _) (ifn (by decide) (last _ _ (by omega) (by omega)))⟩⟩
    obtain ⟨hE, hq, hsz, hsl⟩ := hP z
    exact ⟨hE.1, hq, hsl⟩
  unfold jL_loom_519
  refine ifn (by decide) ?_
  rcases hr.pl.b with z | z
  · exact ify (by rw [c7, z]) (j556 bc bs (by omega) (by omega))
  · obtain ⟨hE, hq, hsz, hsl⟩ := hP z
    have hq : QCp S M d qf cf := hq
    refine ifn (by rw [c7, z]; decide) ⟨2, 12, bc - 2, bs - 12, by omega, by omega, a_windows hc hr z hE.1 hq w3 w1 w2 w4 (Nat.le_refl _) (Nat.le_refl _) (ifn (by decide) ⟨1, 6, bc - 3, bs - 18, by omega, by omega, a_results (d := d) (M := M) hc hq c5 hm (by rw [hr.tt]; exact hml) hn hN (Nat.le_refl _) (Nat.le_refl _) (ifn (by decide) (j556 _ _ (by omega) (by omega)))⟩)⟩
theorem h_501 {k W V S0 S M d x y g qf cf bc bs} (h : LI k W V S M d x y g qf cf bc bs) (hW : 20 ≤ W) (hV : 200 ≤ V) (h4 : (S0.R 4).length ≤ 2 ^ 20) (hN : NEWR S0 S) {Y : Nat} (hY : Y < 2 ^ 30) {K : Nat} (hK : K < 2 ^ 20) {at_ : Int32}
    (hnext : ∀ b2 s2, LI k (W - 20) (V - 200) S M d x y g qf cf b2 s2 → W37 x y g qf cf at_ 1 (nI (K + 1)) b2 s2) : jL_loom_501 L xs W37 Ω x y g qf cf at_ 1 (nI K) (nI Y) (nI (S0.R 4).length) bc bs := by
  have hc := h.1
  have hT := h.2.1.t2400
  unfold jL_loom_501 wX8_results
  rw [hc.len (q := 4) (by omega)]
  exact ⟨fun _ => h_519 h hW hV (by omega) (fun j h1 h2 => absurd h2 (by omega)) hY hK hnext, fun _ => h_519 h hW hV h4 hN hY hK hnext⟩
end LOOM
