/-! ===== one step of a loom: idle, bound and table, workers; the loop ===== -/
section STEP2
variable {L : Nat} {xs : Nat → Int32} {W37 : pLW} {Ω : pLB} {k W V : Nat} {S : CS} {M : MS} {d : GD} {x : Nat → Nat → Int32} {y : Nat → Nat → Nat} {g : Nat → Nat → Nat → Int32} {qf cf : Nat → Int32} {bc bs : Nat} {X Y : Nat} {at_ : Int32}
theorem st_idle (h : LI k W V S M d x y g qf cf bc bs) (hW : 260 ≤ W) (hV : 18000 ≤ V) (hk : k < 110) (hX : X < 2 ^ 30) (hY : Y < 2 ^ 30) (hn : NX W37 at_ k W V) {v : Int32} (hv : v = 0 ∨ v = 1) : jL_loom_338 L xs W37 Ω x y g qf cf at_ (nI k) (nI Y) (nI (S.R 4).length) (nI X - nI X / 3 * 3) v bc bs := by
  have hT : (S.R 4).length ≤ 2 ^ 20 := by have := h.2.1.t2400; omega
  obtain ⟨rW, rV⟩ := h.room
  have hp : X % 3 < 3 := Nat.mod_lt _ (by omega)
  rw [rm (B := 3) (b := 3) rfl (by omega) (by omega) (by omega)]
  generalize X % 3 = p at hp
  have h0 := h
  obtain ⟨hc, hr, hC, hb, hP, hT0, hL, hI⟩ := h
  obtain ⟨c0, c1, c2, c3, c4, c5, c6, c7, c8, c9⟩ := hI
  have hr1 : Rel (uX S 7 p v) (mG M 18 p v) d 2000 := hr.idl
  unfold jL_loom_338 wX8_watermark
  rcases hr.pl.b with z | z
  · refine ⟨0, 0, bc, bs, by omega, by omega, hv, q_idle0 hc hr z hp fun x' y' g' hS => ?_⟩
    have e2 : x' 2 0 = S.x 2 0 := by rw [hS.hx 2 (by omega), cX_x _ _ (by omega)]
    refine ify e2.symm (ifn (by rw [c9]; exact fun q => Int32.lt_irrefl q) ?_)
    unfold jL_loom_367
    rintro _ rfl
    obtain ⟨h2, hN⟩ := h0.set (cf' := upd cf 8 (S.x 2 0)) (.inr (.inl rfl)) hS hr1 rfl (hb.same rfl) (fun a _ => by
      unfold upd
      by_cases e : a = 8
      · rw [if_pos e, e, c9]
      · rw [if_neg e]) (by
      obtain ⟨n, n1, n2, n3, n4⟩ := c8
      refine ⟨n, n1, n2, by rw [cX_x _ _ (by omega)]; exact n3, ?_⟩
      unfold upd
      rw [if_neg (by omega)]; exact n4)
    exact j501 hn hW hV hk hY hT (h2.stay (W' := W) (V' := V) (Nat.le_refl _) (Nat.le_refl _)) (by omega) (by omega) hN
  · have hc1 := hc.X (k := 7) (i := p) (v := v) (by omega)
    obtain ⟨h2, hN⟩ := h0.set (cf' := cf) (.inr (.inl rfl)) hc1 hr1 rfl (hb.same rfl) (fun a _ => rfl) (by
      obtain ⟨n, n1, n2, n3, n4⟩ := c8
      exact ⟨n, n1, n2, by rw [cX_x _ _ (by omega)]; exact n3, n4⟩)
    have hw : (S.R 5).length ≤ 1400 := by
      have := hr.sizes
      have e : (S.R 5).length = (M.V 6).length := hr.st0.wr.len
      omega
    have hT4 := hr.t2400
    have hC1 : CapB (uX S 7 p v) := hC
    have hCT : CapB (cFind (uX S 7 p v)) := hC1.find (by show (S.R 4).length + (S.R 5).length ≤ 4096; omega)
    have hmon : pSum S.cap ≤ pSum (cFind (uX S 7 p v)).cap := cFindT_mon (uX S 7 p v) _
    obtain ⟨kc, ks, b2, s2, q1, q2, q3, q4, q5, -, q7⟩ := hb.call hmon hCT (w := 0) (v := 0) (by omega) (by omega)
    refine ⟨kc, ks, b2, s2, q1, q2, hv, q_idle1 hc hr z hp q5 fun x' y' g' hS => ?_⟩
    obtain ⟨⟨M', h3⟩, hN3, hle⟩ := h2.find (show (mG M 18 p v).x 5 = 1 from z) hS q7
    have hle : S.x 2 0 ≤ (cFind (uX S 7 p v)).x 2 0 := by
      have e : (uX S 7 p v).x 2 0 = S.x 2 0 := cX_x _ _ (by omega)
      rw [← e]; exact hle
    have e2 : x' 2 0 = (cFind (uX S 7 p v)).x 2 0 := by rw [hS.hx 2 (by omega)]
    refine ify e2.symm (ifn (by rw [c9]; exact Int32.not_lt.2 hle) ?_)
    unfold jL_loom_367
    rintro _ rfl
    exact j501 hn hW hV hk hY hT (h3.stay (W' := W - 0) (V' := V - 0) (Nat.le_refl _) (Nat.le_refl _)) (by omega) (by omega) hN3
theorem st_bound (h : LI k W V S M d x y g qf cf bc bs) (hW : 260 ≤ W) (hV : 18000 ≤ V) (hk : k < 110) (hX : X < 2 ^ 30) (hY : Y < 2 ^ 30) (hn : NX W37 at_ k W V) : (∃ kc_396 ks_396 bc_396 bs_396 : Nat, kc_396 + bc_396 ≤ bc ∧ ks_396 + bs_396 ≤ bs ∧ (wX8_bound x y g (nI X - nI X / 3 * 3) (nI Y - nI Y / 8 * 8) kc_396 ks_396 (fun r_396 x_396 y_396 g_396 => ((r_396 < 0 → (jL_loom_447 L xs W37 Ω x_396 y_396 g_396 qf cf at_ (nI k) (nI Y) (nI (S.R 4).length) bc_396 bs_396)) ∧ (¬ r_396 < 0 → ((55 < nI k → (jL_loom_443 L xs W37 Ω x_396 y_396 g_396 qf cf at_ (nI k) (nI Y) (nI (S.R 4).length) bc_396 bs_396)) ∧ (¬ 55 < nI k → (∃ kc_437 ks_437 bc_437 bs_437 : Nat, kc_437 + bc_437 ≤ bc_396 ∧ ks_437 + bs_437 ≤ bs_396 ∧ (wX8_table x_396 y_396 g_396 ((nI X / 3) - (nI X / 3) / 8 * 8) ((nI Y / 8) - (nI Y / 8) / 60 * 60) (((nI X / 24) - (nI X / 24) / 199 * 199) - 99) kc_437 ks_437 (fun r_437 x_437 y_437 g_437 => ((r_437 ≤ 0 → (jL_loom_447 L xs W37 Ω x_437 y_437 g_437 qf cf at_ (nI k) (nI Y) (nI (S.R 4).length) bc_437 bs_437)) ∧ (¬ r_437 ≤ 0 → (jL_loom_443 L xs W37 Ω x_437 y_437 g_437 qf cf at_ (nI k) (nI Y) (nI (S.R 4).length) bc_437 bs_437)))) (fun _ _ _ _ => False)))))))) (fun _ _ _ _ => False))) := by
  have hT : (S.R 4).length ≤ 2 ^ 20 := by have := h.2.1.t2400; omega
  have hp : X % 3 < 3 := Nat.mod_lt _ (by omega)
  have hY8 : Y % 8 < 8 := Nat.mod_lt _ (by omega)
  have h38 : X / 3 % 8 < 8 := Nat.mod_lt _ (by omega)
  have h60 : Y / 8 % 60 < 60 := Nat.mod_lt _ (by omega)
  have h24 : X / 24 % 199 < 199 := Nat.mod_lt _ (by omega)
  rw [rm (B := 3) (b := 3) rfl (by omega) (by omega) (by omega), rm (B := 8) (b := 8) rfl (by omega) (by omega) (by omega), dm (A := 3) (B := 8) (a := 3) (b := 8) rfl rfl (by omega) (by omega) (by omega) (by omega) (by omega), dm (A := 8) (B := 60) (a := 8) (b := 60) rfl rfl (by omega) (by omega) (by omega) (by omega) (by omega), dm (A := 24) (B := 199) (a := 24) (b := 199) rfl rfl (by omega) (by omega) (by omega) (by omega) (by omega)]
  have hv := v99 _ h24
  generalize X % 3 = p at hp
  generalize Y % 8 = u at hY8
  generalize X / 3 % 8 = kk at h38
  generalize Y / 8 % 60 = t at h60
  generalize nI (X / 24 % 199) - 99 = v at hv
  have h0 := h
  obtain ⟨hc, hr, hC, hb, hP, hT0, hL, hI⟩ := h
  obtain ⟨c0, c1, c2, c3, c4, c5, c6, c7, c8, c9⟩ := hI
  have hu : (0 : Int32) ≤ nI u ∧ nI u ≤ 99 := ⟨nI_le (a := 0) (Nat.zero_le _) (by omega), nI_le (b := 99) (by omega) (by omega)⟩
  have hr1 := hr.bound (v := nI u) hp (by rw [nI_toInt (by omega)]; omega)
  refine ⟨0, 0, bc, bs, by omega, by omega, q_bound hc hp hu fun x' y' g' hS => ?_⟩
  obtain ⟨h2, hN⟩ := h0.set (cf' := cf) (.inl rfl) hS hr1 rfl (hb.same rfl) (fun a _ => rfl) (by
    obtain ⟨n, n1, n2, n3, n4⟩ := c8
    exact ⟨n, n1, n2, by rw [cX_x _ _ (by omega)]; exact n3, n4⟩)
  have hlag : ¬ S.x 6 p < 0 := by
    have := (hr.lag p hp).2.1
    rw [i_lt]
    change ¬ _ < (0 : Int)
    omega
  refine ifn hlag ⟨fun _ => ?_, fun c55 => ?_⟩
  · unfold jL_loom_443 jL_loom_448
    exact j501 hn hW hV hk hY hT (h2.stay (W' := W) (V' := V) (Nat.le_refl _) (Nat.le_refl _)) (by omega) (by omega) hN
  · have c55 : ¬ 55 < k := fun w => c55 (nI_lt (a := 55) w (by omega))
    have h3 : ((uX S 6 p (nI u)).R 3).length < 60 := by show (S.R 3).length < 60; omega
    have hC1 : CapB (uX S 6 p (nI u)) := hC
    have hCT := hC1.tab h3 (nI kk) (nI t) v
    have hmon : pSum (uX S 6 p (nI u)).cap ≤ pSum (cTold (uX S 6 p (nI u)) 3 (nI kk) (nI t) v).cap := cMon_rw (S := uX S 6 p (nI u)) (q := 3) _ (by omega) (pgrow_ge _ _)
    obtain ⟨kc, ks, b2, s2, q1, q2, q3, q4, q5, -, q7⟩ := (h2.2.2.2.1).call hmon hCT (w := 0) (v := 0) (by omega) (by omega)
    refine ⟨kc, ks, b2, s2, q1, q2, q_table h2.1 h38 (by omega) hv h3 q5 fun x' y' g' hS => ifn (nI_ge (a := 0) (Nat.succ_pos _) (by omega)) ?_⟩
    obtain ⟨M', d', h4, hN4⟩ := h2.tab h3 (by show (S.R 3).length ≤ k; omega) (show t < 1000 by omega) hS q7
    unfold jL_loom_443 jL_loom_448
    exact j501 hn hW hV hk hY hT h4 (by omega) (by omega) hN4
theorem st_workers (h : LI k W V S M d x y g qf cf bc bs) (hW : 260 ≤ W) (hV : 18000 ≤ V) (hk : k < 110) (hX : X < 2 ^ 30) (hY : Y < 2 ^ 30) (hn : NX W37 at_ k W V) : (wX8_windows x y g (fun r_454 => (∃ kc_466 ks_466 bc_466 bs_466 : Nat, kc_466 + bc_466 ≤ bc ∧ ks_466 + bs_466 ≤ bs ∧ (wX8_workers x y g (1 + (nI X - nI X / 4 * 4)) kc_466 ks_466 (fun r_466 x_466 y_466 g_466 => ((r_466 < 0 → (jL_loom_487 L xs W37 Ω x_466 y_466 g_466 qf cf at_ (nI k) (nI X) (nI Y) (nI (S.R 4).length) bc_466 bs_466)) ∧ (¬ r_466 < 0 → ((r_454 < r_466 → (jL_loom_487 L xs W37 Ω x_466 y_466 g_466 qf cf at_ (nI k) (nI X) (nI Y) (nI (S.R 4).length) bc_466 bs_466)) ∧ (¬ r_454 < r_466 → (jL_loom_488 L xs W37 Ω x_466 y_466 g_466 qf cf at_ (nI k) (nI X) (nI Y) (nI (S.R 4).length) 1 bc_466 bs_466)))))) (fun _ _ _ _ => False))))) := by
  have hT : (S.R 4).length ≤ 2 ^ 20 := by have := h.2.1.t2400; omega
  have hX4 : X % 4 < 4 := Nat.mod_lt _ (by omega)
  have e4 : (1 : Int32) + (nI X - nI X / 4 * 4) = nI (1 + X % 4) := by
    rw [rm (B := 4) (b := 4) rfl (by omega) (by omega) (by omega), show (1 : Int32) = nI 1 from rfl, nI_add]
  have h0 := h
  obtain ⟨hc, hr, hC, hb, hP, hT0, hL, hI⟩ := h
  obtain ⟨c0, c1, c2, c3, c4, c5, c6, c7, c8, c9⟩ := hI
  have hn5 := hc.n (q := 5) (by omega)
  unfold wX8_windows
  rw [hc.len (q := 5) (by omega), e4]
  have hv : (1 : Int32) ≤ nI (1 + X % 4) ∧ nI (1 + X % 4) ≤ 4 := ⟨nI_le (a := 1) (by omega) (by omega), nI_le (b := 4) (by omega) (by omega)⟩
  refine ⟨0, 0, bc, bs, by omega, by omega, q_workers hc hv fun x' y' g' hS => ?_⟩
  have hr1 := hr.work (v := nI (1 + X % 4)) (by rw [nI_toInt (by omega)]; omega)
  have hle : ((S.R 5).countP fun r => decide (pWk (r 0) (nI (1 + X % 4)) ≠ pWk (r 0) (S.x 16 0))) ≤ (S.R 5).length := List.countP_le_length
  generalize ((S.R 5).countP fun r => decide (pWk (r 0) (nI (1 + X % 4)) ≠ pWk (r 0) (S.x 16 0))) = cn at hle
  refine ifn (nI_pos (by omega)) (ifn (nI_nlt hle (by omega)) ?_)
  unfold jL_loom_488
  rw [e4]
  rintro _ rfl
  have m5 : (mX M 43 (nI (1 + X % 4))).x 5 = M.x 5 := by
    unfold mX
    simp only [MS.mk_x]
    rw [p_un _ _ (by omega)]
  obtain ⟨h2, hN⟩ := h0.set (cf' := upd cf 7 (nI (1 + X % 4))) (.inr (.inr rfl)) hS hr1 m5 (hb.same rfl) (fun a ha => by unfold upd; rw [if_neg ha]) ⟨1 + X % 4, by omega, by omega, by rw [cX_s], by unfold upd; rw [if_pos rfl]⟩
  exact j501 hn hW hV hk hY hT (h2.stay (W' := W) (V' := V) (Nat.le_refl _) (Nat.le_refl _)) (by omega) (by omega) hN
theorem st_113 (h : LI k W V S M d x y g qf cf bc bs) (hW : 260 ≤ W) (hV : 18000 ≤ V) (hk : k < 110) (hX : X < 2 ^ 30) (hY : Y < 2 ^ 30) (hn : NX W37 at_ k W V) {w : Nat} (hw : w < 22) : jL_loom_113 L xs W37 Ω x y g qf cf at_ (nI k) (nI X) (nI Y) (nI w) bc bs := by
  have hc := h.1
  unfold jL_loom_113 wX8_results
  rw [hc.len (q := 4) (by omega)]
  have le : ∀ (c : Nat) (C : Int32), C = nI c → c < 22 → (C ≤ nI w ↔ c ≤ w) := fun c C e hc => by
    rw [e]; exact nI_leI (by omega) (by omega)
  have eq : ∀ (c : Nat) (C : Int32), C = nI c → c < 22 → (nI w = C ↔ w = c) := fun c C e hc => by
    rw [e]; exact nI_eq (by omega) (by omega)
  rw [le 2 2 rfl (by omega), le 8 8 rfl (by omega), le 16 16 rfl (by omega), le 19 19 rfl (by omega), eq 19 19 rfl (by omega), eq 20 20 rfl (by omega)]
  refine ⟨fun _ => ⟨fun _ => ⟨fun _ => ⟨fun _ => ⟨fun _ => ⟨fun _ => ?_, fun _ => ?_⟩, fun _ => ⟨fun _ => ?_, fun _ => ?_⟩⟩, fun _ => ?_⟩, fun _ => ?_⟩, fun _ => ?_⟩, fun _ => ⟨fun _ => ?_, fun _ => ⟨fun _ => ?_, fun _ => ?_⟩⟩⟩
  · exact st_idle h hW hV hk hX hY hn (.inl rfl)
  · exact st_idle h hW hV hk hX hY hn (.inr rfl)
  · exact st_bound h hW hV hk hX hY hn
  · exact st_workers h hW hV hk hX hY hn
  · exact st_snap h hW hV hk hX hY hn
  · exact st_step h hW hV hk hX hY hn
  · exact st_event h hW hV hk hX hY hn
  · exact st_begin h hW hV hk hX hY hn
  · exact st_none h hW hV hk hY hn
  · exact st_begin h hW hV hk hX hY hn
end STEP2
theorem loom_loop {L : Nat} {xs : Nat → Int32} {a : Nat} (hL : L ≤ 260) (ha : a ≤ 660) : ∀ (m k : Nat), k + m = 110 → ∀ (S : CS) (M : MS) (d : GD) (x : Nat → Nat → Int32) (y : Nat → Nat → Nat) (g : Nat → Nat → Nat → Int32) (qf cf : Nat → Int32) (bc bs : Nat), LI k (260 * m) (18000 * m) S M d x y g qf cf bc bs → lL_loom_37 L xs (fun r _ _ _ _ _ _ _ => r = 1) (m + 1) x y g qf cf (nI a) 1 (nI k) bc bs := by
  intro m
  induction m with
  | zero =>
    intro k hk S M d x y g qf cf bc bs h
    have e : k = 110 := by omega
    subst e
    rw [lL_loom_37]
    exact ify (by decide) rfl
  | succ m ih =>
    intro k hk S M d x y g qf cf bc bs h
    have hn : NX (lL_loom_37 L xs (fun r _ _ _ _ _ _ _ => r = 1) (m + 1)) (nI a) k (260 * (m + 1)) (18000 * (m + 1)) := fun S' M' d' x y g qf' cf' b2 s2 h2 => ih (k + 1) (by omega) S' M' d' x y g qf' cf' b2 s2 (h2.less (by omega) (by omega))
    have e3 : nI a + 3 * nI k = nI (a + 3 * k) := by rw [show (3 : Int32) = nI 3 from rfl, p_mul, nI_add]
    have e1 : nI (a + 3 * k) + 1 = nI (a + 3 * k + 1) := nI_1 _
    have e2 : nI (a + 3 * k) + 2 = nI (a + 3 * k + 2) := by rw [show (2 : Int32) = nI 2 from rfl, nI_add]
    have step : ∀ X, X < 2 ^ 30 → ∀ Y, Y < 2 ^ 30 → ∀ w, w < 22 → jL_loom_113 L xs (lL_loom_37 L xs (fun r _ _ _ _ _ _ _ => r = 1) (m + 1)) (fun r _ _ _ _ _ _ _ => r = 1) x y g qf cf (nI a) (nI k) (nI X) (nI Y) (nI w) bc bs := fun X hX Y hY w hw => st_113 h (by omega) (by omega) (by omega) hX hY hn hw
    rw [lL_loom_37]
    rw [e3, e1, e2]
    refine ifn (nI_ge (b := 110) (by omega) (by omega)) (ifn (by decide) ⟨0, 0, bc, bs, by omega, by omega, h_draw (n := 2 ^ 30) (by decide) (by omega) (by omega) (by omega) (by omega) fun X hX => ⟨0, 0, bc, bs, by omega, by omega, h_draw (n := 2 ^ 30) (by decide) (by omega) (by omega) (by omega) (by omega) fun Y hY => ?_⟩⟩)
    refine ⟨fun _ => step X hX Y hY 0 (by omega), fun _ => ⟨fun _ => ⟨0, 0, bc, bs, by omega, by omega, h_draw (n := 22) rfl (by omega) (by omega) (by omega) (by omega) fun w hw => step X hX Y hY w hw⟩, fun _ => step X hX Y hY 2 (by omega)⟩⟩
theorem loom_ok (L : Nat) (xs : Nat → Int32) (at_ : Nat) (u : Nat → Nat) (hL : L ≤ 260) (ha : at_ ≤ 660) : ∃ n37 : Nat, lL_loom_37 L xs (fun r _ _ _ _ _ _ _ => r = 1) n37 s0x (s0y u) s0g (fun _ => 0) (upd (upd (fun _ => 0) 7 1) 8 (-1)) (nI at_) 1 0 199000 2429000 :=
  ⟨111, loom_loop hL ha 110 0 rfl _ _ _ _ _ _ _ _ _ _ (LI.start u)⟩
