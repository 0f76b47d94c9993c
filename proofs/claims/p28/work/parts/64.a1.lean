theorem row_f {S M d i} (hr : Rel S M d i) (h5 : M.x 5 = 1) (hT : TS0 S d) {w : pRow} (hw : w ∈ M.V 6) : ∃ k b e : Nat, w 0 = nI k ∧ w 1 = nI b ∧ w 2 = nI e ∧ k < 8 ∧ b < 1000 ∧ b < e ∧ e < 1100 ∧ (w 4 = 0 ∨ w 4 = 1) ∧ (w 4 = 1 ↔ w 2 ≤ S.x 2 0) ∧ (S.y 5 0 = 10 → b + d.sz ≤ e) ∧ (S.y 5 0 ≠ 10 → e = b + d.sz ∧ b % d.sl = 0 ∧ (w 4 = 1 → TR (S.R 4) (w 0) (w 1) = w 3)) := by
  have hwr : WR d.sz (decide (S.y 5 0 = 10)) (S.R 5) (M.V 6) := hr.st0.wr
  have hwS : w ∈ S.R 5 := hwr.perm.mem_iff.2 hw
  have hq := hr.pl.q h5
  have z2 := hq.z2
  obtain ⟨k, b, e, c0, c1, c2, hk, hb, hbe, he, hse, ok⟩ := hwr.rows w hw
  obtain ⟨t1, t2, t3⟩ := hT
  refine ⟨k, b, e, c0, c1, c2, hk, hb, hbe, he, ?_, t1 w hwS, fun hs => ?_, fun hs => ?_⟩
  · rcases ok with ⟨a, -⟩ | a
    · exact .inl a
    · exact .inr a
  · obtain ⟨b', e', d1, d2, d3, d4⟩ := t2 hs w hwS
    have := nI_inj (by omega) (by omega) (c1.symm.trans d1)
    have := nI_inj (by omega) (by omega) (c2.symm.trans d2)
    omega
  · obtain ⟨t3, t4⟩ := t3 hs
    obtain ⟨⟨j, hj, d1⟩, d2, d3⟩ := t3 w hwS
    have hes : e = b + d.sz := hse (decide_eq_false hs)
    have hbj : b = j * d.sl := nI_inj (by omega) (by omega) (c1.symm.trans d1)
    refine ⟨hes, by rw [hbj, Nat.mul_mod_left], fun h4 => ?_⟩
    have hle := (t1 w hwS).1 h4
    have := (t4 k j hk hj).1
    rw [← hbj, ← hes, ← c2, if_pos hle, ← c0, ← c1, d3] at this
    exact this
theorem row_lt {S M d i} (hr : Rel S M d i) {pl : Nat} (hp : pl + 1 < (M.V 6).length) {k b k' b' : Nat} (hk : k < 8) (hb : b < 1000) (hk' : k' < 8) (hb' : b' < 1000) (c0 : ((M.V 6).getD pl pz) 0 = nI k) (c1 : ((M.V 6).getD pl pz) 1 = nI b) (d0 : ((M.V 6).getD (pl + 1) pz) 0 = nI k') (d1 : ((M.V 6).getD (pl + 1) pz) 1 = nI b') : (k < k' ∨ k = k' ∧ b < b') ∧ (S.y 5 0 = 10 → k = k' → ∀ e e' : Nat, e < 1100 → e' < 1100 → b' < e' → ((M.V 6).getD pl pz) 2 = nI e → ((M.V 6).getD (pl + 1) pz) 2 = nI e' → e ≤ b') := by
  have hwr : WR d.sz (decide (S.y 5 0 = 10)) (S.R 5) (M.V 6) := hr.st0.wr
  have hlt := p_pw.1 hwr.sV pl (pl + 1) (by omega) hp
  have key : k < k' ∨ k = k' ∧ b < b' := by
    unfold kLt at hlt
    rw [c0, c1, d0, d1] at hlt
    rcases hlt with q | ⟨q1, q2⟩
    · exact .inl ((nI_ltI (by omega) (by omega)).1 q)
    · exact .inr ⟨nI_inj (by omega) (by omega) q1, (nI_ltI (by omega) (by omega)).1 q2⟩
  refine ⟨key, fun hs ek e e' he he' hbe c2 d2 => ?_⟩
  have hdis := hwr.dis (decide_eq_true hs) _ (p_at_mem (show pl < (M.V 6).length by omega)) _ (p_at_mem hp) (by rw [c0, d0, ek])
  have hb2 : b < b' := by omega
  rcases hdis with q | q | q
  · rw [q, d1] at c1
    have := nI_inj (by omega) (by omega) c1
    omega
  · rw [c2, d1] at q
    exact (nI_leI (by omega) (by omega)).1 q
  · rw [c1, d2] at q
    have := (nI_leI (by omega) (by omega)).1 q
    omega
theorem a_win {S M d i x y g} {qf cf : Nat → Int32} (hc : RC S x y g) (hr : Rel S M d i) (h5 : M.x 5 = 1) (hT : TS0 S d) (hq : QCp S M d qf cf) {n : Nat} (hs : S.x 16 0 = nI n) (hn1 : 1 ≤ n) (hn : n < 5) (h7 : cf 7 = nI n) {Φ : pL} (hΦ : Φ 1 x y g qf cf) : ∀ (m f pl : Nat) (bc bs : Nat), pl + m = (M.V 6).length → m < f → 1 ≤ bc → 6 ≤ bs → lL_areWindows_27 Φ f x y g qf cf (nI (M.V 6).length) 1 (nI pl) bc bs := by
  have hwr : WR d.sz (decide (S.y 5 0 = 10)) (S.R 5) (M.V 6) := hr.st0.wr
  have hl := hc.n (q := 5) (by omega)
  have hlen := hwr.len
  have hQ := hr.pl.q h5
  have z1 := hQ.z1
  have z2 := hQ.z2
  have s1 := hQ.s1
  have s2 := hQ.s2
  have sh1 := hQ.sh1
  have sh2 := hQ.sh2
  obtain ⟨q0, q1, q2, q3, q3', q4, q5⟩ := hq
  have e10 : qf 1 = 2 ↔ S.y 5 0 = 10 := by
    rw [q1]
    refine ⟨fun e => ?_, fun e => by rw [e]; rfl⟩
    have := nI_inj (b := 2) (by omega) (by omega) e
    omega
  have e8 : qf 1 = 0 ↔ S.y 5 0 = 8 := by
    rw [q1]
    refine ⟨fun e => ?_, fun e => by rw [e]; rfl⟩
    have := nI_inj (b := 0) (by omega) (by omega) e
    omega
  intro m
  induction m with
  | zero =>
    intro f pl bc bs hp hf h1 h2
    obtain ⟨f, rfl⟩ : ∃ f', f = f' + 1 := ⟨f - 1, by omega⟩
    simp only [lL_areWindows_27]
    have e : pl = (M.V 6).length := by omega
    rw [e, ← hlen]
    refine ify (nI_le (Nat.le_refl _) (by omega)) ⟨n + 1, ?_⟩
    have := a_load hc hs hn1 hn h7 (fun r hr' => by
      obtain ⟨k, b, e, c0, -, -, hk, -⟩ := hwr.rows r (hwr.perm.mem_iff.1 hr')
      exact ⟨k, hk, c0⟩) hΦ n (n + 1) 0 bc bs (by omega) (by omega) h1 h2
    exact this
  | succ m ih =>
    intro f pl bc bs hp hf h1 h2
    obtain ⟨f, rfl⟩ : ∃ f', f = f' + 1 := ⟨f - 1, by omega⟩
    have hpl : pl < (M.V 6).length := by omega
    obtain ⟨k, b, e, c0, c1, c2, hk, hb, hbe, he, w01, tld, fs, ff⟩ := row_f hr h5 hT (p_at_mem hpl)
    have nxt : lL_areWindows_27 Φ f x y g qf cf (nI (M.V 6).length) 1 (nI pl + 1) bc bs := by
      rw [nI_1]; exact ih f (pl + 1) bc bs (by omega) (by omega) h1 h2
    obtain ⟨W, hW⟩ : ∃ W, W = lL_areWindows_27 Φ f := ⟨_, rfl⟩
    rw [← hW] at nxt
    -- from behind: the total
    have j267 : ∀ s : Int32, jL_areWindows_267 W Φ x y g qf cf (nI (M.V 6).length) (nI pl) (nI k) (nI b) s s bc bs := fun s => by
      unfold jL_areWindows_267
      refine ify rfl ⟨0, 0, bc, bs, by omega, by omega, q_win hc hr hpl (c := 4) (by omega) ⟨fun _ => ?_, fun c => ⟨fun _ => ?_, fun c3 => ?_⟩⟩⟩
      · rintro _ rfl; exact nxt
      · rintro _ rfl; exact nxt
      · have h4 := w01.resolve_left c
        have hs10 : S.y 5 0 ≠ 10 := fun z => c3 (e10.2 z)
        refine ⟨0, 0, bc, bs, by omega, by omega, q_total hc hk ⟨0, 0, bc, bs, by omega, by omega, q_win hc hr hpl (c := 3) (by omega) (ify ?_ ?_)⟩⟩
        · rw [← c0, ← c1]
          exact (ff hs10).2.2 h4
        · rintro _ rfl; exact nxt
    have j253 : ∀ s : Int32, (s = 1 ↔ nI e ≤ S.x 2 0) → (s = 0 ∨ s = 1) → jL_areWindows_253 W Φ x y g qf cf (nI (M.V 6).length) (nI pl) (nI k) (nI b) (nI e) s bc bs := fun s hs1 hs01 => by
      unfold jL_areWindows_253 wX8_watermark
      rw [hc.hx 2 (by omega)]
      refine ⟨fun c => ?_, fun c => ?_⟩
      · have : s = 0 := hs01.resolve_right fun z => Int32.not_le.2 c (hs1.1 z)
        rw [this]; exact j267 0
      · have : s = 1 := hs1.2 (Int32.not_lt.1 c)
        rw [this]; exact j267 1
    have j230 : jL_areWindows_230 W Φ x y g qf cf (nI (M.V 6).length) (nI pl) (nI k) (nI b) (nI e) 1 bc bs := by
      unfold jL_areWindows_230
      rw [c2] at tld
      refine ifn (by decide) ⟨0, 0, bc, bs, by omega, by omega, q_win hc hr hpl (c := 4) (by omega) ⟨fun c => ?_, fun c => ?_⟩⟩
      · exact j253 1 ⟨fun _ => tld.1 c, fun _ => rfl⟩ (.inr rfl)
      · exact j253 0 ⟨fun z => absurd z (by decide), fun z => absurd (tld.2 z) c⟩ (.inl rfl)
    have j142 : jL_areWindows_142 W Φ x y g qf cf (nI (M.V 6).length) (nI pl) (nI k) (nI b) (nI e) bc bs := by
      unfold jL_areWindows_142 jL_areWindows_147
      refine ifn (by decide) ⟨fun _ => j230, fun c => ?_⟩
      obtain ⟨p, rfl⟩ : ∃ p, pl = p + 1 := ⟨pl - 1, by
        have : pl ≠ 0 := fun z => c (by rw [z]; rfl)
        omega⟩
      obtain ⟨k', b', e', d0, d1, d2, hk', hb', hbe', he', -⟩ := row_f hr h5 hT (p_at_mem (show p < (M.V 6).length by omega))
      obtain ⟨l1, l2⟩ := row_lt hr hpl hk' hb' hk hb d0 d1 c0 c1
      have ep : nI (p + 1) - 1 = nI p := by rw [← nI_1, Int32.add_sub_cancel]
      rw [ep]
      have hpp : p < (M.V 6).length := by omega
      refine ⟨0, 0, bc, bs, by omega, by omega, q_win hc hr hpp (c := 0) (by omega) ⟨fun _ => j230, fun c' => ?_⟩⟩
      rw [d0] at c'
      have hkk : k' = k := by
        have : ¬ k' < k := fun z => c' (nI_lt z (by omega))
        omega
      refine ⟨0, 0, bc, bs, by omega, by omega, q_win hc hr hpp (c := 0) (by omega) (ify (by rw [d0, hkk]) ⟨fun z => ?_, fun z => ?_⟩)⟩
      · refine ⟨0, 0, bc, bs, by omega, by omega, q_win hc hr hpp (c := 2) (by omega) (ifn ?_ j230)⟩
        rw [d2]
        exact nI_nlt (l2 (e10.1 z) hkk e' e he' he hbe d2 c2) (by omega)
      · refine ⟨0, 0, bc, bs, by omega, by omega, q_win hc hr hpp (c := 1) (by omega) (ifn ?_ j230)⟩
        rw [d1]
        exact nI_ge (by omega) (by omega)
    have j138 : ∀ D : Nat, 0 < D → D < 1000 → b % D = 0 → jL_areWindows_138 W Φ x y g qf cf (nI (M.V 6).length) (nI pl) (nI k) (nI b) (nI e) (nI b) (nI D) bc bs := fun D h0 h1 hm => by
      unfold jL_areWindows_138
      refine ⟨nI_ne0 h0 (by omega), ify ?_ j142⟩
      rw [p_rem (by omega) h0 (by omega), hm]; rfl
    simp only [lL_areWindows_27]
    rw [← hW]
    refine ifn (nI_ge hpl (by omega)) (ifn (by decide) ⟨0, 0, bc, bs, by omega, by omega, q_win hc hr hpl (c := 0) (by omega) ⟨0, 0, bc, bs, by omega, by omega, q_win hc hr hpl (c := 1) (by omega) ⟨0, 0, bc, bs, by omega, by omega, q_win hc hr hpl (c := 2) (by omega) ?_⟩⟩⟩)
    rw [c0, c1, c2]
    refine ifn (nI_pos (by omega)) (ifn (nI_ge (b := 8) hk (by omega)) (ifn (nI_pos (by omega)) (ifn (nI_ge hbe (by omega)) ?_)))
    rw [p_sub (Nat.le_of_lt hbe), q2]
    refine ⟨fun z => ?_, fun z => ?_⟩
    · have := fs (e10.1 z)
      exact ifn (nI_nlt (by omega) (by omega)) j142
    · have hs10 : S.y 5 0 ≠ 10 := fun z' => z (e10.2 z')
      obtain ⟨f1, f2, -⟩ := ff hs10
      refine ify (by rw [f1, Nat.add_sub_cancel_left]) ⟨fun z8 => ?_, fun z8 => ?_⟩
      · have h8 := e8.1 z8
        have := (hQ.s8 (by omega)).2
        exact j138 d.sz (by omega) (by omega) (by rw [← this]; exact f2)
      · have h9 : S.y 5 0 = 9 := by
          have : S.y 5 0 ≠ 8 := fun z' => z8 (e8.2 z')
          omega
        rw [q3 h9]
        exact j138 d.sl (by omega) (by omega) f2
theorem a_windows {S M d i x y g} {qf cf : Nat → Int32} (hc : RC S x y g) (hr : Rel S M d i) (h5 : M.x 5 = 1) (hT : TS0 S d) (hq : QCp S M d qf cf) {n : Nat} (hs : S.x 16 0 = nI n) (hn1 : 1 ≤ n) (hn : n < 5) (h7 : cf 7 = nI n) {bc bs : Nat} (h1 : 2 ≤ bc) (h2 : 12 ≤ bs) {Φ : pL} (hΦ : Φ 1 x y g qf cf) : wL_areWindows x y g qf cf bc bs Φ := by
  have hwr : WR d.sz (decide (S.y 5 0 = 10)) (S.R 5) (M.V 6) := hr.st0.wr
  unfold wL_areWindows wX8_windows
  rw [hc.len (q := 5) (by omega)]
  refine ⟨1, 6, 1, 6, by omega, by omega, asks_4 (q_winX hc (Nat.le_refl _) (Nat.le_refl _) (AX.iob (ify rfl ⟨(M.V 6).length + 1, ?_⟩)))⟩
  rw [hwr.len]
  exact a_win hc hr h5 hT hq hs hn1 hn h7 hΦ (M.V 6).length ((M.V 6).length + 1) 0 1 6 (Nat.zero_add _) (Nat.lt_succ_self _) (Nat.le_refl _) (Nat.le_refl _)
