/-! ===== steps, barriers, completions, crashes ===== -/
theorem q_step {S M d i x y g} (hc : RC S x y g) (hr : Rel S M d i) {p : Nat} (hp : p < 3) {bc bs : Nat} (h1 : 1 ≤ bc) (h2 : 6 ≤ bs) {Φ : Int32 → pK} {Ψ : String → pK}
    (hI : (M.x 5 = 0 ∨ M.x 5 = 1 ∧ ¬ (nI M.T.length - cClosed S d.c < 30)) → Ψ "java/lang/IllegalStateException" x y g)
    (hN : M.x 5 = 1 → nI M.T.length - cClosed S d.c < 30 → d.n p ≤ d.rd p → Ψ "java/util/NoSuchElementException" x y g)
    (hS : M.x 5 = 1 → nI M.T.length - cClosed S d.c < 30 → d.rd p < d.n p → TS0 S d ∧ cOK S (cFind (cStep S p (d.rd p))) bc bs ∧ ∀ x y g, RC (cFind (cStep S p (d.rd p))) x y g → Φ (x 1 4 - nI M.T.length) x y g) : wX8_step x y g (nI p) bc bs Φ Ψ := by
  have hc5 := hr.sn.c5
  have hy7 : ∀ i, i < 5 → S.y 7 i < 7 := fun i hi => (hr.sn.y7 i hi).2
  have hTl : x 1 4 = nI M.T.length := by rw [hc.len (by omega), hr.tt]
  have hin : vp_in (nI p) 3 := vp_in_nI (by omega) (by omega)
  have hlen := hr.ev.len p hp
  have hrdn := hr.ev.rdn p hp
  have hn300 : d.n p ≤ 300 := by
    have := hr.ev.tot
    have : p = 0 ∨ p = 1 ∨ p = 2 := by omega
    rcases this with e | e | e <;> subst e <;> omega
  have xlen : x 1 p = nI (d.n p) := by rw [hc.len (by omega), hlen]
  have g10 : g 1 0 p = nI (d.rd p) := by rw [hc.hg 1 (by omega)]; exact (hr.st0.rs p hp).1
  unfold wX8_step
  refine k_in (n := 3) hp (by omega) (ite0 ?_)
  rcases hr.pl.b with z | z
  · have zx : x 15 0 = 0 := by rw [hc.hx 15 (by omega), hr.pl.s15]; exact z
    exact ify zx ⟨h1, h2, hI (.inl z)⟩
  · have zx : ¬ x 15 0 = 0 := by rw [hc.hx 15 (by omega), hr.pl.s15, z]; decide
    refine ifn zx (c_closed hc hc5 hr.sn.s13 hy7 ?_)
    rw [hTl]
    refine ⟨fun ho => ⟨hin, hin, ?_⟩, fun ho => ⟨h1, h2, hI (.inr ⟨z, ho⟩)⟩⟩
    rw [p_cl (show p < 2 ^ 31 by omega), g10, xlen]
    rcases Nat.lt_or_ge (d.rd p) (d.n p) with hrd | hrd
    · obtain ⟨t0, ok, hΦ⟩ := hS z ho hrd
      refine ify (nI_lt hrd (by omega)) ?_
      rintro _ rfl
      exact c_step28 hr hc z hp hrd t0 ok hΦ
    · exact ifn (nI_nlt hrd (by omega)) ⟨h1, h2, hN z ho hrd⟩
theorem q_barrier {S M d i x y g} (hc : RC S x y g) (hr : Rel S M d i) {bc bs : Nat} (h1 : 1 ≤ bc) (h2 : 6 ≤ bs) {Φ : Int32 → pK} {Ψ : String → pK}
    (hI : (M.x 5 = 0 ∨ d.c = 5) → Ψ "java/lang/IllegalStateException" x y g)
    (hS : M.x 5 = 1 → d.c < 5 → cOK S (cTake S d.c M.T.length) bc bs ∧ ∀ x y g, RC (cTake S d.c M.T.length) x y g → Φ (nI d.tk) x y g) : wX8_barrier x y g bc bs Φ Ψ := by
  have hc5 := hr.sn.c5
  unfold wX8_barrier
  rcases hr.pl.b with z | z
  · have zx : x 15 0 = 0 := by rw [hc.hx 15 (by omega), hr.pl.s15]; exact z
    exact ify zx ⟨h1, h2, hI (.inl z)⟩
  · have zx : ¬ x 15 0 = 0 := by rw [hc.hx 15 (by omega), hr.pl.s15, z]; decide
    refine ifn zx ?_
    rw [hc.hx 13 (by omega), hr.sn.s13]
    rcases Nat.lt_or_ge d.c 5 with hlt | hge
    · obtain ⟨ok, hΦ⟩ := hS z hlt
      have y7 := hr.sn.y7 d.c (by omega)
      refine ify (show nI d.c < nI 5 from nI_lt hlt (by omega)) ⟨bc, bs, 0, 0, by omega, by omega, ?_⟩
      rw [show x 1 4 = nI M.T.length by rw [hc.len (by omega), hr.tt]]
      refine c_take hc hlt hr.sn.s13 y7.2 (by omega) ok fun x y g hS => ?_
      rw [hr.sn.s14]
      exact hΦ x y g hS
    · exact ifn (show ¬ nI d.c < nI 5 from nI_nlt hge (by omega)) ⟨h1, h2, hI (.inr (by omega))⟩
theorem cPlace_lt {S : CS} {v : Int32} : ∀ (m i : Nat) {p : Nat}, cPlace S v m i = some p → (i ≤ p ∧ p < i + m) ∧ S.x 5 (S.y 7 p) = v := by
  intro m
  induction m with
  | zero => intro i p e; simp [cPlace] at e
  | succ m ih =>
    intro i p e
    simp only [cPlace] at e
    split at e
    · next h =>
      injection e with e
      subst e
      exact ⟨by omega, h⟩
    · have := ih _ e
      exact ⟨by omega, this.2⟩
theorem cPlace_no {S : CS} {v : Int32} : ∀ (m i : Nat), cPlace S v m i = none → ∀ j, i ≤ j → j < i + m → S.x 5 (S.y 7 j) ≠ v := by
  intro m
  induction m with
  | zero => intro i _ j h1 h2; omega
  | succ m ih =>
    intro i e j h1 h2
    simp only [cPlace] at e
    split at e
    · exact absurd e (by simp)
    · next h =>
      by_cases c : j = i
      · subst c; exact h
      · exact ih _ e j (by omega) (by omega)
theorem sh_ex (M : MS) (D : Nat) (hD : 1 ≤ D) : ∀ m : Nat, ∃ M1 : MS, Sh M M1 D m := by
  intro m
  induction m with
  | zero => exact ⟨M, rfl, rfl, fun q => by rw [if_neg (by omega)], fun k q l _ _ _ => by rw [if_neg (by omega)], fun k q _ _ => by rw [if_neg (by omega)], fun q => by rw [if_neg (by omega)], fun k _ _ => rfl⟩
  | succ m ih =>
    obtain ⟨M1, h⟩ := ih
    exact ⟨_, h.step hD rfl⟩
theorem q_complete {S M d i x y g} (hc : RC S x y g) (hr : Rel S M d i) {v : Int32} {bc bs : Nat} (h1 : 1 ≤ bc) (h2 : 6 ≤ bs) {Φ : Int32 → pK} {Ψ : String → pK}
    (hO : (∀ j, j < d.c → S.x 5 (S.y 7 j) ≠ v) → Ψ "java/lang/IndexOutOfBoundsException" x y g)
    (hS : ∀ p, p < d.c → S.x 5 (S.y 7 p) = v → cOK S (cCpS S 1 (S.y 7 p)) bc bs ∧ ∀ x y g, RC (cCompl S d.c p) x y g → Φ (x 4 1 - S.x 4 1) x y g) : wX8_complete x y g v bc bs Φ Ψ := by
  have hc5 := hr.sn.c5
  have hy7 : ∀ i, i < 5 → S.y 7 i < 7 := fun i hi => (hr.sn.y7 i hi).2
  unfold wX8_complete
  refine c_placeOf hc hc5 hr.sn.s13 hy7 ?_
  cases e : cPlace S v d.c 0 with
  | none => exact ify rfl ⟨h1, h2, hO fun j hj => cPlace_no _ _ e j (Nat.zero_le _) (by omega)⟩
  | some p =>
    obtain ⟨⟨_, hp⟩, hv⟩ := cPlace_lt _ _ e
    have hpc : p < d.c := by omega
    have y7p := hr.sn.y7 p (by omega)
    obtain ⟨ok, hΦ⟩ := hS p hpc hv
    refine ifn (p_m1 (by omega)) ?_
    rintro _ rfl
    refine ⟨bc, bs, 0, 0, by omega, by omega, c_completeAt hc hc5 hpc hr.sn.s13 hy7 (by omega) ok fun x2 y2 g2 hS => ?_⟩
    rw [hc.hx 4 (by omega)]
    exact hΦ x2 y2 g2 hS
theorem q_crash {S M d i x y g} (hc : RC S x y g) (hr : Rel S M d i) {bc bs : Nat} (h1 : 1 ≤ bc) (h2 : 6 ≤ bs) {m : Nat} (hm : S.x 4 1 = nI m) (hml : m ≤ M.T.length) {Φ : Int32 → pK} {Ψ : String → pK}
    (hI : M.x 5 = 0 → Ψ "java/lang/IllegalStateException" x y g)
    (hS : M.x 5 = 1 → cOK S (cCpS (uX S 13 0 0) 0 1) bc bs ∧ ∀ x y g, RC (cCrash S m) x y g → Φ (nI M.T.length - nI m) x y g) : wX8_crash x y g bc bs Φ Ψ := by
  unfold wX8_crash wX5_forgetDoubtful
  rcases hr.pl.b with z | z
  · have zx : x 15 0 = 0 := by rw [hc.hx 15 (by omega), hr.pl.s15]; exact z
    exact ify zx ⟨h1, h2, hI z⟩
  · have zx : ¬ x 15 0 = 0 := by rw [hc.hx 15 (by omega), hr.pl.s15, z]; decide
    obtain ⟨ok, hΦ⟩ := hS z
    refine ifn zx ?_
    rintro _ rfl
    have hc1 := hc.X (k := 13) (i := 0) (v := 0) (by omega)
    have hTl : (S.R 4).length = M.T.length := by rw [hr.tt]
    refine ⟨bc, bs, 0, 0, by omega, by omega, c_copyS hc1 (i := 0) (j := 1) (by omega) (by omega) (by decide) ⟨ok.c, ok.s⟩ fun x2 y2 g2 hS => ?_⟩
    have e4 : x2 4 1 = nI m := by
      rw [hS.hx 4 (by omega), cps_xn _ 0 1 (.inl (by decide))]
      exact hm
    have eR4 : (cCpS (uX S 13 0 0) 0 1).R 4 = S.R 4 := by rw [cps_Rn _ 0 1 (by decide)]; rfl
    rw [e4, hc.len (q := 4) (by omega)]
    refine c_cutTo hS (q := 4) (by omega) (by rw [eR4, hTl]; exact hml) fun x3 y3 g3 hS3 => ?_
    have hS4 : RC (cCrash S m) x3 y3 g3 := hS3
    have : x3 1 4 = nI m := by
      rw [hS4.len (q := 4) (by omega), show (cCrash S m).R 4 = (S.R 4).take m by unfold cCrash cCut; rw [cRw_R, eR4], List.length_take, Nat.min_eq_left (by omega)]
    rw [this, hTl]
    exact hΦ x3 y3 g3 hS4
