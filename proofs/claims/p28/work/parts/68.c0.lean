/-! ===== fault, wipe, plan of the class, behind what is typed ===== -/
theorem TXT.of {S S' M M' l d} (t : TXT S M l) (hr : Rel S' M' d 2000) (e0 : M'.x 0 = M.x 0) (e4 : M'.g 4 = M.g 4) : TXT S' M' l := by
  obtain ⟨m, t'⟩ := hr.tx
  have e : m = l.length := by
    have h1 := t'.n60
    have h2 := t.1.n60
    exact nI_inj (by omega) (by omega) (t'.m0.symm.trans (e0.trans t.1.m0))
  rw [e] at t'
  exact ⟨t', fun i hi => by rw [e4]; exact t.2 i hi⟩
theorem c_fault {S0 M0 d l x y g Q} (h : TJ S0 M0 d l x y g) (hR : RD l 0 l Q00 Q) {bc bs : Nat} (h1 : 2 ≤ bc) (h2 : 13 ≤ bs) {Φ : Int32 → pK} (hΦ : ∀ x y g, TJ S0 M0 d l x y g → Φ (-1) x y g) : wX8_fault x y g bc bs Φ := by
  obtain ⟨S, M, hc, hr, t, sm, m5⟩ := h
  refine ⟨h1, h2, c_readQ hc t hR fun S' p' s' x y g c1 fS px => hΦ x y g ?_⟩
  have r1 := hr.fq fS FM.refl
  exact ⟨S', M, c1, r1, t.of r1 rfl rfl, sm.trans (SM.fq fS), m5⟩
theorem c_wipe {S0 M0 d l x y g} (h : TJ S0 M0 d l x y g) {bc bs : Nat} {Φ : Int32 → pK} (hΦ : ∀ x y g, TJ S0 M0 d [] x y g → Φ (nI l.length) x y g) : wX8_wipe x y g bc bs Φ := by
  obtain ⟨S, M, hc, hr, t, sm, m5⟩ := h
  unfold wX8_wipe wJ4_length_8abf5 wJ5_length_8abf5
  rw [hc.hx 19 (by omega), t.1.s19]
  refine ⟨bc, bs, 0, 0, by omega, by omega, c_empty hc t.1 fun v x2 y2 g2 hS => hΦ _ _ _ ?_⟩
  have r1 := hr.wip (v := v)
  refine ⟨_, mX M 0 0, hS, r1, ?_, sm.trans ⟨rfl, rfl, fun j i c => ?_, fun _ _ _ => rfl, rfl⟩, ?_⟩
  · obtain ⟨m, t'⟩ := r1.tx
    have e : m = 0 := nI_inj (b := 0) (by have := t'.n60; omega) (by omega) (t'.m0.symm.trans rfl)
    rw [e] at t'
    exact ⟨t', fun i hi => absurd hi (Nat.not_lt_zero i)⟩
  · rw [cX_x _ _ (by omega), cX_x _ _ (by omega)]
  · rw [← m5]
    unfold mX
    simp only [MS.mk_x]
    rw [p_un _ _ (by omega)]
theorem Fol.sm {Q : PQ} {S0 S : CS} {d : GD} (sm : SM S0 S) (h : Fol Q S d) : Fol Q S0 d := by
  obtain ⟨a, b, c, e, f⟩ := h
  exact ⟨a.trans (sm.2.2.2.1 3 0 (by omega)), b.trans (sm.2.2.2.1 5 0 (by omega)), c, e, f⟩
theorem Fol.ms {Q : PQ} {S0 S : CS} {d : GD} (sm : SM S0 S) (h : Fol Q S0 d) : Fol Q S d := by
  obtain ⟨a, b, c, e, f⟩ := h
  exact ⟨a.trans (sm.2.2.2.1 3 0 (by omega)).symm, b.trans (sm.2.2.2.1 5 0 (by omega)).symm, c, e, f⟩
theorem q_plan {S0 M0 d l x y g Q} (h : TJ S0 M0 d l x y g) (hR : RD l 0 l Q00 Q) (hqm : ∃ q, QM Q q) {a1 : Int32} {bc bs : Nat} (h1 : 5 ≤ bc) (h2 : 100 ≤ bs) {Φ : Int32 → pK} {Ψ : String → pK}
    (hNF : ¬ Fit Q → ∀ x y g, TJ S0 M0 d l x y g → Ψ "java/lang/IllegalArgumentException" x y g)
    (hNP : Fit Q → a1 ≠ 0 → ¬ (M0.x 5 = 1 ∧ Fol Q S0 d) → ∀ x y g, TJ S0 M0 d l x y g → Ψ "java/lang/IllegalStateException" x y g)
    (hA : Fit Q → a1 = 0 → ∀ S M v rq x y g, Rel S M d 2000 → SM S0 S → M.x 5 = M0.x 5 → QM Q (M.g 7) → RC (S4 S v rq Q) x y g → Φ 0 x y g)
    (hK : Fit Q → a1 ≠ 0 → M0.x 5 = 1 → Fol Q S0 d → ∀ S M v rq x y g, Rel S M d 2000 → SM S0 S → M.x 5 = M0.x 5 → QM Q (M.g 7) → RC (Sy (Sx S v Q) rq Q) x y g → Φ (nI (S.R 5).length) x y g) : wX8_plan x y g a1 bc bs Φ Ψ := by
  obtain ⟨S, M, hc, hr, t, sm, m5⟩ := h
  obtain ⟨q0, hq0⟩ := hqm
  unfold wX8_plan
  refine ⟨by omega, by omega, c_readQ hc t hR fun S1 p' s' x1 y1 g1 c1 fS px => ?_⟩
  have r1 := hr.fq fS FM.refl
  have t1 := t.of r1 rfl rfl
  have sm1 := sm.trans (SM.fq fS)
  have tj1 : TJ S0 M0 d l x1 y1 g1 := ⟨S1, M, c1, r1, t1, sm1, m5⟩
  have fm : FM M (MS.mk M.x (va_up M.g 7 q0) M.V M.T) := ⟨rfl, rfl, fun _ _ _ _ => rfl, fun k hk => p_un _ _ hk⟩
  have r2 : Rel S1 (MS.mk M.x (va_up M.g 7 q0) M.V M.T) d 2000 := hr.fq fS fm
  have hq2 : QM Q ((MS.mk M.x (va_up M.g 7 q0) M.V M.T).g 7) := by
    have : (MS.mk M.x (va_up M.g 7 q0) M.V M.T).g 7 = q0 := by rw [MS.mk_g, p_ug]
    rw [this]; exact hq0
  refine ify rfl (c_fit c1 px hq0 (fun hF => ite1 ⟨fun z => ?_, fun z => ?_⟩) fun hF => ite0 ⟨by omega, by omega, hNF hF _ _ _ tj1⟩)
  · exact c_planT c1 px t1.1 h1 h2 (fun z2 => absurd z z2) fun _ v rq x y g h4 => hA hF z S1 _ v rq x y g r2 sm1 m5 hq2 h4
  · rcases hr.pl.b with z5 | z5
    · have e15 : x1 15 0 = 0 := by rw [c1.hx 15 (by omega), fS.x 15 0 (by omega) (by omega), hr.pl.s15]; exact z5
      refine ify e15 ⟨by omega, by omega, hNP hF z (fun q => ?_) _ _ _ tj1⟩
      rw [← m5, z5] at q
      exact absurd q.1 (by decide)
    · have e15 : ¬ x1 15 0 = 0 := by rw [c1.hx 15 (by omega), fS.x 15 0 (by omega) (by omega), hr.pl.s15, z5]; decide
      have hQ1 := r1.pl.q z5
      refine ifn e15 (c_fol c1 px hq0 hQ1 (fun hFo => ite1 ?_) fun hFo => ite0 ⟨by omega, by omega, hNP hF z (fun q => hFo (q.2.ms sm1)) _ _ _ tj1⟩)
      exact c_planT c1 px t1.1 h1 h2 (fun _ v rq x y g h4 => hK hF z (by rw [← m5]; exact z5) (hFo.sm sm1) S1 _ v rq x y g r2 sm1 m5 hq2 h4) fun z2 => absurd z2 z
