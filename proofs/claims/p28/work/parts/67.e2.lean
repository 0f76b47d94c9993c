/-! ===== events, idle partitions, bounds, tables, workers ===== -/
theorem LI.mild {k k' W V W' V' S S' M M' d d' x y g qf cf cf' bc bs x' y' g' b2 s2} (h : LI k W V S M d x y g qf cf bc bs) (hk' : k ≤ k') (hS : RC S' x' y' g') (hr' : Rel S' M' d' 2000) (hC' : CapB S') (hB : BG28 S' W' V' b2 s2) (m5 : M'.x 5 = M.x 5) (eR : ∀ q, 4 ≤ q → S'.R q = S.R q) (eT : ∀ p, p < 3 → ∀ n, n ≤ d.rd p → (S'.R p).take n = (S.R p).take n) (R3 : (S'.R 3).length ≤ k')
    (ex : ∀ j i, j ≠ 6 → j ≠ 7 → j ≠ 16 → S'.x j i = S.x j i) (ey : S'.y = S.y) (eg : S'.g = S.g) (d1 : d'.rd = d.rd) (d2 : d'.c = d.c) (d3 : d'.sz = d.sz) (d4 : d'.sl = d.sl) (d5 : d'.lt = d.lt) (d6 : d'.tk = d.tk)
    (f1 : ∀ p, p < 3 → cf' p = nI (d'.n p)) (f2 : d'.n 0 + d'.n 1 + d'.n 2 ≤ k') (f3 : ∀ j, 3 ≤ j → j ≠ 7 → cf' j = cf j) (f4 : ∃ n, 1 ≤ n ∧ n < 5 ∧ S'.x 16 0 = nI n ∧ cf' 7 = nI n) :
    LI k' W' V' S' M' d' x' y' g' qf cf' b2 s2 ∧ NEWR S S' := by
  obtain ⟨hc, hr, hC, hb, hP, hT0, hL, hI⟩ := h
  obtain ⟨c0, c1, c2, c3, c4, c5, c6, c7, c8, c9⟩ := hI
  refine ⟨⟨hS, hr', hC', hB, fun z => ?_, by rw [ex 19 0 (by omega) (by omega) (by omega)]; exact hT0, fun a ha => ?_, ?_⟩, NEWR.same (by rw [eR 4 (by omega)]; exact Nat.le_refl _)⟩
  · obtain ⟨hE, hq, hsz, hsl⟩ := hP (by rw [← m5]; exact z)
    refine ⟨?_, ?_, by rw [d3]; exact hsz, by rw [d4]; exact hsl⟩
    · refine hE.kept (d' := d') hr ?_ d2 d3 d4 (fun q hq => eR q (by omega)) ⟨[], by rw [eR 4 (by omega), List.append_nil]⟩ eT (fun a _ => ex 2 a (by omega) (by omega) (by omega)) (fun a _ => ex 4 a (by omega) (by omega) (by omega)) (ex 10 0 (by omega) (by omega) (by omega)) (fun a _ => by rw [ex 12 0 (by omega) (by omega) (by omega)]; exact Int32.le_refl _) (by rw [ey]) (by rw [ey]) (by rw [ey]) (fun a _ => by rw [eg])
      have := hE.1
      unfold TS0 at this ⊢
      rw [ey, d3, d4, eR 5 (by omega), ex 2 0 (by omega) (by omega) (by omega), ex 12 0 (by omega) (by omega) (by omega), ex 10 0 (by omega) (by omega) (by omega), eR 4 (by omega), show EV S' d'.rd = EV S d.rd from EV_congr fun p hp => by rw [d1]; exact eT p hp _ (Nat.le_refl _)]
      exact this
    · unfold QCp at hq ⊢
      rw [ey, d3, d4, d5]
      exact hq
  · rw [ex 3 a (by omega) (by omega) (by omega)]
    obtain ⟨t, t1, t2⟩ := hL a ha
    exact ⟨t, by omega, t2⟩
  · refine ⟨f1, f2, R3, by rw [f3 3 (by omega) (by omega), d6]; exact c3, by rw [d6]; exact c4, by rw [f3 4 (by omega) (by omega), ex 4 1 (by omega) (by omega) (by omega)]; exact c5, fun b hb' => ?_, by rw [f3 6 (by omega) (by omega), m5]; exact c7, f4, by rw [f3 8 (by omega) (by omega), ex 2 0 (by omega) (by omega) (by omega)]; exact c9⟩
    rw [f3 5 (by omega) (by omega), d2, ey, c6 b hb']
    have e5 : ∀ q, S'.x 5 q = S.x 5 q := fun q => ex 5 q (by omega) (by omega) (by omega)
    simp only [e5]
theorem cTold_R (S : CS) (q : Nat) (k t v : Int32) : (cTold S q k t v).R q = S.R q ++ [upd (upd (upd pz 0 k) 1 t) 2 v] ∧ (∀ j, j ≠ q → (cTold S q k t v).R j = S.R j) ∧ (cTold S q k t v).x = S.x ∧ (cTold S q k t v).y = S.y ∧ (cTold S q k t v).g = S.g :=
  ⟨cRw_R _ _ _ _, fun j hj => cRw_Rn _ _ _ hj, cRw_x _ _ _ _, cRw_y _ _ _ _, rfl⟩
theorem LI.evt {k W V W' V' S M d x y g qf cf bc bs x' y' g' b2 s2} (h : LI k W V S M d x y g qf cf bc bs) (hk : k < 300) {p kk t : Nat} {v : Int32} (hp : p < 3) (hkk : kk < 8) (ht : t < 1000) (hS : RC (cTold S p (nI kk) (nI t) v) x' y' g') (hB : BG28 (cTold S p (nI kk) (nI t) v) W' V' b2 s2) :
    ∃ M' d', LI (k + 1) W' V' (cTold S p (nI kk) (nI t) v) M' d' x' y' g' qf (upd cf p (cf p + 1)) b2 s2 ∧ NEWR S (cTold S p (nI kk) (nI t) v) := by
  have h0 := h
  obtain ⟨hc, hr, hC, hb, hP, hT0, hL, hI⟩ := h
  obtain ⟨c0, c1, c2, c3, c4, c5, c6, c7, c8, c9⟩ := hI
  obtain ⟨e1, e2, e3, e4, e5⟩ := cTold_R S p (nI kk) (nI t) v
  have hlen := hr.ev.len p hp
  have hnp2 : d.n p < 300 := by
    have : p = 0 ∨ p = 1 ∨ p = 2 := by omega
    rcases this with e | e | e <;> subst e <;> omega
  have hr' := hr.evt hp hkk ht (by omega) (v := v)
  refine ⟨_, _, h0.mild (k' := k + 1) (M' := mEvt M p (d.n p) (d.n 0 + d.n 1 + d.n 2) (nI kk) (nI t) v) (by omega) hS hr' (hC.told hp (by omega) _ _ _) hB ?_ (fun q hq => e2 q (by omega)) (fun q hq n hn => ?_) (by rw [e2 3 (by omega)]; omega) (fun j i _ _ _ => by rw [e3]) e4 e5 rfl rfl rfl rfl rfl rfl (fun q hq => ?_) ?_ (fun j hj _ => by unfold upd; rw [if_neg (by omega)]) ?_⟩
  · unfold mEvt
    first
      | rfl
      | (simp only [MS.mk_x, mX, mG]; rw [p_un _ _ (by omega)])
  · by_cases e : q = p
    · subst e
      have := hr.ev.rdn q hq
      rw [e1, List.take_append_of_le_length (by omega)]
    · rw [e2 q e]
  · show upd cf p (cf p + 1) q = nI (va_up d.n p (d.n p + 1) q)
    by_cases e : q = p
    · subst e
      rw [p_ug]
      unfold upd
      rw [if_pos rfl, c0 q hq, nI_1]
    · rw [p_un _ _ e]
      unfold upd
      rw [if_neg e]
      exact c0 q hq
  · show va_up d.n p (d.n p + 1) 0 + va_up d.n p (d.n p + 1) 1 + va_up d.n p (d.n p + 1) 2 ≤ k + 1
    have := va3 (n := d.n) (v := d.n p + 1) hp
    omega
  · obtain ⟨n, n1, n2, n3, n4⟩ := c8
    refine ⟨n, n1, n2, by rw [e3]; exact n3, ?_⟩
    unfold upd
    rw [if_neg (by omega)]
    exact n4
theorem LI.tab {k W V W' V' S M d x y g qf cf bc bs x' y' g' b2 s2} (h : LI k W V S M d x y g qf cf bc bs) (hk : (S.R 3).length < 60) (hk2 : (S.R 3).length ≤ k) {kk t : Nat} {v : Int32} (ht : t < 1000) (hS : RC (cTold S 3 (nI kk) (nI t) v) x' y' g') (hB : BG28 (cTold S 3 (nI kk) (nI t) v) W' V' b2 s2) :
    ∃ M' d', LI (k + 1) W' V' (cTold S 3 (nI kk) (nI t) v) M' d' x' y' g' qf cf b2 s2 ∧ NEWR S (cTold S 3 (nI kk) (nI t) v) := by
  have h0 := h
  obtain ⟨hc, hr, hC, hb, hP, hT0, hL, hI⟩ := h
  obtain ⟨c0, c1, c2, c3, c4, c5, c6, c7, c8, c9⟩ := hI
  obtain ⟨e1, e2, e3, e4, e5⟩ := cTold_R S 3 (nI kk) (nI t) v
  have hr' := hr.tab (k := nI kk) (v := v) ht hk
  refine ⟨_, _, h0.mild (k' := k + 1) (M' := mTab M (S.R 3).length (nI kk) (nI t) v) (by omega) hS hr' (hC.tab hk _ _ _) hB ?_ (fun q hq => e2 q (by omega)) (fun q hq n hn => by rw [e2 q (by omega)]) (by rw [e1, List.length_append, List.length_singleton]; omega) (fun j i _ _ _ => by rw [e3]) e4 e5 rfl rfl rfl rfl rfl rfl c0 (by omega) (fun j hj _ => rfl) (by rw [e3]; exact c8)⟩
  unfold mTab
  first
    | rfl
    | (simp only [MS.mk_x, mX, mG]; rw [p_un _ _ (by omega)])
theorem LI.set {k W V W' V' S M M' d x y g qf cf cf' bc bs x' y' g' b2 s2} {j i : Nat} {v : Int32} (h : LI k W V S M d x y g qf cf bc bs) (hj : j = 6 ∨ j = 7 ∨ j = 16) (hS : RC (uX S j i v) x' y' g') (hr' : Rel (uX S j i v) M' d 2000) (m5 : M'.x 5 = M.x 5) (hB : BG28 (uX S j i v) W' V' b2 s2) (f3 : ∀ a, a ≠ 7 → cf' a = cf a) (f4 : ∃ n, 1 ≤ n ∧ n < 5 ∧ (uX S j i v).x 16 0 = nI n ∧ cf' 7 = nI n) :
    LI k W' V' (uX S j i v) M' d x' y' g' qf cf' b2 s2 ∧ NEWR S (uX S j i v) := by
  have h0 := h
  obtain ⟨hc, hr, hC, hb, hP, hT0, hL, hI⟩ := h
  obtain ⟨c0, c1, c2, c3, c4, c5, c6, c7, c8, c9⟩ := hI
  exact h0.mild (Nat.le_refl k) hS hr' hC hB m5 (fun q _ => rfl) (fun q _ n _ => rfl) (by show (S.R 3).length ≤ k; omega) (fun a b h1 h2 h3 => by rw [cX_x _ _ (by omega)]) rfl rfl rfl rfl rfl rfl rfl rfl (fun p hp => by rw [f3 p (by omega)]; exact c0 p hp) (by omega) (fun a _ ha => f3 a ha) f4
theorem LI.find {k W V W' V' S M d x y g qf cf bc bs x' y' g' b2 s2} (h : LI k W V S M d x y g qf cf bc bs) (h5 : M.x 5 = 1) (hS : RC (cFind S) x' y' g') (hB : BG28 (cFind S) W' V' b2 s2) :
    (∃ M', LI k W' V' (cFind S) M' d x' y' g' qf (upd cf 8 ((cFind S).x 2 0)) b2 s2) ∧ NEWR S (cFind S) ∧ S.x 2 0 ≤ (cFind S).x 2 0 := by
  obtain ⟨hc, hr, hC, hb, hP, hT0, hL, hI⟩ := h
  obtain ⟨c0, c1, c2, c3, c4, c5, c6, c7, c8, c9⟩ := hI
  obtain ⟨hE, hq, hsz, hsl⟩ := hP h5
  obtain ⟨M2, m2x, mR2, mT2, ⟨rs, e4, rnp⟩, fS, hle⟩ := find28 hr h5 hE.1
  have hT := hr.t2400
  have hw : (S.R 5).length ≤ 1400 := by
    have := hr.sizes
    have e : (S.R 5).length = (M.V 6).length := hr.st0.wr.len
    omega
  have ex : ∀ k a, ¬ (a = 0 ∧ (k = 2 ∨ k = 3)) → (cFind S).x k a = S.x k a := fun k a hh => fS.x k a hh
  have ey := fS.y
  refine ⟨⟨M2, hS, mR2, hC.find (by omega), hB, fun _ => ⟨?_, ?_, hsz, hsl⟩, by rw [ex 19 0 (by omega)]; exact hT0, fun a ha => by rw [late_find]; exact hL a ha, ?_⟩, fun j h1 h2 => ?_, hle⟩
  · exact hE.kept (d' := d) hr mT2 rfl rfl rfl (fun q hq => fS.R q (by omega) (by omega)) ⟨_, e4⟩ (fun q hq n hn => by rw [fS.R q (by omega) (by omega)]) (fun a ha => ex 2 a (by omega)) (fun a _ => ex 4 a (by omega)) (ex 10 0 (by omega)) (fun a _ => by rw [ex 12 0 (by omega)]; exact Int32.le_refl _) (by rw [ey]) (by rw [ey]) (by rw [ey]) (fun a ha => by rw [fS.g])
  · unfold QCp at hq ⊢
    rw [ey]; exact hq
  · have eu : ∀ j, j ≠ 8 → upd cf 8 ((cFind S).x 2 0) j = cf j := fun j hj => by unfold upd; rw [if_neg hj]
    refine ⟨fun q hq => by rw [eu q (by omega)]; exact c0 q hq, c1, by rw [fS.R 3 (by omega) (by omega)]; exact c2, by rw [eu 3 (by omega)]; exact c3, c4, by rw [eu 4 (by omega), ex 4 1 (by omega)]; exact c5, fun b hb' => ?_, by rw [eu 6 (by omega), m2x]; exact c7, by rw [eu 7 (by omega), ex 16 0 (by omega)]; exact c8, by unfold upd; rw [if_pos rfl]⟩
    rw [eu 5 (by omega), ey, c6 b hb']
    have e5 : ∀ q, (cFind S).x 5 q = S.x 5 q := fun q => ex 5 q (by omega)
    simp only [e5]
  · rw [e4] at h2 ⊢
    rw [ey]
    exact rnp _ (getD_app h1 h2)
