/-! ===== the law's queries: shape, join, filter, fold ===== -/
def slX (Y : Nat) : Nat := 1 + Y / 36 % 6
def szX (Y : Nat) : Nat := 1 + Y / 3 % 12
def shX (Y : Nat) : Nat := 8 + Y % 3
def fitX (Y : Nat) : Bool := if shX Y = 9 then decide (szX Y % slX Y = 0 ∧ szX Y ≤ 4 * slX Y) else true
def iOf (b : Bool) : Int32 := if b then 1 else 0
theorem iOf_b (b : Bool) : iOf b = 0 ∨ iOf b = 1 := by
  cases b
  · exact .inl rfl
  · exact .inr rfl
theorem tY_len (s y : Nat) : (tY s y).length ≤ 3 := by
  unfold tY
  split
  · have := figs_len y
    rw [List.length_cons]; omega
  · exact Nat.zero_le _
/-- what the law keeps in q of a query that it has typed -/
def QF (X Y : Nat) (qf : Nat → Int32) : Prop := qf 1 = nI (Y % 3) ∧ qf 2 = nI (szX Y) ∧ qf 3 = (if shX Y = 9 then nI (slX Y) else 0) ∧ qf 4 = nI (lateV Y) ∧ qf 5 = nI (Y / 12960 % 4)
section QUE2
variable {S0 : CS} {M0 : MS} {d : GD} {l : List Nat} {x : Nat → Nat → Int32} {y : Nat → Nat → Nat} {g : Nat → Nat → Nat → Int32} {qf cf : Nat → Int32} {bc bs : Nat} {Φ : pL} {X Y : Nat}
abbrev tail28 (X Y : Nat) : List Nat := tL (lateO Y) ++ tM (Y / 12960 % 4) (decide (X / 21600 % 2 = 0))
theorem h_340 (hX : X < 2 ^ 30) (hY : Y < 2 ^ 30) (h : TJ S0 M0 d l x y g) (hl : l.length ≤ 38) (h1 : 42 ≤ bc) (h2 : 2940 ≤ bs) (e1 : qf 1 = nI (Y % 3)) (e2 : qf 2 = nI (szX Y)) (e3 : qf 3 = 0) (hΦ : ∀ x y g qf', TJ S0 M0 d (l ++ (figs (szX Y) ++ (tY (shX Y) (slX Y) ++ tail28 X Y))) x y g → qf' 0 = qf 0 → QF X Y qf' → Φ (iOf (fitX Y)) x y g qf' cf) : jL_queries_340 Φ x y g qf cf (nI X) (nI Y) bc bs := by
  have hz : szX Y < 13 := by have := Nat.mod_lt (Y / 3) (show 12 > 0 by omega); unfold szX; omega
  have hy : slX Y < 7 ∧ 0 < slX Y := by have := Nat.mod_lt (Y / 36) (show 6 > 0 by omega); unfold slX; omega
  have hf1 := figs_len (szX Y)
  have hf2 := figs_len (slX Y)
  have h3 : Y % 3 < 3 := Nat.mod_lt _ (by omega)
  unfold jL_queries_340
  rw [e2]
  refine ⟨7, 490, bc - 7, bs - 490, by omega, by omega, h_figs (by omega) h (by omega) (Nat.le_refl _) (Nat.le_refl _) fun x y g q => ?_⟩
  have hl2 : (l ++ figs (szX Y)).length ≤ 40 := by rw [List.length_append]; omega
  try dsimp only
  rw [e1, dm (A := 36) (B := 6) (a := 36) (b := 6) rfl rfl (by omega) (by omega) (by omega) (by omega) (by omega)]
  refine ⟨fun c => ?_, fun c => ?_⟩
  · have c := (nI_is (b := 1) rfl (by omega) (by omega)).1 c
    have hs9 : shX Y = 9 := by unfold shX; rw [c]
    rw [show (1 : Int32) + nI (Y / 36 % 6) = nI (slX Y) by rw [show (1 : Int32) = nI 1 from rfl, nI_add]; rfl]
    rintro qf1 rfl
    have f3 : upd qf 3 (nI (slX Y)) 3 = nI (slX Y) := by unfold upd; rw [if_pos rfl]
    have fo : ∀ j, j ≠ 3 → upd qf 3 (nI (slX Y)) j = qf j := fun j hj => by unfold upd; rw [if_neg hj]
    generalize upd qf 3 (nI (slX Y)) = qf1 at f3 fo ⊢
    refine ⟨7, 490, bc - 14, bs - 980, by omega, by omega, h_types 32 0 0 0 0 0 0 (by decide) q (by omega) (Nat.le_refl _) (Nat.le_refl _) fun x y g q => ?_⟩
    have q : TJ S0 M0 d (l ++ figs (szX Y) ++ [32]) x y g := q
    have hl3 : (l ++ figs (szX Y) ++ [32]).length ≤ 41 := by rw [List.length_append, List.length_singleton]; omega
    rw [f3]
    refine ⟨7, 490, bc - 21, bs - 1470, by omega, by omega, h_figs (by omega) q (by omega) (Nat.le_refl _) (Nat.le_refl _) fun x y g q => ?_⟩
    have hl4 : (l ++ figs (szX Y) ++ [32] ++ figs (slX Y)).length ≤ 43 := by rw [List.length_append]; omega
    have el : l ++ figs (szX Y) ++ [32] ++ figs (slX Y) ++ tail28 X Y = l ++ (figs (szX Y) ++ (tY (shX Y) (slX Y) ++ tail28 X Y)) := by
      unfold tY
      rw [if_pos hs9]
      simp only [List.append_assoc, List.cons_append, List.nil_append]
    have fin : ∀ b : Bool, fitX Y = b → jL_queries_416 Φ x y g qf1 cf (nI X) (nI Y) (iOf b) (bc - 21) (bs - 1470) := fun b hb => by
      refine h_late hX hY (iOf_b b) q (by omega) (by omega) (by omega) fun x y g qf' q g1 g2 g3 => ?_
      rw [← hb]
      refine hΦ x y g qf' (el ▸ q) ((g1 0 (by omega) (by omega)).trans (fo 0 (by omega))) ⟨(g1 1 (by omega) (by omega)).trans ((fo 1 (by omega)).trans e1), (g1 2 (by omega) (by omega)).trans ((fo 2 (by omega)).trans e2), ?_, g2, g3⟩
      rw [if_pos hs9]
      exact (g1 3 (by omega) (by omega)).trans f3
    have hfit : fitX Y = decide (szX Y % slX Y = 0 ∧ szX Y ≤ 4 * slX Y) := if_pos hs9
    try dsimp only
    rw [fo 2 (by omega), e2, f3, p_rem (by omega) (by omega) (by omega), show (4 : Int32) * nI (slX Y) = nI (4 * slX Y) from p_mul 4 _]
    unfold jL_queries_413 jL_queries_414
    refine ⟨nI_ne0 hy.2 (by omega), fun z => ⟨fun z2 => ?_, fun z2 => ?_⟩, fun z => ?_⟩
    · have z2 := (nI_ltI (by omega) (by omega)).1 z2
      exact fin false (by rw [hfit]; exact decide_eq_false (by omega))
    · have z := (nI_is (b := 0) rfl (by have := Nat.mod_lt (szX Y) hy.2; omega) (by omega)).1 z
      have z2 : ¬ 4 * slX Y < szX Y := fun w => z2 (nI_lt w (by omega))
      exact fin true (by rw [hfit]; exact decide_eq_true ⟨z, by omega⟩)
    · have z : ¬ szX Y % slX Y = 0 := fun w => z (by rw [w]; rfl)
      exact fin false (by rw [hfit]; exact decide_eq_false fun w => z w.1)
  · have c : ¬ Y % 3 = 1 := fun z => c (by rw [z]; rfl)
    have hs9 : shX Y ≠ 9 := by unfold shX; omega
    have el : l ++ figs (szX Y) ++ tail28 X Y = l ++ (figs (szX Y) ++ (tY (shX Y) (slX Y) ++ tail28 X Y)) := by
      unfold tY
      rw [if_neg hs9]
      simp only [List.append_assoc, List.cons_append, List.nil_append]
    have hfit : fitX Y = true := if_neg hs9
    refine h_late hX hY (.inr rfl) q (by omega) (by omega) (by omega) fun x y g qf' q g1 g2 g3 => ?_
    have : (1 : Int32) = iOf (fitX Y) := by rw [hfit]; rfl
    rw [this]
    refine hΦ x y g qf' (el ▸ q) (g1 0 (by omega) (by omega)) ⟨(g1 1 (by omega) (by omega)).trans e1, (g1 2 (by omega) (by omega)).trans e2, ?_, g2, g3⟩
    rw [if_neg hs9]
    exact (g1 3 (by omega) (by omega)).trans e3
abbrev shape28 (X Y : Nat) : List Nat := spN (shX Y) ++ (32 :: (figs (szX Y) ++ (tY (shX Y) (slX Y) ++ tail28 X Y)))
theorem h_223 (hX : X < 2 ^ 30) (hY : Y < 2 ^ 30) (h : TJ S0 M0 d l x y g) (hl : l.length ≤ 30) (h1 : 56 ≤ bc) (h2 : 3920 ≤ bs) (hΦ : ∀ x y g qf', TJ S0 M0 d (l ++ shape28 X Y) x y g → qf' 0 = qf 0 → QF X Y qf' → Φ (iOf (fitX Y)) x y g qf' cf) : jL_queries_223 Φ x y g qf cf (nI X) (nI Y) bc bs := by
  have h3 : Y % 3 < 3 := Nat.mod_lt _ (by omega)
  unfold jL_queries_223
  rw [rm (B := 3) (b := 3) rfl (by omega) (by omega) (by omega), dm (A := 3) (B := 12) (a := 3) (b := 12) rfl rfl (by omega) (by omega) (by omega) (by omega) (by omega), show (1 : Int32) + nI (Y / 3 % 12) = nI (szX Y) by rw [show (1 : Int32) = nI 1 from rfl, nI_add]; rfl]
  rintro _ rfl _ rfl qf1 rfl
  have f0 : upd (upd (upd qf 1 (nI (Y % 3))) 2 (nI (szX Y))) 3 0 0 = qf 0 := rfl
  have f1 : upd (upd (upd qf 1 (nI (Y % 3))) 2 (nI (szX Y))) 3 0 1 = nI (Y % 3) := rfl
  have f2 : upd (upd (upd qf 1 (nI (Y % 3))) 2 (nI (szX Y))) 3 0 2 = nI (szX Y) := rfl
  have f3 : upd (upd (upd qf 1 (nI (Y % 3))) 2 (nI (szX Y))) 3 0 3 = 0 := rfl
  generalize upd (upd (upd qf 1 (nI (Y % 3))) 2 (nI (szX Y))) 3 0 = qf1 at f0 f1 f2 f3 ⊢
  rw [f1]
  have nxt : ∀ x y g b2 s2, 42 ≤ b2 → 2940 ≤ s2 → TJ S0 M0 d (l ++ (spN (shX Y) ++ [32])) x y g → jL_queries_340 Φ x y g qf1 cf (nI X) (nI Y) b2 s2 := fun x y g b2 s2 q1 q2 q3 => by
    have hlen : (spN (shX Y) ++ [32]).length ≤ 8 := by
      have : ∀ k, k < 3 → (spN (8 + k) ++ [32]).length ≤ 8 := by decide
      exact this _ h3
    refine h_340 hX hY q3 (by rw [List.length_append]; omega) q1 q2 f1 f2 f3 fun x y g qf' q g0 gq => hΦ x y g qf' ?_ (g0.trans f0) gq
    have el : l ++ (spN (shX Y) ++ [32]) ++ (figs (szX Y) ++ (tY (shX Y) (slX Y) ++ tail28 X Y)) = l ++ shape28 X Y := by
      unfold shape28
      simp only [List.append_assoc, List.cons_append, List.nil_append]
    rw [← el]; exact q
  refine ⟨fun c => ?_, fun c => ⟨fun c2 => ?_, fun c2 => ?_⟩⟩
  · have c := (nI_is (b := 0) rfl (by omega) (by omega)).1 c
    have hs : shX Y = 8 := by unfold shX; rw [c]
    refine ⟨7, 490, bc - 7, bs - 490, by omega, by omega, h_types 102 105 120 101 100 32 0 (by decide) h (by omega) (Nat.le_refl _) (Nat.le_refl _) fun x y g q => nxt x y g _ _ (by omega) (by omega) ?_⟩
    rw [hs]; exact q
  · have c2 := (nI_is (b := 1) rfl (by omega) (by omega)).1 c2
    have hs : shX Y = 9 := by unfold shX; rw [c2]
    refine ⟨7, 490, bc - 7, bs - 490, by omega, by omega, h_types 115 108 105 100 105 110 103 (by decide) h (by omega) (Nat.le_refl _) (Nat.le_refl _) fun x y g q => ?_⟩
    have q : TJ S0 M0 d (l ++ [115, 108, 105, 100, 105, 110, 103]) x y g := q
    refine ⟨7, 490, bc - 14, bs - 980, by omega, by omega, h_types 32 0 0 0 0 0 0 (by decide) q (by rw [List.length_append]; show l.length + 7 ≤ 53; omega) (Nat.le_refl _) (Nat.le_refl _) fun x y g q => nxt x y g _ _ (by omega) (by omega) ?_⟩
    rw [hs]
    have el : l ++ [115, 108, 105, 100, 105, 110, 103] ++ [32] = l ++ (spN 9 ++ [32]) := by rw [List.append_assoc]; rfl
    rw [← el]; exact q
  · have c : ¬ Y % 3 = 0 := fun z => c (by rw [z]; rfl)
    have c2 : ¬ Y % 3 = 1 := fun z => c2 (by rw [z]; rfl)
    have hs : shX Y = 10 := by unfold shX; omega
    refine ⟨7, 490, bc - 7, bs - 490, by omega, by omega, h_types 115 101 115 115 105 111 110 (by decide) h (by omega) (Nat.le_refl _) (Nat.le_refl _) fun x y g q => ?_⟩
    have q : TJ S0 M0 d (l ++ [115, 101, 115, 115, 105, 111, 110]) x y g := q
    refine ⟨7, 490, bc - 14, bs - 980, by omega, by omega, h_types 32 0 0 0 0 0 0 (by decide) q (by rw [List.length_append]; show l.length + 7 ≤ 53; omega) (Nat.le_refl _) (Nat.le_refl _) fun x y g q => nxt x y g _ _ (by omega) (by omega) ?_⟩
    rw [hs]
    have el : l ++ [115, 101, 115, 115, 105, 111, 110] ++ [32] = l ++ (spN 10 ++ [32]) := by rw [List.append_assoc]; rfl
    rw [← el]; exact q
def jX28 (X : Nat) : Bool := decide (X / 10800 % 2 = 0)
theorem h_197 (hX : X < 2 ^ 30) (hY : Y < 2 ^ 30) (h : TJ S0 M0 d l x y g) (hl : l.length ≤ 25) (h1 : 63 ≤ bc) (h2 : 4410 ≤ bs) (hΦ : ∀ x y g qf', TJ S0 M0 d (l ++ (tJ (jX28 X) ++ shape28 X Y)) x y g → qf' 0 = qf 0 → QF X Y qf' → Φ (iOf (fitX Y)) x y g qf' cf) : jL_queries_197 Φ x y g qf cf (nI X) (nI Y) bc bs := by
  unfold jL_queries_197
  rw [dm (A := 10800) (B := 2) (a := 10800) (b := 2) rfl rfl (by omega) (by omega) (by omega) (by omega) (by omega)]
  refine ⟨fun c => ?_, fun c => ?_⟩
  · have c := (nI_is (b := 0) rfl (by omega) (by omega)).1 c
    have ej : jX28 X = true := decide_eq_true c
    refine ⟨7, 490, bc - 7, bs - 490, by omega, by omega, h_types 106 111 105 110 32 0 0 (by decide) h (by omega) (Nat.le_refl _) (Nat.le_refl _) fun x y g q => ?_⟩
    have q : TJ S0 M0 d (l ++ tJ true) x y g := q
    refine h_223 hX hY q (by rw [List.length_append]; show l.length + 5 ≤ 30; omega) (by omega) (by omega) fun x y g qf' q => hΦ x y g qf' ?_
    rw [ej, ← List.append_assoc]; exact q
  · have c : ¬ X / 10800 % 2 = 0 := fun z => c (by rw [z]; rfl)
    have ej : jX28 X = false := decide_eq_false c
    refine h_223 hX hY h (by omega) (by omega) (by omega) fun x y g qf' q => hΦ x y g qf' ?_
    rw [ej]; exact q
def fX28 (X : Nat) : pF := if X / 3 % 3 = 0 then some (X / 9 % 3, decide (¬ X / 27 % 2 = 0), X / 54 % 100, decide (X / 5400 % 2 = 0)) else none
theorem tF_some (cm : Nat) (neg : Bool) (v : Nat) (bb : Bool) : tF (some (cm, neg, v, bb)) = spN 3 ++ (32 :: (spN (4 + cm) ++ (32 :: (tN neg ++ (figs v ++ (32 :: tB bb)))))) := rfl
theorem fX28_ok (X : Nat) : okF (fX28 X) := by
  unfold fX28
  split
  · exact ⟨by have := Nat.mod_lt (X / 9) (show 3 > 0 by omega); omega, Nat.mod_lt _ (by omega)⟩
  · trivial
theorem h_155 (hX : X < 2 ^ 30) (hY : Y < 2 ^ 30) (h : TJ S0 M0 d l x y g) (hl : l.length ≤ 13) (h1 : 84 ≤ bc) (h2 : 5880 ≤ bs) (c : X / 3 % 3 = 0) {u6 : Nat} (hu6 : (if decide (¬ X / 27 % 2 = 0) then 45 else 0) = u6) (hΦ : ∀ x y g qf', TJ S0 M0 d (l ++ (tF (fX28 X) ++ (tJ (jX28 X) ++ shape28 X Y))) x y g → qf' 0 = qf 0 → QF X Y qf' → Φ (iOf (fitX Y)) x y g qf' cf) : jL_queries_155 Φ x y g qf cf (nI X) (nI Y) 105 102 32 (60 + nI (X / 9 % 3)) 32 (nI u6) bc bs := by
  have h93 : X / 9 % 3 < 3 := Nat.mod_lt _ (by omega)
  have hv : X / 54 % 100 < 100 := Nat.mod_lt _ (by omega)
  have e60 : (60 : Int32) + nI (X / 9 % 3) = nI (60 + X / 9 % 3) := by rw [show (60 : Int32) = nI 60 from rfl, nI_add]
  have hu : u6 = 0 ∨ u6 = 45 := by
    rw [← hu6]; split
    · exact .inr rfl
    · exact .inl rfl
  have ef : fX28 X = some (X / 9 % 3, decide (¬ X / 27 % 2 = 0), X / 54 % 100, decide (X / 5400 % 2 = 0)) := if_pos c
  have h4 : spN (4 + X / 9 % 3) = [60 + X / 9 % 3] := by
    have : ∀ k, k < 3 → spN (4 + k) = [60 + k] := by decide
    exact this _ h93
  have et : tnz (fun k => ([105, 102, 32, 60 + X / 9 % 3, 32, u6, 0] : List Nat).getD k 0) 7 0 = [105, 102, 32, 60 + X / 9 % 3, 32] ++ tN (decide (¬ X / 27 % 2 = 0)) := by
    show [105] ++ ([102] ++ ([32] ++ ((if 60 + X / 9 % 3 = 0 then [] else [60 + X / 9 % 3]) ++ ([32] ++ ((if u6 = 0 then [] else [u6]) ++ ([] ++ [])))))) = _
    rw [if_neg (by omega), ← hu6]
    unfold tN
    cases decide (¬ X / 27 % 2 = 0) <;> rfl
  unfold jL_queries_155
  rw [e60]
  refine ⟨7, 490, bc - 7, bs - 490, by omega, by omega, h_types 105 102 32 (60 + X / 9 % 3) 32 u6 0 (fun k hk => ?_) h (by omega) (Nat.le_refl _) (Nat.le_refl _) fun x y g q => ?_⟩
  · have h7 : k = 0 ∨ k = 1 ∨ k = 2 ∨ k = 3 ∨ k = 4 ∨ k = 5 ∨ k = 6 := by omega
    rcases h7 with rfl | rfl | rfl | rfl | rfl | rfl | rfl
    · right; show 32 ≤ 105 ∧ 105 < 127; decide
    · right; show 32 ≤ 102 ∧ 102 < 127; decide
    · right; show 32 ≤ 32 ∧ 32 < 127; decide
    · right; show 32 ≤ 60 + X / 9 % 3 ∧ 60 + X / 9 % 3 < 127; omega
    · right; show 32 ≤ 32 ∧ 32 < 127; decide
    · show u6 = 0 ∨ 32 ≤ u6 ∧ u6 < 127; omega
    · exact .inl rfl
  · rw [et] at q
    have hlN : (tN (decide (¬ X / 27 % 2 = 0))).length ≤ 1 := by cases decide (¬ X / 27 % 2 = 0) <;> decide
    have hf := figs_len (X / 54 % 100)
    have hl2 : (l ++ ([105, 102, 32, 60 + X / 9 % 3, 32] ++ tN (decide (¬ X / 27 % 2 = 0)))).length ≤ 19 := by
      rw [List.length_append, List.length_append]
      show l.length + (5 + _) ≤ 19
      omega
    rw [dm (A := 54) (B := 100) (a := 54) (b := 100) rfl rfl (by omega) (by omega) (by omega) (by omega) (by omega)]
    refine ⟨7, 490, bc - 14, bs - 980, by omega, by omega, h_figs hv q (by omega) (Nat.le_refl _) (Nat.le_refl _) fun x y g q => ?_⟩
    have hl3 : (l ++ ([105, 102, 32, 60 + X / 9 % 3, 32] ++ tN (decide (¬ X / 27 % 2 = 0))) ++ figs (X / 54 % 100)).length ≤ 21 := by
      rw [List.length_append]; omega
    unfold jL_queries_189
    try dsimp only
    rw [dm (A := 5400) (B := 2) (a := 5400) (b := 2) rfl rfl (by omega) (by omega) (by omega) (by omega) (by omega)]
    have fin : ∀ b : Bool, decide (X / 5400 % 2 = 0) = b → ∀ x y g, TJ S0 M0 d (l ++ ([105, 102, 32, 60 + X / 9 % 3, 32] ++ tN (decide (¬ X / 27 % 2 = 0))) ++ figs (X / 54 % 100) ++ (32 :: tB b)) x y g → jL_queries_197 Φ x y g qf cf (nI X) (nI Y) (bc - 21) (bs - 1470) := fun b hb x y g q => by
      have hlB : (32 :: tB b).length ≤ 2 := by cases b <;> decide
      refine h_197 hX hY q (by rw [List.length_append]; omega) (by omega) (by omega) fun x y g qf' q => hΦ x y g qf' ?_
      have el : l ++ ([105, 102, 32, 60 + X / 9 % 3, 32] ++ tN (decide (¬ X / 27 % 2 = 0))) ++ figs (X / 54 % 100) ++ (32 :: tB b) ++ (tJ (jX28 X) ++ shape28 X Y) = l ++ (tF (fX28 X) ++ (tJ (jX28 X) ++ shape28 X Y)) := by
        rw [ef, tF_some, h4, hb, show spN 3 = [105, 102] from rfl]
        simp only [List.append_assoc, List.cons_append, List.nil_append]
      rw [← el]; exact q
    refine ⟨fun z => ?_, fun z => ?_⟩
    · have z := (nI_is (b := 0) rfl (by omega) (by omega)).1 z
      exact ⟨7, 490, bc - 21, bs - 1470, by omega, by omega, h_types 32 32 0 0 0 0 0 (by decide) q (by omega) (Nat.le_refl _) (Nat.le_refl _) fun x y g q => fin true (decide_eq_true z) x y g q⟩
    · have z : ¬ X / 5400 % 2 = 0 := fun w => z (by rw [w]; rfl)
      exact ⟨7, 490, bc - 21, bs - 1470, by omega, by omega, h_types 32 0 0 0 0 0 0 (by decide) q (by omega) (Nat.le_refl _) (Nat.le_refl _) fun x y g q => fin false (decide_eq_false z) x y g q⟩
/-- the text that the law types -/
def text28 (X Y : Nat) : List Nat := qTx (X % 3) (fX28 X) (jX28 X) (shX Y) (szX Y) (slX Y) (lateO Y) (Y / 12960 % 4) (decide (X / 21600 % 2 = 0))
theorem h_queries (hX : X < 2 ^ 30) (hY : Y < 2 ^ 30) (h : TJ S0 M0 d [] x y g) (h1 : 100 ≤ bc) (h2 : 7000 ≤ bs) (hΦ : ∀ x y g qf', TJ S0 M0 d (text28 X Y) x y g → qf' 0 = nI (X % 3) → QF X Y qf' → Φ (iOf (fitX Y)) x y g qf' cf) : wL_queries x y g qf cf (nI X) (nI Y) bc bs Φ := by
  have h3 : X % 3 < 3 := Nat.mod_lt _ (by omega)
  unfold wL_queries
  rw [rm (B := 3) (b := 3) rfl (by omega) (by omega) (by omega)]
  rintro qf1 rfl
  have f0 : upd qf 0 (nI (X % 3)) 0 = nI (X % 3) := rfl
  generalize upd qf 0 (nI (X % 3)) = qf1 at f0 ⊢
  have j108 : ∀ u1 u2 u3 u4 u5 : Nat, (∀ k, k < 7 → ([u1, u2, u3, u4, u5, 32, 0] : List Nat).getD k 0 = 0 ∨ 32 ≤ ([u1, u2, u3, u4, u5, 32, 0] : List Nat).getD k 0 ∧ ([u1, u2, u3, u4, u5, 32, 0] : List Nat).getD k 0 < 127) → tnz (fun k => ([u1, u2, u3, u4, u5, 32, 0] : List Nat).getD k 0) 7 0 = spN (X % 3) ++ [32] → jL_queries_108 Φ x y g qf1 cf (nI X) (nI Y) (nI u1) (nI u2) (nI u3) (nI u4) (nI u5) bc bs := by
    intro u1 u2 u3 u4 u5 hu et
    unfold jL_queries_108
    refine ⟨7, 490, bc - 7, bs - 490, by omega, by omega, h_types u1 u2 u3 u4 u5 32 0 hu h (by decide) (Nat.le_refl _) (Nat.le_refl _) fun x y g q => ?_⟩
    rw [et, List.nil_append] at q
    have hl : (spN (X % 3) ++ [32]).length ≤ 6 := by
      have : ∀ k, k < 3 → (spN k ++ [32]).length ≤ 6 := by decide
      exact this _ h3
    have et2 : spN (X % 3) ++ [32] ++ (tF (fX28 X) ++ (tJ (jX28 X) ++ shape28 X Y)) = text28 X Y := by
      unfold text28 qTx
      simp only [List.append_assoc, List.cons_append, List.nil_append]
    try dsimp only
    rw [dm (A := 3) (B := 3) (a := 3) (b := 3) rfl rfl (by omega) (by omega) (by omega) (by omega) (by omega), dm (A := 27) (B := 2) (a := 27) (b := 2) rfl rfl (by omega) (by omega) (by omega) (by omega) (by omega), dm (A := 9) (B := 3) (a := 9) (b := 3) rfl rfl (by omega) (by omega) (by omega) (by omega) (by omega)]
    refine ⟨fun c => ?_, fun c => ?_⟩
    · have c := (nI_is (b := 0) rfl (by omega) (by omega)).1 c
      refine ⟨fun z => ?_, fun z => ?_⟩
      · have z := (nI_is (b := 0) rfl (by omega) (by omega)).1 z
        exact h_155 (u6 := 0) hX hY q (by omega) (by omega) (by omega) c (by rw [if_neg]; rw [decide_eq_true_eq]; exact fun w => w z) fun x y g qf' q e0 eq => hΦ x y g qf' (et2 ▸ q) (e0.trans f0) eq
      · have z : ¬ X / 27 % 2 = 0 := fun w => z (by rw [w]; rfl)
        exact h_155 (u6 := 45) hX hY q (by omega) (by omega) (by omega) c (by rw [if_pos (decide_eq_true z)]) fun x y g qf' q e0 eq => hΦ x y g qf' (et2 ▸ q) (e0.trans f0) eq
    · have c : ¬ X / 3 % 3 = 0 := fun z => c (by rw [z]; rfl)
      have ef : fX28 X = none := if_neg c
      rw [ef] at et2
      exact h_197 hX hY q (by omega) (by omega) (by omega) fun x y g qf' q e0 eq => hΦ x y g qf' (et2 ▸ q) (e0.trans f0) eq
  unfold jL_queries_32 jL_queries_57 jL_queries_82 jL_queries_95
  rw [f0]
  have h4 : X % 3 = 0 ∨ X % 3 = 1 ∨ X % 3 = 2 := by omega
  rcases h4 with e | e | e
  · rw [e] at j108 ⊢
    exact ify rfl (ify rfl (ify rfl (ifn (by decide) (ifn (by decide) (j108 115 117 109 0 0 (by decide) rfl)))))
  · rw [e] at j108 ⊢
    exact ifn (by decide) (ify rfl (ifn (by decide) (ify rfl (ifn (by decide) (ify rfl (ify rfl (ify rfl (j108 99 111 117 110 116 (by decide) rfl))))))))
  · rw [e] at j108 ⊢
    exact ifn (by decide) (ifn (by decide) (ifn (by decide) (ifn (by decide) (ifn (by decide) (ifn (by decide) (ifn (by decide) (ifn (by decide) (j108 109 97 120 0 0 (by decide) rfl))))))))
end QUE2
