/-! ===== the law's own checks: windows ===== -/
abbrev pL := Int32 → (Nat → Nat → Int32) → (Nat → Nat → Nat) → (Nat → Nat → Nat → Int32) → (Nat → Int32) → (Nat → Int32) → Prop
def AX (Φ : pL) (qf cf : Nat → Int32) : String → pK := fun E2 x1 y1 g1 => (E2 = "java/util/NoSuchElementException" ∧ Φ (-70006) x1 y1 g1 qf cf) ∨ (E2 = "java/lang/IndexOutOfBoundsException" ∧ Φ (-70007) x1 y1 g1 qf cf) ∨ (E2 = "java/lang/IllegalStateException" ∧ Φ (-70008) x1 y1 g1 qf cf)
theorem ifn {P Q : Prop} {c : Prop} (hc : ¬ c) (h : Q) : (c → P) ∧ (¬ c → Q) := ⟨fun q => absurd q hc, fun _ => h⟩
theorem ify {P Q : Prop} {c : Prop} (hc : c) (h : P) : (c → P) ∧ (¬ c → Q) := ⟨fun _ => h, fun q => absurd hc q⟩
section ASK
variable {x : Nat → Nat → Int32} {y : Nat → Nat → Nat} {g : Nat → Nat → Nat → Int32} {qf cf : Nat → Int32} {a b : Int32} {bc bs : Nat} {Φ : pL}
theorem asks_0 (h : wX8_step x y g a bc bs (fun r x y g => Φ r x y g qf cf) (AX Φ qf cf)) : wL_asks x y g qf cf 0 a b bc bs Φ := ify rfl h
theorem asks_1 (h : wX8_barrier x y g bc bs (fun r x y g => Φ r x y g qf cf) (AX Φ qf cf)) : wL_asks x y g qf cf 1 a b bc bs Φ := ifn (by decide) (ify rfl h)
theorem asks_2 (h : wX8_complete x y g a bc bs (fun r x y g => Φ r x y g qf cf) (AX Φ qf cf)) : wL_asks x y g qf cf 2 a b bc bs Φ := ifn (by decide) (ifn (by decide) (ify rfl h))
theorem asks_3 (h : wX8_crash x y g bc bs (fun r x y g => Φ r x y g qf cf) (AX Φ qf cf)) : wL_asks x y g qf cf 3 a b bc bs Φ := ifn (by decide) (ifn (by decide) (ifn (by decide) (ify rfl h)))
theorem asks_4 (h : wX8_window x y g a b bc bs (fun r => Φ r x y g qf cf) (AX Φ qf cf)) : wL_asks x y g qf cf 4 a b bc bs Φ := ifn (by decide) (ifn (by decide) (ifn (by decide) (ifn (by decide) (ify rfl h))))
theorem asks_5 (h : wX8_result x y g a b bc bs (fun r => Φ r x y g qf cf) (AX Φ qf cf)) : wL_asks x y g qf cf 5 a b bc bs Φ := ifn (by decide) (ifn (by decide) (ifn (by decide) (ifn (by decide) (ifn (by decide) (ify rfl h)))))
theorem asks_6 (h : wX8_totalAnew x y g a b bc bs (fun r => Φ r x y g qf cf) (AX Φ qf cf)) : wL_asks x y g qf cf 6 a b bc bs Φ := ifn (by decide) (ifn (by decide) (ifn (by decide) (ifn (by decide) (ifn (by decide) (ifn (by decide) (ify rfl h))))))
theorem asks_7 (h : wX8_load x y g a bc bs (fun r => Φ r x y g qf cf) (AX Φ qf cf)) : wL_asks x y g qf cf 7 a b bc bs Φ := ifn (by decide) (ifn (by decide) (ifn (by decide) (ifn (by decide) (ifn (by decide) (ifn (by decide) (ifn (by decide) h))))))
theorem AX.iob (h : Φ (-70007) x y g qf cf) : AX Φ qf cf "java/lang/IndexOutOfBoundsException" x y g := .inr (.inl ⟨rfl, h⟩)
theorem AX.ise (h : Φ (-70008) x y g qf cf) : AX Φ qf cf "java/lang/IllegalStateException" x y g := .inr (.inr ⟨rfl, h⟩)
theorem AX.nse (h : Φ (-70006) x y g qf cf) : AX Φ qf cf "java/util/NoSuchElementException" x y g := .inl ⟨rfl, h⟩
end ASK
/-- loads, added up -/
def ldS (W : List pRow) (n : Int32) : Nat → Nat
  | 0 => 0
  | i + 1 => ldS W n i + W.countP (fun r => decide (pWk (r 0) n = nI i))
theorem ldS_cons {n : Int32} {r : pRow} {W : List pRow} : ∀ m, m < 2 ^ 31 → (∀ i, i < m → ¬ pWk (r 0) n = nI i) ∧ ldS (r :: W) n m = ldS W n m ∨ (∃ i, i < m ∧ pWk (r 0) n = nI i) ∧ ldS (r :: W) n m = ldS W n m + 1 := by
  intro m
  induction m with
  | zero => exact fun _ => .inl ⟨fun i hi => absurd hi (Nat.not_lt_zero i), rfl⟩
  | succ m ih =>
    intro hm
    unfold ldS
    rw [List.countP_cons]
    by_cases e : pWk (r 0) n = nI m
    · right
      rw [if_pos (decide_eq_true e)]
      refine ⟨⟨m, by omega, e⟩, ?_⟩
      rcases ih (by omega) with ⟨_, a⟩ | ⟨⟨i, hi, b⟩, _⟩
      · omega
      · have := nI_inj (by omega) (by omega) (b.symm.trans e)
        omega
    · rw [if_neg (by rw [decide_eq_true_eq]; exact e)]
      rcases ih (by omega) with ⟨a, b⟩ | ⟨⟨i, hi, a⟩, b⟩
      · left
        refine ⟨fun i hi => ?_, by omega⟩
        by_cases q : i = m
        · rw [q]; exact e
        · exact a i (by omega)
      · right
        exact ⟨⟨i, by omega, a⟩, by omega⟩
theorem ldS_all {n : Int32} {m : Nat} (hm : m < 2 ^ 31) : ∀ W : List pRow, (∀ r, r ∈ W → ∃ i, i < m ∧ pWk (r 0) n = nI i) → ldS W n m = W.length := by
  intro W
  induction W with
  | nil =>
    intro _
    have : ∀ m, ldS [] n m = 0 := fun m => by
      induction m with
      | zero => rfl
      | succ m ih => unfold ldS; rw [ih]; rfl
    exact this m
  | cons r W ih =>
    intro h
    have i1 := ih fun s hs => h s (List.mem_cons_of_mem _ hs)
    rcases ldS_cons (n := n) (r := r) (W := W) m hm with ⟨a, _⟩ | ⟨_, b⟩
    · obtain ⟨i, hi, e⟩ := h r List.mem_cons_self
      exact absurd e (a i hi)
    · rw [b, i1]; rfl
theorem pWk_n {k n : Nat} (hk : k < 8) (hn : n < 5) : pWk (nI k) (nI n) = nI (k * n / 8) := by
  unfold pWk
  rw [p_mul]
  have : k * n ≤ 7 * 4 := Nat.mul_le_mul (by omega) (by omega)
  exact p_div (d := 8) (by omega) (by omega) (by omega)
/-- what the law keeps in q and c of a plan -/
def QCp (S : CS) (M : MS) (d : GD) (qf cf : Nat → Int32) : Prop := qf 0 = nI (S.y 3 0) ∧ qf 1 = nI (S.y 5 0 - 8) ∧ qf 2 = nI d.sz ∧ (S.y 5 0 = 9 → qf 3 = nI d.sl) ∧ (S.y 5 0 ≠ 9 → qf 3 = 0) ∧ qf 4 = nI d.lt ∧ ((S.y 6 0 = 12 ∧ (qf 5 = 0 ∨ qf 5 = 1)) ∨ (S.y 6 0 ≠ 12 ∧ (qf 5 = 2 ∨ qf 5 = 3)))
theorem a_load {S x y g} {qf cf : Nat → Int32} (hc : RC S x y g) {n : Nat} (hs : S.x 16 0 = nI n) (hn1 : 1 ≤ n) (hn : n < 5) (h7 : cf 7 = nI n) (hk : ∀ r, r ∈ S.R 5 → ∃ k, k < 8 ∧ r 0 = nI k) {Φ : pL} (hΦ : Φ 1 x y g qf cf) : ∀ (m f w : Nat) (bc bs : Nat), w + m = n → m < f → 1 ≤ bc → 6 ≤ bs → lL_areWindows_324 Φ f x y g qf cf (nI (S.R 5).length) 1 (nI (ldS (S.R 5) (nI n) w)) (nI w) bc bs := by
  have hl := hc.n (q := 5) (by omega)
  intro m
  induction m with
  | zero =>
    intro f w bc bs hw hf h1 h2
    obtain ⟨f, rfl⟩ : ∃ f', f = f' + 1 := ⟨f - 1, by omega⟩
    have e : w = n := by omega
    subst e
    simp only [lL_areWindows_324]
    rw [h7]
    refine ify (nI_le (Nat.le_refl _) (by omega)) (ifn (by decide) (ify ?_ ⟨1, 6, 0, 0, by omega, by omega, asks_7 (q_loadX hc hs hn (Nat.le_refl _) (Nat.le_refl _) (AX.iob (ify rfl hΦ)))⟩))
    rw [ldS_all (by omega) _ fun r hr => ?_]
    obtain ⟨k, hk8, e⟩ := hk r hr
    refine ⟨k * w / 8, ?_, by rw [e, pWk_n hk8 hn]⟩
    have : k * w < 8 * w := Nat.mul_lt_mul_of_pos_right hk8 (by omega)
    omega
  | succ m ih =>
    intro f w bc bs hw hf h1 h2
    obtain ⟨f, rfl⟩ : ∃ f', f = f' + 1 := ⟨f - 1, by omega⟩
    simp only [lL_areWindows_324]
    rw [h7]
    refine ifn (nI_ge (by omega) (by omega)) ⟨0, 0, bc, bs, by omega, by omega, q_load hc hs hn (by omega) ?_⟩
    rintro _ rfl _ rfl
    rw [nI_1, nI_add, hs]
    exact ih f (w + 1) bc bs (by omega) (by omega) h1 h2
