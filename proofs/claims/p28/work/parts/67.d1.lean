/-! ===== bits ===== -/
def dbit (c : Int32) (k : Nat) : Bool := c.toBitVec.getLsbD k
set_option maxRecDepth 100000 in
theorem b_amt : ∀ k, k < 31 → ((nI k &&& 31 : Int32).toBitVec.smod 32).toNat = k := by decide +kernel
set_option maxRecDepth 100000 in
theorem b_one : ∀ t, t < 31 → ∀ k, k < 32 → dbit ((1 : Int32) <<< ((nI t &&& 31) : Int32)) k = decide (k = t) := by decide +kernel
set_option maxRecDepth 100000 in
theorem b_mask : ∀ w, w < 31 → ∀ k, k < 32 → dbit (((((1 : Int32) <<< ((nI w &&& 31) : Int32)) - 1) ||| ((1 : Int32) <<< ((nI w &&& 31) : Int32))) ^^^ (-1)) k = decide (w < k) := by decide +kernel
theorem b_or (a b : Int32) (k : Nat) : dbit (a ||| b) k = (dbit a k || dbit b k) := by
  unfold dbit
  rw [Int32.toBitVec_or, BitVec.getLsbD_or]
theorem b_and (a b : Int32) (k : Nat) : dbit (a &&& b) k = (dbit a k && dbit b k) := by
  unfold dbit
  rw [Int32.toBitVec_and, BitVec.getLsbD_and]
theorem b_get {c : Int32} {k : Nat} (hk : k < 31) : (((c : Int32) >>> ((nI k &&& 31) : Int32)) &&& 1) = if dbit c k then 1 else 0 := by
  rw [← Int32.toBitVec_inj, Int32.toBitVec_and, Int32.toBitVec_shiftRight, BitVec.sshiftRight', b_amt k hk]
  unfold dbit
  apply BitVec.eq_of_getLsbD_eq
  intro i hi
  rw [BitVec.getLsbD_and, BitVec.getLsbD_sshiftRight]
  rcases Nat.eq_zero_or_pos i with rfl | hp
  · rw [Nat.add_zero, if_pos (show k < 32 by omega)]
    cases c.toBitVec.getLsbD k <;> rfl
  · have e1 : (1 : Int32).toBitVec.getLsbD i = false := by
      show (1#32).getLsbD i = false
      rw [BitVec.getLsbD_one]
      simp
      omega
    rw [e1, Bool.and_false]
    cases c.toBitVec.getLsbD k
    · simp
    · rw [if_pos rfl, e1]
/-- how many of the first places have the property -/
def cnt (P : Nat → Bool) : Nat → Nat
  | 0 => 0
  | m + 1 => cnt P m + (if P m then 1 else 0)
theorem cnt_congr {P Q : Nat → Bool} : ∀ m, (∀ k, k < m → P k = Q k) → cnt P m = cnt Q m := by
  intro m
  induction m with
  | zero => exact fun _ => rfl
  | succ m ih =>
    intro h
    unfold cnt
    rw [ih fun k hk => h k (by omega), h m (by omega)]
theorem cnt_add {P Q : Nat → Bool} {t : Nat} (h0 : P t = false) (h1 : ∀ k, Q k = (P k || decide (k = t))) : ∀ m, cnt Q m = cnt P m + (if t < m then 1 else 0) := by
  intro m
  induction m with
  | zero => rfl
  | succ m ih =>
    unfold cnt
    rw [ih, h1 m]
    by_cases e : m = t
    · subst e
      rw [h0, decide_eq_true rfl, if_neg (Nat.lt_irrefl _), if_pos (Nat.lt_succ_self _)]
      rfl
    · rw [decide_eq_false e, Bool.or_false]
      by_cases c : t < m
      · rw [if_pos c, if_pos (show t < m + 1 by omega)]; omega
      · rw [if_neg c, if_neg (show ¬ t < m + 1 by omega)]; omega
theorem cnt_set {v : Nat → Nat} {m : Nat} : ∀ c : Nat, (∀ j, j < c → v j < m) → (∀ i j, i < j → j < c → v i < v j) → cnt (fun k => (List.range c).any fun j => decide (v j = k)) m = c := by
  intro c
  induction c with
  | zero =>
    intro _ _
    have : ∀ m, cnt (fun k => (List.range 0).any fun j => decide (v j = k)) m = 0 := fun m => by
      induction m with
      | zero => rfl
      | succ m ih => unfold cnt; rw [ih]; rfl
    exact this m
  | succ c ih =>
    intro h1 h2
    have e := cnt_add (P := fun k => (List.range c).any fun j => decide (v j = k)) (Q := fun k => (List.range (c + 1)).any fun j => decide (v j = k)) (t := v c) (by
      rw [List.any_eq_false]
      intro j hj
      have := h2 j c (List.mem_range.1 hj) (by omega)
      simp
      omega) (fun k => by
      rw [List.range_succ, List.any_append]
      congr 1
      simp only [List.any_cons, List.any_nil, Bool.or_false]
      exact decide_eq_decide.2 eq_comm) m
    rw [e, ih (fun j hj => h1 j (by omega)) (fun i j h h' => h2 i j h (by omega)), if_pos (h1 c (by omega))]
theorem q_bitsL {x y g} {qf cf : Nat → Int32} {c : Int32} {bc bs : Nat} {Φ : pL} : ∀ (m f k : Nat), k + m = 31 → m < f → Φ (nI (cnt (dbit c) 31)) x y g qf cf → lL_bits_4 Φ f x y g qf cf c (nI (cnt (dbit c) k)) (nI k) bc bs := by
  intro m
  induction m with
  | zero =>
    intro f k hk hf h
    obtain ⟨f, rfl⟩ : ∃ f', f = f' + 1 := ⟨f - 1, by omega⟩
    have e : k = 31 := by omega
    subst e
    simp only [lL_bits_4]
    exact ify (by decide) h
  | succ m ih =>
    intro f k hk hf h
    obtain ⟨f, rfl⟩ : ∃ f', f = f' + 1 := ⟨f - 1, by omega⟩
    simp only [lL_bits_4]
    refine ifn (nI_ge (b := 31) (by omega) (by omega)) ?_
    rw [b_get (show k < 31 by omega)]
    rintro _ rfl _ rfl
    have e : nI (cnt (dbit c) k) + (if dbit c k = true then 1 else 0) = nI (cnt (dbit c) (k + 1)) := by
      rw [cnt]
      split
      · exact nI_1 _
      · exact Int32.add_zero _
    rw [e, nI_1]
    exact ih f (k + 1) (by omega) (by omega) h
theorem q_bits {x y g} {qf cf : Nat → Int32} {c : Int32} {bc bs : Nat} {Φ : pL} (h : Φ (nI (cnt (dbit c) 31)) x y g qf cf) : wL_bits x y g qf cf c bc bs Φ := ⟨32, q_bitsL 31 32 0 (by omega) (by omega) h⟩
