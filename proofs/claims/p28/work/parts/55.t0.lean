/-! ===== totals: the fold of what counts, and what results tell ===== -/
def fo (f : Nat) (a b : Int32) : Int32 := if f = 2 then (if a < b then b else a) else a + b
theorem fo_comm (f : Nat) (a b : Int32) : fo f a b = fo f b a := by
  unfold fo
  by_cases hf : f = 2
  · rw [if_pos hf, if_pos hf]
    by_cases h1 : a < b
    · have h2 : ¬ b < a := by simp only [i_lt] at *; omega
      rw [if_pos h1, if_neg h2]
    · by_cases h2 : b < a
      · rw [if_neg h1, if_pos h2]
      · rw [if_neg h1, if_neg h2]
        apply Int32.toInt_inj.1
        simp only [i_lt] at *
        omega
  · rw [if_neg hf, if_neg hf, Int32.add_comm]
theorem fo_assoc (f : Nat) (a b c : Int32) : fo f (fo f a b) c = fo f a (fo f b c) := by
  unfold fo
  by_cases hf : f = 2
  · simp only [if_pos hf]
    by_cases h1 : a < b <;> by_cases h2 : b < c <;> by_cases h3 : a < c <;> simp only [h1, h2, h3, if_true, if_false] <;> simp only [i_lt] at * <;> first | omega | (apply Int32.toInt_inj.1; omega)
  · simp only [if_neg hf, Int32.add_assoc]
def oad (f : Nat) : Option Int32 → Option Int32 → Option Int32
  | none, b => b
  | some a, none => some a
  | some a, some b => some (fo f a b)
theorem oad_none (f : Nat) (a : Option Int32) : oad f a none = a := by cases a <;> rfl
theorem oad_comm (f : Nat) (a b : Option Int32) : oad f a b = oad f b a := by
  cases a <;> cases b <;> first | rfl | (simp only [oad]; rw [fo_comm])
theorem oad_assoc (f : Nat) (a b c : Option Int32) : oad f (oad f a b) c = oad f a (oad f b c) := by
  cases a <;> cases b <;> cases c <;> first | rfl | (simp only [oad]; rw [fo_assoc])
def tv (sz k b : Int32) (r : pRow) : Option Int32 := if pIn sz k b r then some (r 4) else none
theorem te_oad (S : CS) (k b : Int32) (acc : Option Int32) (r : pRow) : teStep S k b acc r = oad (S.y 3 0) acc (tv (S.x 10 0) k b r) := by
  unfold teStep tv
  split
  · cases acc <;> rfl
  · rw [oad_none]
/-- all that counts for a key and a beginning, put together -/
def FF (f : Nat) (sz : Int32) (E : List pRow) (k b : Int32) : Option Int32 := E.foldl (fun acc r => oad f acc (tv sz k b r)) none
theorem FF_te (S : CS) (E : List pRow) (k b : Int32) : E.foldl (teStep S k b) none = FF (S.y 3 0) (S.x 10 0) E k b := by
  unfold FF
  congr 1
  funext acc r
  exact te_oad S k b acc r
theorem FF_acc (f : Nat) (sz k b : Int32) : ∀ (E : List pRow) (acc : Option Int32), E.foldl (fun acc r => oad f acc (tv sz k b r)) acc = oad f acc (FF f sz E k b) := by
  intro E
  induction E with
  | nil => intro acc; exact (oad_none f acc).symm
  | cons r E ih =>
    intro acc
    show E.foldl _ (oad f acc (tv sz k b r)) = oad f acc (E.foldl _ (oad f none (tv sz k b r)))
    rw [ih, ih, ← oad_assoc]
    rfl
theorem FF_app (f : Nat) (sz k b : Int32) (A B : List pRow) : FF f sz (A ++ B) k b = oad f (FF f sz A k b) (FF f sz B k b) := by
  show (A ++ B).foldl _ none = _
  rw [List.foldl_append, FF_acc]
  rfl
theorem FF_mid (f : Nat) (sz k b : Int32) (A B : List pRow) (r : pRow) : FF f sz (A ++ r :: B) k b = oad f (FF f sz (A ++ B) k b) (tv sz k b r) := by
  rw [FF_app, FF_app, show r :: B = [r] ++ B from rfl, FF_app, show FF f sz [r] k b = tv sz k b r from rfl, oad_assoc, oad_comm f (tv sz k b r)]
/-- what results tell of a key and a beginning -/
def TR (T : List pRow) (k b : Int32) : Int32 := T.foldl (trStep k b) 0
theorem TR_app (T U : List pRow) (k b : Int32) : TR (T ++ U) k b = U.foldl (trStep k b) (TR T k b) := by
  unfold TR; rw [List.foldl_append]
theorem tr_no {k b v : Int32} {r : pRow} (h : ¬ (r 0 = k ∧ r 1 = b)) : trStep k b v r = v := if_neg h
theorem tr_nos {k b : Int32} : ∀ (U : List pRow) (v : Int32), (∀ r, r ∈ U → ¬ (r 0 = k ∧ r 1 = b)) → U.foldl (trStep k b) v = v := by
  intro U
  induction U with
  | nil => intro v _; rfl
  | cons r U ih =>
    intro v h
    rw [List.foldl_cons, tr_no (h r List.mem_cons_self)]
    exact ih v fun s hs => h s (List.mem_cons_of_mem _ hs)
theorem tRes_01 {m : Nat} {w r : pRow} (h : r ∈ tRes m w) : r 0 = w 0 ∧ r 1 = w 1 ∧ r 2 = w 2 := by
  unfold tRes at h
  split at h
  · rw [List.mem_singleton] at h; subst h; exact ⟨rfl, rfl, rfl⟩
  · split at h
    · rw [List.mem_singleton] at h; subst h; exact ⟨rfl, rfl, rfl⟩
    · split at h
      · rcases List.mem_cons.1 h with h | h
        · subst h; exact ⟨rfl, rfl, rfl⟩
        · rw [List.mem_singleton] at h; subst h; exact ⟨rfl, rfl, rfl⟩
      · rw [List.mem_singleton] at h; subst h; exact ⟨rfl, rfl, rfl⟩
theorem tRes_4 {m : Nat} {w r : pRow} (h : r ∈ tRes m w) : r 4 = 2 ∨ r 4 = (if m = 12 then 0 else 1) := by
  unfold tRes at h
  split at h
  · next e => rw [List.mem_singleton] at h; subst h; right; rw [if_pos e]; rfl
  · next e =>
    rw [if_neg e]
    split at h
    · rw [List.mem_singleton] at h; subst h; right; rfl
    · split at h
      · rcases List.mem_cons.1 h with h | h
        · subst h; left; rfl
        · rw [List.mem_singleton] at h; subst h; right; rfl
      · rw [List.mem_singleton] at h; subst h; right; rfl
theorem mkr_c (k b e v t : Int32) : (mkr k b e v t) 0 = k ∧ (mkr k b e v t) 1 = b ∧ (mkr k b e v t) 2 = e ∧ (mkr k b e v t) 3 = v ∧ (mkr k b e v t) 4 = t := ⟨rfl, rfl, rfl, rfl, rfl⟩
/-- a window is told: its total by the results is its total -/
theorem TR_tell {T : List pRow} {m : Nat} {w : pRow} (ok : pOk w) (h5 : w 4 = 1 → TR T (w 0) (w 1) = w 5) (h0 : w 4 = 0 → TR T (w 0) (w 1) = 0) : TR (T ++ tRes m w) (w 0) (w 1) = w 3 := by
  rw [TR_app]
  have hv : TR T (w 0) (w 1) = w 5 := by
    rcases ok with ⟨a, b⟩ | a
    · rw [h0 a, b]
    · exact h5 a
  rw [hv]
  have e : ∀ (v u t : Int32), trStep (w 0) (w 1) u (mkr (w 0) (w 1) (w 2) v t) = if t = 0 then v else if t = 1 then u + v else u - v := fun v u t => if_pos ⟨rfl, rfl⟩
  by_cases h : m = 12
  · rw [tRes_12 h]
    show trStep (w 0) (w 1) (w 5) (mkr (w 0) (w 1) (w 2) (w 3) 0) = w 3
    rw [e]; rfl
  · by_cases h2 : m = 13
    · rw [tRes_13 h h2]
      show trStep (w 0) (w 1) (w 5) (mkr (w 0) (w 1) (w 2) (w 3 - w 5) 1) = w 3
      rw [e, if_neg (by decide), if_pos rfl, Int32.add_comm, Int32.sub_add_cancel]
    · by_cases t : w 4 = 1
      · rw [tRes_14 h h2 t]
        show trStep (w 0) (w 1) (trStep (w 0) (w 1) (w 5) (mkr (w 0) (w 1) (w 2) (w 5) 2)) (mkr (w 0) (w 1) (w 2) (w 3) 1) = w 3
        rw [e, e, if_neg (by decide), if_pos rfl, if_neg (by decide), if_neg (by decide), Int32.sub_self, Int32.zero_add]
      · rw [tRes_15 h h2 t]
        show trStep (w 0) (w 1) (w 5) (mkr (w 0) (w 1) (w 2) (w 3) 1) = w 3
        have h50 : w 5 = 0 := by
          rcases ok with ⟨_, b⟩ | a
          · exact b
          · exact absurd a t
        rw [e, if_neg (by decide), if_pos rfl, h50, Int32.zero_add]
/-- windows of one state, its watermark, what counts, and its results, as they belong together -/
def TSF (shape sz sl : Nat) (V : List pRow) (mk hz : Int32) (F : Int32 → Int32 → Option Int32) (T : List pRow) : Prop :=
  (∀ r, r ∈ V → (r 4 = 1 ↔ r 2 ≤ mk)) ∧
  (shape = 10 → ∀ r, r ∈ V → ∃ b e : Nat, r 1 = nI b ∧ r 2 = nI e ∧ b + sz ≤ e ∧ e < 1100) ∧
  (shape ≠ 10 → (∀ r, r ∈ V → (∃ j : Nat, j * sl < 1000 ∧ r 1 = nI (j * sl)) ∧ (r 4 = 1 → r 5 = r 3) ∧ F (r 0) (r 1) = some (r 3)) ∧
    ∀ k j : Nat, k < 8 → j * sl < 1000 → TR T (nI k) (nI (j * sl)) = (if nI (j * sl + sz) ≤ mk then (F (nI k) (nI (j * sl))).getD 0 else 0) ∧ ((∀ r, r ∈ V → ¬ (r 0 = nI k ∧ r 1 = nI (j * sl))) → F (nI k) (nI (j * sl)) = none ∨ nI (j * sl + sz) ≤ hz))
