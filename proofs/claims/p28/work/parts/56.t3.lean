def upL (f : Nat) (sl sz : Nat) (hz : Int32) (k : Int32) (a : Int32) : (Int32 → Int32 → Option Int32) → List Nat → Int32 → Int32 → Option Int32
  | F, [] => F
  | F, j :: js => upL f sl sz hz k a (upF f F k (nI (j * sl)) (nI (j * sl + sz) ≤ hz) a) js
theorem TSF.sl {sz sl lt : Nat} {k : Nat} {a v : Int32} (hk : k < 8) : ∀ (js : List Nat) (S : CS) (M : MS) (F : Int32 → Int32 → Option Int32), NR S M sz sl lt → S.y 5 0 ≠ 10 → a = mIts M v → (∀ j, j ∈ js → j * sl < 1000) → TSF (S.y 5 0) sz sl (S.R 5) (S.x 2 0) (S.x 2 0 - S.x 12 0) F (S.R 4) →
    ∃ rs, (cSl (nI k) a S (js.map fun j => nI (j * sl))).R 4 = S.R 4 ++ rs ∧ (∀ r, r ∈ rs → RNp (S.y 6 0) (S.x 2 0) r) ∧ TSF (S.y 5 0) sz sl ((cSl (nI k) a S (js.map fun j => nI (j * sl))).R 5) (S.x 2 0) (S.x 2 0 - S.x 12 0) (upL (S.y 3 0) sl sz (S.x 2 0 - S.x 12 0) (nI k) a F js) (S.R 4 ++ rs) := by
  intro js
  induction js with
  | nil => exact fun S M F h hs ha hj hT => ⟨[], (List.append_nil _).symm, fun r hr => absurd hr List.not_mem_nil, by rw [List.append_nil]; exact hT⟩
  | cons j js ih =>
    intro S M F h hs ha hj hT
    obtain ⟨rs, a1, a2, a3⟩ := TSF.into (a := a) h hs hk (hj j List.mem_cons_self) hT
    obtain ⟨b1, b2, b3, -, -⟩ := into_rel (v := v) h hs hk (hj j List.mem_cons_self) ha
    obtain ⟨s1, s2, -, -, -⟩ := cInto_same S (nI k) (nI (j * sl)) a
    have e6 : (mFixed M (nI k) (nI (j * sl)) v).g 6 = M.g 6 := funext fun i => b3.g 6 i (by omega)
    have ha2 : a = mIts (mFixed M (nI k) (nI (j * sl)) v) v := by
      rw [ha]; unfold mIts; rw [e6]
    rw [← a1] at a3
    obtain ⟨rs2, c1, c2, c3⟩ := ih (cInto S (nI k) (nI (j * sl)) a) _ (upF (S.y 3 0) F (nI k) (nI (j * sl)) (nI (j * sl + sz) ≤ S.x 2 0 - S.x 12 0) a) b1 (by rw [s2]; exact hs) ha2 (fun j' h' => hj j' (List.mem_cons_of_mem _ h')) (by rw [s2, s1 2 (by omega), s1 12 (by omega)]; exact a3)
    rw [s2, s1 2 (by omega)] at c2
    rw [s2, s1 2 (by omega), s1 12 (by omega)] at c3
    refine ⟨rs ++ rs2, ?_, fun r hr => ?_, ?_⟩
    · show (cSl (nI k) a (cInto S (nI k) (nI (j * sl)) a) (js.map fun j => nI (j * sl))).R 4 = _
      rw [c1, a1, List.append_assoc]
    · rcases List.mem_append.1 hr with q | q
      · exact a2 r q
      · exact c2 r q
    · rw [← List.append_assoc, ← a1]
      exact c3
theorem upL_at {f sl sz : Nat} {hz a : Int32} {k : Nat} (hk : k < 8) (hsl : 0 < sl) : ∀ (js : List Nat) (F : Int32 → Int32 → Option Int32), js.Nodup → (∀ j, j ∈ js → j * sl < 1000) → ∀ k' j' : Nat, k' < 8 → j' * sl < 1000 → upL f sl sz hz (nI k) a F js (nI k') (nI (j' * sl)) = if k' = k ∧ j' ∈ js ∧ ¬ nI (j' * sl + sz) ≤ hz then oad f (F (nI k') (nI (j' * sl))) (some a) else F (nI k') (nI (j' * sl)) := by
  intro js
  induction js with
  | nil => intro F _ _ k' j' _ _; rw [if_neg (fun q => absurd q.2.1 List.not_mem_nil)]; rfl
  | cons j js ih =>
    intro F hn hj k' j' hk' hj'
    obtain ⟨n1, n2⟩ := List.nodup_cons.1 hn
    show upL f sl sz hz (nI k) a (upF f F (nI k) (nI (j * sl)) (nI (j * sl + sz) ≤ hz) a) js (nI k') (nI (j' * sl)) = _
    rw [ih _ n2 (fun j' h' => hj j' (List.mem_cons_of_mem _ h')) k' j' hk' hj']
    have hjj := hj j List.mem_cons_self
    by_cases e : j' = j
    · subst e
      rw [if_neg (fun q => n1 q.2.1)]
      unfold upF
      by_cases q : k' = k ∧ ¬ nI (j' * sl + sz) ≤ hz
      · rw [if_pos ⟨by rw [q.1], rfl, q.2⟩, if_pos ⟨q.1, List.mem_cons_self, q.2⟩]
      · rw [if_neg (fun z => q ⟨nI_inj (by omega) (by omega) z.1, z.2.2⟩), if_neg (fun z => q ⟨z.1, z.2.2⟩)]
    · have eF : upF f F (nI k) (nI (j * sl)) (nI (j * sl + sz) ≤ hz) a (nI k') (nI (j' * sl)) = F (nI k') (nI (j' * sl)) := if_neg fun q => e (Nat.eq_of_mul_eq_mul_right hsl (nI_inj (by omega) (by omega) q.2.1))
      rw [eF]
      by_cases q : k' = k ∧ j' ∈ js ∧ ¬ nI (j' * sl + sz) ≤ hz
      · rw [if_pos q, if_pos ⟨q.1, List.mem_cons_of_mem _ q.2.1, q.2.2⟩]
      · rw [if_neg q, if_neg fun z => q ⟨z.1, (List.mem_cons.1 z.2.1).resolve_left e, z.2.2⟩]
/-- beginnings by their numbers -/
def jsB (q : Nat) : Nat → List Nat
  | 0 => []
  | m + 1 => if m ≤ q then (q - m) :: jsB q m else jsB q m
theorem jsB_map {q sl : Nat} (hs : 0 < sl) : ∀ m, pBegins (q * sl) sl m = (jsB q m).map fun j => nI (j * sl) := by
  intro m
  induction m with
  | zero => rfl
  | succ m ih =>
    unfold pBegins jsB
    by_cases h : m ≤ q
    · rw [if_pos (Nat.mul_le_mul_right sl h), if_pos h, List.map_cons, ih, Nat.sub_mul]
    · rw [if_neg (fun e => h (Nat.le_of_mul_le_mul_right e hs)), if_neg h, ih]
theorem jsB_mem {q j : Nat} : ∀ m, j ∈ jsB q m ↔ j ≤ q ∧ q < j + m := by
  intro m
  induction m with
  | zero => unfold jsB; exact ⟨fun h => absurd h List.not_mem_nil, fun h => by omega⟩
  | succ m ih =>
    unfold jsB
    by_cases h : m ≤ q
    · rw [if_pos h, List.mem_cons, ih]; omega
    · rw [if_neg h, ih]; omega
theorem jsB_nodup {q : Nat} : ∀ m, (jsB q m).Nodup := by
  intro m
  induction m with
  | zero => exact List.nodup_nil
  | succ m ih =>
    unfold jsB
    by_cases h : m ≤ q
    · rw [if_pos h, List.nodup_cons]
      exact ⟨fun e => by have := (jsB_mem m).1 e; omega, ih⟩
    · rw [if_neg h]; exact ih
theorem TSF.congr {shape sz sl : Nat} {V T : List pRow} {mk hz : Int32} {F G : Int32 → Int32 → Option Int32} (h : TSF shape sz sl V mk hz F T) (hV : ∀ r, r ∈ V → ∃ k, k < 8 ∧ r 0 = nI k) (e : shape ≠ 10 → ∀ k j : Nat, k < 8 → j * sl < 1000 → F (nI k) (nI (j * sl)) = G (nI k) (nI (j * sl))) : TSF shape sz sl V mk hz G T := by
  obtain ⟨t1, t2, t3⟩ := h
  refine ⟨t1, t2, fun hs => ⟨fun r hr => ?_, fun k j hk hj => ?_⟩⟩
  · obtain ⟨⟨j, hj, a1⟩, a2, a3⟩ := (t3 hs).1 r hr
    obtain ⟨k, hk, a0⟩ := hV r hr
    refine ⟨⟨j, hj, a1⟩, a2, ?_⟩
    rw [a0, a1, ← e hs k j hk hj, ← a0, ← a1]
    exact a3
  · rw [← e hs k j hk hj]
    exact (t3 hs).2 k j hk hj
