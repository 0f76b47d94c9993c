/-! ===== the queries that the law types: from the beginning ===== -/
abbrev pF := Option (Nat × Bool × Nat × Bool)
def tN (neg : Bool) : List Nat := if neg then [45] else []
def tF : pF → List Nat
  | none => []
  | some (cm, neg, v, bb) => spN 3 ++ (32 :: (spN (4 + cm) ++ (32 :: (tN neg ++ (figs v ++ (32 :: tB bb))))))
def cmN : pF → Nat
  | none => 3
  | some (cm, _, _, _) => 4 + cm
def lmN : pF → Int32
  | none => 0
  | some (_, neg, v, _) => if neg then -(nI v) else nI v
def okF : pF → Prop
  | none => True
  | some (cm, _, v, _) => cm ≤ 2 ∧ v < 100
theorem bl_tN (neg : Bool) (v : Nat) (t : List Nat) : bl (tN neg ++ (figs v ++ t)) = tN neg ++ (figs v ++ t) := by
  cases neg with
  | true => rfl
  | false => exact bl_figs v t
theorem bl_rest {J : Bool} {sh : Nat} (h : sh < 15) (t : List Nat) : bl (tJ J ++ (spN sh ++ t)) = tJ J ++ (spN sh ++ t) := by
  cases J with
  | true => rfl
  | false => exact bl_sp sh h t
theorem bl_tBr {bb : Bool} {r : List Nat} (h : bl r = r) : bl (tB bb ++ r) = r := by
  cases bb with
  | true => exact h
  | false => exact h
section READ2
variable {l : List Nat} {a : Nat} {sh z y : Nat} {m : Nat} {b : Bool} {L : Option Nat} {J : Bool} {F : pF}
theorem R_F {z0 y0 : Nat} (hF : okF F) (hsh : 8 ≤ sh ∧ sh ≤ 10) (hz : 1 ≤ z ∧ z ≤ 99) (hy : 1 ≤ y ∧ y ≤ 99) (hm : m ≤ 3) (hL : ltN L < 100) (hV : VQ a (cmN F) (jnN J) sh z (slN sh z y) (ltN L) (mdN m)) : RD l 1 (tF F ++ (tJ J ++ (spN sh ++ (32 :: (figs z ++ (tY sh y ++ (tL L ++ tM m b))))))) (PM a 3 0 0 8 z0 y0 0 12) (PM a (cmN F) (lmN F) (jnN J) sh z (slN sh z y) (ltN L) (mdN m)) := by
  cases F with
  | none => exact R_J (.inl rfl) hsh hz hy hm hL hV
  | some f =>
    obtain ⟨cm, neg, v, bb⟩ := f
    obtain ⟨f1, f2⟩ := hF
    have e : tF (some (cm, neg, v, bb)) ++ (tJ J ++ (spN sh ++ (32 :: (figs z ++ (tY sh y ++ (tL L ++ tM m b)))))) = spN 3 ++ (32 :: (spN (4 + cm) ++ (32 :: (tN neg ++ (figs v ++ (32 :: (tB bb ++ (tJ J ++ (spN sh ++ (32 :: (figs z ++ (tY sh y ++ (tL L ++ tM m b)))))))))))) ) := by
      unfold tF
      simp only [List.append_assoc, List.cons_append]
    rw [e]
    have kJ := R_J (l := l) (a := a) (c := 4 + cm) (lm := lmN (some (cm, neg, v, bb))) (b := b) (z0 := z0) (y0 := y0) (s := 4) (J := J) (.inr rfl) hsh hz hy hm hL hV
    have kN : RD l 3 (tN neg ++ (figs v ++ (32 :: (tB bb ++ (tJ J ++ (spN sh ++ (32 :: (figs z ++ (tY sh y ++ (tL L ++ tM m b)))))))))) (PM a (4 + cm) 0 0 8 z0 y0 0 12) (PM a (4 + cm) (lmN (some (cm, neg, v, bb))) (jnN J) sh z (slN sh z y) (ltN L) (mdN m)) := by
      refine RD.num (s := 3) (neg := neg) (by omega) (by decide) (fun _ => rfl) f2 (.inl (by decide)) rfl ?_
      rw [bl_32, bl_tBr (bl_rest (by omega) _)]
      exact kJ
    refine RD.word (by omega) (by omega) (by decide) (by decide) rfl ?_
    rw [bl_32, bl_sp _ (by omega)]
    have h : cm = 0 ∨ cm = 1 ∨ cm = 2 := by omega
    rcases h with rfl | rfl | rfl
    all_goals exact RD.word (s := 2) (by omega) (by omega) (by decide) (by decide) rfl (by rw [bl_32, bl_tN]; exact kN)
def qTx (a : Nat) (F : pF) (J : Bool) (sh z y : Nat) (L : Option Nat) (m : Nat) (b : Bool) : List Nat := spN a ++ (32 :: (tF F ++ (tJ J ++ (spN sh ++ (32 :: (figs z ++ (tY sh y ++ (tL L ++ tM m b))))))))
theorem R_A (ha : a ≤ 2) (hF : okF F) (hsh : 8 ≤ sh ∧ sh ≤ 10) (hz : 1 ≤ z ∧ z ≤ 99) (hy : 1 ≤ y ∧ y ≤ 99) (hm : m ≤ 3) (hL : ltN L < 100) (hV : VQ a (cmN F) (jnN J) sh z (slN sh z y) (ltN L) (mdN m)) : RD l 0 (qTx a F J sh z y L m b) Q00 (PM a (cmN F) (lmN F) (jnN J) sh z (slN sh z y) (ltN L) (mdN m)) := by
  have k := R_F (l := l) (b := b) (z0 := 1) (y0 := 1) hF hsh hz hy hm hL hV
  have eb : bl (tF F ++ (tJ J ++ (spN sh ++ (32 :: (figs z ++ (tY sh y ++ (tL L ++ tM m b))))))) = tF F ++ (tJ J ++ (spN sh ++ (32 :: (figs z ++ (tY sh y ++ (tL L ++ tM m b)))))) := by
    cases F with
    | none => exact bl_rest (by omega) _
    | some f => rfl
  unfold qTx
  have h : a = 0 ∨ a = 1 ∨ a = 2 := by omega
  rcases h with rfl | rfl | rfl
  all_goals exact RD.word (s := 0) (by omega) (by omega) (by decide) (by decide) rfl (by rw [bl_32, eb]; exact k)
end READ2
theorem cmN_b {F : pF} (h : okF F) : 3 ≤ cmN F ∧ cmN F ≤ 6 := by
  cases F with
  | none => exact ⟨Nat.le_refl _, by decide⟩
  | some f =>
    obtain ⟨cm, neg, v, bb⟩ := f
    have h1 : cm ≤ 2 := h.1
    exact ⟨show 3 ≤ 4 + cm by omega, show 4 + cm ≤ 6 by omega⟩
theorem VQ.of {a : Nat} {F : pF} {J : Bool} {sh z y : Nat} {L : Option Nat} {m : Nat} (ha : a ≤ 2) (hF : okF F) (hsh : 8 ≤ sh ∧ sh ≤ 10) (hz : 1 ≤ z ∧ z ≤ 99) (hy : 1 ≤ y ∧ y ≤ 99) (hm : m ≤ 3) (hL : ltN L < 100) : VQ a (cmN F) (jnN J) sh z (slN sh z y) (ltN L) (mdN m) := by
  obtain ⟨c1, c2⟩ := cmN_b hF
  have hs : 1 ≤ slN sh z y ∧ slN sh z y ≤ 99 := by
    unfold slN
    split
    · exact hy
    · exact hz
  have hmd : 12 ≤ mdN m ∧ mdN m ≤ 14 := by
    unfold mdN
    split
    · omega
    · omega
  have hj : jnN J ≤ 1 := by cases J <;> decide
  exact ⟨ha, c1, c2, hj, hsh.1, hsh.2, hz.1, hz.2, hs.1, hs.2, fun e => if_neg e, by omega, hmd.1, hmd.2⟩
def TXT (S : CS) (M : MS) (l : List Nat) : Prop := TX S M l.length ∧ ∀ i, i < l.length → M.g 4 i = nI (l.getD i 0) ∧ 32 ≤ l.getD i 0 ∧ l.getD i 0 < 127
theorem TXT.tp {S M l} (h : TXT S M l) : TP S l.length (cl l) := by
  obtain ⟨t, h⟩ := h
  refine ⟨t.n60, t.s17, t.s19, t.cap, by have := t.c70; omega, fun i hi => ?_⟩
  obtain ⟨a, b, c⟩ := h i hi
  exact ⟨(t.ch i hi).1.symm.trans a, b, c⟩
theorem c_readQ {S M x y g l Q'} (hc : RC S x y g) (t : TXT S M l) (h : RD l 0 l Q00 Q') {Φ : Int32 → pK} (hΦ : ∀ S' p' s' x y g, RC S' x y g → FQ S S' → PXS S' p' s' Q' → Φ (-1) x y g) : wX3_readAll (qx x) (qy y) g Φ :=
  ⟨l.length + 1, (h 0 (Nat.zero_add _) rfl).2 (Sq S) Φ (l.length + 1) 0 _ _ _ (Sq.rc hc) (t.tp.fr (Sq.fq S)) (Sq.px S) (by omega) (by omega) fun S' p' s' x y g a1 a2 a3 => hΦ S' p' s' x y g a1 ((Sq.fq S).trans a2) a3⟩
