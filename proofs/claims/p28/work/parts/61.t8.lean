/-! ===== what holds of now, of what is completed, of what is in doubt ===== -/
def TSa (S : CS) (sz sl a : Nat) (rd : Nat → Nat) (m : Nat) : Prop := TSF (S.y 5 0) sz sl (S.R (5 + a)) (S.x 2 a) (S.x 2 a - S.x 12 0) (FF (S.y 3 0) (S.x 10 0) (EV S rd)) ((S.R 4).take m)
def rdIs (S : CS) (a : Nat) (rd : Nat → Nat) (m : Nat) : Prop := (∀ i, i < 3 → rd i ≤ 300 ∧ S.g 1 a i = nI (rd i)) ∧ S.x 4 a = nI m ∧ m ≤ 4096
def TSx (S : CS) (sz sl a : Nat) : Prop := ∀ (rd : Nat → Nat) (m : Nat), rdIs S a rd m → TSa S sz sl a rd m
theorem TSF.hz {shape sz sl : Nat} {V T : List pRow} {mk hz hz' : Int32} {F : Int32 → Int32 → Option Int32} (h : TSF shape sz sl V mk hz F T) (e : hz ≤ hz') : TSF shape sz sl V mk hz' F T :=
  ⟨h.1, h.2.1, fun hs => ⟨(h.2.2 hs).1, fun k j hk hj => ⟨((h.2.2 hs).2 k j hk hj).1, fun q => (((h.2.2 hs).2 k j hk hj).2 q).imp_right fun z => Int32.le_trans z e⟩⟩⟩
theorem TSx.mv {S S' : CS} {sz sl a a' : Nat} (h : TSx S sz sl a) (eR : S'.R (5 + a') = S.R (5 + a)) (e2 : S'.x 2 a' = S.x 2 a) (e4 : S'.x 4 a' = S.x 4 a) (eg : ∀ i, i < 3 → S'.g 1 a' i = S.g 1 a i) (y3 : S'.y 3 0 = S.y 3 0) (y5 : S'.y 5 0 = S.y 5 0) (x10 : S'.x 10 0 = S.x 10 0) (x12 : S.x 2 a - S.x 12 0 ≤ S.x 2 a - S'.x 12 0)
    (ev : ∀ rd m, rdIs S a rd m → (∀ p, p < 3 → (S'.R p).take (rd p) = (S.R p).take (rd p)) ∧ (S'.R 4).take m = (S.R 4).take m) : TSx S' sz sl a' := by
  intro rd m hr
  have hr' : rdIs S a rd m := ⟨fun i hi => ⟨(hr.1 i hi).1, by rw [← eg i hi]; exact (hr.1 i hi).2⟩, by rw [← e4]; exact hr.2.1, hr.2.2⟩
  obtain ⟨v1, v2⟩ := ev rd m hr'
  have := h rd m hr'
  unfold TSa at this ⊢
  rw [eR, e2, y3, y5, x10, EV_congr v1, v2]
  exact this.hz x12
theorem STR.is {S M sz ses a p rd m} (h : STR S M sz ses a p rd m) (ha : a ≠ 0) (hrd : ∀ i, rd i ≤ 300) (hm : m ≤ 4096) : rdIs S a rd m := ⟨fun i hi => ⟨hrd i, (h.rs i hi).1⟩, h.x4 ha, hm⟩
theorem rdIs.eq {S a rd m rd' m'} (h : rdIs S a rd m) (h' : rdIs S a rd' m') : (∀ i, i < 3 → rd i = rd' i) ∧ m = m' := by
  refine ⟨fun i hi => ?_, nI_inj (by have := h.2.2; omega) (by have := h'.2.2; omega) (h.2.1.symm.trans h'.2.1)⟩
  have a1 := h.1 i hi
  have a2 := h'.1 i hi
  exact nI_inj (by omega) (by omega) (a1.2.symm.trans a2.2)
theorem Rel.rd300 {S M d i} (h : Rel S M d i) : ∀ p, p < 3 → d.rd p ≤ 300 := fun p hp => by
  have hrdn := h.ev.rdn p hp
  have htot := h.ev.tot
  have : p = 0 ∨ p = 1 ∨ p = 2 := by omega
  rcases this with e | e | e <;> subst e <;> omega
theorem Rel.t2400 {S M d i} (h : Rel S M d i) : (S.R 4).length ≤ 2400 := by
  rw [h.tt]
  have := h.sizes
  omega
/-- of a state that is kept: what it has read and how many results it has are now's at the most -/
theorem Rel.is1 {S M d i} (h : Rel S M d i) {rd : Nat → Nat} {m : Nat} (hr : rdIs S 1 rd m) : (∀ p, p < 3 → rd p ≤ d.rd p) ∧ m ≤ (S.R 4).length := by
  obtain ⟨rd1, m1, s, b1, b2⟩ := h.st1
  have := h.t2400
  have e : rdIs S 1 rd1 m1 := ⟨fun i hi => ⟨Nat.le_trans (b1 i) (h.rd300 i hi), (s.rs i hi).1⟩, s.x4 (by decide), by rw [h.tt] at this; omega⟩
  obtain ⟨c1, c2⟩ := hr.eq e
  refine ⟨fun p hp => ?_, by rw [c2, h.tt]; exact b2⟩
  rw [c1 p hp]
  exact b1 p
theorem Rel.isk {S M d i} (h : Rel S M d i) {k : Nat} (hk : k < d.c) {rd : Nat → Nat} {m : Nat} (hr : rdIs S (S.y 7 k) rd m) : (∀ p, p < 3 → rd p ≤ d.rd p) ∧ m ≤ (S.R 4).length := by
  obtain ⟨rd1, m1, s, b1, b2⟩ := h.std k hk
  have := h.t2400
  have hc5 := h.sn.c5
  have y7 := (h.sn.y7 k (by omega)).1
  have e : rdIs S (S.y 7 k) rd1 m1 := ⟨fun i hi => ⟨Nat.le_trans (b1 i) (h.rd300 i hi), (s.rs i hi).1⟩, s.x4 (by omega), by rw [h.tt] at this; omega⟩
  obtain ⟨c1, c2⟩ := hr.eq e
  refine ⟨fun p hp => ?_, by rw [c2, h.tt]; exact b2⟩
  rw [c1 p hp]
  exact b1 p
def EXT (S : CS) (d : GD) : Prop := TS0 S d ∧ TSx S d.sz d.sl 1 ∧ (∀ k, k < d.c → TSx S d.sz d.sl (S.y 7 k)) ∧ (∀ k, k < d.c → (S.x 4 1).toInt ≤ (S.x 4 (S.y 7 k)).toInt) ∧ (∀ j k, j < k → k < d.c → (S.x 4 (S.y 7 j)).toInt ≤ (S.x 4 (S.y 7 k)).toInt)
/-- what is kept stays so when events are told and read, and results come -/
theorem EXT.kept {S S' M d d' i} (h : EXT S d) (hr : Rel S M d i) (h0 : TS0 S' d') (ec : d'.c = d.c) (ez : d'.sz = d.sz) (es : d'.sl = d.sl) (R6 : ∀ q, 6 ≤ q → S'.R q = S.R q) (R4 : ∃ rs, S'.R 4 = S.R 4 ++ rs) (Rp : ∀ p, p < 3 → ∀ n, n ≤ d.rd p → (S'.R p).take n = (S.R p).take n) (x2 : ∀ a, a ≠ 0 → S'.x 2 a = S.x 2 a) (x4 : ∀ a, a ≠ 0 → S'.x 4 a = S.x 4 a) (x10 : S'.x 10 0 = S.x 10 0) (x12 : ∀ a, -100 ≤ (S.x 2 a).toInt ∧ (S.x 2 a).toInt ≤ 999 → S.x 2 a - S.x 12 0 ≤ S.x 2 a - S'.x 12 0) (y3 : S'.y 3 0 = S.y 3 0) (y5 : S'.y 5 0 = S.y 5 0) (y7 : S'.y 7 = S.y 7) (g1 : ∀ a, a ≠ 0 → S'.g 1 a = S.g 1 a) : EXT S' d' := by
  obtain ⟨-, a1, a2, a3, a4⟩ := h
  obtain ⟨rs, R4⟩ := R4
  have hc5 := hr.sn.c5
  have y0 : ∀ k, k < d.c → S.y 7 k ≠ 0 := fun k hk => by
    have := (hr.sn.y7 k (by omega)).1
    omega
  refine ⟨h0, ?_, fun k hk => ?_, fun k hk => ?_, fun j k hjk hk => ?_⟩
  · rw [ez, es]
    refine a1.mv (R6 6 (by omega)) (x2 1 (by decide)) (x4 1 (by decide)) (fun i _ => by rw [g1 1 (by decide)]) y3 y5 x10 (x12 1 (by obtain ⟨_, _, s, _⟩ := hr.st1; exact s.mr)) fun rd m hm => ?_
    obtain ⟨b1, b2⟩ := hr.is1 hm
    exact ⟨fun p hp => Rp p hp _ (b1 p hp), by rw [R4, List.take_append_of_le_length b2]⟩
  · rw [ez, es, y7]
    rw [ec] at hk
    refine (a2 k hk).mv (R6 _ (by have := y0 k hk; omega)) (x2 _ (y0 k hk)) (x4 _ (y0 k hk)) (fun i _ => by rw [g1 _ (y0 k hk)]) y3 y5 x10 (x12 _ (by obtain ⟨_, _, s, _⟩ := hr.std k hk; exact s.mr)) fun rd m hm => ?_
    obtain ⟨b1, b2⟩ := hr.isk hk hm
    exact ⟨fun p hp => Rp p hp _ (b1 p hp), by rw [R4, List.take_append_of_le_length b2]⟩
  · rw [ec] at hk
    rw [y7, x4 1 (by decide), x4 _ (y0 k hk)]
    exact a3 k hk
  · rw [ec] at hk
    rw [y7, x4 _ (y0 k hk), x4 _ (y0 j (by omega))]
    exact a4 j k hjk hk
