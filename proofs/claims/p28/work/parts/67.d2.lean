/-! ===== how many came too late ===== -/
theorem late_into (S : CS) (k b a : Int32) : ∃ t, t ≤ 1 ∧ (cInto S k b a).x 3 0 = S.x 3 0 + nI t := by
  unfold cInto
  split
  · split
    · exact ⟨0, by omega, by rw [(cRipe_same _ _).1]; exact (Int32.add_zero _).symm⟩
    · exact ⟨0, by omega, by rw [(cRipe_same _ _).1]; exact (Int32.add_zero _).symm⟩
  · refine ⟨1, by omega, ?_⟩
    show (uX S 3 0 _).x 3 0 = _
    rw [cX_s]; rfl
theorem late_sl (k a : Int32) : ∀ (bs : List Int32) (S : CS), ∃ t, t ≤ bs.length ∧ (cSl k a S bs).x 3 0 = S.x 3 0 + nI t := by
  intro bs
  induction bs with
  | nil => exact fun S => ⟨0, Nat.zero_le _, (Int32.add_zero _).symm⟩
  | cons b bs ih =>
    intro S
    obtain ⟨t, h1, h2⟩ := ih (cInto S k b a)
    obtain ⟨u, h3, h4⟩ := late_into S k b a
    refine ⟨u + t, by rw [List.length_cons]; omega, ?_⟩
    show (cSl k a (cInto S k b a) bs).x 3 0 = _
    rw [h2, h4, Int32.add_assoc, nI_add]
theorem late_ses (S : CS) (k t a : Int32) : ∃ u, u ≤ 1 ∧ (cSes S k t a).x 3 0 = S.x 3 0 + nI u := by
  have hg : ∀ b e tot, (cGrow S k t b e tot).x 3 0 = S.x 3 0 := fun b e tot => by
    unfold cGrow
    rw [(cRipe_same _ _).1, (cAdd_R _ _ _ _ _).2.2.1, (cEnd_R _ _ _).2.2.1]
  unfold cSes
  try dsimp only
  split
  · split
    · exact ⟨0, by omega, by rw [hg]; exact (Int32.add_zero _).symm⟩
    · refine ⟨1, by omega, ?_⟩
      rw [cX_s]; rfl
  · split
    · exact ⟨0, by omega, by rw [(cRipe_same _ _).1]; exact (Int32.add_zero _).symm⟩
    · exact ⟨0, by omega, by rw [hg]; exact (Int32.add_zero _).symm⟩
theorem late_find (S : CS) : (cFind S).x 3 = S.x 3 := by
  unfold cFind cFindT
  split
  · split
    · rfl
    · unfold cDrop cWin
      rw [cRw_x, (cApp_same _ _).2.1]
      funext i
      rw [cX_x _ _ (by omega)]
  · rfl
theorem late_step {S M d i} (hr : Rel S M d i) (h5 : M.x 5 = 1) {p : Nat} (hp : p < 3) (hrd : d.rd p < d.n p) : ∃ t, t ≤ 99 ∧ (cFind (cStep S p (d.rd p))).x 3 0 = S.x 3 0 + nI t := by
  rw [late_find]
  obtain ⟨k, t, hk, ht, r0, g10, r1, g11, r2⟩ := hr.ev.row p hp _ hrd
  have hQ := hr.pl.q h5
  have z2 := hQ.z2
  have s2 := hQ.s2
  have s1 := hQ.s1
  have hlen := hr.ev.len p hp
  have e1 := cRead_row (S := S) (p := p) (r := d.rd p) (by omega)
  have eR : (cRead S p (d.rd p)).x = S.x := (cRead_R S p (d.rd p)).2.2.1
  unfold cStep
  split
  · exact ⟨0, by omega, by rw [eR]; exact (Int32.add_zero _).symm⟩
  · unfold cPut
    dsimp only
    split
    · obtain ⟨u, h1, h2⟩ := late_ses (cRead S p (d.rd p)) ((((cRead S p (d.rd p)).R p).getD (d.rd p) pz) 0) ((((cRead S p (d.rd p)).R p).getD (d.rd p) pz) 1) ((((cRead S p (d.rd p)).R p).getD (d.rd p) pz) 4)
      rw [eR] at h2
      exact ⟨u, by omega, h2⟩
    · rw [e1, show (upd (upd (upd ((S.R p).getD (d.rd p) pz) 3 (cLets S (((S.R p).getD (d.rd p) pz) 2))) 4 (cAmt S ((S.R p).getD (d.rd p) pz))) 5 (S.x 2 0 - S.x 12 0)) 1 = nI t from r1, show (cRead S p (d.rd p)).x 11 0 = nI d.sl from hQ.sc, show (cRead S p (d.rd p)).x 10 0 = nI d.sz from hQ.zc, nI_back (by omega), nI_back (by omega), nI_back (by omega)]
      obtain ⟨bs, ebs, lbs, hbs⟩ := pB_nat (t / d.sl * d.sl) d.sl (d.sz / d.sl)
      have : d.sz / d.sl ≤ d.sz := Nat.div_le_self _ _
      rw [ebs]
      obtain ⟨u, h1, h2⟩ := late_sl ((upd (upd (upd ((S.R p).getD (d.rd p) pz) 3 (cLets S (((S.R p).getD (d.rd p) pz) 2))) 4 (cAmt S ((S.R p).getD (d.rd p) pz))) 5 (S.x 2 0 - S.x 12 0)) 0) ((upd (upd (upd ((S.R p).getD (d.rd p) pz) 3 (cLets S (((S.R p).getD (d.rd p) pz) 2))) 4 (cAmt S ((S.R p).getD (d.rd p) pz))) 5 (S.x 2 0 - S.x 12 0)) 4) (bs.map nI) (cRead S p (d.rd p))
      rw [List.length_map] at h1
      rw [eR] at h2
      exact ⟨u, by omega, h2⟩
/-! ===== the invariant of a loom ===== -/
abbrev BG28 (S : CS) (W V bc bs : Nat) : Prop := 169720 + W ≤ bc + pSum S.cap ∧ 339440 + V ≤ bs + 2 * pSum S.cap
theorem BG28.call {S T : CS} {W V bc bs : Nat} (h : BG28 S W V bc bs) (hm : pSum S.cap ≤ pSum T.cap) (hT : CapB T) {w v : Nat} (hw : w ≤ W) (hv : v ≤ V) : ∃ kc ks b2 s2 : Nat, kc + b2 ≤ bc ∧ ks + s2 ≤ bs ∧ w ≤ kc ∧ v ≤ ks ∧ cOK S T kc ks ∧ cOK S T (kc - w) (ks - v) ∧ BG28 T (W - w) (V - v) b2 s2 := by
  have := hT.sum
  obtain ⟨h1, h2⟩ := h
  exact ⟨pSum T.cap - pSum S.cap + w, 2 * (pSum T.cap - pSum S.cap) + v, bc - (pSum T.cap - pSum S.cap + w), bs - (2 * (pSum T.cap - pSum S.cap) + v), by omega, by omega, by omega, by omega, ⟨by omega, by omega⟩, ⟨by omega, by omega⟩, by omega, by omega⟩
theorem BG28.less {S : CS} {W V bc bs W' V' bc' bs' : Nat} (h : BG28 S W V bc bs) (h1 : W' + bc ≤ W + bc') (h2 : V' + bs ≤ V + bs') : BG28 S W' V' bc' bs' := by
  obtain ⟨a, b⟩ := h
  exact ⟨by omega, by omega⟩
theorem BG28.same {S T : CS} {W V bc bs : Nat} (h : BG28 S W V bc bs) (e : T.cap = S.cap) : BG28 T W V bc bs := by
  unfold BG28
  rw [e]; exact h
def LT (S : CS) (k : Nat) : Prop := ∀ a, a < 7 → ∃ t, t ≤ 100 * k ∧ S.x 3 a = nI t
theorem LT.more {S k k'} (h : LT S k) (e : k ≤ k') : LT S k' := fun a ha => by
  obtain ⟨t, h1, h2⟩ := h a ha
  exact ⟨t, by omega, h2⟩
theorem LT.same {S S' : CS} {k} (h : LT S k) (e : ∀ a, a < 7 → S'.x 3 a = S.x 3 a ∨ ∃ b, b < 7 ∧ S'.x 3 a = S.x 3 b ∨ S'.x 3 a = 0) : LT S' k := fun a ha => by
  rcases e a ha with z | ⟨b, ⟨hb, z⟩ | z⟩
  · rw [z]; exact h a ha
  · rw [z]; exact h b hb
  · rw [z]; exact ⟨0, Nat.zero_le _, rfl⟩
def CI (S : CS) (M : MS) (d : GD) (k : Nat) (cf : Nat → Int32) : Prop :=
  (∀ p, p < 3 → cf p = nI (d.n p)) ∧ d.n 0 + d.n 1 + d.n 2 ≤ k ∧ (S.R 3).length ≤ k ∧ cf 3 = nI d.tk ∧ d.tk ≤ 30 ∧ cf 4 = S.x 4 1 ∧ (∀ b, b < 31 → (dbit (cf 5) b = true ↔ ∃ j, j < d.c ∧ S.x 5 (S.y 7 j) = nI b)) ∧ cf 6 = M.x 5 ∧ (∃ n, 1 ≤ n ∧ n < 5 ∧ S.x 16 0 = nI n ∧ cf 7 = nI n) ∧ cf 8 = S.x 2 0
def PI28 (S : CS) (M : MS) (d : GD) (qf : Nat → Int32) : Prop := M.x 5 = 1 → EXT S d ∧ QCp S M d qf qf ∧ d.sz ≤ 12 ∧ d.sl ≤ 12
def LI (k W V : Nat) (S : CS) (M : MS) (d : GD) (x : Nat → Nat → Int32) (y : Nat → Nat → Nat) (g : Nat → Nat → Nat → Int32) (qf cf : Nat → Int32) (bc bs : Nat) : Prop :=
  RC S x y g ∧ Rel S M d 2000 ∧ CapB S ∧ BG28 S W V bc bs ∧ PI28 S M d qf ∧ S.x 19 0 = 0 ∧ LT S k ∧ CI S M d k cf
def NEWR (S S' : CS) : Prop := ∀ j, (S.R 4).length ≤ j → j < (S'.R 4).length → RNp (S'.y 6 0) (S'.x 2 0) ((S'.R 4).getD j pz)
theorem NEWR.same {S S' : CS} (e : (S'.R 4).length ≤ (S.R 4).length) : NEWR S S' := fun j h1 h2 => by omega
theorem RNp.mono {m : Nat} {a b : Int32} {r : pRow} (h : RNp m a r) (e : a ≤ b) : RNp m b r := ⟨h.1, h.2.1.imp_left fun z => Int32.le_trans z e, h.2.2⟩
theorem LI.m1 {k W V S M d x y g qf cf bc bs} (h : LI k W V S M d x y g qf cf bc bs) : ∃ m, S.x 4 1 = nI m ∧ m ≤ M.T.length := by
  obtain ⟨rd, m, s, -, b⟩ := h.2.1.st1
  exact ⟨m, s.x4 (by omega), b⟩
theorem nI_neg {a : Nat} (h : a < 2 ^ 31) {v : Int32} (hv : v.toInt < 0) : ¬ nI a = v := fun e => by
  have := congrArg Int32.toInt e
  rw [nI_toInt h] at this
  omega
theorem clos28 {S M d i} (hr : Rel S M d i) (h : EXT S d) {m : Nat} (hm : S.x 4 1 = nI m) (hml : m ≤ M.T.length) (ho : ¬ (nI M.T.length - cClosed S d.c < 30)) : ¬ (nI M.T.length - nI m < 30) := by
  obtain ⟨c, h1, h2, -⟩ := clos_rel hr
  have hT := hr.t2400
  rw [hr.tt] at hT
  obtain ⟨-, -, -, a3, -⟩ := h
  have hmc : m ≤ c := by
    unfold cClosed at h1
    split at h1
    · rw [hm] at h1
      have := nI_inj (by omega) (by omega) h1
      omega
    · have := a3 (d.c - 1) (by omega)
      rw [h1, hm, nI_toInt (by omega), nI_toInt (by omega)] at this
      omega
  rw [h1, p_sub h2] at ho
  rw [p_sub hml]
  have : ¬ M.T.length - c < 30 := fun z => ho (show _ < nI 30 from nI_lt z (by omega))
  exact show ¬ _ < nI 30 from nI_nlt (by omega) (by omega)
