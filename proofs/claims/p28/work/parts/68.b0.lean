/-! ===== what is typed ===== -/
def SM (S0 S : CS) : Prop := S.R = S0.R ∧ S.cap = S0.cap ∧ (∀ j i, (j ≤ 5 ∨ (i = 0 ∧ j ≤ 16)) → S.x j i = S0.x j i) ∧ (∀ j i, (j = 7 ∨ (i = 0 ∧ j ≤ 6)) → S.y j i = S0.y j i) ∧ S.g 1 = S0.g 1
theorem SM.rfl' {S} : SM S S := ⟨rfl, rfl, fun _ _ _ => rfl, fun _ _ _ => rfl, rfl⟩
theorem SM.trans {S T U} (h : SM S T) (h2 : SM T U) : SM S U := ⟨h2.1.trans h.1, h2.2.1.trans h.2.1, fun j i c => (h2.2.2.1 j i c).trans (h.2.2.1 j i c), fun j i c => (h2.2.2.2.1 j i c).trans (h.2.2.2.1 j i c), h2.2.2.2.2.trans h.2.2.2.2⟩
theorem SM.fq {S T} (h : FQ S T) : SM S T := ⟨h.R, h.cap, fun j i c => h.x j i (by omega) (by omega), fun j i c => h.y j i (by omega), by rw [h.g]⟩
def TJ (S0 : CS) (M0 : MS) (d : GD) (l : List Nat) (x : Nat → Nat → Int32) (y : Nat → Nat → Nat) (g : Nat → Nat → Nat → Int32) : Prop := ∃ S M, RC S x y g ∧ Rel S M d 2000 ∧ TXT S M l ∧ SM S0 S ∧ M.x 5 = M0.x 5
set_option maxRecDepth 4096 in
theorem t_char {S0 M0 d l x y g} (h : TJ S0 M0 d l x y g) (hl : l.length < 60) {w : Nat} (hw : 32 ≤ w) (hw2 : w < 127) {bc bs : Nat} (h1 : 1 ≤ bc) (h2 : 70 ≤ bs) {Φ : Int32 → pK} {Ψ : String → pK} (hΦ : ∀ r x y g, TJ S0 M0 d (l ++ [w]) x y g → Φ r x y g) : wX8_type x y g (nI w) bc bs Φ Ψ := by
  obtain ⟨S, M, hc, hr, ⟨t, tx⟩, sm, m5⟩ := h
  obtain ⟨n, hn⟩ : ∃ n, n = l.length := ⟨_, rfl⟩
  rw [← hn] at t tx hl
  unfold wX8_type wJ4_length_8abf5 wJ5_length_8abf5
  rw [hc.hx 19 (by omega), t.s19]
  refine ifn (show ¬ nI w < nI 32 from nI_nlt hw (by omega)) (ify (show nI w ≤ 126 from nI_le (b := 126) (by omega) (by omega)) (ify (show nI n < 60 from nI_lt (b := 60) hl (by omega)) ⟨bc, bs, 0, 0, by omega, by omega, bc, bs, 0, 0, by omega, by omega, bc, bs, 0, 0, by omega, by omega, ?_⟩))
  rw [hc.hx 19 (by omega), t.s19, nI_1]
  refine c_ensure hc t hl h1 h2 fun S' x2 y2 g2 hS => ?_
  rintro ⟨q, N, f2, rfl, hN, hN2, hf, hbt⟩
  unfold wJ5_isLatin1_aae02 wJ1_canEncode_fc78d
  have s19 : x2 19 0 = nI n := by rw [hS.hx 19 (by omega)]; exact t.s19
  have s17 : x2 17 0 = 0 := by rw [hS.hx 17 (by omega)]; exact t.s17
  have y9 : y2 9 0 = N := by rw [hS.hy 9 (by omega)]; simp only [CS.mk_R, CS.mk_cap, CS.mk_x, CS.mk_y, CS.mk_g, CS.mk_eta, cG, cY, p_ug]
  have g3 : g2 3 0 = f2 := by rw [hS.hg 3 (by omega)]; simp only [CS.mk_R, CS.mk_cap, CS.mk_x, CS.mk_y, CS.mk_g, CS.mk_eta, cG, p_ug]
  rw [s17, s19, y9, g3, p_byte w hw2, p_cl (show n < 2 ^ 31 by omega), nI_1]
  refine ⟨fun _ => ite1 ⟨fun c => ?_, fun _ => ite1 ⟨vp_in_nI hN (by omega), ?_⟩⟩, fun c => absurd rfl c⟩
  · rw [i_lt, nI_toInt (by omega)] at c
    change (255 : Int) < _ at c
    omega
  · have hS2 := (hS.X (k := 19) (i := 0) (v := nI (n + 1)) (by omega)).G (k := 3) (i := 0) (f := upd f2 n (nI w)) (by omega)
    have hr' := hr.typ (q := q) t hl hw hw2 hN hN2 hf hbt
    refine hΦ _ _ _ _ ⟨_, mTyp M n (nI w), hS2, hr', ⟨?_, fun i hi => ?_⟩, sm.trans ?_, ?_⟩
    · obtain ⟨m, t'⟩ := hr'.tx
      have e : nI m = nI (n + 1) := t'.m0.symm.trans rfl
      have := t'.n60
      have e := nI_inj (by omega) (by omega) e
      have e2 : (l ++ [w]).length = m := by rw [List.length_append, List.length_singleton, ← hn, e]
      rw [e2]
      exact t'
    · rw [List.length_append, List.length_singleton, ← hn] at hi
      show upd (M.g 4) n (nI w) i = _ ∧ _
      unfold upd
      by_cases e : i = n
      · rw [if_pos e, e, hn]
        have : (l ++ [w]).getD l.length 0 = w := by
          simp only [List.getD, List.getElem?_append_right (Nat.le_refl _), Nat.sub_self]
          rfl
        rw [this]
        exact ⟨rfl, hw, hw2⟩
      · rw [if_neg e]
        have : (l ++ [w]).getD i 0 = l.getD i 0 := by
          simp only [List.getD, List.getElem?_append_left (show i < l.length by omega)]
        rw [this]
        exact tx i (by omega)
    · refine ⟨rfl, rfl, fun j i c => ?_, fun j i c => ?_, ?_⟩
      · show (uX (cG (cY (cY S 8 0 q) 9 0 N) 3 0 f2) 19 0 (nI (n + 1))).x j i = _
        rw [cX_x _ _ (by omega)]
        rfl
      · show (cY (cY S 8 0 q) 9 0 N).y j i = _
        simp only [CS.mk_R, CS.mk_cap, CS.mk_x, CS.mk_y, CS.mk_g, CS.mk_eta, cY]
        rw [p_un _ _ (by omega), p_un _ _ (by omega)]
      · show (cG _ 3 0 _).g 1 = _
        simp only [CS.mk_R, CS.mk_cap, CS.mk_x, CS.mk_y, CS.mk_g, CS.mk_eta, cG, cY, uX]
        rw [p_un _ _ (by decide), p_un _ _ (by decide)]
    · rw [← m5]
      show (mX M 0 (nI (n + 1))).x 5 = _
      unfold mX
      simp only [MS.mk_x]
      rw [p_un _ _ (by omega)]
theorem p_char16 : ∀ w, w < 127 → ((nI w).toUInt32 % 65536).toInt32 = nI w := by decide +kernel
abbrev pT5 := (Nat → Nat → Int32) → (Nat → Nat → Nat) → (Nat → Nat → Nat → Int32) → (Nat → Int32) → (Nat → Int32) → Prop
theorem ty_at {x y g} {qf cf : Nat → Int32} {bc bs : Nat} {Φ : pT5} (as : Nat → Int32) {n k : Nat} (hk : k < 7) (h : jL_types_74 (lL_types_3 Φ n) Φ x y g qf cf (as 0) (as 1) (as 2) (as 3) (as 4) (as 5) (as 6) (nI k) (as k) bc bs) : lL_types_3 Φ (n + 1) x y g qf cf (as 0) (as 1) (as 2) (as 3) (as 4) (as 5) (as 6) (nI k) bc bs := by
  simp only [lL_types_3]
  have h7 : k = 0 ∨ k = 1 ∨ k = 2 ∨ k = 3 ∨ k = 4 ∨ k = 5 ∨ k = 6 := by omega
  rcases h7 with rfl | rfl | rfl | rfl | rfl | rfl | rfl
  · exact ifn (by decide) (ify rfl h)
  · exact ifn (by decide) (ifn (by decide) (ify rfl h))
  · exact ifn (by decide) (ifn (by decide) (ifn (by decide) (ify rfl h)))
  · exact ifn (by decide) (ifn (by decide) (ifn (by decide) (ifn (by decide) (ify rfl h))))
  · exact ifn (by decide) (ifn (by decide) (ifn (by decide) (ifn (by decide) (ifn (by decide) (ify rfl h)))))
  · exact ifn (by decide) (ifn (by decide) (ifn (by decide) (ifn (by decide) (ifn (by decide) (ifn (by decide) (ify rfl h))))))
  · exact ifn (by decide) (ifn (by decide) (ifn (by decide) (ifn (by decide) (ifn (by decide) (ifn (by decide) (ifn (by decide) h))))))
def tnz (us : Nat → Nat) : Nat → Nat → List Nat
  | 0, _ => []
  | m + 1, k => (if us k = 0 then [] else [us k]) ++ tnz us m (k + 1)
theorem ty_loop {S0 M0 d} {qf cf : Nat → Int32} {Φ : pT5} (us : Nat → Nat) (hu : ∀ k, k < 7 → us k = 0 ∨ 32 ≤ us k ∧ us k < 127) : ∀ (m k : Nat) (l : List Nat) (x : Nat → Nat → Int32) (y : Nat → Nat → Nat) (g : Nat → Nat → Nat → Int32) (bc bs : Nat), k + m = 7 → l.length + m ≤ 60 → m ≤ bc → 70 * m ≤ bs → TJ S0 M0 d l x y g → (∀ x y g, TJ S0 M0 d (l ++ tnz us m k) x y g → Φ x y g qf cf) → lL_types_3 Φ (m + 1) x y g qf cf (nI (us 0)) (nI (us 1)) (nI (us 2)) (nI (us 3)) (nI (us 4)) (nI (us 5)) (nI (us 6)) (nI k) bc bs := by
  intro m
  induction m with
  | zero =>
    intro k l x y g bc bs hk hl h1 h2 h hΦ
    have e : k = 7 := by omega
    subst e
    simp only [lL_types_3]
    refine ify (by decide) (hΦ x y g ?_)
    rw [tnz, List.append_nil]
    exact h
  | succ m ih =>
    intro k l x y g bc bs hk hl h1 h2 h hΦ
    refine ty_at (fun k => nI (us k)) (by omega) ?_
    have nxt : ∀ x y g l' b2 s2, l'.length + m ≤ 60 → m ≤ b2 → 70 * m ≤ s2 → TJ S0 M0 d l' x y g → l' ++ tnz us m (k + 1) = l ++ tnz us (m + 1) k → jL_types_89 (lL_types_3 Φ (m + 1)) Φ x y g qf cf (nI (us 0)) (nI (us 1)) (nI (us 2)) (nI (us 3)) (nI (us 4)) (nI (us 5)) (nI (us 6)) (nI k) b2 s2 := fun x y g l' b2 s2 q1 q2 q3 q4 q5 => by
      unfold jL_types_89
      rintro _ rfl
      rw [nI_1]
      exact ih (k + 1) l' x y g b2 s2 (by omega) q1 q2 q3 q4 (fun x y g q => hΦ x y g (by rw [← q5]; exact q))
    unfold jL_types_74
    have hz : tnz us (m + 1) k = (if us k = 0 then [] else [us k]) ++ tnz us m (k + 1) := rfl
    rcases hu k (by omega) with e | ⟨e1, e2⟩
    · refine ify (by show nI (us k) ≤ 0; rw [e]; decide) (nxt x y g l bc bs (by omega) (by omega) (by omega) h ?_)
      rw [hz, if_pos e, List.nil_append]
    · refine ifn (show ¬ nI (us k) ≤ 0 from nI_ge (a := 0) (by omega) (by omega)) ⟨1, 70, bc - 1, bs - 70, by omega, by omega, ?_⟩
      show wX8_type x y g (((nI (us k)).toUInt32 % 65536).toInt32) 1 70 _ _
      rw [p_char16 _ e2]
      refine t_char h (by omega) e1 e2 (Nat.le_refl _) (Nat.le_refl _) fun r x y g q => nxt x y g _ _ _ ?_ (by omega) (by omega) q ?_
      · rw [List.length_append, List.length_singleton]; omega
      · rw [hz, if_neg (by omega), List.append_assoc]
theorem h_types {S0 M0 d l x y g} {qf cf : Nat → Int32} {bc bs : Nat} {Φ : pT5} (u0 u1 u2 u3 u4 u5 u6 : Nat) (hu : ∀ k, k < 7 → ([u0, u1, u2, u3, u4, u5, u6] : List Nat).getD k 0 = 0 ∨ 32 ≤ ([u0, u1, u2, u3, u4, u5, u6] : List Nat).getD k 0 ∧ ([u0, u1, u2, u3, u4, u5, u6] : List Nat).getD k 0 < 127) (h : TJ S0 M0 d l x y g) (hl : l.length ≤ 53) (h1 : 7 ≤ bc) (h2 : 490 ≤ bs) (hΦ : ∀ x y g, TJ S0 M0 d (l ++ tnz (fun k => ([u0, u1, u2, u3, u4, u5, u6] : List Nat).getD k 0) 7 0) x y g → Φ x y g qf cf) : wL_types x y g qf cf (nI u0) (nI u1) (nI u2) (nI u3) (nI u4) (nI u5) (nI u6) bc bs Φ :=
  ⟨8, ty_loop (fun k => ([u0, u1, u2, u3, u4, u5, u6] : List Nat).getD k 0) hu 7 0 l x y g bc bs rfl (by omega) h1 (by omega) h hΦ⟩
theorem h_figs {S0 M0 d l x y g} {qf cf : Nat → Int32} {bc bs : Nat} {Φ : pT5} {v : Nat} (hv : v < 100) (h : TJ S0 M0 d l x y g) (hl : l.length ≤ 53) (h1 : 7 ≤ bc) (h2 : 490 ≤ bs) (hΦ : ∀ x y g, TJ S0 M0 d (l ++ figs v) x y g → Φ x y g qf cf) : wL_figures x y g qf cf (nI v) bc bs Φ := by
  have e : (48 : Int32) + (nI v - nI v / 10 * 10) = nI (48 + v % 10) := by
    rw [show (10 : Int32) = nI 10 from rfl, p_rem (by omega) (by omega) (by omega), show (48 : Int32) = nI 48 from rfl, nI_add]
  have e2 : (48 : Int32) + nI v / 10 = nI (48 + v / 10) := by
    rw [show (10 : Int32) = nI 10 from rfl, p_div (by omega) (by omega) (by omega), show (48 : Int32) = nI 48 from rfl, nI_add]
  unfold wL_figures jL_figures_18
  rw [e, e2]
  refine ⟨fun c => ⟨7, 490, 0, 0, by omega, by omega, ?_⟩, fun c => ⟨7, 490, 0, 0, by omega, by omega, ?_⟩⟩
  · have c : v ≤ 9 := (nI_leI (b := 9) (by omega) (by omega)).1 c
    refine h_types 0 (48 + v % 10) 0 0 0 0 0 (fun k hk => ?_) h hl (Nat.le_refl _) (Nat.le_refl _) fun x y g q => hΦ x y g ?_
    · have h7 : k = 0 ∨ k = 1 ∨ k = 2 ∨ k = 3 ∨ k = 4 ∨ k = 5 ∨ k = 6 := by omega
      rcases h7 with rfl | rfl | rfl | rfl | rfl | rfl | rfl
      · exact .inl rfl
      · right; show 32 ≤ 48 + v % 10 ∧ 48 + v % 10 < 127; omega
      all_goals exact .inl rfl
    · have e3 : tnz (fun k => ([0, 48 + v % 10, 0, 0, 0, 0, 0] : List Nat).getD k 0) 7 0 = figs v := by
        unfold figs
        rw [if_pos c]
        show (if 48 + v % 10 = 0 then [] else [48 + v % 10]) ++ [] = _
        rw [if_neg (by omega), List.append_nil, Nat.mod_eq_of_lt (by omega)]
      rw [e3] at q
      exact q
  · have c : ¬ v ≤ 9 := fun z => c (nI_le (b := 9) z (by omega))
    refine h_types (48 + v / 10) (48 + v % 10) 0 0 0 0 0 (fun k hk => ?_) h hl (Nat.le_refl _) (Nat.le_refl _) fun x y g q => hΦ x y g ?_
    · have h7 : k = 0 ∨ k = 1 ∨ k = 2 ∨ k = 3 ∨ k = 4 ∨ k = 5 ∨ k = 6 := by omega
      rcases h7 with rfl | rfl | rfl | rfl | rfl | rfl | rfl
      · right; show 32 ≤ 48 + v / 10 ∧ 48 + v / 10 < 127; omega
      · right; show 32 ≤ 48 + v % 10 ∧ 48 + v % 10 < 127; omega
      all_goals exact .inl rfl
    · have e3 : tnz (fun k => ([48 + v / 10, 48 + v % 10, 0, 0, 0, 0, 0] : List Nat).getD k 0) 7 0 = figs v := by
        unfold figs
        rw [if_neg c]
        show (if 48 + v / 10 = 0 then [] else [48 + v / 10]) ++ ((if 48 + v % 10 = 0 then [] else [48 + v % 10]) ++ []) = _
        rw [if_neg (by omega), if_neg (by omega)]
        rfl
      rw [e3] at q
      exact q
