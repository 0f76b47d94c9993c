def mFs (k v : Int32) : MS → List Int32 → MS
  | M, [] => M
  | M, b :: bs => mFs k v (mFixed M k b v) bs
def mBegins (t sz sl : Nat) : Nat → Nat → List Int32
  | 0, _ => []
  | m + 1, b => if t < b then [] else if b + sz ≤ t then mBegins t sz sl m (b + sl) else nI b :: mBegins t sz sl m (b + sl)
def mFsOK (k v : Int32) : MS → List Int32 → Prop
  | _, [] => True
  | M, b :: bs => pUniq (M.V 6) ∧ (M.V 6).length < 1200 ∧ M.T.length + 2 ≤ 8000 ∧ mFsOK k v (mFixed M k b v) bs
theorem mFixed_pl (M : MS) (k b v : Int32) : (mFixed M k b v).g 6 = M.g 6 := by
  have hr : ∀ (M : MS) i, (mRipe M i).g 6 = M.g 6 := fun M i => by
    unfold mRipe
    split
    · exact (mApp_same M _).2.2.1 6 (by omega)
    · rfl
  unfold mFixed
  split
  · rfl
  · split
    · exact hr _ _
    · exact hr _ _
theorem m_comesL {k v : Int32} {t sz sl : Nat} (ht : t < 1000) (hsz : sz < 100) (hsl : sl < 100) (hsl0 : 0 < sl) {Φ : pJ} : ∀ (m n b : Nat) (M : MS) (x : Nat → Int32) (g : Nat → Nat → Int32), RM M x g → M.g 6 5 = nI sz → M.g 6 6 = nI sl → t < b + m * sl → b < 2000 → m < n → mFsOK k v M (mBegins t sz sl m b) → (∀ g, RM (mFs k v M (mBegins t sz sl m b)) x g → Φ x g) → lX9_comes_56 Φ n x g k (nI t) v (nI b) := by
  intro m
  induction m with
  | zero =>
    intro n b M x g h e5 e6 hb hb2 hn hok hΦ
    obtain ⟨n, rfl⟩ : ∃ n', n = n' + 1 := ⟨n - 1, by omega⟩
    exact ⟨fun _ => hΦ g h, fun c => absurd (nI_lt (by omega) (by omega)) c⟩
  | succ m ih =>
    intro n b M x g h e5 e6 hb hb2 hn hok hΦ
    obtain ⟨n, rfl⟩ : ∃ n', n = n' + 1 := ⟨n - 1, by omega⟩
    rw [Nat.succ_mul] at hb
    have nxt : ∀ (M1 : MS) (g1 : Nat → Nat → Int32), RM M1 x g1 → M1.g 6 = M.g 6 → b ≤ t → mFsOK k v M1 (mBegins t sz sl m (b + sl)) → (∀ g, RM (mFs k v M1 (mBegins t sz sl m (b + sl))) x g → Φ x g) → jX9_comes_83 (lX9_comes_56 Φ n) Φ x g1 k (nI t) v (nI b) := by
      intro M1 g1 h1 eg hbt hok hΦ
      unfold jX9_comes_83
      rw [h1.W 6 (by omega) (by omega), eg, show (6 : Int32).toNatClampNeg = 6 from p_6, e6, nI_add]
      refine ⟨p_v9 (by decide), ?_⟩
      rintro _ rfl
      exact ih n (b + sl) M1 x g1 h1 (by rw [eg]; exact e5) (by rw [eg]; exact e6) (by omega) (by omega) (by omega) hok hΦ
    refine ⟨fun c => ?_, fun c => ⟨p_v9 (by decide), ?_⟩⟩
    · rw [nI_ltI (by omega) (by omega)] at c
      simp only [CS.mk_R, CS.mk_cap, CS.mk_x, CS.mk_y, CS.mk_g, CS.mk_eta, MS.mk_x, MS.mk_g, MS.mk_V, MS.mk_T, MS.mk_eta, mBegins, if_pos c] at hΦ
      exact hΦ g h
    · rw [nI_ltI (by omega) (by omega)] at c
      simp only [CS.mk_R, CS.mk_cap, CS.mk_x, CS.mk_y, CS.mk_g, CS.mk_eta, MS.mk_x, MS.mk_g, MS.mk_V, MS.mk_T, MS.mk_eta, mBegins, if_neg c] at hok hΦ
      rw [h.W 6 (by omega) (by omega), p_5, e5, nI_add]
      refine ⟨fun d => ?_, fun d => ?_⟩
      · rw [nI_leI (by omega) (by omega)] at d
        rw [if_pos d] at hok hΦ
        exact nxt M g h rfl (by omega) hok hΦ
      · rw [nI_leI (by omega) (by omega)] at d
        rw [if_neg d] at hok hΦ
        obtain ⟨o1, o2, o3, o4⟩ := hok
        exact m_fixed h o1 o2 o3 fun g1 h1 => nxt _ g1 h1 (mFixed_pl M k (nI b) v) (by omega) o4 hΦ
def mComes (M : MS) (k v : Int32) (t sz sl : Nat) : MS :=
  if M.g 6 4 = 2 then mSes M k (nI t) v
  else if M.g 6 4 = 0 then mFixed M k (nI (t / sz * sz)) v
  else mFs k v M (mBegins t sz sl (t / sl + 1) 0)
theorem m_comes {M x g} (h : RM M x g) {k v : Int32} {t sz sl : Nat} (ht : t < 1000) (hsz : sz < 100) (hsz0 : 0 < sz) (e5 : M.g 6 5 = nI sz) (hu : pUniq (M.V 6)) (hT : M.T.length + (M.V 6).length + 2 ≤ 8000) (hl : (M.V 6).length < 1200) (hsl : M.g 6 4 ≠ 2 → M.g 6 4 ≠ 0 → M.g 6 6 = nI sl ∧ 0 < sl ∧ sl < 100 ∧ mFsOK k v M (mBegins t sz sl (t / sl + 1) 0)) {Φ : pJ} (hΦ : ∀ g, RM (mComes M k v t sz sl) x g → Φ x g) : wX9_comes x g k (nI t) v Φ := by
  have hr : (pRest (M.g 6 5) k (nI t) (M.V 6)).length < 1200 := by
    have := List.length_filter_le (fun r => !pMet (M.g 6 5) k (nI t) r) (M.V 6)
    unfold pRest
    omega
  unfold wX9_comes
  unfold mComes at hΦ
  rw [p_4, p_5, h.W 6 (by omega) (by omega)]
  refine ⟨p_v9 (by decide), fun a => ?_, fun a => ⟨p_v9 (by decide), fun b => ⟨p_v9 (by decide), ?_⟩, fun b => ?_⟩⟩
  · rw [if_pos a] at hΦ
    exact m_session h hu hT hr hΦ
  · rw [if_neg a, if_pos b] at hΦ
    rw [e5]
    refine ⟨nI_ne0 hsz0 (by omega), p_v9 (by decide), ?_⟩
    rw [p_div (by omega) hsz0 (by omega), p_mul]
    exact m_fixed h hu hl (by omega) hΦ
  · rw [if_neg a, if_neg b] at hΦ
    obtain ⟨e6, s0, s1, hok⟩ := hsl a b
    refine ⟨t / sl + 2, ?_⟩
    have : t < 0 + (t / sl + 1) * sl := by
      have h1 := Nat.div_add_mod t sl
      have h2 := Nat.mod_lt t s0
      rw [Nat.succ_mul, Nat.mul_comm]
      omega
    exact m_comesL ht hsz s1 s0 (t / sl + 1) _ 0 M x g h e5 e6 this (by omega) (by omega) hok hΦ
def tbC (M : MS) (i : Nat) (f : Option Nat) : Bool := match f with | none => true | some j => !decide (M.g 21 i < M.g 21 j)
def tbStep (M : MS) (k t : Int32) (f : Option Nat) (i : Nat) : Option Nat := if M.g 20 i = k ∧ ¬ t < M.g 21 i ∧ tbC M i f = true then some i else f
theorem tb_yes {M : MS} {k t : Int32} {f : Option Nat} {i : Nat} (a : M.g 20 i = k) (b : ¬ t < M.g 21 i) (c : tbC M i f = true) : tbStep M k t f i = some i := if_pos ⟨a, b, c⟩
theorem tb_no {M : MS} {k t : Int32} {f : Option Nat} {i : Nat} (a : ¬ (M.g 20 i = k ∧ ¬ t < M.g 21 i ∧ tbC M i f = true)) : tbStep M k t f i = f := if_neg a
theorem tbC_some {M : MS} {i j : Nat} : tbC M i (some j) = true ↔ ¬ M.g 21 i < M.g 21 j := by simp [CS.mk_R, CS.mk_cap, CS.mk_x, CS.mk_y, CS.mk_g, CS.mk_eta, MS.mk_x, MS.mk_g, MS.mk_V, MS.mk_T, MS.mk_eta, tbC]
theorem m_tbL {M x g} (h : RM M x g) {N : Nat} (hN : N ≤ 60) (hx : M.x 19 = nI N) {k t : Int32} {Φ : Int32 → Prop} : ∀ (m n i : Nat) (f : Option Nat), i + m = N → m < n → (∀ j, f = some j → j < N) → Φ (match (List.range' i m).foldl (tbStep M k t) f with | none => 0 | some j => M.g 22 j) → lX9_tableOf_5 Φ n x g k t (oI f) (nI i) := by
  intro m
  induction m with
  | zero =>
    intro n i f him hmn hf hΦ
    obtain ⟨n, rfl⟩ : ∃ n', n = n' + 1 := ⟨n - 1, by omega⟩
    simp only [CS.mk_R, CS.mk_cap, CS.mk_x, CS.mk_y, CS.mk_g, CS.mk_eta, MS.mk_x, MS.mk_g, MS.mk_V, MS.mk_T, MS.mk_eta, lX9_tableOf_5, h.hx, hx, h.W 22 (by omega) (by omega)]
    refine ⟨fun _ => ?_, fun c => absurd (nI_le (by omega) (by omega)) c⟩
    cases f with
    | none => exact ⟨fun _ => hΦ, fun c => absurd rfl c⟩
    | some j =>
      have := hf j rfl
      refine ⟨fun c => absurd c (p_m1 (by omega)), fun _ => ⟨vp_in_nI (by omega) (by omega), ?_⟩⟩
      rw [show (oI (some j)).toNatClampNeg = j from p_cl (by omega)]
      exact hΦ
  | succ m ih =>
    intro n i f him hmn hf hΦ
    obtain ⟨n, rfl⟩ : ∃ n', n = n' + 1 := ⟨n - 1, by omega⟩
    have hin : vp_in (nI i) 60 := vp_in_nI (by omega) (by omega)
    rw [List.range'_succ, List.foldl_cons] at hΦ
    simp only [CS.mk_R, CS.mk_cap, CS.mk_x, CS.mk_y, CS.mk_g, CS.mk_eta, MS.mk_x, MS.mk_g, MS.mk_V, MS.mk_T, MS.mk_eta, lX9_tableOf_5, jX9_tableOf_40, jX9_tableOf_41, h.hx, hx, h.W 20 (by omega) (by omega), h.W 21 (by omega) (by omega), p_cl (show i < 2 ^ 31 by omega)]
    have no : tbStep M k t f i = f → ∀ w : Int32, w = nI i + 1 → lX9_tableOf_5 Φ n M.x g k t (oI f) w := by
      rintro e _ rfl
      rw [e] at hΦ
      rw [nI_1]
      have := ih n (i + 1) f (by omega) (by omega) hf hΦ
      rwa [h.hx] at this
    have yes : tbStep M k t f i = some i → ∀ w : Int32, w = nI i + 1 → lX9_tableOf_5 Φ n M.x g k t (nI i) w := by
      rintro e _ rfl
      rw [e] at hΦ
      rw [nI_1]
      have := ih n (i + 1) (some i) (by omega) (by omega) (fun j hj => by injection hj; omega) hΦ
      rwa [h.hx] at this
    refine ⟨fun c => absurd c (nI_ge (by omega) (by omega)), fun _ => ⟨hin, fun a => ⟨hin, fun b => ⟨fun _ => no (tb_no fun q => q.2.1 b), fun c => absurd trivial c⟩, fun b => ⟨fun c => absurd c (by decide), fun _ => ?_⟩⟩, fun a => ⟨fun _ => no (tb_no fun q => a q.1), fun c => absurd trivial c⟩⟩⟩
    cases f with
    | none => exact ⟨fun _ => yes (tb_yes a b rfl), fun c => absurd rfl c⟩
    | some j =>
      have := hf j rfl
      rw [show (oI (some j)).toNatClampNeg = j from p_cl (by omega)]
      exact ⟨fun c => absurd c (p_m1 (by omega)), fun _ => ⟨hin, vp_in_nI (by omega) (by omega), fun c => no (tb_no fun q => tbC_some.1 q.2.2 c), fun c => yes (tb_yes a b (tbC_some.2 c))⟩⟩
def mJoin (M : MS) (N : Nat) (k t : Int32) : Int32 := match (List.range' 0 N).foldl (tbStep M k t) none with | none => 0 | some j => M.g 22 j
theorem m_join {M x g} (h : RM M x g) {N : Nat} (hN : N ≤ 60) (hx : M.x 19 = nI N) {k t : Int32} {Φ : Int32 → Prop} (hΦ : Φ (mJoin M N k t)) : wX9_tableOf x g k t Φ :=
  ⟨N + 1, m_tbL h hN hx N _ 0 none (by omega) (by omega) (fun j hj => by simp at hj) hΦ⟩
def mLets (M : MS) (v : Int32) : Int32 := if M.g 6 1 = 0 then 1 else if M.g 6 1 = 1 then (if M.g 6 2 ≤ v then 0 else 1) else if M.g 6 1 = 2 then (if v = M.g 6 2 then 1 else 0) else (if v ≤ M.g 6 2 then 0 else 1)
theorem m_counts {M x g} (h : RM M x g) {v : Int32} {Φ : Int32 → Prop} (hΦ : Φ (mLets M v)) : wX9_counts x g v Φ := by
  unfold wX9_counts
  unfold mLets at hΦ
  rw [p_1, p_2, h.W 6 (by omega) (by omega)]
  refine ⟨p_v9 (by decide), fun a => ?_, fun a => ⟨p_v9 (by decide), fun b => ⟨p_v9 (by decide), ?_⟩, fun b => ⟨p_v9 (by decide), fun c => ⟨p_v9 (by decide), ?_⟩, fun c => ⟨p_v9 (by decide), ?_⟩⟩⟩⟩
  · rw [if_pos a] at hΦ; exact hΦ
  · rw [if_neg a, if_pos b] at hΦ; exact p_ite hΦ
  · rw [if_neg a, if_neg b, if_pos c] at hΦ; exact p_ite hΦ
  · rw [if_neg a, if_neg b, if_neg c] at hΦ; exact p_ite hΦ
abbrev pLt (r s : pRow) : Prop := r 2 < s 2 ∨ (r 2 = s 2 ∧ (r 1 < s 1 ∨ (r 1 = s 1 ∧ r 0 < s 0)))
abbrev pUnt (mk : Int32) (r : pRow) : Prop := r 4 = 0 ∧ r 2 ≤ mk
def oW : Option Nat → Int32
  | none => -1
  | some q => nI (7200 + q)
def ntInv (M : MS) (i : Nat) (f : Option Nat) : Prop := match f with
  | none => ∀ j, j < i → ¬ pUnt (M.g 25 6) (mRow M j)
  | some q => q < i ∧ pUnt (M.g 25 6) (mRow M q) ∧ ∀ j, j < i → pUnt (M.g 25 6) (mRow M j) → j = q ∨ ¬ pLt (mRow M j) (mRow M q)
theorem pLt_trans {r s t : pRow} (h : pLt r s) (h2 : pLt s t) : pLt r t := by
  unfold pLt at *
  simp only [CS.mk_R, CS.mk_cap, CS.mk_x, CS.mk_y, CS.mk_g, CS.mk_eta, MS.mk_x, MS.mk_g, MS.mk_V, MS.mk_T, MS.mk_eta, i_lt, i_eq] at *
  omega
theorem pLt_irr {r : pRow} (h : pLt r r) : False := by
  unfold pLt at *
  simp only [CS.mk_R, CS.mk_cap, CS.mk_x, CS.mk_y, CS.mk_g, CS.mk_eta, MS.mk_x, MS.mk_g, MS.mk_V, MS.mk_T, MS.mk_eta, i_lt, i_eq] at *
  omega
theorem nt_trans {r s t : pRow} (h : pLt r s) (h2 : ¬ pLt t s) : ¬ pLt t r := fun h3 => h2 (pLt_trans h3 h)
theorem m_ntL {M x g} (h : RM M x g) {Φ : Int32 → Prop} (hΦ : ∀ f, ntInv M (M.V 6).length f → Φ (oW f)) : ∀ (m n i : Nat) (f : Option Nat), i + m = (M.V 6).length → m < n → ntInv M i f → lX9_nextToTell_7 Φ n x g (oW f) (nI (7200 + i)) := by
  have hl := h.len 6 (by omega)
  intro m
  induction m with
  | zero =>
    intro n i f him hmn hf
    obtain ⟨n, rfl⟩ : ∃ n', n = n' + 1 := ⟨n - 1, by omega⟩
    have hi : i = (M.V 6).length := by omega
    subst hi
    simp only [CS.mk_R, CS.mk_cap, CS.mk_x, CS.mk_y, CS.mk_g, CS.mk_eta, MS.mk_x, MS.mk_g, MS.mk_V, MS.mk_T, MS.mk_eta, lX9_nextToTell_7, wX9_placeOf, p_6, h.g28]
    rw [show (7200 : Int32) = nI 7200 from rfl, nI_add]
    exact ⟨p_vin6, fun _ => hΦ f hf, fun c => absurd (nI_le (Nat.le_refl _) (by omega)) c⟩
  | succ m ih =>
    intro n i f him hmn hf
    obtain ⟨n, rfl⟩ : ∃ n', n = n' + 1 := ⟨n - 1, by omega⟩
    have hi : i < (M.V 6).length := by omega
    have hin : vp_in (nI (7200 + i)) 8400 := vp_in_nI (by omega) (by omega)
    have keep : ntInv M (i + 1) f → ∀ w : Int32, w = nI (7200 + i) + 1 → lX9_nextToTell_7 Φ n x g (oW f) w := by
      rintro hf _ rfl
      rw [nI_1]
      exact ih n (i + 1) f (by omega) (by omega) hf
    have take : ntInv M (i + 1) (some i) → ∀ w : Int32, w = nI (7200 + i) + 1 → lX9_nextToTell_7 Φ n x g (nI (7200 + i)) w := by
      rintro hf _ rfl
      rw [nI_1]
      exact ih n (i + 1) (some i) (by omega) (by omega) hf
    have noU : ¬ pUnt (M.g 25 6) (mRow M i) → ntInv M (i + 1) f := fun hu => by
      cases f with
      | none =>
        intro j hj
        by_cases e : j = i
        · rw [e]; exact hu
        · exact hf j (by omega)
      | some q =>
        have := hf.1
        refine ⟨by omega, hf.2.1, fun j hj hj2 => ?_⟩
        by_cases e : j = i
        · rw [e] at hj2; exact absurd hj2 hu
        · exact hf.2.2 j (by omega) hj2
    simp only [CS.mk_R, CS.mk_cap, CS.mk_x, CS.mk_y, CS.mk_g, CS.mk_eta, MS.mk_x, MS.mk_g, MS.mk_V, MS.mk_T, MS.mk_eta, lX9_nextToTell_7, wX9_placeOf, p_6, h.g28]
    rw [show (7200 : Int32) = nI 7200 from rfl, nI_add, p_cl (show 7200 + i < 2 ^ 31 by omega), h.W 25 (by omega) (by omega), show g 33 (7200 + i) = mRow M i 4 from h.w 4 hi (by omega), show g 31 (7200 + i) = mRow M i 2 from h.w 2 hi (by omega)]
    have j50 : ¬ pUnt (M.g 25 6) (mRow M i) → jX9_nextToTell_50 (lX9_nextToTell_7 Φ n) Φ x g (oW f) (nI (7200 + i)) := fun hu => by
      unfold jX9_nextToTell_50 jX9_nextToTell_51 jX9_nextToTell_132 jX9_nextToTell_136 jX9_nextToTell_137
      have k := keep (noU hu)
      have a : ((0 : Int32) = 0 → ∀ (v2_154 : Int32), v2_154 = nI (7200 + i) + 1 → lX9_nextToTell_7 Φ n x g (oW f) v2_154) ∧ (¬ (0 : Int32) = 0 → ((1 : Int32) = 0 → ∀ (v2_154 : Int32), v2_154 = nI (7200 + i) + 1 → lX9_nextToTell_7 Φ n x g (oW f) v2_154) ∧ (¬ (1 : Int32) = 0 → ∀ (v2_154 : Int32), v2_154 = nI (7200 + i) + 1 → lX9_nextToTell_7 Φ n x g (nI (7200 + i)) v2_154)) := ⟨fun _ => k, fun c => absurd rfl c⟩
      have b : ((0 : Int32) = 0 → ∀ (v2_154 : Int32), v2_154 = nI (7200 + i) + 1 → lX9_nextToTell_7 Φ n x g (oW f) v2_154) ∧ (¬ (0 : Int32) = 0 → ((0 : Int32) = 0 → ∀ (v2_154 : Int32), v2_154 = nI (7200 + i) + 1 → lX9_nextToTell_7 Φ n x g (oW f) v2_154) ∧ (¬ (0 : Int32) = 0 → ∀ (v2_154 : Int32), v2_154 = nI (7200 + i) + 1 → lX9_nextToTell_7 Φ n x g (nI (7200 + i)) v2_154)) := ⟨fun _ => k, fun c => absurd rfl c⟩
      cases f with
      | none => exact ⟨fun _ => a, fun c => absurd rfl c⟩
      | some q =>
        have hq : q < i := hf.1
        have hqn : vp_in (nI (7200 + q)) 8400 := vp_in_nI (by omega) (by omega)
        exact ⟨fun c => absurd c (p_m1 (by omega)), fun _ => ⟨hin, hqn, fun _ => a, fun _ => ⟨hin, hqn, fun _ => ⟨hin, hqn, fun _ => a, fun _ => ⟨hin, hqn, fun _ => ⟨hin, hqn, fun _ => b, fun _ => a⟩, fun _ => b⟩⟩, fun _ => b⟩⟩⟩
    have j51 : pUnt (M.g 25 6) (mRow M i) → jX9_nextToTell_51 (lX9_nextToTell_7 Φ n) Φ x g (oW f) (nI (7200 + i)) 1 := fun hu => by
      unfold jX9_nextToTell_51 jX9_nextToTell_132 jX9_nextToTell_136 jX9_nextToTell_137
      cases f with
      | none =>
        refine ⟨fun _ => ⟨fun c => absurd c (by decide), fun _ => ⟨fun c => absurd c (by decide), fun _ => take ⟨by omega, hu, fun j hj hj2 => ?_⟩⟩⟩, fun c => absurd rfl c⟩
        by_cases e : j = i
        · exact .inl e
        · exact absurd hj2 (hf j (by omega))
      | some q =>
        have hq : q < i := hf.1
        have hqn : vp_in (nI (7200 + q)) 8400 := vp_in_nI (by omega) (by omega)
        have yes : pLt (mRow M i) (mRow M q) → ((1 : Int32) = 0 → ∀ (v2_154 : Int32), v2_154 = nI (7200 + i) + 1 → lX9_nextToTell_7 Φ n x g (nI (7200 + q)) v2_154) ∧ (¬ (1 : Int32) = 0 → ((1 : Int32) = 0 → ∀ (v2_154 : Int32), v2_154 = nI (7200 + i) + 1 → lX9_nextToTell_7 Φ n x g (nI (7200 + q)) v2_154) ∧ (¬ (1 : Int32) = 0 → ∀ (v2_154 : Int32), v2_154 = nI (7200 + i) + 1 → lX9_nextToTell_7 Φ n x g (nI (7200 + i)) v2_154)) := fun hlt => by
          refine ⟨fun c => absurd c (by decide), fun _ => ⟨fun c => absurd c (by decide), fun _ => take ⟨by omega, hu, fun j hj hj2 => ?_⟩⟩⟩
          by_cases e : j = i
          · exact .inl e
          · rcases hf.2.2 j (by omega) hj2 with e2 | e2
            · rw [e2]; exact .inr fun h3 => pLt_irr (pLt_trans h3 hlt)
            · exact .inr (nt_trans hlt e2)
        have no : ¬ pLt (mRow M i) (mRow M q) → ((1 : Int32) = 0 → ∀ (v2_154 : Int32), v2_154 = nI (7200 + i) + 1 → lX9_nextToTell_7 Φ n x g (nI (7200 + q)) v2_154) ∧ (¬ (1 : Int32) = 0 → ((0 : Int32) = 0 → ∀ (v2_154 : Int32), v2_154 = nI (7200 + i) + 1 → lX9_nextToTell_7 Φ n x g (nI (7200 + q)) v2_154) ∧ (¬ (0 : Int32) = 0 → ∀ (v2_154 : Int32), v2_154 = nI (7200 + i) + 1 → lX9_nextToTell_7 Φ n x g (nI (7200 + i)) v2_154)) := fun hlt => by
          refine ⟨fun c => absurd c (by decide), fun _ => ⟨fun _ => keep ⟨by omega, hf.2.1, fun j hj hj2 => ?_⟩, fun c => absurd rfl c⟩⟩
          by_cases e : j = i
          · rw [e]; exact .inr hlt
          · exact hf.2.2 j (by omega) hj2
        rw [show oW (some q) = nI (7200 + q) from rfl, p_cl (show 7200 + i < 2 ^ 31 by omega), p_cl (show 7200 + q < 2 ^ 31 by omega), show g 29 (7200 + i) = mRow M i 0 from h.w 0 hi (by omega), show g 30 (7200 + i) = mRow M i 1 from h.w 1 hi (by omega), show g 31 (7200 + i) = mRow M i 2 from h.w 2 hi (by omega), show g 29 (7200 + q) = mRow M q 0 from h.w 0 (by omega) (by omega), show g 30 (7200 + q) = mRow M q 1 from h.w 1 (by omega) (by omega), show g 31 (7200 + q) = mRow M q 2 from h.w 2 (by omega) (by omega)]
        refine ⟨fun c => absurd c (p_m1 (by omega)), fun _ => ⟨hin, hqn, fun a => yes (.inl a), fun a => ⟨hin, hqn, fun b => ⟨hin, hqn, fun c => yes (.inr ⟨b, .inl c⟩), fun c => ⟨hin, hqn, fun d => ⟨hin, hqn, fun e => no ?_, fun e => yes (.inr ⟨b, .inr ⟨d, Int32.not_le.1 e⟩⟩)⟩, fun d => no ?_⟩⟩, fun b => no ?_⟩⟩⟩
        · intro h3
          unfold pLt at h3
          simp only [CS.mk_R, CS.mk_cap, CS.mk_x, CS.mk_y, CS.mk_g, CS.mk_eta, MS.mk_x, MS.mk_g, MS.mk_V, MS.mk_T, MS.mk_eta, i_lt, i_le, i_eq] at *
          omega
        · intro h3
          unfold pLt at h3
          simp only [CS.mk_R, CS.mk_cap, CS.mk_x, CS.mk_y, CS.mk_g, CS.mk_eta, MS.mk_x, MS.mk_g, MS.mk_V, MS.mk_T, MS.mk_eta, i_lt, i_le, i_eq] at *
          omega
        · intro h3
          unfold pLt at h3
          simp only [CS.mk_R, CS.mk_cap, CS.mk_x, CS.mk_y, CS.mk_g, CS.mk_eta, MS.mk_x, MS.mk_g, MS.mk_V, MS.mk_T, MS.mk_eta, i_lt, i_le, i_eq] at *
          omega
    exact ⟨p_vin6, fun c => absurd c (nI_ge (by omega) (by omega)), fun _ => ⟨hin, fun a => ⟨hin, p_vin6, fun b => j50 fun q => absurd q.2 (Int32.not_le.2 b), fun b => j51 ⟨a, Int32.not_lt.1 b⟩⟩, fun a => j50 fun q => a q.1⟩⟩
theorem m_next {M x g} (h : RM M x g) {Φ : Int32 → Prop} (hΦ : ∀ f, ntInv M (M.V 6).length f → Φ (oW f)) : wX9_nextToTell x g Φ := by
  unfold wX9_nextToTell wX9_placeOf
  exact ⟨(M.V 6).length + 1, m_ntL h hΦ (M.V 6).length _ 0 none (by omega) (by omega) (fun j hj => absurd hj (by omega))⟩
theorem p_mem_getD {W : List pRow} {r : pRow} (h : r ∈ W) : ∃ j, j < W.length ∧ W.getD j pz = r := by
  obtain ⟨j, hj, e⟩ := List.getElem_of_mem h
  exact ⟨j, hj, by simp [CS.mk_R, CS.mk_cap, CS.mk_x, CS.mk_y, CS.mk_g, CS.mk_eta, MS.mk_x, MS.mk_g, MS.mk_V, MS.mk_T, MS.mk_eta, List.getD, hj, e]⟩
theorem p_getD_mem {W : List pRow} {j : Nat} (h : j < W.length) : W.getD j pz ∈ W := by
  simp [CS.mk_R, CS.mk_cap, CS.mk_x, CS.mk_y, CS.mk_g, CS.mk_eta, MS.mk_x, MS.mk_g, MS.mk_V, MS.mk_T, MS.mk_eta, List.getD, h]
theorem tIf_unt {mk : Int32} {r : pRow} (h : pUnt mk r) : tIf mk r = tWin r := if_pos ⟨h.2, h.1⟩
theorem tIf_no {mk : Int32} {r : pRow} (h : ¬ pUnt mk r) : tIf mk r = r := if_neg fun e => h ⟨e.2, e.1⟩
theorem tWin_no {mk : Int32} {r : pRow} : ¬ pUnt mk (tWin r) := fun h => absurd h.1 (show ¬ (1 : Int32) = 0 by decide)
theorem m_tellAll {mk : Int32} {Φ : pJ} : ∀ (U : List pRow) (n : Nat) (M : MS) (x : Nat → Int32) (g : Nat → Nat → Int32), RM M x g → M.g 25 6 = mk → pUniq (M.V 6) → U.Pairwise pLt → (∀ r, r ∈ U ↔ r ∈ M.V 6 ∧ pUnt mk r) → U.length < n → M.T.length + U.length + 2 ≤ 8000 → (∀ g, RM (mWin (mApp M (U.flatMap (tRes (mMode (M.g 6 8))))) ((M.V 6).map (tIf mk))) x g → ∀ n', 0 < n' → lX9_finds_107 Φ n' x g (-1)) → ∀ f, ntInv M (M.V 6).length f → lX9_finds_107 Φ n x g (oW f) := by
  intro U
  induction U with
  | nil =>
    intro n M x g h hmk hu hU hm hn hT hΦ f hf
    have hno : ∀ r, r ∈ M.V 6 → ¬ pUnt mk r := fun r hr hp => by
      have := (hm r).2 ⟨hr, hp⟩
      simp at this
    cases f with
    | none =>
      refine hΦ g ?_ n (by omega)
      have e1 : (M.V 6).map (tIf mk) = M.V 6 := by
        conv => rhs; rw [← List.map_id (M.V 6)]
        exact List.map_congr_left fun r hr => tIf_no (hno r hr)
      rw [e1]
      show RM (mWin M (M.V 6)) x g
      rw [mWin_self]
      exact h
    | some q =>
      rw [ntInv, hmk] at hf
      exact absurd hf.2.1 (hno _ (p_getD_mem hf.1))
  | cons r U ih =>
    intro n M x g h hmk hu hU hm hn hT hΦ f hf
    have hl := h.len 6 (by omega)
    simp only [CS.mk_R, CS.mk_cap, CS.mk_x, CS.mk_y, CS.mk_g, CS.mk_eta, MS.mk_x, MS.mk_g, MS.mk_V, MS.mk_T, MS.mk_eta, List.length_cons] at hn hT
    obtain ⟨n, rfl⟩ : ∃ n', n = n' + 1 := ⟨n - 1, by omega⟩
    obtain ⟨hrV, hrU⟩ := (hm r).1 List.mem_cons_self
    obtain ⟨jr, hjr, ejr⟩ := p_mem_getD hrV
    cases f with
    | none =>
      rw [ntInv, hmk] at hf
      exact absurd (show pUnt mk (mRow M jr) by rw [mRow, ejr]; exact hrU) (hf jr hjr)
    | some q =>
      rw [ntInv, hmk] at hf
      obtain ⟨hq, hqU, hmin⟩ := hf
      have eq : mRow M q = r := by
        have h1 : mRow M q ∈ r :: U := (hm _).2 ⟨p_getD_mem hq, hqU⟩
        rcases List.mem_cons.1 h1 with e | e
        · exact e
        · have h2 := (List.pairwise_cons.1 hU).1 _ e
          rcases hmin jr hjr (by rw [mRow, ejr]; exact hrU) with e2 | e2
          · rw [← e2]; exact ejr
          · exact absurd (show pLt (mRow M jr) (mRow M q) by rw [mRow, ejr]; exact h2) e2
      have hq' : (M.V 6).getD q pz = r := eq
      refine ⟨fun c => absurd c (p_m1 (by omega)), fun _ => ?_⟩
      have e4 : (tRes (mMode (M.g 6 8)) r).length = 1 := tRes_len0 hrU.1
      refine m_tells h hq (by omega) fun g h1 => ?_
      have hV1 : (mTell M q).V 6 = (M.V 6).set q (tWin r) := by simp only [CS.mk_R, CS.mk_cap, CS.mk_x, CS.mk_y, CS.mk_g, CS.mk_eta, MS.mk_x, MS.mk_g, MS.mk_V, MS.mk_T, MS.mk_eta, mTell, mWin, p_ug, eq]
      have hs := mApp_same M (tRes (mMode (M.g 6 8)) r)
      have eT : mTell M q = mWin (mApp M (tRes (mMode (M.g 6 8)) r)) ((M.V 6).set q (tWin r)) := by rw [mTell, eq]
      have hu1 : pUniq ((mTell M q).V 6) := by
        rw [hV1]
        intro i j hi hj e0 e1
        rw [List.length_set] at hi hj
        have c0 : ∀ i, i < (M.V 6).length → ((M.V 6).set q (tWin r)).getD i pz 0 = (M.V 6).getD i pz 0 := fun i hi => by
          by_cases e : i = q
          · subst e; rw [p_getset hi, hq']; rfl
          · rw [p_getset_ne _ e]
        have c1 : ∀ i, i < (M.V 6).length → ((M.V 6).set q (tWin r)).getD i pz 1 = (M.V 6).getD i pz 1 := fun i hi => by
          by_cases e : i = q
          · subst e; rw [p_getset hi, hq']; rfl
          · rw [p_getset_ne _ e]
        rw [c0 i hi, c0 j hj] at e0
        rw [c1 i hi, c1 j hj] at e1
        exact hu i j hi hj e0 e1
      have hmk1 : (mTell M q).g 25 6 = mk := by rw [eT, ← hmk]; exact congrFun (hs.2.2.1 25 (by omega)) 6
      have h68 : (mTell M q).g 6 8 = M.g 6 8 := by rw [eT]; exact congrFun (hs.2.2.1 6 (by omega)) 8
      refine m_next h1 fun f hf => ih n (mTell M q) x g h1 hmk1 hu1 (List.pairwise_cons.1 hU).2 (fun s => ?_) (by omega) ?_ (fun g h2 n' hn' => hΦ g ?_ n' hn') f hf
      · rw [hV1]
        constructor
        · intro hs2
          obtain ⟨hsV, hsU⟩ := (hm s).1 (List.mem_cons_of_mem _ hs2)
          refine ⟨?_, hsU⟩
          obtain ⟨js, hjs, ejs⟩ := p_mem_getD hsV
          have hne : js ≠ q := fun e => by
            rw [e, hq'] at ejs
            rw [← ejs] at hs2
            exact pLt_irr ((List.pairwise_cons.1 hU).1 _ hs2)
          have := p_getD_mem (W := (M.V 6).set q (tWin r)) (j := js) (by rw [List.length_set]; exact hjs)
          rwa [p_getset_ne _ hne, ejs] at this
        · rintro ⟨hsV, hsU⟩
          obtain ⟨js, hjs, ejs⟩ := p_mem_getD hsV
          rw [List.length_set] at hjs
          by_cases e : js = q
          · subst e
            rw [p_getset hjs] at ejs
            rw [← ejs] at hsU
            exact absurd hsU tWin_no
          · rw [p_getset_ne _ e] at ejs
            have h3 : s ∈ r :: U := (hm s).2 ⟨ejs ▸ p_getD_mem hjs, hsU⟩
            rcases List.mem_cons.1 h3 with e2 | e2
            · exact absurd (hu js q hjs hq (by rw [ejs, hq', e2]) (by rw [ejs, hq', e2])) e
            · exact e2
      · rw [eT]
        simp only [CS.mk_R, CS.mk_cap, CS.mk_x, CS.mk_y, CS.mk_g, CS.mk_eta, MS.mk_x, MS.mk_g, MS.mk_V, MS.mk_T, MS.mk_eta, mWin, mApp_T, List.length_append]; omega
      · rw [hV1, h68] at h2
        have em : ((M.V 6).set q (tWin r)).map (tIf mk) = (M.V 6).map (tIf mk) := by
          rw [List.map_set, tIf_no tWin_no]
          have : (M.V 6).map (tIf mk) = ((M.V 6).map (tIf mk)).set q (tWin r) := by
            apply List.ext_getElem?
            intro j
            rw [List.getElem?_set]
            by_cases e : q = j
            · subst e
              have e5 : (M.V 6)[q] = r := by simpa [List.getD, hq] using hq'
              rw [if_pos rfl, List.length_map, if_pos hq, List.getElem?_map, List.getElem?_eq_getElem hq, Option.map_some, e5, tIf_unt hrU]
            · rw [if_neg e]
          exact this.symm
        rw [em, eT, mApp_mWin, mWin_mWin, ← mApp_app, ← List.flatMap_cons] at h2
        exact h2
theorem p_app_rev {B C : List pRow} {r : pRow} : (r :: B).reverse ++ C = B.reverse ++ r :: C := by simp
theorem m_dropAll {ov : pRow → Bool} {Φ : pJ} : ∀ (B : List pRow) (n : Nat) (C : List pRow) (M : MS) (x : Nat → Int32) (g : Nat → Nat → Int32), RM M x g → M.V 6 = B.reverse ++ C → (∀ r, ov r = mOver M (r 2)) → B.length < n → (∀ g, RM (mWin M ((B.reverse).filter (fun r => !ov r) ++ C)) x g → Φ x g) → lX9_finds_139 Φ n x g (nI (7200 + B.length) - 1) := by
  intro B
  induction B with
  | nil =>
    intro n C M x g h hV ho hn hΦ
    obtain ⟨n, rfl⟩ : ∃ n', n = n' + 1 := ⟨n - 1, by omega⟩
    refine ⟨fun _ => hΦ g ?_, fun c => absurd (show nI (7200 + 0) - 1 < 7200 + 0 by decide) c⟩
    rw [show (([] : List pRow).reverse).filter (fun r => !ov r) ++ C = M.V 6 by rw [hV]; rfl, mWin_self]
    exact h
  | cons r B ih =>
    intro n C M x g h hV ho hn hΦ
    have hl := h.len 6 (by omega)
    simp only [CS.mk_R, CS.mk_cap, CS.mk_x, CS.mk_y, CS.mk_g, CS.mk_eta, MS.mk_x, MS.mk_g, MS.mk_V, MS.mk_T, MS.mk_eta, List.length_cons] at hn
    obtain ⟨n, rfl⟩ : ∃ n', n = n' + 1 := ⟨n - 1, by omega⟩
    rw [p_app_rev] at hV
    have hi : B.length < (M.V 6).length := by rw [hV]; simp
    have hg : (M.V 6).getD B.length pz = r := by
      have := p_app_getD (A := B.reverse) (B := C) (r := r)
      rwa [← hV, List.length_reverse] at this
    have e1 : nI (7200 + (r :: B).length) - 1 = nI (7200 + B.length) := by
      rw [List.length_cons]; exact p_sub (b := 1) (by omega)
    rw [e1]
    simp only [CS.mk_R, CS.mk_cap, CS.mk_x, CS.mk_y, CS.mk_g, CS.mk_eta, MS.mk_x, MS.mk_g, MS.mk_V, MS.mk_T, MS.mk_eta, lX9_finds_139, wX9_placeOf]
    rw [p_cl (show 7200 + B.length < 2 ^ 31 by omega), show g 31 (7200 + B.length) = r 2 by rw [h.w 2 hi (by omega), hg], show (7200 : Int32) + 0 = nI 7200 from rfl]
    have em1 : nI (7200 + B.length) + (-1) = nI (7200 + B.length) - 1 := by rw [Int32.sub_eq_add_neg]
    refine ⟨fun c => absurd c (nI_nlt (by omega) (by omega)), fun _ => ⟨vp_in_nI (by omega) (by omega), m_isOver h (fun o => ⟨fun c => absurd c (by decide), fun _ => ?_⟩) (fun o => ⟨fun _ => ?_, fun c => absurd rfl c⟩)⟩⟩
    · refine m_drops h hi fun g h1 => ?_
      rintro _ rfl
      rw [em1]
      have e2 : (M.V 6).eraseIdx B.length = B.reverse ++ C := by
        have := p_app_erase (A := B.reverse) (B := C) (r := r)
        rwa [← hV, List.length_reverse] at this
      rw [e2] at h1
      have ef : (r :: B).reverse.filter (fun r => !ov r) = B.reverse.filter (fun r => !ov r) := by
        rw [List.reverse_cons, List.filter_append, List.filter_cons, if_neg (by rw [ho, o]; decide)]; simp
      refine ih n C _ x g h1 (by simp only [CS.mk_R, CS.mk_cap, CS.mk_x, CS.mk_y, CS.mk_g, CS.mk_eta, MS.mk_x, MS.mk_g, MS.mk_V, MS.mk_T, MS.mk_eta, mWin, p_ug]) (fun r => ho r) (by omega) fun g h2 => hΦ g ?_
      rw [mWin_mWin] at h2
      rw [ef]; exact h2
    · rintro _ rfl
      rw [em1]
      have ef : (r :: B).reverse.filter (fun r => !ov r) ++ C = B.reverse.filter (fun r => !ov r) ++ r :: C := by
        rw [List.reverse_cons, List.filter_append, List.filter_cons, if_pos (by rw [ho, o]; decide)]; simp
      exact ih n (r :: C) M x g h hV ho (by omega) fun g h2 => hΦ g (by rw [ef]; exact h2)
def mTD (M : MS) (U : List pRow) : MS := mWin (mApp M (U.flatMap (tRes (mMode (M.g 6 8))))) (((M.V 6).map (tIf (M.g 25 6))).filter fun r => !mOver M (r 2))
abbrev pU (M : MS) (U : List pRow) : Prop := (U.Pairwise pLt) ∧ (∀ r, r ∈ U ↔ r ∈ M.V 6 ∧ pUnt (M.g 25 6) r) ∧ (M.T.length + U.length + 2 ≤ 8000)
theorem pU.s {M : MS} {U : List pRow} (h_ : pU M U) : U.Pairwise pLt := h_.1
theorem pU.m {M : MS} {U : List pRow} (h_ : pU M U) : ∀ r, r ∈ U ↔ r ∈ M.V 6 ∧ pUnt (M.g 25 6) r := h_.2.1
theorem pU.t {M : MS} {U : List pRow} (h_ : pU M U) : M.T.length + U.length + 2 ≤ 8000 := h_.2.2
theorem m_tellDrop {M x g} (h : RM M x g) {U : List pRow} (hu : pUniq (M.V 6)) (hU : pU M U) {Φ : pJ} (hΦ : ∀ g, RM (mTD M U) x g → Φ x g) : wX9_nextToTell x g (fun r_103 => (∃ n107 : Nat, lX9_finds_107 Φ n107 x g r_103)) := by
  refine m_next h fun f hf => ⟨U.length + 1, ?_⟩
  refine m_tellAll (mk := M.g 25 6) U _ M x g h rfl hu hU.s hU.m (by omega) hU.t (fun g h1 n' hn' => ?_) f hf
  obtain ⟨n, rfl⟩ : ∃ n, n' = n + 1 := ⟨n' - 1, by omega⟩
  have hs := mApp_same M (U.flatMap (tRes (mMode (M.g 6 8))))
  have hV : (mWin (mApp M (U.flatMap (tRes (mMode (M.g 6 8))))) ((M.V 6).map (tIf (M.g 25 6)))).V 6 = (((M.V 6).map (tIf (M.g 25 6))).reverse).reverse ++ [] := by simp only [CS.mk_R, CS.mk_cap, CS.mk_x, CS.mk_y, CS.mk_g, CS.mk_eta, MS.mk_x, MS.mk_g, MS.mk_V, MS.mk_T, MS.mk_eta, mWin, p_ug, List.reverse_reverse, List.append_nil]
  refine ⟨fun _ => ⟨p_vin6, ?_⟩, fun c => absurd rfl c⟩
  unfold wX9_placeOf
  rw [p_6, h1.g28, show (7200 : Int32) = nI 7200 from rfl, nI_add]
  rintro _ rfl
  have hlen : ((mWin (mApp M (U.flatMap (tRes (mMode (M.g 6 8))))) ((M.V 6).map (tIf (M.g 25 6)))).V 6).length = (((M.V 6).map (tIf (M.g 25 6))).reverse).length := by simp only [CS.mk_R, CS.mk_cap, CS.mk_x, CS.mk_y, CS.mk_g, CS.mk_eta, MS.mk_x, MS.mk_g, MS.mk_V, MS.mk_T, MS.mk_eta, mWin, p_ug, List.length_reverse]
  rw [hlen]
  refine ⟨_, m_dropAll (ov := fun r => mOver M (r 2)) ((M.V 6).map (tIf (M.g 25 6))).reverse _ [] _ x g h1 hV (fun r => ?_) (Nat.lt_succ_self _) fun g h2 => hΦ g ?_⟩
  · unfold mOver
    rw [show (mWin (mApp M (U.flatMap (tRes (mMode (M.g 6 8))))) ((M.V 6).map (tIf (M.g 25 6)))).g = (mApp M (U.flatMap (tRes (mMode (M.g 6 8))))).g from rfl, hs.2.2.1 6 (by omega), hs.2.2.1 25 (by omega)]
  · rw [mWin_mWin, List.reverse_reverse, List.append_nil] at h2
    exact h2
def mFindT (M : MS) (U : Int32 → List pRow) : Option (Option Int32) → MS
  | some (some l) => if l ≤ M.g 25 6 then M else mTD (mG M 25 6 l) (U l)
  | _ => M
def fwmM (M : MS) : Option (Option Int32) := fwm (M.g 18) (fun i => M.g 23 (18 + i)) (fun i => M.g 24 (18 + i) - M.g 17 i) [0, 1, 2] none
theorem m_findL {M x g} (h : RM M x g) (hu : pUniq (M.V 6)) {U : Int32 → List pRow} (hU : ∀ l, pU (mG M 25 6 l) (U l)) {Φ : pJ} : ∀ (j n i : Nat) (acc : Option Int32) (v1 v2 : Int32), i + j = 3 → j < n → (acc = none ∧ v1 = 0 ∨ v1 = 1 ∧ acc = some v2) → (∀ g, RM (mFindT M U (fwm (M.g 18) (fun i => M.g 23 (18 + i)) (fun i => M.g 24 (18 + i) - M.g 17 i) (List.range' i j) acc)) x g → Φ x g) → lX9_finds_8 Φ n x g v1 v2 (nI i) := by
  intro j
  induction j with
  | zero =>
    intro n i acc v1 v2 hij hjn ha hΦ
    obtain ⟨n, rfl⟩ : ∃ n', n = n' + 1 := ⟨n - 1, by omega⟩
    have hi : i = 3 := by omega
    subst hi
    simp only [CS.mk_R, CS.mk_cap, CS.mk_x, CS.mk_y, CS.mk_g, CS.mk_eta, MS.mk_x, MS.mk_g, MS.mk_V, MS.mk_T, MS.mk_eta, List.range'_zero, fwm] at hΦ
    refine ⟨fun _ => ?_, fun c => absurd (show (3 : Int32) ≤ nI 3 from by decide) c⟩
    rcases ha with ⟨rfl, rfl⟩ | ⟨rfl, rfl⟩
    · exact ⟨fun _ => hΦ g h, fun c => absurd rfl c⟩
    · refine ⟨fun c => absurd c (by decide), fun _ => ?_⟩
      rw [p_6, h.W 25 (by omega) (by omega)]
      simp only [CS.mk_R, CS.mk_cap, CS.mk_x, CS.mk_y, CS.mk_g, CS.mk_eta, MS.mk_x, MS.mk_g, MS.mk_V, MS.mk_T, MS.mk_eta, mFindT] at hΦ
      refine ⟨p_vin6, fun c => ⟨p_vin6, ?_⟩, fun c => ?_⟩
      · rw [if_neg (Int32.not_le.2 c)] at hΦ
        have h1 := h.G (k := 25) (i := 6) (v := v2) (by omega) (by omega)
        rw [h.W 25 (by omega) (by omega)] at h1
        exact m_tellDrop h1 hu (hU v2) hΦ
      · rw [if_pos (Int32.not_lt.1 c)] at hΦ
        exact hΦ g h
  | succ j ih =>
    intro n i acc v1 v2 hij hjn ha hΦ
    obtain ⟨n, rfl⟩ : ∃ n', n = n' + 1 := ⟨n - 1, by omega⟩
    have hin : vp_in (nI (18 + i)) 21 := vp_in_nI (by omega) (by omega)
    have hin3 : vp_in (nI i) 3 := vp_in_nI (by omega) (by omega)
    simp only [CS.mk_R, CS.mk_cap, CS.mk_x, CS.mk_y, CS.mk_g, CS.mk_eta, MS.mk_x, MS.mk_g, MS.mk_V, MS.mk_T, MS.mk_eta, List.range'_succ, fwm] at hΦ
    refine ⟨fun c => absurd (show nI 3 ≤ nI i from c) (nI_ge (by omega) (by omega)), fun _ => ⟨hin3, ?_⟩⟩
    rw [show (18 : Int32) = nI 18 from rfl, nI_add, p_cl (show i < 2 ^ 31 by omega), p_cl (show 18 + i < 2 ^ 31 by omega), h.W 18 (by omega) (by omega), h.W 23 (by omega) (by omega), h.W 24 (by omega) (by omega), h.W 17 (by omega) (by omega)]
    refine ⟨fun d => ⟨hin, fun r0 => ?_, fun r0 => ⟨hin, hin3, ?_⟩⟩, fun d => ?_⟩
    · rw [if_pos d, if_pos r0] at hΦ
      exact hΦ g h
    · rw [if_pos d, if_neg r0] at hΦ
      rintro _ rfl
      rcases ha with ⟨rfl, rfl⟩ | ⟨rfl, rfl⟩
      · have go : ∀ w : Int32, w = nI i + 1 → lX9_finds_8 Φ n x g 1 (M.g 24 (18 + i) - M.g 17 i) w := by
          rintro _ rfl
          rw [nI_1]
          exact ih n (i + 1) _ 1 _ (by omega) (by omega) (.inr ⟨rfl, rfl⟩) hΦ
        exact ⟨fun _ => go, fun _ => ⟨fun _ => go, fun c => absurd rfl c⟩⟩
      · refine ⟨fun c => ?_, fun c => ⟨fun c => absurd c (by decide), fun _ => ?_⟩⟩
        · simp only [CS.mk_R, CS.mk_cap, CS.mk_x, CS.mk_y, CS.mk_g, CS.mk_eta, MS.mk_x, MS.mk_g, MS.mk_V, MS.mk_T, MS.mk_eta, if_pos c] at hΦ
          rintro _ rfl
          rw [nI_1]
          exact ih n (i + 1) _ 1 _ (by omega) (by omega) (.inr ⟨rfl, rfl⟩) hΦ
        · simp only [CS.mk_R, CS.mk_cap, CS.mk_x, CS.mk_y, CS.mk_g, CS.mk_eta, MS.mk_x, MS.mk_g, MS.mk_V, MS.mk_T, MS.mk_eta, if_neg c] at hΦ
          rintro _ rfl
          rw [nI_1]
          exact ih n (i + 1) _ 1 _ (by omega) (by omega) (.inr ⟨rfl, rfl⟩) hΦ
    · rw [if_neg d] at hΦ
      rintro _ rfl
      rw [nI_1]
      exact ih n (i + 1) acc v1 v2 (by omega) (by omega) ha hΦ
theorem m_finds {M x g} (h : RM M x g) (hu : pUniq (M.V 6)) {U : Int32 → List pRow} (hU : ∀ l, pU (mG M 25 6 l) (U l)) {Φ : pJ} (hΦ : ∀ g, RM (mFindT M U (fwmM M)) x g → Φ x g) : wX9_finds x g Φ :=
  ⟨4, m_findL h hu hU 3 4 0 none 0 999 (by omega) (by omega) (.inl ⟨rfl, rfl⟩) hΦ⟩
def mCp (M : MS) (a b : Nat) (T : List pRow) : MS :=
  (MS.mk M.x (fun k j => if (k = 23 ∨ k = 24) ∧ 3 * b ≤ j ∧ j < 3 * b + 3 then M.g k (3 * a + (j - 3 * b)) else if (k = 25 ∨ k = 26 ∨ k = 27) ∧ j = b then M.g k a else M.g k j) (va_up M.V b (M.V a)) T)
theorem p_in7 {a : Nat} (h : a < 7) : vp_in (nI a) 7 := vp_in_nI h (by omega)
theorem m_cp103 {M x} {g0 : Nat → Nat → Int32} (h : RM M x g0) {a b : Nat} (ha : a < 7) (hb : b < 7) (hab : a ≠ b) {T : List pRow} (hT : T.length ≤ M.T.length ∧ ∀ i, i < T.length → T.getD i pz = M.T.getD i pz) (hT6 : (mCp M a b T).g 27 6 = nI T.length) {g1 : Nat → Nat → Int32} (hg1 : ∀ k j, g1 k j = if (k = 23 ∨ k = 24) ∧ 3 * b ≤ j ∧ j < 3 * b + 3 then g0 k (3 * a + (j - 3 * b)) else if (k = 25 ∨ k = 26 ∨ k = 27 ∨ k = 28) ∧ j = b then g0 k a else g0 k j) {Φ : pJ} (hΦ : ∀ g, RM (mCp M a b T) x g → Φ x g) : ∀ (m n i : Nat) (g : Nat → Nat → Int32), i + m = (M.V a).length → m < n → (∀ k j, g k j = if 29 ≤ k ∧ k ≤ 34 ∧ 1200 * b ≤ j ∧ j < 1200 * b + i then g1 k (1200 * a + (j - 1200 * b)) else g1 k j) → lX9_copies_103 Φ n x g (nI a) (nI b) (nI i) := by
  have hla := h.len a ha
  have hw1 : ∀ k j, 29 ≤ k → k ≤ 34 → g1 k j = g0 k j := fun k j h1 h2 => by rw [hg1, if_neg (by omega), if_neg (by omega)]
  intro m
  induction m with
  | zero =>
    intro n i g him hmn hg
    obtain ⟨n, rfl⟩ : ∃ n', n = n' + 1 := ⟨n - 1, by omega⟩
    have e28 : g 28 a = nI (M.V a).length := by rw [hg, if_neg (by omega), hg1, if_neg (by omega), if_neg (by omega)]; exact h.n28 a ha
    simp only [CS.mk_R, CS.mk_cap, CS.mk_x, CS.mk_y, CS.mk_g, CS.mk_eta, MS.mk_x, MS.mk_g, MS.mk_V, MS.mk_T, MS.mk_eta, lX9_copies_103]
    rw [p_cl (show a < 2 ^ 31 by omega), e28]
    refine ⟨p_in7 ha, fun _ => hΦ _ ?_, fun c => absurd (nI_le (by omega) (by omega)) c⟩
    have hi : i = (M.V a).length := by omega
    subst hi
    refine ⟨h.hx, fun k h1 h2 => ?_, fun p hp => ?_, fun p hp => ?_, fun p hp j c hj hc => ?_, fun p hp j hj => ?_, by have := hT.1; have := h.tl; simp only [CS.mk_R, CS.mk_cap, CS.mk_x, CS.mk_y, CS.mk_g, CS.mk_eta, MS.mk_x, MS.mk_g, MS.mk_V, MS.mk_T, MS.mk_eta, mCp]; omega, hT6, fun j c hj hc => ?_⟩
    · funext j
      rw [hg, if_neg (by omega), hg1]
      simp only [CS.mk_R, CS.mk_cap, CS.mk_x, CS.mk_y, CS.mk_g, CS.mk_eta, MS.mk_x, MS.mk_g, MS.mk_V, MS.mk_T, MS.mk_eta, mCp]
      by_cases e1 : (k = 23 ∨ k = 24) ∧ 3 * b ≤ j ∧ j < 3 * b + 3
      · rw [if_pos e1, if_pos e1, h.hg k h1 h2]
      · rw [if_neg e1, if_neg e1]
        by_cases e2 : (k = 25 ∨ k = 26 ∨ k = 27) ∧ j = b
        · rw [if_pos (by omega), if_pos e2, h.hg k h1 h2]
        · rw [if_neg (by omega), if_neg e2, h.hg k h1 h2]
    · rw [hg, if_neg (by omega), hg1, if_neg (by omega)]
      by_cases e : p = b
      · subst e; rw [if_pos (by omega)]; simp only [CS.mk_R, CS.mk_cap, CS.mk_x, CS.mk_y, CS.mk_g, CS.mk_eta, MS.mk_x, MS.mk_g, MS.mk_V, MS.mk_T, MS.mk_eta, mCp, p_ug]; exact h.n28 a ha
      · rw [if_neg (by omega)]; simp only [CS.mk_R, CS.mk_cap, CS.mk_x, CS.mk_y, CS.mk_g, CS.mk_eta, MS.mk_x, MS.mk_g, MS.mk_V, MS.mk_T, MS.mk_eta, mCp, p_un _ _ e]; exact h.n28 p hp
    · simp only [CS.mk_R, CS.mk_cap, CS.mk_x, CS.mk_y, CS.mk_g, CS.mk_eta, MS.mk_x, MS.mk_g, MS.mk_V, MS.mk_T, MS.mk_eta, mCp]
      by_cases e : p = b
      · subst e; rw [p_ug]; exact hla
      · rw [p_un _ _ e]; exact h.len p hp
    · simp only [CS.mk_R, CS.mk_cap, CS.mk_x, CS.mk_y, CS.mk_g, CS.mk_eta, MS.mk_x, MS.mk_g, MS.mk_V, MS.mk_T, MS.mk_eta, mCp] at hj ⊢
      by_cases e : p = b
      · subst e
        rw [p_ug] at hj ⊢
        rw [hg, if_pos (by omega), hw1 _ _ (by omega) (by omega), show 1200 * a + (1200 * p + j - 1200 * p) = 1200 * a + j by omega]
        exact h.win a ha j c hj hc
      · rw [p_un _ _ e] at hj ⊢
        have := h.len p hp
        rw [hg, if_neg (by omega), hw1 _ _ (by omega) (by omega)]
        exact h.win p hp j c hj hc
    · simp only [CS.mk_R, CS.mk_cap, CS.mk_x, CS.mk_y, CS.mk_g, CS.mk_eta, MS.mk_x, MS.mk_g, MS.mk_V, MS.mk_T, MS.mk_eta, mCp] at hj ⊢
      by_cases e : p = b
      · subst e; rw [p_ug] at hj ⊢; exact h.bo a ha j hj
      · rw [p_un _ _ e] at hj ⊢; exact h.bo p hp j hj
    · rw [hg, if_neg (by omega), hg1, if_neg (by omega), if_neg (by omega)]
      simp only [CS.mk_R, CS.mk_cap, CS.mk_x, CS.mk_y, CS.mk_g, CS.mk_eta, MS.mk_x, MS.mk_g, MS.mk_V, MS.mk_T, MS.mk_eta, mCp] at hj ⊢
      have := hT.1
      rw [hT.2 j hj]
      exact h.res j c (by omega) hc
  | succ m ih =>
    intro n i g him hmn hg
    obtain ⟨n, rfl⟩ : ∃ n', n = n' + 1 := ⟨n - 1, by omega⟩
    have e28 : g 28 a = nI (M.V a).length := by rw [hg, if_neg (by omega), hg1, if_neg (by omega), if_neg (by omega)]; exact h.n28 a ha
    simp only [CS.mk_R, CS.mk_cap, CS.mk_x, CS.mk_y, CS.mk_g, CS.mk_eta, MS.mk_x, MS.mk_g, MS.mk_V, MS.mk_T, MS.mk_eta, lX9_copies_103]
    rw [p_cl (show a < 2 ^ 31 by omega), e28, show (1200 : Int32) = nI 1200 from rfl, p_mul, p_mul, nI_add, nI_add]
    refine ⟨p_in7 ha, fun c => absurd c (nI_ge (by omega) (by omega)), fun _ => m_copiesWindow (by omega) (by omega) ?_ ?_⟩
    · rw [hg, if_neg (by omega), hw1 _ _ (by omega) (by omega), h.win a ha i 4 (by omega) (by omega)]
      exact (h.bo a ha i (by omega)).b
    · rintro _ rfl
      rw [nI_1]
      refine ih n (i + 1) _ (by omega) (by omega) fun k j => ?_
      unfold pcw
      by_cases e : 29 ≤ k ∧ k ≤ 34 ∧ j = 1200 * b + i
      · rw [if_pos e, hg, if_neg (by omega), if_pos (by omega)]
        congr 1; omega
      · rw [if_neg e, hg]
        by_cases e2 : 29 ≤ k ∧ k ≤ 34 ∧ 1200 * b ≤ j ∧ j < 1200 * b + i
        · rw [if_pos e2, if_pos (by omega)]
        · rw [if_neg e2, if_neg (by omega)]
theorem p_vin {a N : Nat} (h : a < N) (h2 : N < 2 ^ 31) : vp_in (nI a) N := vp_in_nI h h2
theorem m_cp2 {M x} {g0 : Nat → Nat → Int32} (h : RM M x g0) {a b : Nat} (ha : a < 7) (hb : b < 7) (hab : a ≠ b) {T : List pRow} (hT : T.length ≤ M.T.length ∧ ∀ i, i < T.length → T.getD i pz = M.T.getD i pz) (hT6 : (mCp M a b T).g 27 6 = nI T.length) {Φ : pJ} (hΦ : ∀ g, RM (mCp M a b T) x g → Φ x g) : ∀ (m n i : Nat) (g : Nat → Nat → Int32), i + m = 3 → m < n → (∀ k j, g k j = if (k = 23 ∨ k = 24) ∧ 3 * b ≤ j ∧ j < 3 * b + i then g0 k (3 * a + (j - 3 * b)) else g0 k j) → lX9_copies_2 Φ n x g (nI a) (nI b) (nI i) := by
  intro m
  induction m with
  | zero =>
    intro n i g him hmn hg
    obtain ⟨n, rfl⟩ : ∃ n', n = n' + 1 := ⟨n - 1, by omega⟩
    have hi : i = 3 := by omega
    subst hi
    have e : ∀ k j, k ≠ 23 → k ≠ 24 → g k j = g0 k j := fun k j h1 h2 => by rw [hg, if_neg (by omega)]
    refine ⟨fun _ => ⟨p_in7 ha, p_in7 hb, p_in7 ha, p_in7 hb, p_in7 ha, p_in7 hb, p_in7 ha, p_in7 hb, (M.V a).length + 1, ?_⟩, fun c => absurd (show (3 : Int32) ≤ nI 3 from by decide) c⟩
    rw [p_cl (show a < 2 ^ 31 by omega), p_cl (show b < 2 ^ 31 by omega)]
    refine m_cp103 h ha hb hab hT hT6 (g1 := _) (fun k j => ?_) hΦ (M.V a).length _ 0 _ (by omega) (by omega) (fun k j => by rw [if_neg (by omega)])
    unfold va_up upd
    by_cases k8 : k = 28
    · subst k8; simp [CS.mk_R, CS.mk_cap, CS.mk_x, CS.mk_y, CS.mk_g, CS.mk_eta, MS.mk_x, MS.mk_g, MS.mk_V, MS.mk_T, MS.mk_eta, e]
    by_cases k7 : k = 27
    · subst k7; simp [CS.mk_R, CS.mk_cap, CS.mk_x, CS.mk_y, CS.mk_g, CS.mk_eta, MS.mk_x, MS.mk_g, MS.mk_V, MS.mk_T, MS.mk_eta, e]
    by_cases k6 : k = 26
    · subst k6; simp [CS.mk_R, CS.mk_cap, CS.mk_x, CS.mk_y, CS.mk_g, CS.mk_eta, MS.mk_x, MS.mk_g, MS.mk_V, MS.mk_T, MS.mk_eta, e]
    by_cases k5 : k = 25
    · subst k5; simp [CS.mk_R, CS.mk_cap, CS.mk_x, CS.mk_y, CS.mk_g, CS.mk_eta, MS.mk_x, MS.mk_g, MS.mk_V, MS.mk_T, MS.mk_eta, e]
    rw [if_neg k8, if_neg k7, if_neg k6, if_neg k5, hg]
    by_cases e2 : (k = 23 ∨ k = 24) ∧ 3 * b ≤ j ∧ j < 3 * b + 3
    · rw [if_pos e2, if_pos e2]
    · rw [if_neg e2, if_neg e2, if_neg (by omega)]
  | succ m ih =>
    intro n i g him hmn hg
    obtain ⟨n, rfl⟩ : ∃ n', n = n' + 1 := ⟨n - 1, by omega⟩
    have i1 : vp_in (nI (3 * a + i)) 21 := p_vin (by omega) (by omega)
    have i2 : vp_in (nI (3 * b + i)) 21 := p_vin (by omega) (by omega)
    simp only [CS.mk_R, CS.mk_cap, CS.mk_x, CS.mk_y, CS.mk_g, CS.mk_eta, MS.mk_x, MS.mk_g, MS.mk_V, MS.mk_T, MS.mk_eta, lX9_copies_2]
    rw [show (3 : Int32) * nI a + nI i = nI (3 * a + i) by rw [show (3 : Int32) = nI 3 from rfl, p_mul, nI_add], show (3 : Int32) * nI b + nI i = nI (3 * b + i) by rw [show (3 : Int32) = nI 3 from rfl, p_mul, nI_add], p_cl (show 3 * a + i < 2 ^ 31 by omega), p_cl (show 3 * b + i < 2 ^ 31 by omega)]
    refine ⟨fun c => absurd (show nI 3 ≤ nI i from c) (nI_ge (by omega) (by omega)), fun _ => ⟨i1, i2, i1, i2, ?_⟩⟩
    rintro _ rfl
    rw [nI_1]
    refine ih n (i + 1) _ (by omega) (by omega) fun k j => ?_
    unfold va_up upd
    have s3 : ∀ k, g k (3 * a + i) = g0 k (3 * a + i) := fun k => by rw [hg, if_neg (by omega)]
    by_cases k4 : k = 24
    · subst k4
      rw [if_pos rfl]
      by_cases ej : j = 3 * b + i
      · subst ej; rw [if_pos rfl, if_pos (by omega), s3]; congr 1; omega
      · rw [if_neg ej, hg]
        by_cases e2 : (24 = 23 ∨ 24 = 24) ∧ 3 * b ≤ j ∧ j < 3 * b + i
        · rw [if_pos e2, if_pos (by omega)]
        · rw [if_neg e2, if_neg (by omega)]
    by_cases k3 : k = 23
    · subst k3
      rw [if_neg (by omega), if_pos rfl]
      by_cases ej : j = 3 * b + i
      · subst ej; rw [if_pos rfl, if_pos (by omega), s3]; congr 1; omega
      · rw [if_neg ej, hg]
        by_cases e2 : (23 = 23 ∨ 23 = 24) ∧ 3 * b ≤ j ∧ j < 3 * b + i
        · rw [if_pos e2, if_pos (by omega)]
        · rw [if_neg e2, if_neg (by omega)]
    rw [if_neg k4, if_neg k3, hg, if_neg (by omega), if_neg (by omega)]
theorem m_copies {M x g} (h : RM M x g) {a b : Nat} (ha : a < 7) (hb : b < 7) (hab : a ≠ b) {T : List pRow} (hT : T.length ≤ M.T.length ∧ ∀ i, i < T.length → T.getD i pz = M.T.getD i pz) (hT6 : (mCp M a b T).g 27 6 = nI T.length) {Φ : pJ} (hΦ : ∀ g, RM (mCp M a b T) x g → Φ x g) : wX9_copies x g (nI a) (nI b) Φ :=
  ⟨4, m_cp2 h ha hb hab hT hT6 hΦ 3 4 0 g (by omega) (by omega) (fun k j => by rw [if_neg (by omega)])⟩
def mBg (M : MS) (b : Nat) (T : List pRow) : MS :=
  (MS.mk M.x (fun k j => if k = 23 ∧ 3 * b ≤ j ∧ j < 3 * b + 3 then 0 else if k = 24 ∧ 3 * b ≤ j ∧ j < 3 * b + 3 then -1 else if k = 25 ∧ j = b then -1 else if (k = 26 ∨ k = 27) ∧ j = b then 0 else M.g k j) (va_up M.V b []) T)
theorem m_bgL {M x} {g0 : Nat → Nat → Int32} (h : RM M x g0) {b : Nat} (hb : b < 7) {T : List pRow} (hT : T.length ≤ M.T.length ∧ ∀ i, i < T.length → T.getD i pz = M.T.getD i pz) (hT6 : (mBg M b T).g 27 6 = nI T.length) {Φ : pJ} (hΦ : ∀ g, RM (mBg M b T) x g → Φ x g) : ∀ (m n i : Nat) (g : Nat → Nat → Int32), i + m = 3 → m < n → (∀ k j, g k j = if k = 23 ∧ 3 * b ≤ j ∧ j < 3 * b + i then 0 else if k = 24 ∧ 3 * b ≤ j ∧ j < 3 * b + i then -1 else g0 k j) → lX9_begins_2 Φ n x g (nI b) (nI i) := by
  intro m
  induction m with
  | zero =>
    intro n i g him hmn hg
    obtain ⟨n, rfl⟩ : ∃ n', n = n' + 1 := ⟨n - 1, by omega⟩
    have hi : i = 3 := by omega
    subst hi
    have e : ∀ k j, k ≠ 23 → k ≠ 24 → g k j = g0 k j := fun k j h1 h2 => by rw [hg, if_neg (by omega), if_neg (by omega)]
    refine ⟨fun _ => ⟨p_in7 hb, p_in7 hb, p_in7 hb, p_in7 hb, ?_⟩, fun c => absurd (show (3 : Int32) ≤ nI 3 from by decide) c⟩
    rw [p_cl (show b < 2 ^ 31 by omega)]
    have hf : ∀ k j, (va_up (va_up (va_up (va_up g 25 (upd (g 25) b (-1))) 26 (upd (g 26) b 0)) 27 (upd (g 27) b 0)) 28 (upd (g 28) b 0)) k j = if k = 28 ∧ j = b then 0 else if k = 23 ∧ 3 * b ≤ j ∧ j < 3 * b + 3 then 0 else if k = 24 ∧ 3 * b ≤ j ∧ j < 3 * b + 3 then -1 else if k = 25 ∧ j = b then -1 else if (k = 26 ∨ k = 27) ∧ j = b then 0 else g0 k j := fun k j => by
      unfold va_up upd
      by_cases k8 : k = 28
      · subst k8; simp [CS.mk_R, CS.mk_cap, CS.mk_x, CS.mk_y, CS.mk_g, CS.mk_eta, MS.mk_x, MS.mk_g, MS.mk_V, MS.mk_T, MS.mk_eta, e]
      by_cases k7 : k = 27
      · subst k7; simp [CS.mk_R, CS.mk_cap, CS.mk_x, CS.mk_y, CS.mk_g, CS.mk_eta, MS.mk_x, MS.mk_g, MS.mk_V, MS.mk_T, MS.mk_eta, e]
      by_cases k6 : k = 26
      · subst k6; simp [CS.mk_R, CS.mk_cap, CS.mk_x, CS.mk_y, CS.mk_g, CS.mk_eta, MS.mk_x, MS.mk_g, MS.mk_V, MS.mk_T, MS.mk_eta, e]
      by_cases k5 : k = 25
      · subst k5; simp [CS.mk_R, CS.mk_cap, CS.mk_x, CS.mk_y, CS.mk_g, CS.mk_eta, MS.mk_x, MS.mk_g, MS.mk_V, MS.mk_T, MS.mk_eta, e]
      rw [if_neg k8, if_neg k7, if_neg k6, if_neg k5, hg]
      rw [show (if k = 28 ∧ j = b then (0 : Int32) else if k = 23 ∧ 3 * b ≤ j ∧ j < 3 * b + 3 then 0 else if k = 24 ∧ 3 * b ≤ j ∧ j < 3 * b + 3 then -1 else if k = 25 ∧ j = b then -1 else if (k = 26 ∨ k = 27) ∧ j = b then 0 else g0 k j) = if k = 23 ∧ 3 * b ≤ j ∧ j < 3 * b + 3 then 0 else if k = 24 ∧ 3 * b ≤ j ∧ j < 3 * b + 3 then -1 else if k = 25 ∧ j = b then -1 else if (k = 26 ∨ k = 27) ∧ j = b then 0 else g0 k j from if_neg (fun q => k8 q.1)]
      by_cases e2 : k = 23 ∧ 3 * b ≤ j ∧ j < 3 * b + 3
      · rw [if_pos e2, if_pos e2]
      · rw [if_neg e2, if_neg e2]
        by_cases e3 : k = 24 ∧ 3 * b ≤ j ∧ j < 3 * b + 3
        · rw [if_pos e3, if_pos e3]
        · rw [if_neg e3, if_neg e3, if_neg (by omega), if_neg (by omega)]
    generalize (va_up (va_up (va_up (va_up g 25 (upd (g 25) b (-1))) 26 (upd (g 26) b 0)) 27 (upd (g 27) b 0)) 28 (upd (g 28) b 0)) = gf at hf ⊢
    refine hΦ _ ⟨h.hx, fun k h1 h2 => ?_, fun p hp => ?_, fun p hp => ?_, fun p hp j c hj hc => ?_, fun p hp j hj => ?_, by have := hT.1; have := h.tl; simp only [CS.mk_R, CS.mk_cap, CS.mk_x, CS.mk_y, CS.mk_g, CS.mk_eta, MS.mk_x, MS.mk_g, MS.mk_V, MS.mk_T, MS.mk_eta, mBg]; omega, hT6, fun j c hj hc => ?_⟩
    · funext j
      rw [hf, if_neg (by omega)]
      simp only [CS.mk_R, CS.mk_cap, CS.mk_x, CS.mk_y, CS.mk_g, CS.mk_eta, MS.mk_x, MS.mk_g, MS.mk_V, MS.mk_T, MS.mk_eta, mBg, h.hg k h1 h2]
    · rw [hf]
      by_cases e2 : p = b
      · subst e2; rw [if_pos (by omega)]; simp only [CS.mk_R, CS.mk_cap, CS.mk_x, CS.mk_y, CS.mk_g, CS.mk_eta, MS.mk_x, MS.mk_g, MS.mk_V, MS.mk_T, MS.mk_eta, mBg, p_ug]; rfl
      · rw [if_neg (by omega), if_neg (by omega), if_neg (by omega), if_neg (by omega), if_neg (by omega)]; simp only [CS.mk_R, CS.mk_cap, CS.mk_x, CS.mk_y, CS.mk_g, CS.mk_eta, MS.mk_x, MS.mk_g, MS.mk_V, MS.mk_T, MS.mk_eta, mBg, p_un _ _ e2]; exact h.n28 p hp
    · simp only [CS.mk_R, CS.mk_cap, CS.mk_x, CS.mk_y, CS.mk_g, CS.mk_eta, MS.mk_x, MS.mk_g, MS.mk_V, MS.mk_T, MS.mk_eta, mBg]
      by_cases e2 : p = b
      · subst e2; rw [p_ug]; simp
      · rw [p_un _ _ e2]; exact h.len p hp
    · simp only [CS.mk_R, CS.mk_cap, CS.mk_x, CS.mk_y, CS.mk_g, CS.mk_eta, MS.mk_x, MS.mk_g, MS.mk_V, MS.mk_T, MS.mk_eta, mBg] at hj ⊢
      by_cases e2 : p = b
      · subst e2; rw [p_ug] at hj; simp at hj
      · rw [p_un _ _ e2] at hj ⊢
        rw [hf, if_neg (by omega), if_neg (by omega), if_neg (by omega), if_neg (by omega), if_neg (by omega)]
        exact h.win p hp j c hj hc
    · simp only [CS.mk_R, CS.mk_cap, CS.mk_x, CS.mk_y, CS.mk_g, CS.mk_eta, MS.mk_x, MS.mk_g, MS.mk_V, MS.mk_T, MS.mk_eta, mBg] at hj ⊢
      by_cases e2 : p = b
      · subst e2; rw [p_ug] at hj; simp at hj
      · rw [p_un _ _ e2] at hj ⊢; exact h.bo p hp j hj
    · simp only [CS.mk_R, CS.mk_cap, CS.mk_x, CS.mk_y, CS.mk_g, CS.mk_eta, MS.mk_x, MS.mk_g, MS.mk_V, MS.mk_T, MS.mk_eta, mBg] at hj ⊢
      have := hT.1
      rw [hf, if_neg (by omega), if_neg (by omega), if_neg (by omega), if_neg (by omega), if_neg (by omega), hT.2 j hj]
      exact h.res j c (by omega) hc
  | succ m ih =>
    intro n i g him hmn hg
    obtain ⟨n, rfl⟩ : ∃ n', n = n' + 1 := ⟨n - 1, by omega⟩
    have i2 : vp_in (nI (3 * b + i)) 21 := p_vin (by omega) (by omega)
    simp only [CS.mk_R, CS.mk_cap, CS.mk_x, CS.mk_y, CS.mk_g, CS.mk_eta, MS.mk_x, MS.mk_g, MS.mk_V, MS.mk_T, MS.mk_eta, lX9_begins_2]
    rw [show (3 : Int32) * nI b + nI i = nI (3 * b + i) by rw [show (3 : Int32) = nI 3 from rfl, p_mul, nI_add], p_cl (show 3 * b + i < 2 ^ 31 by omega)]
    refine ⟨fun c => absurd (show nI 3 ≤ nI i from c) (nI_ge (by omega) (by omega)), fun _ => ⟨i2, i2, ?_⟩⟩
    rintro _ rfl
    rw [nI_1]
    refine ih n (i + 1) _ (by omega) (by omega) fun k j => ?_
    unfold va_up upd
    by_cases k4 : k = 24
    · subst k4
      rw [if_pos rfl]
      by_cases ej : j = 3 * b + i
      · rw [if_pos ej]; (repeat' split) <;> first | rfl | omega
      · rw [if_neg ej, hg]; (repeat' split) <;> first | rfl | omega
    by_cases k3 : k = 23
    · subst k3
      rw [if_neg (by omega), if_pos rfl]
      by_cases ej : j = 3 * b + i
      · rw [if_pos ej]; (repeat' split) <;> first | rfl | omega
      · rw [if_neg ej, hg]; (repeat' split) <;> first | rfl | omega
    rw [if_neg k4, if_neg k3, hg]; (repeat' split) <;> first | rfl | omega
theorem m_begins {M x g} (h : RM M x g) {b : Nat} (hb : b < 7) {T : List pRow} (hT : T.length ≤ M.T.length ∧ ∀ i, i < T.length → T.getD i pz = M.T.getD i pz) (hT6 : (mBg M b T).g 27 6 = nI T.length) {Φ : pJ} (hΦ : ∀ g, RM (mBg M b T) x g → Φ x g) : wX9_begins x g (nI b) Φ :=
  ⟨4, m_bgL h hb hT hT6 hΦ 3 4 0 g (by omega) (by omega) (fun k j => by rw [if_neg (by omega), if_neg (by omega)])⟩
