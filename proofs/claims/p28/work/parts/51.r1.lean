def mFs (k v : Int32) : MS → List Int32 → MS
  | M, [] => M
  | M, b :: bs => mFs k v (mFixed M k b v) bs
def mBegins (t sz sl : Nat) : Nat → Nat → List Int32
  | 0, _ => []
  | m + 1, b => if t < b then [] else if b + sz ≤ t then mBegins t sz sl m (b + sl) else nI b :: mBegins t sz sl m (b + sl)
def mFsOK (k v : Int32) : MS → List Int32 → Prop
  | _, [] => True
  | M, b :: bs => pUniq (M.V 6) ∧ (M.V 6).length < 1200 ∧ M.T.length + 2 ≤ 8000 ∧ mFsOK k v (mFixed M k b v) bs
theorem mFixed_pl (M : MS) (k b v : Int32) : (mFixed M k b v).g 6 = M.g 6 := by
  have hr : ∀ (M : MS) i, (mRipe M i).g 6 = M.g 6 := fun M i => by
    unfold mRipe
    split
    · exact (mApp_same M _).2.2.1 6 (by omega)
    · rfl
  unfold mFixed
  split
  · rfl
  · split
    · exact hr _ _
    · exact hr _ _
def mComes (M : MS) (k v : Int32) (t sz sl : Nat) : MS :=
  if M.g 6 4 = 2 then mSes M k (nI t) v
  else if M.g 6 4 = 0 then mFixed M k (nI (t / sz * sz)) v
  else mFs k v M (mBegins t sz sl (t / sl + 1) 0)
def tbC (M : MS) (i : Nat) (f : Option Nat) : Bool := match f with | none => true | some j => !decide (M.g 21 i < M.g 21 j)
def tbStep (M : MS) (k t : Int32) (f : Option Nat) (i : Nat) : Option Nat := if M.g 20 i = k ∧ ¬ t < M.g 21 i ∧ tbC M i f = true then some i else f
theorem tb_yes {M : MS} {k t : Int32} {f : Option Nat} {i : Nat} (a : M.g 20 i = k) (b : ¬ t < M.g 21 i) (c : tbC M i f = true) : tbStep M k t f i = some i := if_pos ⟨a, b, c⟩
theorem tb_no {M : MS} {k t : Int32} {f : Option Nat} {i : Nat} (a : ¬ (M.g 20 i = k ∧ ¬ t < M.g 21 i ∧ tbC M i f = true)) : tbStep M k t f i = f := if_neg a
theorem tbC_some {M : MS} {i j : Nat} : tbC M i (some j) = true ↔ ¬ M.g 21 i < M.g 21 j := by simp [CS.mk_R, CS.mk_cap, CS.mk_x, CS.mk_y, CS.mk_g, CS.mk_eta, MS.mk_x, MS.mk_g, MS.mk_V, MS.mk_T, MS.mk_eta, tbC]
def mJoin (M : MS) (N : Nat) (k t : Int32) : Int32 := match (List.range' 0 N).foldl (tbStep M k t) none with | none => 0 | some j => M.g 22 j
def mLets (M : MS) (v : Int32) : Int32 := if M.g 6 1 = 0 then 1 else if M.g 6 1 = 1 then (if M.g 6 2 ≤ v then 0 else 1) else if M.g 6 1 = 2 then (if v = M.g 6 2 then 1 else 0) else (if v ≤ M.g 6 2 then 0 else 1)
abbrev pLt (r s : pRow) : Prop := r 2 < s 2 ∨ (r 2 = s 2 ∧ (r 1 < s 1 ∨ (r 1 = s 1 ∧ r 0 < s 0)))
abbrev pUnt (mk : Int32) (r : pRow) : Prop := r 4 = 0 ∧ r 2 ≤ mk
def oW : Option Nat → Int32
  | none => -1
  | some q => nI (7200 + q)
def ntInv (M : MS) (i : Nat) (f : Option Nat) : Prop := match f with
  | none => ∀ j, j < i → ¬ pUnt (M.g 25 6) (mRow M j)
  | some q => q < i ∧ pUnt (M.g 25 6) (mRow M q) ∧ ∀ j, j < i → pUnt (M.g 25 6) (mRow M j) → j = q ∨ ¬ pLt (mRow M j) (mRow M q)
theorem pLt_trans {r s t : pRow} (h : pLt r s) (h2 : pLt s t) : pLt r t := by
  unfold pLt at *
  simp only [CS.mk_R, CS.mk_cap, CS.mk_x, CS.mk_y, CS.mk_g, CS.mk_eta, MS.mk_x, MS.mk_g, MS.mk_V, MS.mk_T, MS.mk_eta, i_lt, i_eq] at *
  omega
theorem pLt_irr {r : pRow} (h : pLt r r) : False := by
  unfold pLt at *
  simp only [CS.mk_R, CS.mk_cap, CS.mk_x, CS.mk_y, CS.mk_g, CS.mk_eta, MS.mk_x, MS.mk_g, MS.mk_V, MS.mk_T, MS.mk_eta, i_lt, i_eq] at *
  omega
theorem nt_trans {r s t : pRow} (h : pLt r s) (h2 : ¬ pLt t s) : ¬ pLt t r := fun h3 => h2 (pLt_trans h3 h)
theorem p_mem_getD {W : List pRow} {r : pRow} (h : r ∈ W) : ∃ j, j < W.length ∧ W.getD j pz = r := by
  obtain ⟨j, hj, e⟩ := List.getElem_of_mem h
  exact ⟨j, hj, by simp [CS.mk_R, CS.mk_cap, CS.mk_x, CS.mk_y, CS.mk_g, CS.mk_eta, MS.mk_x, MS.mk_g, MS.mk_V, MS.mk_T, MS.mk_eta, List.getD, hj, e]⟩
theorem p_getD_mem {W : List pRow} {j : Nat} (h : j < W.length) : W.getD j pz ∈ W := by
  simp [CS.mk_R, CS.mk_cap, CS.mk_x, CS.mk_y, CS.mk_g, CS.mk_eta, MS.mk_x, MS.mk_g, MS.mk_V, MS.mk_T, MS.mk_eta, List.getD, h]
theorem tIf_unt {mk : Int32} {r : pRow} (h : pUnt mk r) : tIf mk r = tWin r := if_pos ⟨h.2, h.1⟩
theorem tIf_no {mk : Int32} {r : pRow} (h : ¬ pUnt mk r) : tIf mk r = r := if_neg fun e => h ⟨e.2, e.1⟩
theorem tWin_no {mk : Int32} {r : pRow} : ¬ pUnt mk (tWin r) := fun h => absurd h.1 (show ¬ (1 : Int32) = 0 by decide)
theorem p_app_rev {B C : List pRow} {r : pRow} : (r :: B).reverse ++ C = B.reverse ++ r :: C := by simp
def mTD (M : MS) (U : List pRow) : MS := mWin (mApp M (U.flatMap (tRes (mMode (M.g 6 8))))) (((M.V 6).map (tIf (M.g 25 6))).filter fun r => !mOver M (r 2))
abbrev pU (M : MS) (U : List pRow) : Prop := (U.Pairwise pLt) ∧ (∀ r, r ∈ U ↔ r ∈ M.V 6 ∧ pUnt (M.g 25 6) r) ∧ (M.T.length + U.length + 2 ≤ 8000)
theorem pU.s {M : MS} {U : List pRow} (h_ : pU M U) : U.Pairwise pLt := h_.1
theorem pU.m {M : MS} {U : List pRow} (h_ : pU M U) : ∀ r, r ∈ U ↔ r ∈ M.V 6 ∧ pUnt (M.g 25 6) r := h_.2.1
theorem pU.t {M : MS} {U : List pRow} (h_ : pU M U) : M.T.length + U.length + 2 ≤ 8000 := h_.2.2
def mFindT (M : MS) (U : Int32 → List pRow) : Option (Option Int32) → MS
  | some (some l) => if l ≤ M.g 25 6 then M else mTD (mG M 25 6 l) (U l)
  | _ => M
def fwmM (M : MS) : Option (Option Int32) := fwm (M.g 18) (fun i => M.g 23 (18 + i)) (fun i => M.g 24 (18 + i) - M.g 17 i) [0, 1, 2] none
def mCp (M : MS) (a b : Nat) (T : List pRow) : MS :=
  (MS.mk M.x (fun k j => if (k = 23 ∨ k = 24) ∧ 3 * b ≤ j ∧ j < 3 * b + 3 then M.g k (3 * a + (j - 3 * b)) else if (k = 25 ∨ k = 26 ∨ k = 27) ∧ j = b then M.g k a else M.g k j) (va_up M.V b (M.V a)) T)
theorem p_in7 {a : Nat} (h : a < 7) : vp_in (nI a) 7 := vp_in_nI h (by omega)
theorem p_vin {a N : Nat} (h : a < N) (h2 : N < 2 ^ 31) : vp_in (nI a) N := vp_in_nI h h2
def mBg (M : MS) (b : Nat) (T : List pRow) : MS :=
  (MS.mk M.x (fun k j => if k = 23 ∧ 3 * b ≤ j ∧ j < 3 * b + 3 then 0 else if k = 24 ∧ 3 * b ≤ j ∧ j < 3 * b + 3 then -1 else if k = 25 ∧ j = b then -1 else if (k = 26 ∨ k = 27) ∧ j = b then 0 else M.g k j) (va_up M.V b []) T)
