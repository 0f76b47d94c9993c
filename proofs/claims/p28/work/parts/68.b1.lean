/-! ===== the law's queries ===== -/
theorem dm {X a b : Nat} {A B : Int32} (hA : A = nI a) (hB : B = nI b) (hX : X < 2 ^ 31) (h0 : 0 < a) (h1 : a < 2 ^ 31) (h2 : 0 < b) (h3 : b < 2 ^ 31) : nI X / A - nI X / A / B * B = nI (X / a % b) := by
  have : X / a ≤ X := Nat.div_le_self _ _
  rw [hA, hB, p_div hX h0 h1, p_rem (by omega) h2 h3]
theorem rm {X b : Nat} {B : Int32} (hB : B = nI b) (hX : X < 2 ^ 31) (h2 : 0 < b) (h3 : b < 2 ^ 31) : nI X - nI X / B * B = nI (X % b) := by
  rw [hB, p_rem hX h2 h3]
theorem nI_is {a b : Nat} {B : Int32} (hB : B = nI b) (ha : a < 2 ^ 31) (hb : b < 2 ^ 31) : nI a = B ↔ a = b := by
  rw [hB]; exact nI_eq ha hb
section QUE
variable {S0 : CS} {M0 : MS} {d : GD} {l : List Nat} {x : Nat → Nat → Int32} {y : Nat → Nat → Nat} {g : Nat → Nat → Nat → Int32} {qf cf : Nat → Int32} {bc bs : Nat} {Φ : pL} {X Y : Nat}
theorem h_mode (hX : X < 2 ^ 30) (hY : Y < 2 ^ 30) {v4 : Int32} (hv4 : v4 = 0 ∨ v4 = 1) (h : TJ S0 M0 d l x y g) (hl : l.length ≤ 53) (h1 : 7 ≤ bc) (h2 : 490 ≤ bs) (hΦ : ∀ x y g qf', TJ S0 M0 d (l ++ tM (Y / 12960 % 4) (decide (X / 21600 % 2 = 0))) x y g → (∀ j, j ≠ 5 → qf' j = qf j) → qf' 5 = nI (Y / 12960 % 4) → Φ v4 x y g qf' cf) : jL_queries_482 Φ x y g qf cf (nI X) (nI Y) v4 bc bs := by
  unfold jL_queries_482
  rw [dm (A := 12960) (B := 4) (a := 12960) (b := 4) rfl rfl (by omega) (by omega) (by omega) (by omega) (by omega)]
  have hm : Y / 12960 % 4 < 4 := Nat.mod_lt _ (by omega)
  generalize Y / 12960 % 4 = m at hm hΦ ⊢
  rintro qf' rfl
  have e5 : upd qf 5 (nI m) 5 = nI m := by unfold upd; rw [if_pos rfl]
  have eo : ∀ j, j ≠ 5 → upd qf 5 (nI m) j = qf j := fun j hj => by unfold upd; rw [if_neg hj]
  have done : ∀ x y g, TJ S0 M0 d (l ++ tM m (decide (X / 21600 % 2 = 0))) x y g → (v4 = 0 ∨ v4 = 1) ∧ Φ v4 x y g (upd qf 5 (nI m)) cf := fun x y g q => ⟨hv4, hΦ x y g _ q eo e5⟩
  generalize upd qf 5 (nI m) = qf' at e5 done ⊢
  have h605 : ∀ u1 u2 u3 u4 : Nat, (∀ b : Nat, b = 0 ∨ b = 32 → ∀ k, k < 7 → ([32, u1, u2, u3, u4, b, 0] : List Nat).getD k 0 = 0 ∨ 32 ≤ ([32, u1, u2, u3, u4, b, 0] : List Nat).getD k 0 ∧ ([32, u1, u2, u3, u4, b, 0] : List Nat).getD k 0 < 127) → (∀ b : Bool, tnz (fun k => ([32, u1, u2, u3, u4, if b then 32 else 0, 0] : List Nat).getD k 0) 7 0 = tM m b) → jL_queries_605 Φ x y g qf' cf (nI X) v4 32 (nI u1) (nI u2) (nI u3) (nI u4) bc bs := by
    intro u1 u2 u3 u4 hu ht
    unfold jL_queries_605
    rw [dm (A := 21600) (B := 2) (a := 21600) (b := 2) rfl rfl (by omega) (by omega) (by omega) (by omega) (by omega)]
    refine ⟨fun c => ?_, fun c => ?_⟩
    · have c := (nI_is (b := 0) rfl (by omega) (by omega)).1 c
      rw [decide_eq_true c] at done
      have ht := ht true
      exact ⟨7, 490, bc - 7, bs - 490, by omega, by omega, h_types 32 u1 u2 u3 u4 32 0 (hu 32 (.inr rfl)) h hl (Nat.le_refl _) (Nat.le_refl _) fun x y g q => done x y g (ht ▸ q)⟩
    · have c : ¬ X / 21600 % 2 = 0 := fun z => c (by rw [z]; rfl)
      rw [decide_eq_false c] at done
      have ht := ht false
      exact ⟨7, 490, bc - 7, bs - 490, by omega, by omega, h_types 32 u1 u2 u3 u4 0 0 (hu 0 (.inl rfl)) h hl (Nat.le_refl _) (Nat.le_refl _) fun x y g q => done x y g (ht ▸ q)⟩
  have hm4 : m = 0 ∨ m = 1 ∨ m = 2 ∨ m = 3 := by omega
  unfold jL_queries_527 jL_queries_553 jL_queries_579
  rw [e5]
  rcases hm4 with rfl | rfl | rfl | rfl
  · refine ify (by decide) (done x y g ?_)
    show TJ S0 M0 d (l ++ []) x y g
    rw [List.append_nil]; exact h
  · refine ifn (by decide) (ify rfl (ify rfl (ify rfl (ify rfl (h605 97 110 101 119 (fun b hb => ?_) (fun b => by cases b <;> rfl))))))
    rcases hb with rfl | rfl <;> decide
  · refine ifn (by decide) (ifn (by decide) (ify rfl (ifn (by decide) (ify rfl (ifn (by decide) (ify rfl (ifn (by decide) (ify rfl (h605 100 105 102 102 (fun b hb => ?_) (fun b => by cases b <;> rfl))))))))))
    rcases hb with rfl | rfl <;> decide
  · refine ifn (by decide) (ifn (by decide) (ifn (by decide) (ifn (by decide) (ifn (by decide) (ifn (by decide) (ifn (by decide) (ifn (by decide) (ifn (by decide) (h605 98 97 99 107 (fun b hb => ?_) (fun b => by cases b <;> rfl))))))))))
    rcases hb with rfl | rfl <;> decide
def lateV (Y : Nat) : Nat := if Y / 216 % 3 = 0 then 0 else Y / 648 % 20
def lateO (Y : Nat) : Option Nat := if 0 < lateV Y ∨ Y / 216 % 3 = 1 then some (lateV Y) else none
theorem lateV_lt (Y : Nat) : lateV Y < 20 := by
  unfold lateV
  split
  · omega
  · exact Nat.mod_lt _ (by omega)
theorem lateO_v (Y : Nat) : ltN (lateO Y) = lateV Y := by
  unfold lateO
  split
  · rfl
  · next h => show 0 = lateV Y; omega
theorem figs_len (v : Nat) : (figs v).length ≤ 2 := by
  unfold figs
  split
  · exact Nat.le_succ 1
  · exact Nat.le_refl 2
theorem h_late (hX : X < 2 ^ 30) (hY : Y < 2 ^ 30) {v4 : Int32} (hv4 : v4 = 0 ∨ v4 = 1) (h : TJ S0 M0 d l x y g) (hl : l.length ≤ 45) (h1 : 21 ≤ bc) (h2 : 1470 ≤ bs) (hΦ : ∀ x y g qf', TJ S0 M0 d (l ++ (tL (lateO Y) ++ tM (Y / 12960 % 4) (decide (X / 21600 % 2 = 0)))) x y g → (∀ j, j ≠ 4 → j ≠ 5 → qf' j = qf j) → qf' 4 = nI (lateV Y) → qf' 5 = nI (Y / 12960 % 4) → Φ v4 x y g qf' cf) : jL_queries_416 Φ x y g qf cf (nI X) (nI Y) v4 bc bs := by
  have hlv := lateV_lt Y
  have d216 : nI Y / 216 - nI Y / 216 / 3 * 3 = nI (Y / 216 % 3) := dm (a := 216) (b := 3) rfl rfl (by omega) (by omega) (by omega) (by omega) (by omega)
  have d648 : nI Y / 648 - nI Y / 648 / 20 * 20 = nI (Y / 648 % 20) := dm (a := 648) (b := 20) rfl rfl (by omega) (by omega) (by omega) (by omega) (by omega)
  have j440 : jL_queries_440 Φ x y g qf cf (nI X) (nI Y) v4 4 (nI (lateV Y)) bc bs := by
    unfold jL_queries_440
    refine ⟨by unfold vp_in; decide, ?_⟩
    rw [p_4]
    rintro qf' rfl
    have e4 : upd qf 4 (nI (lateV Y)) 4 = nI (lateV Y) := by unfold upd; rw [if_pos rfl]
    have eo : ∀ j, j ≠ 4 → upd qf 4 (nI (lateV Y)) j = qf j := fun j hj => by unfold upd; rw [if_neg hj]
    generalize upd qf 4 (nI (lateV Y)) = qf1 at e4 eo ⊢
    rw [d216, e4]
    have j458 : lateO Y = some (lateV Y) → jL_queries_458 Φ x y g qf1 cf (nI X) (nI Y) v4 bc bs := fun eO => by
      rw [eO] at hΦ
      unfold jL_queries_458
      refine ⟨7, 490, bc - 7, bs - 490, by omega, by omega, h_types 32 108 97 116 101 32 0 (by decide) h (by omega) (Nat.le_refl _) (Nat.le_refl _) fun x y g q => ?_⟩
      have q : TJ S0 M0 d (l ++ [32, 108, 97, 116, 101, 32]) x y g := q
      have hl2 : (l ++ [32, 108, 97, 116, 101, 32]).length = l.length + 6 := by rw [List.length_append]; rfl
      rw [e4]
      refine ⟨7, 490, bc - 14, bs - 980, by omega, by omega, h_figs (by omega) q (by omega) (Nat.le_refl _) (Nat.le_refl _) fun x y g q => ?_⟩
      have hl3 := figs_len (lateV Y)
      refine h_mode hX hY hv4 q (by rw [List.length_append]; omega) (by omega) (by omega) fun x y g qf' q e1 e2 => hΦ x y g qf' ?_ (fun j a b => (e1 j b).trans (eo j a)) ((e1 4 (by omega)).trans e4) e2
      have el : l ++ [32, 108, 97, 116, 101, 32] ++ figs (lateV Y) ++ tM (Y / 12960 % 4) (decide (X / 21600 % 2 = 0)) = l ++ (tL (some (lateV Y)) ++ tM (Y / 12960 % 4) (decide (X / 21600 % 2 = 0))) := by
        rw [List.append_assoc, List.append_assoc]; rfl
      rw [← el]; exact q
    refine ⟨fun c => j458 ?_, fun c => ⟨fun c2 => j458 ?_, fun c2 => ?_⟩⟩
    · have c : 0 < lateV Y := (nI_ltI (a := 0) (by omega) (by omega)).1 c
      unfold lateO; rw [if_pos (.inl c)]
    · have c2 := (nI_is (b := 1) rfl (by omega) (by omega)).1 c2
      unfold lateO; rw [if_pos (.inr c2)]
    · have eO : lateO Y = none := by
        unfold lateO
        refine if_neg fun z => ?_
        rcases z with z | z
        · exact c (nI_lt (a := 0) z (by omega))
        · exact c2 (by rw [z]; rfl)
      rw [eO] at hΦ
      exact h_mode hX hY hv4 h (by omega) (by omega) (by omega) fun x y g qf' q e1 e2 => hΦ x y g qf' q (fun j a b => (e1 j b).trans (eo j a)) ((e1 4 (by omega)).trans e4) e2
  unfold jL_queries_416
  rw [d216, d648]
  refine ⟨fun c => ?_, fun c => ?_⟩
  · have c := (nI_is (b := 0) rfl (by omega) (by omega)).1 c
    have e : lateV Y = 0 := if_pos c
    rw [e] at j440; exact j440
  · have c : ¬ Y / 216 % 3 = 0 := fun z => c (by rw [z]; rfl)
    have e : lateV Y = Y / 648 % 20 := if_neg c
    rw [e] at j440; exact j440
end QUE
