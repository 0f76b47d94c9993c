/-! ===== a new object of the class is its world at the beginning ===== -/
def s0ad (o : Nat) (u : Nat → Nat) : Nat → Nat → Nat := fun k i => ((([[o], [u 0], [u 2], [u 3], [u 14, u 17, u 20], [u 15, u 18, u 21, u 4, u 6, u 11, u 28, u 33, u 38, u 43, u 48, u 53], [u 8, u 25, u 30, u 35, u 40, u 45, u 50], [u 9, u 26, u 31, u 36, u 41, u 46, u 51], [u 10, u 27, u 32, u 37, u 42, u 47, u 52], [u 23], [u 24]] : List (List Nat)).getD k []).getD i 0)
def s0x : Nat → Nat → Int32 := fun k i => ((([[6, 6, 6, 3, 5, 6, 6, 6, 6, 6, 6, 6], [0, 0, 0, 0, 0, 0, 0, 0, 0, 0, 0, 0], [-1, -1, -1, -1, -1, -1, -1], [0, 0, 0, 0, 0, 0, 0], [0, 0, 0, 0, 0, 0, 0], [-1, -1, -1, -1, -1, -1, -1], [0, 0, 0], [0, 0, 0], [0], [0], [1], [1], [0], [0], [0], [0], [1], [0], [0], [0]] : List (List Int32)).getD k []).getD i 0)
def s0y (u : Nat → Nat) : Nat → Nat → Nat := fun k i => ((([[u 16, u 19, u 22, u 5, u 7, u 12, u 29, u 34, u 39, u 44, u 49, u 54], [48, 48, 48, 24, 40, 48, 48, 48, 48, 48, 48, 48], [u 13], [0], [3], [8], [12], [2, 3, 4, 5, 6], [u 1], [16]] : List (List Nat)).getD k []).getD i 0)
def s0g : Nat → Nat → Nat → Int32 := fun _ _ _ => 0
theorem zfunE {cA : ClassId} {n : Nat} {f f2 : Nat → Option Nat} (h : ∀ k, k < n → f k = f2 k) : vp_cell cA (n, .inr (.inr (.inr (.inr f)))) = vp_cell cA (n, .inr (.inr (.inr (.inr f2)))) := by
  rw [vp_cell_q, vp_cell_q]
  unfold arrV
  have e : (Array.ofFn (n := n) fun j => va_rf (f j.val)) = Array.ofFn (n := n) fun j => va_rf (f2 j.val) := by
    congr 1
    funext j
    rw [h j.val j.isLt]
  rw [e]
theorem zfunP {D : va_G} {cl : List vw_C} {ws : va_W} {H : Heap} (hP : va_P D cl ws H) (j : Nat) {a : Nat} {cA : ClassId} {n : Nat} {f : Nat → Option Nat} (f2 : Nat → Option Nat) (ha : ws[j]? = some (a, .inl (cA, n, .inr (.inr (.inr (.inr f)))))) (h : ∀ k, k < n → f k = f2 k) : va_P D cl (ws.set j (a, .inl (cA, n, .inr (.inr (.inr (.inr f2)))))) H := by
  intro k q hq
  rw [List.getElem?_set] at hq
  by_cases e : j = k
  · subst e
    rw [if_pos rfl] at hq
    split at hq
    · cases hq
      have h1 := hP j _ ha
      show H[a]? = some (vp_cell cA (n, .inr (.inr (.inr (.inr f2)))))
      rw [← zfunE h]
      exact h1
    · cases hq
  · rw [if_neg e] at hq
    exact hP k q hq
set_option maxRecDepth 100000 in
set_option maxHeartbeats 4000000 in
theorem s0P {D : va_G} {H : Heap} {wd : Nat → Nat} {cI cB cP cT : ClassId} {o : Nat} {u : Nat → Nat} (hP : va_P D vwCl (wX8_init wd cI cB cP cT o u) H) : va_P D vwCl (cW [] (s0ad o u) wd cI cB cP cT (s0x, s0y u, s0g)) H := by
  have hP := zfunP hP 25 (fun k => some (s0ad o u 6 (s0y u 7 k))) rfl (fun k hk => by rcases (show k = 0 ∨ k = 1 ∨ k = 2 ∨ k = 3 ∨ k = 4 by omega) with rfl | rfl | rfl | rfl | rfl <;> rfl)
  have hP := zfunP hP 4 (fun k => some (s0ad o u 4 k)) rfl (fun k hk => by rcases (show k = 0 ∨ k = 1 ∨ k = 2 by omega) with rfl | rfl | rfl <;> rfl)
  exact hP.sub [0, 1, 2, 3, 4, 15, 18, 21, 16, 19, 22, 5, 7, 12, 29, 34, 39, 44, 49, 54, 17, 20, 23, 6, 8, 13, 30, 35, 40, 45, 50, 55, 9, 26, 31, 36, 41, 46, 51, 10, 27, 32, 37, 42, 47, 52, 11, 28, 33, 38, 43, 48, 53, 14, 24, 25] rfl
set_option maxRecDepth 100000 in
set_option maxHeartbeats 4000000 in
theorem s0D {A : Nat → Prop} {wd : Nat → Nat} {cI cB cP cT : ClassId} {o : Nat} {u : Nat → Nat} (hD : va_D A (wX8_init wd cI cB cP cT o u)) : va_D A (cW [] (s0ad o u) wd cI cB cP cT (s0x, s0y u, s0g)) := by
  have hD := hD.set (p := 25) (e := .inl (cT, 5, .inr (.inr (.inr (.inr (fun k => some (s0ad o u 6 (s0y u 7 k)))))))) rfl
  have hD := hD.set (p := 4) (e := .inl (cP, 3, .inr (.inr (.inr (.inr (fun k => some (s0ad o u 4 k))))))) rfl
  exact hD.sub [0, 1, 2, 3, 4, 15, 18, 21, 16, 19, 22, 5, 7, 12, 29, 34, 39, 44, 49, 54, 17, 20, 23, 6, 8, 13, 30, 35, 40, 45, 50, 55, 9, 26, 31, 36, 41, 46, 51, 10, 27, 32, 37, 42, 47, 52, 11, 28, 33, 38, 43, 48, 53, 14, 24, 25] (by decide) rfl
