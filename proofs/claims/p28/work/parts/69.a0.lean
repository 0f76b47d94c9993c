/-! ===== a loom's beginning ===== -/
def m0x : Nat → Int32 := fun k => if k = 43 then 1 else 0
def m0g : Nat → Nat → Int32 := fun _ _ => 0
def M00 : MS := MS.mk m0x m0g (fun _ => []) []
def S00 (u : Nat → Nat) : CS := CS.mk (fun _ => []) (fun q => s0y u 1 q) s0x (s0y u) s0g
def G00 : GD := GD.mk (fun _ => 0) (fun _ => 0) 0 0 1 1 0
theorem mBg2_p (N : MS) (T : List pRow) {p : Nat} (hp : p = 5 ∨ p = 6) : (mBg (mBg N 5 T) 6 []).g 25 p = -1 ∧ (mBg (mBg N 5 T) 6 []).g 26 p = 0 ∧ (mBg (mBg N 5 T) 6 []).g 27 p = 0 ∧ (∀ i, i < 3 → (mBg (mBg N 5 T) 6 []).g 23 (3 * p + i) = 0) ∧ ∀ i, i < 3 → (mBg (mBg N 5 T) 6 []).g 24 (3 * p + i) = -1 := by
  rcases hp with rfl | rfl
  · refine ⟨rfl, rfl, rfl, fun i hi => ?_, fun i hi => ?_⟩
    · have : i = 0 ∨ i = 1 ∨ i = 2 := by omega
      rcases this with rfl | rfl | rfl <;> rfl
    · have : i = 0 ∨ i = 1 ∨ i = 2 := by omega
      rcases this with rfl | rfl | rfl <;> rfl
  · refine ⟨rfl, rfl, rfl, fun i hi => ?_, fun i hi => ?_⟩
    · have : i = 0 ∨ i = 1 ∨ i = 2 := by omega
      rcases this with rfl | rfl | rfl <;> rfl
    · have : i = 0 ∨ i = 1 ∨ i = 2 := by omega
      rcases this with rfl | rfl | rfl <;> rfl
theorem s0_w : ∀ q, q < 12 → s0x 0 q = nI (pwq q) ∧ s0x 1 q = nI 0 ∧ 1 ≤ pwq q ∧ pwq q ≤ 6 := by decide
theorem s0_c (u : Nat → Nat) : ∀ q, q < 12 → s0y u 1 q = 8 * pwq q := by
  intro q hq
  have : q = 0 ∨ q = 1 ∨ q = 2 ∨ q = 3 ∨ q = 4 ∨ q = 5 ∨ q = 6 ∨ q = 7 ∨ q = 8 ∨ q = 9 ∨ q = 10 ∨ q = 11 := by omega
  rcases this with rfl | rfl | rfl | rfl | rfl | rfl | rfl | rfl | rfl | rfl | rfl | rfl <;> rfl
theorem S00_ri (u : Nat → Nat) {q : Nat} (hq : q < 12) : RI s0x (s0y u) s0g q (pwq q) [] (s0y u 1 q) := by
  obtain ⟨a, b, c, d⟩ := s0_w q hq
  have e := s0_c u q hq
  exact ⟨c, d, a, b, rfl, by rw [e]; exact (Nat.zero_mul _).symm ▸ Nat.zero_le _, Nat.zero_le _, by rw [e]; exact Nat.le_refl _, by rw [e]; omega, fun r k hr _ => absurd hr (Nat.not_lt_zero r)⟩
theorem S00_sum (u : Nat → Nat) : pSum (S00 u).cap = 544 := by
  have e := s0_c u
  show s0y u 1 0 + s0y u 1 1 + s0y u 1 2 + s0y u 1 3 + s0y u 1 4 + s0y u 1 5 + s0y u 1 6 + s0y u 1 7 + s0y u 1 8 + s0y u 1 9 + s0y u 1 10 + s0y u 1 11 = 544
  rw [e 0 (by omega), e 1 (by omega), e 2 (by omega), e 3 (by omega), e 4 (by omega), e 5 (by omega), e 6 (by omega), e 7 (by omega), e 8 (by omega), e 9 (by omega), e 10 (by omega), e 11 (by omega)]
  rfl
theorem Rel00 (u : Nat → Nat) : Rel (S00 u) (mBg (mBg M00 5 []) 6 []) G00 0 := by
  have y7 : ∀ k, k < 5 → (S00 u).y 7 k = k + 2 := fun k hk => by
    have : k = 0 ∨ k = 1 ∨ k = 2 ∨ k = 3 ∨ k = 4 := by omega
    rcases this with rfl | rfl | rfl | rfl | rfl <;> rfl
  have p3 : ∀ p, p < 3 → p = 0 ∨ p = 1 ∨ p = 2 := fun p hp => by omega
  have st : ∀ {a p}, (a = 0 ∨ a = 1) → (p = 5 ∨ p = 6) → ∀ sz ses, STR (S00 u) (mBg (mBg M00 5 []) 6 []) sz ses a p (fun _ => 0) 0 := fun {a p} ha hp sz ses => by
    obtain ⟨b1, b2, b3, b4, b5⟩ := mBg2_p M00 [] hp
    have eV : (mBg (mBg M00 5 []) 6 []).V p = [] := by rcases hp with rfl | rfl <;> rfl
    have ea : (S00 u).x 2 a = -1 ∧ (S00 u).x 3 a = 0 ∧ (S00 u).x 4 a = 0 := by rcases ha with rfl | rfl <;> exact ⟨rfl, rfl, rfl⟩
    exact STR.nil rfl eV ea.1 ea.2.1 ea.2.2 (fun _ _ => rfl) b1 b2 b3 b4 b5
  refine ⟨⟨0, Nat.zero_le _, rfl, rfl, rfl, Nat.zero_le _, (by decide : 16 ≤ 16), .inl rfl, fun i => ⟨0, by omega, rfl⟩, fun i hi => absurd hi (Nat.not_lt_zero i)⟩, ?_, ?_, ?_, ?_, ?_, rfl, st (.inl rfl) (.inr rfl) _ _, ?_, ?_, fun k hk => absurd hk (Nat.not_lt_zero k), Nat.zero_le _, ?_⟩
  · exact ⟨fun _ _ => rfl, fun p _ => rfl, by decide, rfl, fun p _ r hr => absurd hr (Nat.not_lt_zero r), fun _ _ => Nat.zero_le _, fun p _ r hr => absurd hr (Nat.not_lt_zero r)⟩
  · exact ⟨Nat.zero_le _, rfl, fun r hr => absurd hr (Nat.not_lt_zero r)⟩
  · intro p hp
    have z : (0 : Int) ≤ (0 : Int32).toInt ∧ (0 : Int32).toInt ≤ 99 := by decide
    rcases p3 p hp with rfl | rfl | rfl <;> exact ⟨rfl, z⟩
  · intro p hp
    rcases p3 p hp with rfl | rfl | rfl <;> rfl
  · exact ⟨.inl rfl, rfl, fun e => absurd (show (0 : Int32) = 1 from e) (by decide), fun _ => ⟨rfl, rfl, rfl, fun _ => rfl⟩⟩
  · exact ⟨fun _ => 0, 0, st (.inr rfl) (.inl rfl) _ _, fun _ => Nat.le_refl _, Nat.zero_le _⟩
  · exact ⟨Nat.zero_le _, rfl, rfl, rfl, rfl, fun k hk => by rw [y7 k hk]; omega, fun j k hj hk e => by rw [y7 j hj, y7 k hk] at e; omega, fun k hk => absurd hk (Nat.not_lt_zero k), fun j k _ hk => absurd hk (Nat.not_lt_zero k)⟩
  · exact ⟨rfl, by decide, by decide⟩
theorem LI.start (u : Nat → Nat) : LI 0 28600 1980000 (S00 u) (mBg (mBg M00 5 []) 6 []) G00 s0x (s0y u) s0g (fun _ => 0) (upd (upd (fun _ => 0) 7 1) 8 (-1)) 199000 2429000 := by
  have hs := S00_sum u
  refine ⟨⟨fun q hq => S00_ri u hq, fun _ _ => rfl, fun _ _ => rfl, fun _ _ => rfl⟩, (Rel00 u).later (by omega), fun q hq => ?_, ⟨by rw [hs]; omega, by rw [hs]; omega⟩, fun z => absurd (show (0 : Int32) = 1 from z) (by decide), rfl, fun a ha => ⟨0, Nat.zero_le _, ?_⟩, ?_⟩
  · show s0y u 1 q ≤ cB q
    rw [s0_c u q hq]
    have : ∀ q, q < 12 → 8 * pwq q ≤ cB q := by decide
    exact this q hq
  · have : a = 0 ∨ a = 1 ∨ a = 2 ∨ a = 3 ∨ a = 4 ∨ a = 5 ∨ a = 6 := by omega
    rcases this with rfl | rfl | rfl | rfl | rfl | rfl | rfl <;> rfl
  · refine ⟨fun p hp => ?_, Nat.le_refl _, Nat.le_refl _, rfl, Nat.zero_le _, rfl, fun b hb => ?_, rfl, ⟨1, by omega, by omega, rfl, rfl⟩, rfl⟩
    · have : p = 0 ∨ p = 1 ∨ p = 2 := by omega
      rcases this with rfl | rfl | rfl <;> rfl
    · constructor
      · intro z
        have : dbit 0 b = false := by
          unfold dbit
          show (0#32).getLsbD b = false
          simp
        have z : dbit 0 b = true := z
        rw [this] at z
        exact absurd z (by decide)
      · rintro ⟨j, hj, -⟩
        exact absurd hj (Nat.not_lt_zero j)
