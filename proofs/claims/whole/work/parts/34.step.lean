theorem u_i (a : UInt32) : a.toInt32 = nI a.toNat := by
  have h : UInt32.ofNat a.toNat = a := UInt32.ofNat_toNat
  have e : (UInt32.ofNat a.toNat).toInt32 = nI a.toNat := rfl
  rwa [h] at e
theorem p_chr16 (v : Int32) : ∃ w : Nat, w < 65536 ∧ (v.toUInt32 % 65536).toInt32 = nI w := by
  refine ⟨(v.toUInt32 % 65536).toNat, ?_, u_i _⟩
  rw [UInt32.toNat_mod]
  exact Nat.mod_lt _ (by decide)
theorem lInv_skip {i x y g f xm gm bc bs} (h : lInv i x y g f xm gm bc bs) : lInv (i + 5) x y g f xm gm bc bs := by
  obtain ⟨S, M, d, hc, hm, hr, hb⟩ := h
  have := hb.c
  have := hb.s
  exact ⟨S, M, d, hc, hm, hr.later (by omega), ⟨by omega, by omega⟩⟩
set_option maxRecDepth 4096 in
theorem lInv_step {xs : Nat → Int32} {i x y g f xm gm bc bs} (hi : i + 5 ≤ 2560) (h : lInv i x y g f xm gm bc bs) : ∀ j : Nat, wStep xs (nI i) j x y g f xm gm bc bs (lInv (i + 5))
  | 0 => by
    obtain ⟨w, hw, e⟩ := p_chr16 (xs (nI i + 1).toNatClampNeg)
    show wlc0 x y g f xm gm _ bc bs _
    rw [e]
    exact case0 hw hi h
  | 1 => case1 hi h
  | 2 => case2 hi h
  | 3 => case3 hi h
  | 4 => case4 hi h
  | 5 => case5 hi h
  | 6 => case6 (by by_cases e : xs (nI i + 2).toNatClampNeg = 0 <;> simp [e]) hi h
  | 7 => case7 hi h
  | 8 => case8 hi h
  | 9 => case9 hi h
  | 10 => case10 hi h
  | 11 => case11 hi h
  | 12 => case12 hi h
  | 13 => case13 hi h
  | 14 => case14 hi h
  | 15 => case15 hi h
  | 16 => case16 hi h
  | 17 => case17 hi h
  | 18 => case18 hi h
  | 19 => case19 hi h
  | 20 => case20 hi h
  | 21 => case21 hi h
  | 22 => case22 hi h
  | 23 => case23 hi h
  | 24 => case24 hi h
  | _ + 25 => lInv_skip h
