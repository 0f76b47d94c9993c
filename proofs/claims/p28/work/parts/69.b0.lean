/-! ===== draws, and one step of a loom ===== -/
theorem and31 (v : Int32) : ∃ u : Nat, u < 2 ^ 31 ∧ v &&& 2147483647 = nI u := by
  refine ⟨(v.toBitVec &&& (2147483647 : Int32).toBitVec).toNat, ?_, ?_⟩
  · rw [BitVec.toNat_and]
    have : (2147483647 : Int32).toBitVec.toNat = 2147483647 := by decide
    rw [this]
    exact Nat.lt_of_le_of_lt Nat.and_le_right (by decide)
  · rw [← Int32.toBitVec_inj, Int32.toBitVec_and]
    show _ = (Int32.ofNat _).toBitVec
    rw [Int32.toBitVec_ofNat', BitVec.ofNat_toNat, BitVec.setWidth_eq]
theorem h_draw {L : Nat} {xs : Nat → Int32} {x y g} {qf cf : Nat → Int32} {k n : Nat} {N : Int32} (hN : N = nI n) (hL : L < 2 ^ 31) (hk : k < 2 ^ 31) (h0 : 0 < n) (h1 : n < 2 ^ 31) {bc bs : Nat} {Φ : pL} (h : ∀ v, v < n → Φ (nI v) x y g qf cf) : wL_draw L xs x y g qf cf (nI k) N bc bs Φ := by
  subst hN
  have key : ∀ v : Int32, Φ ((v &&& 2147483647) - (v &&& 2147483647) / nI n * nI n) x y g qf cf := fun v => by
    obtain ⟨u, h2, h3⟩ := and31 v
    rw [h3, p_rem h2 h0 h1]
    exact h _ (Nat.mod_lt _ h0)
  unfold wL_draw
  refine ⟨fun _ v _ => ⟨nI_ne0 h0 h1, key v⟩, fun c => ⟨?_, fun v _ => ⟨nI_ne0 h0 h1, key v⟩⟩⟩
  have : k < L := Nat.not_le.1 fun z => c (nI_le z hk)
  exact vp_in_nI this hL
theorem LI.less {k W V W' V' S M d x y g qf cf bc bs} (h : LI k W V S M d x y g qf cf bc bs) (h1 : W' ≤ W) (h2 : V' ≤ V) : LI k W' V' S M d x y g qf cf bc bs := by
  obtain ⟨hc, hr, hC, hb, hP, hT0, hL, hI⟩ := h
  exact ⟨hc, hr, hC, hb.less (by omega) (by omega), hP, hT0, hL, hI⟩
theorem v99 : ∀ u, u < 199 → (-99 : Int32) ≤ nI u - 99 ∧ nI u - 99 ≤ 99 := by decide +kernel
section STEP
variable {L : Nat} {xs : Nat → Int32} {W37 : pLW} {Ω : pLB} {k W V : Nat} {S : CS} {M : MS} {d : GD} {x : Nat → Nat → Int32} {y : Nat → Nat → Nat} {g : Nat → Nat → Nat → Int32} {qf cf : Nat → Int32} {bc bs : Nat} {X Y : Nat} {at_ : Int32}
/-- what comes behind a step -/
def NX (W37 : pLW) (at_ : Int32) (k W V : Nat) : Prop := ∀ S' M' d' x y g qf' cf' b2 s2, LI (k + 1) (W - 260) (V - 18000) S' M' d' x y g qf' cf' b2 s2 → W37 x y g qf' cf' at_ 1 (nI (k + 1)) b2 s2
theorem j501 {W' V' : Nat} {S' M' d'} (hn : NX W37 at_ k W V) (hW : 260 ≤ W) (hV : 18000 ≤ V) (hk : k < 110) (hY : Y < 2 ^ 30) (hT : (S.R 4).length ≤ 2 ^ 20) {b2 s2 : Nat} (h : LI (k + 1) W' V' S' M' d' x y g qf cf b2 s2) (h1 : W ≤ W' + 240) (h2 : V ≤ V' + 17000) (hN : NEWR S S') : jL_loom_501 L xs W37 Ω x y g qf cf at_ 1 (nI k) (nI Y) (nI (S.R 4).length) b2 s2 :=
  h_501 h (by omega) (by omega) hT hN hY (by omega) fun b3 s3 h3 => hn S' M' d' _ _ _ _ _ b3 s3 (h3.less (by omega) (by omega))
theorem st_begin (h : LI k W V S M d x y g qf cf bc bs) (hW : 260 ≤ W) (hV : 18000 ≤ V) (hk : k < 110) (hX : X < 2 ^ 30) (hY : Y < 2 ^ 30) (hn : NX W37 at_ k W V) : jL_loom_141 L xs W37 Ω x y g qf cf at_ (nI k) (nI X) (nI Y) (nI (S.R 4).length) bc bs := by
  have hT : (S.R 4).length ≤ 2 ^ 20 := by have := h.2.1.t2400; omega
  unfold jL_loom_141
  refine h_begins h (by omega) (by omega) hX hY fun S' M' d' x y g qf' cf' b2 s2 h2 hN => ?_
  refine ifn (by decide) ?_
  unfold jL_loom_155 jL_loom_160
  exact j501 hn hW hV hk hY hT h2 (by omega) (by omega) hN
theorem st_none (h : LI k W V S M d x y g qf cf bc bs) (hW : 260 ≤ W) (hV : 18000 ≤ V) (hk : k < 110) (hY : Y < 2 ^ 30) (hn : NX W37 at_ k W V) : jL_loom_155 L xs W37 Ω x y g qf cf at_ (nI k) (nI Y) (nI (S.R 4).length) bc bs := by
  have hT : (S.R 4).length ≤ 2 ^ 20 := by have := h.2.1.t2400; omega
  unfold jL_loom_155 jL_loom_160
  exact j501 hn hW hV hk hY hT (h.stay (W' := W) (V' := V) (Nat.le_refl _) (Nat.le_refl _)) (by omega) (by omega) (NEWR.same (Nat.le_refl _))
theorem part_eq (hX : X < 2 ^ 30) : (nI X - nI X / 3 * 3) / 2 + (nI X / 3 - nI X / 3 / 2 * 2) = nI (X % 3 / 2 + X / 3 % 2) ∧ X % 3 / 2 + X / 3 % 2 < 3 := by
  have h3 : X % 3 < 3 := Nat.mod_lt _ (by omega)
  have h2 : X / 3 % 2 < 2 := Nat.mod_lt _ (by omega)
  rw [rm (B := 3) (b := 3) rfl (by omega) (by omega) (by omega), dm (A := 3) (B := 2) (a := 3) (b := 2) rfl rfl (by omega) (by omega) (by omega) (by omega) (by omega), show (2 : Int32) = nI 2 from rfl, p_div (by omega) (by omega) (by omega), nI_add]
  exact ⟨rfl, by omega⟩
theorem st_step (h : LI k W V S M d x y g qf cf bc bs) (hW : 260 ≤ W) (hV : 18000 ≤ V) (hk : k < 110) (hX : X < 2 ^ 30) (hY : Y < 2 ^ 30) (hn : NX W37 at_ k W V) : (∃ kc_286 ks_286 bc_286 bs_286 : Nat, kc_286 + bc_286 ≤ bc ∧ ks_286 + bs_286 ≤ bs ∧ (wL_steps x y g qf cf (((nI X - nI X / 3 * 3) / 2) + ((nI X / 3) - (nI X / 3) / 2 * 2)) kc_286 ks_286 (fun r_286 x_286 y_286 g_286 qf_286 cf_286 => (jL_loom_501 L xs W37 Ω x_286 y_286 g_286 qf_286 cf_286 at_ r_286 (nI k) (nI Y) (nI (S.R 4).length) bc_286 bs_286)))) := by
  have hT : (S.R 4).length ≤ 2 ^ 20 := by have := h.2.1.t2400; omega
  obtain ⟨e, hp⟩ := part_eq hX
  rw [e]
  exact h_steps h (by omega) (by omega) (by omega) hp (Q := fun r x y g qf cf b2 s2 => jL_loom_501 L xs W37 Ω x y g qf cf at_ r (nI k) (nI Y) (nI (S.R 4).length) b2 s2) fun S' M' d' x y g cf' b2 s2 h2 hN => j501 hn hW hV hk hY hT h2 (by omega) (by omega) hN
theorem st_snap (h : LI k W V S M d x y g qf cf bc bs) (hW : 260 ≤ W) (hV : 18000 ≤ V) (hk : k < 110) (hX : X < 2 ^ 30) (hY : Y < 2 ^ 30) (hn : NX W37 at_ k W V) : (∃ kc_306 ks_306 bc_306 bs_306 : Nat, kc_306 + bc_306 ≤ bc ∧ ks_306 + bs_306 ≤ bs ∧ (wL_snaps x y g qf cf (nI X) kc_306 ks_306 (fun r_306 x_306 y_306 g_306 qf_306 cf_306 => (jL_loom_501 L xs W37 Ω x_306 y_306 g_306 qf_306 cf_306 at_ r_306 (nI k) (nI Y) (nI (S.R 4).length) bc_306 bs_306)))) := by
  have hT : (S.R 4).length ≤ 2 ^ 20 := by have := h.2.1.t2400; omega
  exact h_snaps h (by omega) (by omega) hX (Q := fun r x y g qf cf b2 s2 => jL_loom_501 L xs W37 Ω x y g qf cf at_ r (nI k) (nI Y) (nI (S.R 4).length) b2 s2) fun S' M' d' x y g cf' b2 s2 h2 hN => j501 hn hW hV hk hY hT h2 (by omega) (by omega) hN
theorem st_event (h : LI k W V S M d x y g qf cf bc bs) (hW : 260 ≤ W) (hV : 18000 ≤ V) (hk : k < 110) (hX : X < 2 ^ 30) (hY : Y < 2 ^ 30) (hn : NX W37 at_ k W V) : (∀ v11_185 : Int32, v11_185 = (((nI X - nI X / 3 * 3) / 2) + ((nI X / 3) - (nI X / 3) / 2 * 2)) → (vp_in v11_185 9 ∧ (vp_in v11_185 9 ∧ (∀ cf_195 : Nat → Int32, cf_195 = (upd cf v11_185.toNatClampNeg ((cf v11_185.toNatClampNeg) + 1)) → (¬ (1 + ((nI X / 72) - (nI X / 72) / 3 * 3)) = 0 ∧ (¬ (20 + (2 * nI k)) = 0 ∧ (∃ kc_242 ks_242 bc_242 bs_242 : Nat, kc_242 + bc_242 ≤ bc ∧ ks_242 + bs_242 ≤ bs ∧ (wX8_event x y g v11_185 (((nI X / 9) - (nI X / 9) / 8 * 8) / (1 + ((nI X / 72) - (nI X / 72) / 3 * 3))) ((nI Y / 3) - (nI Y / 3) / (20 + (2 * nI k)) * (20 + (2 * nI k))) (((nI X / 216) - (nI X / 216) / 199 * 199) - 99) kc_242 ks_242 (fun r_242 x_242 y_242 g_242 => (vp_in v11_185 9 ∧ ((r_242 = (cf_195 v11_185.toNatClampNeg) → (jL_loom_258 L xs W37 Ω x_242 y_242 g_242 qf cf_195 at_ (nI k) (nI Y) (nI (S.R 4).length) 1 bc_242 bs_242)) ∧ (¬ r_242 = (cf_195 v11_185.toNatClampNeg) → (jL_loom_258 L xs W37 Ω x_242 y_242 g_242 qf cf_195 at_ (nI k) (nI Y) (nI (S.R 4).length) 0 bc_242 bs_242))))) (fun _ _ _ _ => False))))))))) := by
  have hT : (S.R 4).length ≤ 2 ^ 20 := by have := h.2.1.t2400; omega
  obtain ⟨e, hp⟩ := part_eq hX
  rw [e]
  generalize X % 3 / 2 + X / 3 % 2 = p at hp
  have h72 : X / 72 % 3 < 3 := Nat.mod_lt _ (by omega)
  have h98 : X / 9 % 8 < 8 := Nat.mod_lt _ (by omega)
  have h216 : X / 216 % 199 < 199 := Nat.mod_lt _ (by omega)
  have hy3 : Y / 3 ≤ Y := Nat.div_le_self _ _
  have e72 : (1 : Int32) + (nI X / 72 - nI X / 72 / 3 * 3) = nI (1 + X / 72 % 3) := by
    rw [dm (A := 72) (B := 3) (a := 72) (b := 3) rfl rfl (by omega) (by omega) (by omega) (by omega) (by omega), show (1 : Int32) = nI 1 from rfl, nI_add]
  have e20 : (20 : Int32) + 2 * nI k = nI (20 + 2 * k) := by
    rw [show (2 : Int32) = nI 2 from rfl, p_mul, show (20 : Int32) = nI 20 from rfl, nI_add]
  rw [e72, e20, dm (A := 9) (B := 8) (a := 9) (b := 8) rfl rfl (by omega) (by omega) (by omega) (by omega) (by omega), dm (A := 216) (B := 199) (a := 216) (b := 199) rfl rfl (by omega) (by omega) (by omega) (by omega) (by omega), p_div (by omega) (by omega) (by omega), show (3 : Int32) = nI 3 from rfl, p_div (by omega) (by omega) (by omega), p_rem (by omega) (by omega) (by omega)]
  have hkk : X / 9 % 8 / (1 + X / 72 % 3) < 8 := Nat.lt_of_le_of_lt (Nat.div_le_self _ _) h98
  have ht : Y / 3 % (20 + 2 * k) < 1000 := by have := Nat.mod_lt (Y / 3) (show 20 + 2 * k > 0 by omega); omega
  have hv := v99 _ h216
  generalize X / 9 % 8 / (1 + X / 72 % 3) = kk at hkk
  generalize Y / 3 % (20 + 2 * k) = t at ht
  generalize nI (X / 216 % 199) - 99 = v at hv
  rintro _ rfl
  have hin : vp_in (nI p) 9 := vp_in_nI (by omega) (by omega)
  refine ⟨hin, hin, ?_⟩
  rw [p_cl (by omega)]
  rintro _ rfl
  refine ⟨nI_ne0 (by omega) (by omega), nI_ne0 (by omega) (by omega), ?_⟩
  have h0 := h
  obtain ⟨hc, hr, hC, hb, hP, hT0, hL, hI⟩ := h
  obtain ⟨c0, c1, -⟩ := hI
  have hnp2 : (S.R p).length < 300 := by
    rw [hr.ev.len p hp]
    have : p = 0 ∨ p = 1 ∨ p = 2 := by omega
    rcases this with e | e | e <;> subst e <;> omega
  have hCT : CapB (cTold S p (nI kk) (nI t) v) := hC.told hp hnp2 _ _ _
  have hmon : pSum S.cap ≤ pSum (cTold S p (nI kk) (nI t) v).cap := cMon_rw (S := S) (q := p) _ (by omega) (pgrow_ge _ _)
  obtain ⟨kc, ks, b2, s2, q1, q2, q3, q4, q5, -, q7⟩ := hb.call hmon hCT (w := 0) (v := 0) (by omega) (by omega)
  refine ⟨kc, ks, b2, s2, q1, q2, q_event hc hr hp hkk ht hv (by omega) q5 fun x y g hS => ⟨hin, ify ?_ ?_⟩⟩
  · show nI (d.n p + 1) = upd cf p (cf p + 1) p
    unfold upd
    rw [if_pos rfl, c0 p hp, nI_1]
  · obtain ⟨M', d', h2, hN⟩ := h0.evt (by omega) hp hkk ht hS q7
    unfold jL_loom_258
    exact j501 hn hW hV hk hY hT h2 (by omega) (by omega) hN
end STEP
