def wL_draw (L : Nat) (xs : Nat → Int32) (x : Nat → Nat → Int32) (y : Nat → Nat → Nat) (g : Nat → Nat → Nat → Int32) (qf cf : Nat → Int32) (a1 : Int32) (a2 : Int32) (bc bs : Nat) (Φ : Int32 → (Nat → Nat → Int32) → (Nat → Nat → Nat) → (Nat → Nat → Nat → Int32) → (Nat → Int32) → (Nat → Int32) → Prop) : Prop := (((nI L) ≤ a1 → (∀ v3_23 : Int32, v3_23 = ((902425553 * (a1 + 619)) + 765966789) → (¬ a2 = 0 ∧ (Φ ((v3_23 &&& 2147483647) - (v3_23 &&& 2147483647) / a2 * a2) x y g qf cf)))) ∧ (¬ (nI L) ≤ a1 → (vp_in a1 L ∧ (∀ v3_23 : Int32, v3_23 = (xs a1.toNatClampNeg) → (¬ a2 = 0 ∧ (Φ ((v3_23 &&& 2147483647) - (v3_23 &&& 2147483647) / a2 * a2) x y g qf cf))))))
set_option maxRecDepth 100000 in
set_option maxHeartbeats 4000000 in
theorem kL_draw {l : Launch} {D : va_G} {E : va_W} {b : Nat} {qa ca : Nat} {ad : Nat → Nat → Nat} {wd sk : Nat → Nat} {cI cB cP cT : ClassId} {sz : Nat} {L : Nat} {xs : Nat → Int32} (x0 : Nat → Nat → Int32) (y0 : Nat → Nat → Nat) (g0 : Nat → Nat → Nat → Int32) (qf0 cf0 : Nat → Int32) (a1 : Int32) (a2 : Int32) (BC BS : Nat) {Φ : Int32 → (Nat → Nat → Int32) → (Nat → Nat → Nat) → (Nat → Nat → Nat → Int32) → (Nat → Int32) → (Nat → Int32) → Prop} (hlf : l.stackTraces = false) (h : wL_draw L xs x0 y0 g0 qf0 cf0 a1 a2 BC BS Φ) : Met l yL_draw (zws yL_draw cL_draw 4 (some .int)) { frames := 1, cells := BC, slots := BS, locals := 60 } (zPc D (cTy cI cB cP cT) (sX b L xs wd sk) (cW (LE qa ca cI qf0 cf0 E) ad wd cI cB cP cT (x0, y0, g0)) [.ref b, .int a1, .int a2] sz) (zQi D (cTy cI cB cP cT) (WL E qa ca ad wd cI cB cP cT) (fun r u => Φ r u.1.1 u.1.2.1 u.1.2.2 u.2.1 u.2.2) (cW (LE qa ca cI qf0 cf0 E) ad wd cI cB cP cT (x0, y0, g0)) sz) BC BS (va_A (cW (LE qa ca cI qf0 cf0 E) ad wd cI cB cP cT (x0, y0, g0)) sz) := by
  refine zMet (by decide) (Nat.le_of_ble_eq_true rfl) ?_
  intro p e s m args below meth c A hx hb hr hml hown hts hlocks hsz hAe hA hS hP hK hD hX ls hl
  subst hsz
  have hF : zFx p s m args c cL_draw RL A D (cTy cI cB cP cT) (lX wd sk) 4 := ⟨hx, hb, hml, hown, hts, hA, hK, lX_cl wd sk, hX.1⟩
  have hFc : zFx p s m args c cL_draw RL A D (cTy cI cB cP cT) (cX wd sk) 4 := ⟨hx, hb, hml, hown, hts, hA, hK, cX_cl wd sk, hX.1.1⟩
  have hl : lv_has ls 4 [(0, .ref b), (1, .int a1), (2, .int a2)] := hl
  have hB : 0 + BC ≤ BC ∧ 0 + BS ≤ BS := ⟨by omega, by omega⟩
  unfold wL_draw at h
  refine lv_iload_n (pc := 0) hx hb dL_draw_0 rfl (lv_at hl 1 rfl) ?_
  refine lv_aload_n (pc := 1) hx hb dL_draw_1 rfl (lv_at hl 0 rfl) ?_
  refine va_tlen (pc := 2) hx hb hX.2 hS (v := nI L) rfl dL_draw_2 ?_
  refine lv_icmp_ge (pc := 3) (tgt := 12) hx hb dL_draw_3 (by decide) (fun c_3 => ?_) (fun c_3 => ?_)
  · have h := h.1 c_3
    refine lv_ldc (pc := 12) (v := 902425553) hx hb hown (hts _ lK_7) dL_draw_12 ?_
    refine lv_iload_n (pc := 14) hx hb dL_draw_14 rfl (lv_at hl 1 rfl) ?_
    refine lv_sipush (pc := 15) (v := 619) hx hb dL_draw_15 (by decide) ?_
    refine lv_iadd (pc := 18) hx hb dL_draw_18 ?_
    refine lv_imul (pc := 19) hx hb dL_draw_19 ?_
    refine lv_ldc (pc := 20) (v := 765966789) hx hb hown (hts _ lK_8) dL_draw_20 ?_
    refine lv_iadd (pc := 22) hx hb dL_draw_22 ?_
    refine lv_topi (fun v3_23 e_v3_23 => ?_)
    replace h := h v3_23 e_v3_23
    refine lv_istore_n (pc := 23) (lv' := [(3, .int v3_23), (0, .ref b), (1, .int a1), (2, .int a2)]) hx hb dL_draw_23 rfl hl (by decide) rfl (fun ls hl => ?_)
    refine lv_iload_n (pc := 24) hx hb dL_draw_24 rfl (lv_at hl 0 rfl) ?_
    refine lv_ldc (pc := 25) (v := 2147483647) hx hb hown (hts _ lK_9) dL_draw_25 ?_
    refine lv_iand (pc := 27) hx hb dL_draw_27 ?_
    refine lv_iload_n (pc := 28) hx hb dL_draw_28 rfl (lv_at hl 3 rfl) ?_
    obtain ⟨h0_29, h⟩ := h
    refine lv_irem (pc := 29) hx hb dL_draw_29 h0_29 ?_
    exact zirV (pc := 30) (Wd := WL E qa ca ad wd cI cB cP cT) (u := ((x0, y0, g0), qf0, cf0)) hx hb hr hlocks hAe hK hP hD hS rfl dL_draw_30 (by (try dsimp only); omega) (by (try dsimp only); omega) h
  · have h := h.2 c_3
    refine lv_aload_n (pc := 6) hx hb dL_draw_6 rfl (lv_at hl 0 rfl) ?_
    refine lv_iload_n (pc := 7) hx hb dL_draw_7 rfl (lv_at hl 1 rfl) ?_
    obtain ⟨hi_8, h⟩ := h
    refine va_ti (pc := 8) hx hb hX.2 hS hi_8 (v := .int (xs a1.toNatClampNeg)) rfl dL_draw_8 ?_
    refine lv_goto (pc := 9) (tgt := 23) hx hb dL_draw_9 (by decide) ?_
    refine lv_topi (fun v3_23 e_v3_23 => ?_)
    replace h := h v3_23 e_v3_23
    refine lv_istore_n (pc := 23) (lv' := [(3, .int v3_23), (0, .ref b), (1, .int a1), (2, .int a2)]) hx hb dL_draw_23 rfl hl (by decide) rfl (fun ls hl => ?_)
    refine lv_iload_n (pc := 24) hx hb dL_draw_24 rfl (lv_at hl 0 rfl) ?_
    refine lv_ldc (pc := 25) (v := 2147483647) hx hb hown (hts _ lK_9) dL_draw_25 ?_
    refine lv_iand (pc := 27) hx hb dL_draw_27 ?_
    refine lv_iload_n (pc := 28) hx hb dL_draw_28 rfl (lv_at hl 3 rfl) ?_
    obtain ⟨h0_29, h⟩ := h
    refine lv_irem (pc := 29) hx hb dL_draw_29 h0_29 ?_
    exact zirV (pc := 30) (Wd := WL E qa ca ad wd cI cB cP cT) (u := ((x0, y0, g0), qf0, cf0)) hx hb hr hlocks hAe hK hP hD hS rfl dL_draw_30 (by (try dsimp only); omega) (by (try dsimp only); omega) h

def lL_bits_4 (Φ : Int32 → (Nat → Nat → Int32) → (Nat → Nat → Nat) → (Nat → Nat → Nat → Int32) → (Nat → Int32) → (Nat → Int32) → Prop) : Nat → (Nat → Nat → Int32) → (Nat → Nat → Nat) → (Nat → Nat → Nat → Int32) → (Nat → Int32) → (Nat → Int32) → Int32 → Int32 → Int32 → Nat → Nat → Prop
  | 0, _, _, _, _, _, _, _, _, _, _ => False
  | n4 + 1, x, y, g, qf, cf, v0, v1, v2, bc, bs => ((31 ≤ v2 → (Φ v1 x y g qf cf)) ∧ (¬ 31 ≤ v2 → (∀ v1_17 : Int32, v1_17 = (v1 + (((v0 : Int32) >>> ((v2 &&& 31) : Int32)) &&& 1)) → (∀ v2_18 : Int32, v2_18 = v2 + 1 → ((lL_bits_4 Φ n4) x y g qf cf v0 v1_17 v2_18 bc bs)))))
def wL_bits (x : Nat → Nat → Int32) (y : Nat → Nat → Nat) (g : Nat → Nat → Nat → Int32) (qf cf : Nat → Int32) (a0 : Int32) (bc bs : Nat) (Φ : Int32 → (Nat → Nat → Int32) → (Nat → Nat → Nat) → (Nat → Nat → Nat → Int32) → (Nat → Int32) → (Nat → Int32) → Prop) : Prop := (∃ n4 : Nat, lL_bits_4 Φ n4 x y g qf cf a0 0 0 bc bs)
set_option maxRecDepth 100000 in
set_option maxHeartbeats 4000000 in
theorem kL_bits {l : Launch} {D : va_G} {E : va_W} {qa ca : Nat} {ad : Nat → Nat → Nat} {wd sk : Nat → Nat} {cI cB cP cT : ClassId} {sz : Nat} (x0 : Nat → Nat → Int32) (y0 : Nat → Nat → Nat) (g0 : Nat → Nat → Nat → Int32) (qf0 cf0 : Nat → Int32) (a0 : Int32) (BC BS : Nat) {Φ : Int32 → (Nat → Nat → Int32) → (Nat → Nat → Nat) → (Nat → Nat → Nat → Int32) → (Nat → Int32) → (Nat → Int32) → Prop} (hlf : l.stackTraces = false) (h : wL_bits x0 y0 g0 qf0 cf0 a0 BC BS Φ) : Met l yL_bits (zws yL_bits cL_bits 3 (some .int)) { frames := 1, cells := BC, slots := BS, locals := 60 } (zPc D (cTy cI cB cP cT) (lX wd sk) (cW (LE qa ca cI qf0 cf0 E) ad wd cI cB cP cT (x0, y0, g0)) [.int a0] sz) (zQi D (cTy cI cB cP cT) (WL E qa ca ad wd cI cB cP cT) (fun r u => Φ r u.1.1 u.1.2.1 u.1.2.2 u.2.1 u.2.2) (cW (LE qa ca cI qf0 cf0 E) ad wd cI cB cP cT (x0, y0, g0)) sz) BC BS (va_A (cW (LE qa ca cI qf0 cf0 E) ad wd cI cB cP cT (x0, y0, g0)) sz) := by
  refine zMet (by decide) (Nat.le_of_ble_eq_true rfl) ?_
  intro p e s m args below meth c A hx hb hr hml hown hts hlocks hsz hAe hA hS hP hK hD hX ls hl
  subst hsz
  have hF : zFx p s m args c cL_bits RL A D (cTy cI cB cP cT) (lX wd sk) 3 := ⟨hx, hb, hml, hown, hts, hA, hK, lX_cl wd sk, hX⟩
  have hFc : zFx p s m args c cL_bits RL A D (cTy cI cB cP cT) (cX wd sk) 3 := ⟨hx, hb, hml, hown, hts, hA, hK, cX_cl wd sk, hX.1⟩
  have hl : lv_has ls 3 [(0, .int a0)] := hl
  have hB : 0 + BC ≤ BC ∧ 0 + BS ≤ BS := ⟨by omega, by omega⟩
  have L4 : ∀ n4 : Nat, ∀ (x : Nat → Nat → Int32) (y : Nat → Nat → Nat) (g : Nat → Nat → Nat → Int32) (qf cf : Nat → Int32) (v0 : Int32) (v1 : Int32) (v2 : Int32) (bc bs : Nat), lL_bits_4 Φ n4 x y g qf cf v0 v1 v2 bc bs → ∀ (cells slots : Nat), (cells + bc ≤ BC ∧ slots + bs ≤ BS) → ∀ (H : Heap) (locs : List Loc) (ls : Array Slot), va_P D vwCl (cW (LE qa ca cI qf cf E) ad wd cI cB cP cT (x, y, g)) H → va_D A (cW (LE qa ca cI qf cf E) ad wd cI cB cP cT (x, y, g)) → va_S A s.heap H locs → lv_has ls 3 [(0, .int v0), (1, .int v1), (2, .int v2)] → W p l e { frames := 1, cells := BC, slots := BS, locals := 60 } s m args below meth c H locs cells slots (MQ below (zQi D (cTy cI cB cP cT) (WL E qa ca ad wd cI cB cP cT) (fun r u => Φ r u.1.1 u.1.2.1 u.1.2.2 u.2.1 u.2.2) (cW (LE qa ca cI qf0 cf0 E) ad wd cI cB cP cT (x0, y0, g0)) s.heap.size) args s BC BS (va_A (cW (LE qa ca cI qf0 cf0 E) ad wd cI cB cP cT (x0, y0, g0)) s.heap.size)) (F0 m 4 ls []) := by
    intro n4
    induction n4 with
    | zero => intro x y g qf cf v0 v1 v2 bc bs h cells slots hB H locs ls hP hD hS hl; exact h.elim
    | succ n4 ih4 =>
      intro x y g qf cf v0 v1 v2 bc bs h cells slots hB H locs ls hP hD hS hl
      unfold lL_bits_4 at h
      refine lv_iload_n (pc := 4) hx hb dL_bits_4 rfl (lv_at hl 2 rfl) ?_
      refine lv_bipush (pc := 5) (v := 31) hx hb dL_bits_5 (by decide) ?_
      refine lv_icmp_ge (pc := 7) (tgt := 24) hx hb dL_bits_7 (by decide) (fun c_7 => ?_) (fun c_7 => ?_)
      · have h := h.1 c_7
        refine lv_iload_n (pc := 24) hx hb dL_bits_24 rfl (lv_at hl 1 rfl) ?_
        exact zirV (pc := 25) (Wd := WL E qa ca ad wd cI cB cP cT) (u := ((x, y, g), qf, cf)) hx hb hr hlocks hAe hK hP hD hS rfl dL_bits_25 (by (try dsimp only); omega) (by (try dsimp only); omega) h
      · have h := h.2 c_7
        refine lv_iload_n (pc := 10) hx hb dL_bits_10 rfl (lv_at hl 1 rfl) ?_
        refine lv_iload_n (pc := 11) hx hb dL_bits_11 rfl (lv_at hl 0 rfl) ?_
        refine lv_iload_n (pc := 12) hx hb dL_bits_12 rfl (lv_at hl 2 rfl) ?_
        refine lv_ishr (pc := 13) hx hb dL_bits_13 ?_
        refine lv_iconst (pc := 14) (v := 1) hx hb dL_bits_14 (by decide) ?_
        refine lv_iand (pc := 15) hx hb dL_bits_15 ?_
        refine lv_iadd (pc := 16) hx hb dL_bits_16 ?_
        refine lv_topi (fun v1_17 e_v1_17 => ?_)
        replace h := h v1_17 e_v1_17
        refine lv_istore_n (pc := 17) (lv' := [(1, .int v1_17), (0, .int v0), (2, .int v2)]) hx hb dL_bits_17 rfl hl (by decide) rfl (fun ls hl => ?_)
        obtain ⟨v2_18, e_v2_18⟩ : ∃ y : Int32, y = v2 + 1 := ⟨_, rfl⟩
        replace h := h v2_18 e_v2_18
        refine lv_iinc (pc := 18) (v := v2_18) (lv' := [(2, .int v2_18), (1, .int v1_17), (0, .int v0)]) hx hb dL_bits_18 hl (k := 2) rfl (by rw [e_v2_18]; rfl) (by decide) rfl (fun ls hl => ?_)
        refine lv_goto (pc := 21) (tgt := 4) hx hb dL_bits_21 (by decide) ?_
        exact ih4 x y g qf cf v0 v1_17 v2_18 bc bs h _ _ hB _ _ _ hP hD hS (lv_sub hl [2, 1, 0] rfl)
  unfold wL_bits at h
  refine lv_iconst (pc := 0) (v := 0) hx hb dL_bits_0 (by decide) ?_
  refine lv_istore_n (pc := 1) (lv' := [(1, .int 0), (0, .int a0)]) hx hb dL_bits_1 rfl hl (by decide) rfl (fun ls hl => ?_)
  refine lv_iconst (pc := 2) (v := 0) hx hb dL_bits_2 (by decide) ?_
  refine lv_istore_n (pc := 3) (lv' := [(2, .int 0), (1, .int 0), (0, .int a0)]) hx hb dL_bits_3 rfl hl (by decide) rfl (fun ls hl => ?_)
  obtain ⟨n4, h⟩ := h
  exact L4 n4 x0 y0 g0 qf0 cf0 a0 0 0 BC BS h _ _ hB _ _ _ hP hD hS (lv_sub hl [2, 1, 0] rfl)

def wL_asks (x : Nat → Nat → Int32) (y : Nat → Nat → Nat) (g : Nat → Nat → Nat → Int32) (qf cf : Nat → Int32) (a1 : Int32) (a2 : Int32) (a3 : Int32) (bc bs : Nat) (Φ : Int32 → (Nat → Nat → Int32) → (Nat → Nat → Nat) → (Nat → Nat → Nat → Int32) → (Nat → Int32) → (Nat → Int32) → Prop) : Prop := ((a1 = 0 → (wX8_step x y g a2 bc bs (fun r_6 x_6 y_6 g_6 => Φ r_6 x_6 y_6 g_6 qf cf) (fun E2 x1 y1 g1 => (E2 = "java/util/NoSuchElementException" ∧ Φ (-70006) x1 y1 g1 qf cf) ∨ (E2 = "java/lang/IndexOutOfBoundsException" ∧ Φ (-70007) x1 y1 g1 qf cf) ∨ (E2 = "java/lang/IllegalStateException" ∧ Φ (-70008) x1 y1 g1 qf cf)))) ∧ (¬ a1 = 0 → ((a1 = 1 → (wX8_barrier x y g bc bs (fun r_18 x_18 y_18 g_18 => Φ r_18 x_18 y_18 g_18 qf cf) (fun E2 x1 y1 g1 => (E2 = "java/util/NoSuchElementException" ∧ Φ (-70006) x1 y1 g1 qf cf) ∨ (E2 = "java/lang/IndexOutOfBoundsException" ∧ Φ (-70007) x1 y1 g1 qf cf) ∨ (E2 = "java/lang/IllegalStateException" ∧ Φ (-70008) x1 y1 g1 qf cf)))) ∧ (¬ a1 = 1 → ((a1 = 2 → (wX8_complete x y g a2 bc bs (fun r_31 x_31 y_31 g_31 => Φ r_31 x_31 y_31 g_31 qf cf) (fun E2 x1 y1 g1 => (E2 = "java/util/NoSuchElementException" ∧ Φ (-70006) x1 y1 g1 qf cf) ∨ (E2 = "java/lang/IndexOutOfBoundsException" ∧ Φ (-70007) x1 y1 g1 qf cf) ∨ (E2 = "java/lang/IllegalStateException" ∧ Φ (-70008) x1 y1 g1 qf cf)))) ∧ (¬ a1 = 2 → ((a1 = 3 → (wX8_crash x y g bc bs (fun r_43 x_43 y_43 g_43 => Φ r_43 x_43 y_43 g_43 qf cf) (fun E2 x1 y1 g1 => (E2 = "java/util/NoSuchElementException" ∧ Φ (-70006) x1 y1 g1 qf cf) ∨ (E2 = "java/lang/IndexOutOfBoundsException" ∧ Φ (-70007) x1 y1 g1 qf cf) ∨ (E2 = "java/lang/IllegalStateException" ∧ Φ (-70008) x1 y1 g1 qf cf)))) ∧ (¬ a1 = 3 → ((a1 = 4 → (wX8_window x y g a2 a3 bc bs (fun r_57 => Φ r_57 x y g qf cf) (fun E2 x1 y1 g1 => (E2 = "java/util/NoSuchElementException" ∧ Φ (-70006) x1 y1 g1 qf cf) ∨ (E2 = "java/lang/IndexOutOfBoundsException" ∧ Φ (-70007) x1 y1 g1 qf cf) ∨ (E2 = "java/lang/IllegalStateException" ∧ Φ (-70008) x1 y1 g1 qf cf)))) ∧ (¬ a1 = 4 → ((a1 = 5 → (wX8_result x y g a2 a3 bc bs (fun r_71 => Φ r_71 x y g qf cf) (fun E2 x1 y1 g1 => (E2 = "java/util/NoSuchElementException" ∧ Φ (-70006) x1 y1 g1 qf cf) ∨ (E2 = "java/lang/IndexOutOfBoundsException" ∧ Φ (-70007) x1 y1 g1 qf cf) ∨ (E2 = "java/lang/IllegalStateException" ∧ Φ (-70008) x1 y1 g1 qf cf)))) ∧ (¬ a1 = 5 → ((a1 = 6 → (wX8_totalAnew x y g a2 a3 bc bs (fun r_86 => Φ r_86 x y g qf cf) (fun E2 x1 y1 g1 => (E2 = "java/util/NoSuchElementException" ∧ Φ (-70006) x1 y1 g1 qf cf) ∨ (E2 = "java/lang/IndexOutOfBoundsException" ∧ Φ (-70007) x1 y1 g1 qf cf) ∨ (E2 = "java/lang/IllegalStateException" ∧ Φ (-70008) x1 y1 g1 qf cf)))) ∧ (¬ a1 = 6 → (wX8_load x y g a2 bc bs (fun r_94 => Φ r_94 x y g qf cf) (fun E2 x1 y1 g1 => (E2 = "java/util/NoSuchElementException" ∧ Φ (-70006) x1 y1 g1 qf cf) ∨ (E2 = "java/lang/IndexOutOfBoundsException" ∧ Φ (-70007) x1 y1 g1 qf cf) ∨ (E2 = "java/lang/IllegalStateException" ∧ Φ (-70008) x1 y1 g1 qf cf)))))))))))))))))
set_option maxRecDepth 100000 in
set_option maxHeartbeats 4000000 in
theorem kL_asks {l : Launch} {D : va_G} {E : va_W} {qa ca : Nat} {ad : Nat → Nat → Nat} {wd sk : Nat → Nat} {cI cB cP cT : ClassId} {sz : Nat} (x0 : Nat → Nat → Int32) (y0 : Nat → Nat → Nat) (g0 : Nat → Nat → Nat → Int32) (qf0 cf0 : Nat → Int32) (a1 : Int32) (a2 : Int32) (a3 : Int32) (BC BS : Nat) {Φ : Int32 → (Nat → Nat → Int32) → (Nat → Nat → Nat) → (Nat → Nat → Nat → Int32) → (Nat → Int32) → (Nat → Int32) → Prop} (hlf : l.stackTraces = false) (h : wL_asks x0 y0 g0 qf0 cf0 a1 a2 a3 BC BS Φ) : vx_Met l yL_asks (zwsH yL_asks cL_asks 5 (some .int) [(0, 97, 98, 39), (0, 97, 103, 42), (0, 97, 108, 45)]) { frames := 8, cells := BC, slots := BS, locals := 235 } (zPc D (cTy cI cB cP cT) (lX wd sk) (cW (LE qa ca cI qf0 cf0 E) ad wd cI cB cP cT (x0, y0, g0)) [.ref (ad 0 0), .int a1, .int a2, .int a3] sz) (zQi D (cTy cI cB cP cT) (WL E qa ca ad wd cI cB cP cT) (fun r u => Φ r u.1.1 u.1.2.1 u.1.2.2 u.2.1 u.2.2) (cW (LE qa ca cI qf0 cf0 E) ad wd cI cB cP cT (x0, y0, g0)) sz) (fun _ _ _ => False) BC BS (va_A (cW (LE qa ca cI qf0 cf0 E) ad wd cI cB cP cT (x0, y0, g0)) sz) := by
  refine zMetH (by decide) (Nat.le_of_ble_eq_true rfl) ?_
  intro p e s m args below meth c A hx hb hr hml hown hts hlocks htab hsz hAe hA hS hP hK hD hX ls hl
  subst hsz
  have hF : zFx p s m args c cL_asks RL A D (cTy cI cB cP cT) (lX wd sk) 5 := ⟨hx, hb, hml, hown, hts, hA, hK, lX_cl wd sk, hX⟩
  have hFc : zFx p s m args c cL_asks RL A D (cTy cI cB cP cT) (cX wd sk) 5 := ⟨hx, hb, hml, hown, hts, hA, hK, cX_cl wd sk, hX.1⟩
  have hl : lv_has ls 5 [(0, .ref (ad 0 0)), (1, .int a1), (2, .int a2), (3, .int a3)] := hl
  have hB : 0 + BC ≤ BC ∧ 0 + BS ≤ BS := ⟨by omega, by omega⟩
  unfold wL_asks at h
  refine lv_iload_n (pc := 0) hx hb dL_asks_0 rfl (lv_at hl 1 rfl) ?_
  refine lv_if_ne (pc := 1) (tgt := 12) hx hb dL_asks_1 (by decide) (fun c_1 => ?_) (fun c_1 => ?_)
  · have h := h.2 c_1
    refine lv_iload_n (pc := 12) hx hb dL_asks_12 rfl (lv_at hl 1 rfl) ?_
    refine lv_iconst (pc := 13) (v := 1) hx hb dL_asks_13 (by decide) ?_
    refine lv_icmp_ne (pc := 14) (tgt := 24) hx hb dL_asks_14 (by decide) (fun c_14 => ?_) (fun c_14 => ?_)
    · have h := h.2 c_14
      refine lv_iload_n (pc := 24) hx hb dL_asks_24 rfl (lv_at hl 1 rfl) ?_
      refine lv_iconst (pc := 25) (v := 2) hx hb dL_asks_25 (by decide) ?_
      refine lv_icmp_ne (pc := 26) (tgt := 37) hx hb dL_asks_26 (by decide) (fun c_26 => ?_) (fun c_26 => ?_)
      · have h := h.2 c_26
        refine lv_iload_n (pc := 37) hx hb dL_asks_37 rfl (lv_at hl 1 rfl) ?_
        refine lv_iconst (pc := 38) (v := 3) hx hb dL_asks_38 (by decide) ?_
        refine lv_icmp_ne (pc := 39) (tgt := 49) hx hb dL_asks_39 (by decide) (fun c_39 => ?_) (fun c_39 => ?_)
        · have h := h.2 c_39
          refine lv_iload_n (pc := 49) hx hb dL_asks_49 rfl (lv_at hl 1 rfl) ?_
          refine lv_iconst (pc := 50) (v := 4) hx hb dL_asks_50 (by decide) ?_
          refine lv_icmp_ne (pc := 51) (tgt := 63) hx hb dL_asks_51 (by decide) (fun c_51 => ?_) (fun c_51 => ?_)
          · have h := h.2 c_51
            refine lv_iload_n (pc := 63) hx hb dL_asks_63 rfl (lv_at hl 1 rfl) ?_
            refine lv_iconst (pc := 64) (v := 5) hx hb dL_asks_64 (by decide) ?_
            refine lv_icmp_ne (pc := 65) (tgt := 77) hx hb dL_asks_65 (by decide) (fun c_65 => ?_) (fun c_65 => ?_)
            · have h := h.2 c_65
              refine lv_iload_n (pc := 77) hx hb dL_asks_77 rfl (lv_at hl 1 rfl) ?_
              refine lv_bipush (pc := 78) (v := 6) hx hb dL_asks_78 (by decide) ?_
              refine lv_icmp_ne (pc := 80) (tgt := 92) hx hb dL_asks_80 (by decide) (fun c_80 => ?_) (fun c_80 => ?_)
              · have h := h.2 c_80
                refine lv_aload_n (pc := 92) hx hb dL_asks_92 rfl (lv_at hl 0 rfl) ?_
                refine lv_iload_n (pc := 93) hx hb dL_asks_93 rfl (lv_at hl 2 rfl) ?_
                refine lCallp (pc := 94) (E := LE qa ca cI qf0 cf0 E) (x := x0) (y := y0) (g := g0) [.int a2] hFc (kX8_load x0 y0 g0 a2 BC BS hlf h) (cwL_X8_load hts ⟨Nat.le_of_ble_eq_true rfl, Nat.le_of_ble_eq_true rfl⟩) (lRo hFc hP) hP hD hS rfl rfl hl.1 (Nat.le_of_ble_eq_true rfl) dL_asks_94 ⟨by show _ ≤ BC; (try dsimp only); omega, by show _ ≤ BS; (try dsimp only); omega⟩ (fun E2 ce q9 x1 y1 g1 H locs h hP hD hS hce hcv hcl => ?_) (fun r_94 H locs h hP hD hS => ?_)
                · rcases h with ⟨rfl, h⟩ | ⟨rfl, h⟩ | ⟨rfl, h⟩
                  · refine vx_catch (name := "java/util/NoSuchElementException") hown (tableOf []) ⟨0, 97, 98, 39⟩ (tableOf [(0, 97, 103, 42), (0, 97, 108, 45)]) (by rw [htab]; rfl) (fun _ h9 => absurd h9 List.not_mem_nil) (by decide) (by decide) (hts _ clL_39) (va_Nw.use rfl (hX.1.2.2.2.1 _ xcast_NSE)) hce hcv hcl ?_
                    refine lv_astore (pc := 98) (lv' := [(4, .ref q9), (0, .ref (ad 0 0)), (1, .int a1), (2, .int a2), (3, .int a3)]) hx hb dL_asks_98 hl (by decide) rfl (fun ls hl => ?_)
                    refine lv_ldc (pc := 100) (v := -70006) hx hb hown (hts _ lK_41) dL_asks_100 ?_
                    exact vx_ret (zirV (pc := 102) (Wd := WL E qa ca ad wd cI cB cP cT) (u := ((x1, y1, g1), qf0, cf0)) hx hb hr hlocks hAe hK hP hD hS rfl dL_asks_102 (by (try dsimp only); omega) (by (try dsimp only); omega) h)
                  · refine vx_catch (name := "java/lang/IndexOutOfBoundsException") hown (tableOf [(0, 97, 98, 39)]) ⟨0, 97, 103, 42⟩ (tableOf [(0, 97, 108, 45)]) (by rw [htab]; rfl) (List.forall_mem_cons.mpr ⟨Or.inr ⟨by decide, "java/util/NoSuchElementException", hts _ clL_39, hX.2 _ (by decide +kernel) _ (by decide +kernel) (by decide +kernel)⟩, (fun _ h9 => absurd h9 List.not_mem_nil)⟩) (by decide) (by decide) (hts _ clL_42) (va_Nw.use rfl (hX.1.2.2.2.1 _ xcast_IOB)) hce hcv hcl ?_
                    refine lv_astore (pc := 103) (lv' := [(4, .ref q9), (0, .ref (ad 0 0)), (1, .int a1), (2, .int a2), (3, .int a3)]) hx hb dL_asks_103 hl (by decide) rfl (fun ls hl => ?_)
                    refine lv_ldc (pc := 105) (v := -70007) hx hb hown (hts _ lK_44) dL_asks_105 ?_
                    exact vx_ret (zirV (pc := 107) (Wd := WL E qa ca ad wd cI cB cP cT) (u := ((x1, y1, g1), qf0, cf0)) hx hb hr hlocks hAe hK hP hD hS rfl dL_asks_107 (by (try dsimp only); omega) (by (try dsimp only); omega) h)
                  · refine vx_catch (name := "java/lang/IllegalStateException") hown (tableOf [(0, 97, 98, 39), (0, 97, 103, 42)]) ⟨0, 97, 108, 45⟩ (tableOf []) (by rw [htab]; rfl) (List.forall_mem_cons.mpr ⟨Or.inr ⟨by decide, "java/util/NoSuchElementException", hts _ clL_39, hX.2 _ (by decide +kernel) _ (by decide +kernel) (by decide +kernel)⟩, (List.forall_mem_cons.mpr ⟨Or.inr ⟨by decide, "java/lang/IndexOutOfBoundsException", hts _ clL_42, hX.2 _ (by decide +kernel) _ (by decide +kernel) (by decide +kernel)⟩, (fun _ h9 => absurd h9 List.not_mem_nil)⟩)⟩) (by decide) (by decide) (hts _ clL_45) (va_Nw.use rfl (hX.1.2.2.2.1 _ xcast_ISE)) hce hcv hcl ?_
                    refine lv_astore (pc := 108) (lv' := [(4, .ref q9), (0, .ref (ad 0 0)), (1, .int a1), (2, .int a2), (3, .int a3)]) hx hb dL_asks_108 hl (by decide) rfl (fun ls hl => ?_)
                    refine lv_ldc (pc := 110) (v := -70008) hx hb hown (hts _ lK_47) dL_asks_110 ?_
                    exact vx_ret (zirV (pc := 112) (Wd := WL E qa ca ad wd cI cB cP cT) (u := ((x1, y1, g1), qf0, cf0)) hx hb hr hlocks hAe hK hP hD hS rfl dL_asks_112 (by (try dsimp only); omega) (by (try dsimp only); omega) h)
                · exact vx_ret (zirV (pc := 97) (Wd := WL E qa ca ad wd cI cB cP cT) (u := ((x0, y0, g0), qf0, cf0)) hx hb hr hlocks hAe hK hP hD hS rfl dL_asks_97 (by (try dsimp only); omega) (by (try dsimp only); omega) h)
              · have h := h.1 c_80
                refine lv_aload_n (pc := 83) hx hb dL_asks_83 rfl (lv_at hl 0 rfl) ?_
                refine lv_iload_n (pc := 84) hx hb dL_asks_84 rfl (lv_at hl 2 rfl) ?_
                refine lv_iload_n (pc := 85) hx hb dL_asks_85 rfl (lv_at hl 3 rfl) ?_
                refine lCallp (pc := 86) (E := LE qa ca cI qf0 cf0 E) (x := x0) (y := y0) (g := g0) [.int a2, .int a3] hFc (kX8_totalAnew x0 y0 g0 a2 a3 BC BS hlf h) (cwL_X8_totalAnew hts ⟨Nat.le_of_ble_eq_true rfl, Nat.le_of_ble_eq_true rfl⟩) (lRo hFc hP) hP hD hS rfl rfl hl.1 (Nat.le_of_ble_eq_true rfl) dL_asks_86 ⟨by show _ ≤ BC; (try dsimp only); omega, by show _ ≤ BS; (try dsimp only); omega⟩ (fun E2 ce q9 x1 y1 g1 H locs h hP hD hS hce hcv hcl => ?_) (fun r_86 H locs h hP hD hS => ?_)
                · rcases h with ⟨rfl, h⟩ | ⟨rfl, h⟩ | ⟨rfl, h⟩
                  · refine vx_catch (name := "java/util/NoSuchElementException") hown (tableOf []) ⟨0, 97, 98, 39⟩ (tableOf [(0, 97, 103, 42), (0, 97, 108, 45)]) (by rw [htab]; rfl) (fun _ h9 => absurd h9 List.not_mem_nil) (by decide) (by decide) (hts _ clL_39) (va_Nw.use rfl (hX.1.2.2.2.1 _ xcast_NSE)) hce hcv hcl ?_
                    refine lv_astore (pc := 98) (lv' := [(4, .ref q9), (0, .ref (ad 0 0)), (1, .int a1), (2, .int a2), (3, .int a3)]) hx hb dL_asks_98 hl (by decide) rfl (fun ls hl => ?_)
                    refine lv_ldc (pc := 100) (v := -70006) hx hb hown (hts _ lK_41) dL_asks_100 ?_
                    exact vx_ret (zirV (pc := 102) (Wd := WL E qa ca ad wd cI cB cP cT) (u := ((x1, y1, g1), qf0, cf0)) hx hb hr hlocks hAe hK hP hD hS rfl dL_asks_102 (by (try dsimp only); omega) (by (try dsimp only); omega) h)
                  · refine vx_catch (name := "java/lang/IndexOutOfBoundsException") hown (tableOf [(0, 97, 98, 39)]) ⟨0, 97, 103, 42⟩ (tableOf [(0, 97, 108, 45)]) (by rw [htab]; rfl) (List.forall_mem_cons.mpr ⟨Or.inr ⟨by decide, "java/util/NoSuchElementException", hts _ clL_39, hX.2 _ (by decide +kernel) _ (by decide +kernel) (by decide +kernel)⟩, (fun _ h9 => absurd h9 List.not_mem_nil)⟩) (by decide) (by decide) (hts _ clL_42) (va_Nw.use rfl (hX.1.2.2.2.1 _ xcast_IOB)) hce hcv hcl ?_
                    refine lv_astore (pc := 103) (lv' := [(4, .ref q9), (0, .ref (ad 0 0)), (1, .int a1), (2, .int a2), (3, .int a3)]) hx hb dL_asks_103 hl (by decide) rfl (fun ls hl => ?_)
                    refine lv_ldc (pc := 105) (v := -70007) hx hb hown (hts _ lK_44) dL_asks_105 ?_
                    exact vx_ret (zirV (pc := 107) (Wd := WL E qa ca ad wd cI cB cP cT) (u := ((x1, y1, g1), qf0, cf0)) hx hb hr hlocks hAe hK hP hD hS rfl dL_asks_107 (by (try dsimp only); omega) (by (try dsimp only); omega) h)
                  · refine vx_catch (name := "java/lang/IllegalStateException") hown (tableOf [(0, 97, 98, 39), (0, 97, 103, 42)]) ⟨0, 97, 108, 45⟩ (tableOf []) (by rw [htab]; rfl) (List.forall_mem_cons.mpr ⟨Or.inr ⟨by decide, "java/util/NoSuchElementException", hts _ clL_39, hX.2 _ (by decide +kernel) _ (by decide +kernel) (by decide +kernel)⟩, (List.forall_mem_cons.mpr ⟨Or.inr ⟨by decide, "java/lang/IndexOutOfBoundsException", hts _ clL_42, hX.2 _ (by decide +kernel) _ (by decide +kernel) (by decide +kernel)⟩, (fun _ h9 => absurd h9 List.not_mem_nil)⟩)⟩) (by decide) (by decide) (hts _ clL_45) (va_Nw.use rfl (hX.1.2.2.2.1 _ xcast_ISE)) hce hcv hcl ?_
                    refine lv_astore (pc := 108) (lv' := [(4, .ref q9), (0, .ref (ad 0 0)), (1, .int a1), (2, .int a2), (3, .int a3)]) hx hb dL_asks_108 hl (by decide) rfl (fun ls hl => ?_)
                    refine lv_ldc (pc := 110) (v := -70008) hx hb hown (hts _ lK_47) dL_asks_110 ?_
                    exact vx_ret (zirV (pc := 112) (Wd := WL E qa ca ad wd cI cB cP cT) (u := ((x1, y1, g1), qf0, cf0)) hx hb hr hlocks hAe hK hP hD hS rfl dL_asks_112 (by (try dsimp only); omega) (by (try dsimp only); omega) h)
                · refine lv_goto (pc := 89) (tgt := 97) hx hb dL_asks_89 (by decide) ?_
                  exact vx_ret (zirV (pc := 97) (Wd := WL E qa ca ad wd cI cB cP cT) (u := ((x0, y0, g0), qf0, cf0)) hx hb hr hlocks hAe hK hP hD hS rfl dL_asks_97 (by (try dsimp only); omega) (by (try dsimp only); omega) h)
            · have h := h.1 c_65
              refine lv_aload_n (pc := 68) hx hb dL_asks_68 rfl (lv_at hl 0 rfl) ?_
              refine lv_iload_n (pc := 69) hx hb dL_asks_69 rfl (lv_at hl 2 rfl) ?_
              refine lv_iload_n (pc := 70) hx hb dL_asks_70 rfl (lv_at hl 3 rfl) ?_
              refine lCallp (pc := 71) (E := LE qa ca cI qf0 cf0 E) (x := x0) (y := y0) (g := g0) [.int a2, .int a3] hFc (kX8_result x0 y0 g0 a2 a3 BC BS hlf h) (cwL_X8_result hts ⟨Nat.le_of_ble_eq_true rfl, Nat.le_of_ble_eq_true rfl⟩) (lRo hFc hP) hP hD hS rfl rfl hl.1 (Nat.le_of_ble_eq_true rfl) dL_asks_71 ⟨by show _ ≤ BC; (try dsimp only); omega, by show _ ≤ BS; (try dsimp only); omega⟩ (fun E2 ce q9 x1 y1 g1 H locs h hP hD hS hce hcv hcl => ?_) (fun r_71 H locs h hP hD hS => ?_)
              · rcases h with ⟨rfl, h⟩ | ⟨rfl, h⟩ | ⟨rfl, h⟩
                · refine vx_catch (name := "java/util/NoSuchElementException") hown (tableOf []) ⟨0, 97, 98, 39⟩ (tableOf [(0, 97, 103, 42), (0, 97, 108, 45)]) (by rw [htab]; rfl) (fun _ h9 => absurd h9 List.not_mem_nil) (by decide) (by decide) (hts _ clL_39) (va_Nw.use rfl (hX.1.2.2.2.1 _ xcast_NSE)) hce hcv hcl ?_
                  refine lv_astore (pc := 98) (lv' := [(4, .ref q9), (0, .ref (ad 0 0)), (1, .int a1), (2, .int a2), (3, .int a3)]) hx hb dL_asks_98 hl (by decide) rfl (fun ls hl => ?_)
                  refine lv_ldc (pc := 100) (v := -70006) hx hb hown (hts _ lK_41) dL_asks_100 ?_
                  exact vx_ret (zirV (pc := 102) (Wd := WL E qa ca ad wd cI cB cP cT) (u := ((x1, y1, g1), qf0, cf0)) hx hb hr hlocks hAe hK hP hD hS rfl dL_asks_102 (by (try dsimp only); omega) (by (try dsimp only); omega) h)
                · refine vx_catch (name := "java/lang/IndexOutOfBoundsException") hown (tableOf [(0, 97, 98, 39)]) ⟨0, 97, 103, 42⟩ (tableOf [(0, 97, 108, 45)]) (by rw [htab]; rfl) (List.forall_mem_cons.mpr ⟨Or.inr ⟨by decide, "java/util/NoSuchElementException", hts _ clL_39, hX.2 _ (by decide +kernel) _ (by decide +kernel) (by decide +kernel)⟩, (fun _ h9 => absurd h9 List.not_mem_nil)⟩) (by decide) (by decide) (hts _ clL_42) (va_Nw.use rfl (hX.1.2.2.2.1 _ xcast_IOB)) hce hcv hcl ?_
                  refine lv_astore (pc := 103) (lv' := [(4, .ref q9), (0, .ref (ad 0 0)), (1, .int a1), (2, .int a2), (3, .int a3)]) hx hb dL_asks_103 hl (by decide) rfl (fun ls hl => ?_)
                  refine lv_ldc (pc := 105) (v := -70007) hx hb hown (hts _ lK_44) dL_asks_105 ?_
                  exact vx_ret (zirV (pc := 107) (Wd := WL E qa ca ad wd cI cB cP cT) (u := ((x1, y1, g1), qf0, cf0)) hx hb hr hlocks hAe hK hP hD hS rfl dL_asks_107 (by (try dsimp only); omega) (by (try dsimp only); omega) h)
                · refine vx_catch (name := "java/lang/IllegalStateException") hown (tableOf [(0, 97, 98, 39), (0, 97, 103, 42)]) ⟨0, 97, 108, 45⟩ (tableOf []) (by rw [htab]; rfl) (List.forall_mem_cons.mpr ⟨Or.inr ⟨by decide, "java/util/NoSuchElementException", hts _ clL_39, hX.2 _ (by decide +kernel) _ (by decide +kernel) (by decide +kernel)⟩, (List.forall_mem_cons.mpr ⟨Or.inr ⟨by decide, "java/lang/IndexOutOfBoundsException", hts _ clL_42, hX.2 _ (by decide +kernel) _ (by decide +kernel) (by decide +kernel)⟩, (fun _ h9 => absurd h9 List.not_mem_nil)⟩)⟩) (by decide) (by decide) (hts _ clL_45) (va_Nw.use rfl (hX.1.2.2.2.1 _ xcast_ISE)) hce hcv hcl ?_
                  refine lv_astore (pc := 108) (lv' := [(4, .ref q9), (0, .ref (ad 0 0)), (1, .int a1), (2, .int a2), (3, .int a3)]) hx hb dL_asks_108 hl (by decide) rfl (fun ls hl => ?_)
                  refine lv_ldc (pc := 110) (v := -70008) hx hb hown (hts _ lK_47) dL_asks_110 ?_
                  exact vx_ret (zirV (pc := 112) (Wd := WL E qa ca ad wd cI cB cP cT) (u := ((x1, y1, g1), qf0, cf0)) hx hb hr hlocks hAe hK hP hD hS rfl dL_asks_112 (by (try dsimp only); omega) (by (try dsimp only); omega) h)
              · refine lv_goto (pc := 74) (tgt := 97) hx hb dL_asks_74 (by decide) ?_
                exact vx_ret (zirV (pc := 97) (Wd := WL E qa ca ad wd cI cB cP cT) (u := ((x0, y0, g0), qf0, cf0)) hx hb hr hlocks hAe hK hP hD hS rfl dL_asks_97 (by (try dsimp only); omega) (by (try dsimp only); omega) h)
          · have h := h.1 c_51
            refine lv_aload_n (pc := 54) hx hb dL_asks_54 rfl (lv_at hl 0 rfl) ?_
            refine lv_iload_n (pc := 55) hx hb dL_asks_55 rfl (lv_at hl 2 rfl) ?_
            refine lv_iload_n (pc := 56) hx hb dL_asks_56 rfl (lv_at hl 3 rfl) ?_
            refine lCallp (pc := 57) (E := LE qa ca cI qf0 cf0 E) (x := x0) (y := y0) (g := g0) [.int a2, .int a3] hFc (kX8_window x0 y0 g0 a2 a3 BC BS hlf h) (cwL_X8_window hts ⟨Nat.le_of_ble_eq_true rfl, Nat.le_of_ble_eq_true rfl⟩) (lRo hFc hP) hP hD hS rfl rfl hl.1 (Nat.le_of_ble_eq_true rfl) dL_asks_57 ⟨by show _ ≤ BC; (try dsimp only); omega, by show _ ≤ BS; (try dsimp only); omega⟩ (fun E2 ce q9 x1 y1 g1 H locs h hP hD hS hce hcv hcl => ?_) (fun r_57 H locs h hP hD hS => ?_)
            · rcases h with ⟨rfl, h⟩ | ⟨rfl, h⟩ | ⟨rfl, h⟩
              · refine vx_catch (name := "java/util/NoSuchElementException") hown (tableOf []) ⟨0, 97, 98, 39⟩ (tableOf [(0, 97, 103, 42), (0, 97, 108, 45)]) (by rw [htab]; rfl) (fun _ h9 => absurd h9 List.not_mem_nil) (by decide) (by decide) (hts _ clL_39) (va_Nw.use rfl (hX.1.2.2.2.1 _ xcast_NSE)) hce hcv hcl ?_
                refine lv_astore (pc := 98) (lv' := [(4, .ref q9), (0, .ref (ad 0 0)), (1, .int a1), (2, .int a2), (3, .int a3)]) hx hb dL_asks_98 hl (by decide) rfl (fun ls hl => ?_)
                refine lv_ldc (pc := 100) (v := -70006) hx hb hown (hts _ lK_41) dL_asks_100 ?_
                exact vx_ret (zirV (pc := 102) (Wd := WL E qa ca ad wd cI cB cP cT) (u := ((x1, y1, g1), qf0, cf0)) hx hb hr hlocks hAe hK hP hD hS rfl dL_asks_102 (by (try dsimp only); omega) (by (try dsimp only); omega) h)
              · refine vx_catch (name := "java/lang/IndexOutOfBoundsException") hown (tableOf [(0, 97, 98, 39)]) ⟨0, 97, 103, 42⟩ (tableOf [(0, 97, 108, 45)]) (by rw [htab]; rfl) (List.forall_mem_cons.mpr ⟨Or.inr ⟨by decide, "java/util/NoSuchElementException", hts _ clL_39, hX.2 _ (by decide +kernel) _ (by decide +kernel) (by decide +kernel)⟩, (fun _ h9 => absurd h9 List.not_mem_nil)⟩) (by decide) (by decide) (hts _ clL_42) (va_Nw.use rfl (hX.1.2.2.2.1 _ xcast_IOB)) hce hcv hcl ?_
                refine lv_astore (pc := 103) (lv' := [(4, .ref q9), (0, .ref (ad 0 0)), (1, .int a1), (2, .int a2), (3, .int a3)]) hx hb dL_asks_103 hl (by decide) rfl (fun ls hl => ?_)
                refine lv_ldc (pc := 105) (v := -70007) hx hb hown (hts _ lK_44) dL_asks_105 ?_
                exact vx_ret (zirV (pc := 107) (Wd := WL E qa ca ad wd cI cB cP cT) (u := ((x1, y1, g1), qf0, cf0)) hx hb hr hlocks hAe hK hP hD hS rfl dL_asks_107 (by (try dsimp only); omega) (by (try dsimp only); omega) h)
              · refine vx_catch (name := "java/lang/IllegalStateException") hown (tableOf [(0, 97, 98, 39), (0, 97, 103, 42)]) ⟨0, 97, 108, 45⟩ (tableOf []) (by rw [htab]; rfl) (List.forall_mem_cons.mpr ⟨Or.inr ⟨by decide, "java/util/NoSuchElementException", hts _ clL_39, hX.2 _ (by decide +kernel) _ (by decide +kernel) (by decide +kernel)⟩, (List.forall_mem_cons.mpr ⟨Or.inr ⟨by decide, "java/lang/IndexOutOfBoundsException", hts _ clL_42, hX.2 _ (by decide +kernel) _ (by decide +kernel) (by decide +kernel)⟩, (fun _ h9 => absurd h9 List.not_mem_nil)⟩)⟩) (by decide) (by decide) (hts _ clL_45) (va_Nw.use rfl (hX.1.2.2.2.1 _ xcast_ISE)) hce hcv hcl ?_
                refine lv_astore (pc := 108) (lv' := [(4, .ref q9), (0, .ref (ad 0 0)), (1, .int a1), (2, .int a2), (3, .int a3)]) hx hb dL_asks_108 hl (by decide) rfl (fun ls hl => ?_)
                refine lv_ldc (pc := 110) (v := -70008) hx hb hown (hts _ lK_47) dL_asks_110 ?_
                exact vx_ret (zirV (pc := 112) (Wd := WL E qa ca ad wd cI cB cP cT) (u := ((x1, y1, g1), qf0, cf0)) hx hb hr hlocks hAe hK hP hD hS rfl dL_asks_112 (by (try dsimp only); omega) (by (try dsimp only); omega) h)
            · refine lv_goto (pc := 60) (tgt := 97) hx hb dL_asks_60 (by decide) ?_
              exact vx_ret (zirV (pc := 97) (Wd := WL E qa ca ad wd cI cB cP cT) (u := ((x0, y0, g0), qf0, cf0)) hx hb hr hlocks hAe hK hP hD hS rfl dL_asks_97 (by (try dsimp only); omega) (by (try dsimp only); omega) h)
        · have h := h.1 c_39
          refine lv_aload_n (pc := 42) hx hb dL_asks_42 rfl (lv_at hl 0 rfl) ?_
          refine lCall (pc := 43) (E := LE qa ca cI qf0 cf0 E) (x := x0) (y := y0) (g := g0) [] hFc (kX8_crash x0 y0 g0 BC BS hlf h) (cwL_X8_crash hts ⟨Nat.le_of_ble_eq_true rfl, Nat.le_of_ble_eq_true rfl⟩) (lRo hFc hP) hP hD hS rfl rfl hl.1 (Nat.le_of_ble_eq_true rfl) dL_asks_43 ⟨by show _ ≤ BC; (try dsimp only); omega, by show _ ≤ BS; (try dsimp only); omega⟩ (fun E2 ce q9 x1 y1 g1 H locs h hP hD hS hce hcv hcl => ?_) (fun r_43 x_43 y_43 g_43 H locs h hP hD hS => ?_)
          · rcases h with ⟨rfl, h⟩ | ⟨rfl, h⟩ | ⟨rfl, h⟩
            · refine vx_catch (name := "java/util/NoSuchElementException") hown (tableOf []) ⟨0, 97, 98, 39⟩ (tableOf [(0, 97, 103, 42), (0, 97, 108, 45)]) (by rw [htab]; rfl) (fun _ h9 => absurd h9 List.not_mem_nil) (by decide) (by decide) (hts _ clL_39) (va_Nw.use rfl (hX.1.2.2.2.1 _ xcast_NSE)) hce hcv hcl ?_
              refine lv_astore (pc := 98) (lv' := [(4, .ref q9), (0, .ref (ad 0 0)), (1, .int a1), (2, .int a2), (3, .int a3)]) hx hb dL_asks_98 hl (by decide) rfl (fun ls hl => ?_)
              refine lv_ldc (pc := 100) (v := -70006) hx hb hown (hts _ lK_41) dL_asks_100 ?_
              exact vx_ret (zirV (pc := 102) (Wd := WL E qa ca ad wd cI cB cP cT) (u := ((x1, y1, g1), qf0, cf0)) hx hb hr hlocks hAe hK hP hD hS rfl dL_asks_102 (by (try dsimp only); omega) (by (try dsimp only); omega) h)
            · refine vx_catch (name := "java/lang/IndexOutOfBoundsException") hown (tableOf [(0, 97, 98, 39)]) ⟨0, 97, 103, 42⟩ (tableOf [(0, 97, 108, 45)]) (by rw [htab]; rfl) (List.forall_mem_cons.mpr ⟨Or.inr ⟨by decide, "java/util/NoSuchElementException", hts _ clL_39, hX.2 _ (by decide +kernel) _ (by decide +kernel) (by decide +kernel)⟩, (fun _ h9 => absurd h9 List.not_mem_nil)⟩) (by decide) (by decide) (hts _ clL_42) (va_Nw.use rfl (hX.1.2.2.2.1 _ xcast_IOB)) hce hcv hcl ?_
              refine lv_astore (pc := 103) (lv' := [(4, .ref q9), (0, .ref (ad 0 0)), (1, .int a1), (2, .int a2), (3, .int a3)]) hx hb dL_asks_103 hl (by decide) rfl (fun ls hl => ?_)
              refine lv_ldc (pc := 105) (v := -70007) hx hb hown (hts _ lK_44) dL_asks_105 ?_
              exact vx_ret (zirV (pc := 107) (Wd := WL E qa ca ad wd cI cB cP cT) (u := ((x1, y1, g1), qf0, cf0)) hx hb hr hlocks hAe hK hP hD hS rfl dL_asks_107 (by (try dsimp only); omega) (by (try dsimp only); omega) h)
            · refine vx_catch (name := "java/lang/IllegalStateException") hown (tableOf [(0, 97, 98, 39), (0, 97, 103, 42)]) ⟨0, 97, 108, 45⟩ (tableOf []) (by rw [htab]; rfl) (List.forall_mem_cons.mpr ⟨Or.inr ⟨by decide, "java/util/NoSuchElementException", hts _ clL_39, hX.2 _ (by decide +kernel) _ (by decide +kernel) (by decide +kernel)⟩, (List.forall_mem_cons.mpr ⟨Or.inr ⟨by decide, "java/lang/IndexOutOfBoundsException", hts _ clL_42, hX.2 _ (by decide +kernel) _ (by decide +kernel) (by decide +kernel)⟩, (fun _ h9 => absurd h9 List.not_mem_nil)⟩)⟩) (by decide) (by decide) (hts _ clL_45) (va_Nw.use rfl (hX.1.2.2.2.1 _ xcast_ISE)) hce hcv hcl ?_
              refine lv_astore (pc := 108) (lv' := [(4, .ref q9), (0, .ref (ad 0 0)), (1, .int a1), (2, .int a2), (3, .int a3)]) hx hb dL_asks_108 hl (by decide) rfl (fun ls hl => ?_)
              refine lv_ldc (pc := 110) (v := -70008) hx hb hown (hts _ lK_47) dL_asks_110 ?_
              exact vx_ret (zirV (pc := 112) (Wd := WL E qa ca ad wd cI cB cP cT) (u := ((x1, y1, g1), qf0, cf0)) hx hb hr hlocks hAe hK hP hD hS rfl dL_asks_112 (by (try dsimp only); omega) (by (try dsimp only); omega) h)
          · refine lv_goto (pc := 46) (tgt := 97) hx hb dL_asks_46 (by decide) ?_
            exact vx_ret (zirV (pc := 97) (Wd := WL E qa ca ad wd cI cB cP cT) (u := ((x_43, y_43, g_43), qf0, cf0)) hx hb hr hlocks hAe hK hP hD hS rfl dL_asks_97 (by (try dsimp only); omega) (by (try dsimp only); omega) h)
      · have h := h.1 c_26
        refine lv_aload_n (pc := 29) hx hb dL_asks_29 rfl (lv_at hl 0 rfl) ?_
        refine lv_iload_n (pc := 30) hx hb dL_asks_30 rfl (lv_at hl 2 rfl) ?_
        refine lCall (pc := 31) (E := LE qa ca cI qf0 cf0 E) (x := x0) (y := y0) (g := g0) [.int a2] hFc (kX8_complete x0 y0 g0 a2 BC BS hlf h) (cwL_X8_complete hts ⟨Nat.le_of_ble_eq_true rfl, Nat.le_of_ble_eq_true rfl⟩) (lRo hFc hP) hP hD hS rfl rfl hl.1 (Nat.le_of_ble_eq_true rfl) dL_asks_31 ⟨by show _ ≤ BC; (try dsimp only); omega, by show _ ≤ BS; (try dsimp only); omega⟩ (fun E2 ce q9 x1 y1 g1 H locs h hP hD hS hce hcv hcl => ?_) (fun r_31 x_31 y_31 g_31 H locs h hP hD hS => ?_)
        · rcases h with ⟨rfl, h⟩ | ⟨rfl, h⟩ | ⟨rfl, h⟩
          · refine vx_catch (name := "java/util/NoSuchElementException") hown (tableOf []) ⟨0, 97, 98, 39⟩ (tableOf [(0, 97, 103, 42), (0, 97, 108, 45)]) (by rw [htab]; rfl) (fun _ h9 => absurd h9 List.not_mem_nil) (by decide) (by decide) (hts _ clL_39) (va_Nw.use rfl (hX.1.2.2.2.1 _ xcast_NSE)) hce hcv hcl ?_
            refine lv_astore (pc := 98) (lv' := [(4, .ref q9), (0, .ref (ad 0 0)), (1, .int a1), (2, .int a2), (3, .int a3)]) hx hb dL_asks_98 hl (by decide) rfl (fun ls hl => ?_)
            refine lv_ldc (pc := 100) (v := -70006) hx hb hown (hts _ lK_41) dL_asks_100 ?_
            exact vx_ret (zirV (pc := 102) (Wd := WL E qa ca ad wd cI cB cP cT) (u := ((x1, y1, g1), qf0, cf0)) hx hb hr hlocks hAe hK hP hD hS rfl dL_asks_102 (by (try dsimp only); omega) (by (try dsimp only); omega) h)
          · refine vx_catch (name := "java/lang/IndexOutOfBoundsException") hown (tableOf [(0, 97, 98, 39)]) ⟨0, 97, 103, 42⟩ (tableOf [(0, 97, 108, 45)]) (by rw [htab]; rfl) (List.forall_mem_cons.mpr ⟨Or.inr ⟨by decide, "java/util/NoSuchElementException", hts _ clL_39, hX.2 _ (by decide +kernel) _ (by decide +kernel) (by decide +kernel)⟩, (fun _ h9 => absurd h9 List.not_mem_nil)⟩) (by decide) (by decide) (hts _ clL_42) (va_Nw.use rfl (hX.1.2.2.2.1 _ xcast_IOB)) hce hcv hcl ?_
            refine lv_astore (pc := 103) (lv' := [(4, .ref q9), (0, .ref (ad 0 0)), (1, .int a1), (2, .int a2), (3, .int a3)]) hx hb dL_asks_103 hl (by decide) rfl (fun ls hl => ?_)
            refine lv_ldc (pc := 105) (v := -70007) hx hb hown (hts _ lK_44) dL_asks_105 ?_
            exact vx_ret (zirV (pc := 107) (Wd := WL E qa ca ad wd cI cB cP cT) (u := ((x1, y1, g1), qf0, cf0)) hx hb hr hlocks hAe hK hP hD hS rfl dL_asks_107 (by (try dsimp only); omega) (by (try dsimp only); omega) h)
          · refine vx_catch (name := "java/lang/IllegalStateException") hown (tableOf [(0, 97, 98, 39), (0, 97, 103, 42)]) ⟨0, 97, 108, 45⟩ (tableOf []) (by rw [htab]; rfl) (List.forall_mem_cons.mpr ⟨Or.inr ⟨by decide, "java/util/NoSuchElementException", hts _ clL_39, hX.2 _ (by decide +kernel) _ (by decide +kernel) (by decide +kernel)⟩, (List.forall_mem_cons.mpr ⟨Or.inr ⟨by decide, "java/lang/IndexOutOfBoundsException", hts _ clL_42, hX.2 _ (by decide +kernel) _ (by decide +kernel) (by decide +kernel)⟩, (fun _ h9 => absurd h9 List.not_mem_nil)⟩)⟩) (by decide) (by decide) (hts _ clL_45) (va_Nw.use rfl (hX.1.2.2.2.1 _ xcast_ISE)) hce hcv hcl ?_
            refine lv_astore (pc := 108) (lv' := [(4, .ref q9), (0, .ref (ad 0 0)), (1, .int a1), (2, .int a2), (3, .int a3)]) hx hb dL_asks_108 hl (by decide) rfl (fun ls hl => ?_)
            refine lv_ldc (pc := 110) (v := -70008) hx hb hown (hts _ lK_47) dL_asks_110 ?_
            exact vx_ret (zirV (pc := 112) (Wd := WL E qa ca ad wd cI cB cP cT) (u := ((x1, y1, g1), qf0, cf0)) hx hb hr hlocks hAe hK hP hD hS rfl dL_asks_112 (by (try dsimp only); omega) (by (try dsimp only); omega) h)
        · refine lv_goto (pc := 34) (tgt := 97) hx hb dL_asks_34 (by decide) ?_
          exact vx_ret (zirV (pc := 97) (Wd := WL E qa ca ad wd cI cB cP cT) (u := ((x_31, y_31, g_31), qf0, cf0)) hx hb hr hlocks hAe hK hP hD hS rfl dL_asks_97 (by (try dsimp only); omega) (by (try dsimp only); omega) h)
    · have h := h.1 c_14
      refine lv_aload_n (pc := 17) hx hb dL_asks_17 rfl (lv_at hl 0 rfl) ?_
      refine lCall (pc := 18) (E := LE qa ca cI qf0 cf0 E) (x := x0) (y := y0) (g := g0) [] hFc (kX8_barrier x0 y0 g0 BC BS hlf h) (cwL_X8_barrier hts ⟨Nat.le_of_ble_eq_true rfl, Nat.le_of_ble_eq_true rfl⟩) (lRo hFc hP) hP hD hS rfl rfl hl.1 (Nat.le_of_ble_eq_true rfl) dL_asks_18 ⟨by show _ ≤ BC; (try dsimp only); omega, by show _ ≤ BS; (try dsimp only); omega⟩ (fun E2 ce q9 x1 y1 g1 H locs h hP hD hS hce hcv hcl => ?_) (fun r_18 x_18 y_18 g_18 H locs h hP hD hS => ?_)
      · rcases h with ⟨rfl, h⟩ | ⟨rfl, h⟩ | ⟨rfl, h⟩
        · refine vx_catch (name := "java/util/NoSuchElementException") hown (tableOf []) ⟨0, 97, 98, 39⟩ (tableOf [(0, 97, 103, 42), (0, 97, 108, 45)]) (by rw [htab]; rfl) (fun _ h9 => absurd h9 List.not_mem_nil) (by decide) (by decide) (hts _ clL_39) (va_Nw.use rfl (hX.1.2.2.2.1 _ xcast_NSE)) hce hcv hcl ?_
          refine lv_astore (pc := 98) (lv' := [(4, .ref q9), (0, .ref (ad 0 0)), (1, .int a1), (2, .int a2), (3, .int a3)]) hx hb dL_asks_98 hl (by decide) rfl (fun ls hl => ?_)
          refine lv_ldc (pc := 100) (v := -70006) hx hb hown (hts _ lK_41) dL_asks_100 ?_
          exact vx_ret (zirV (pc := 102) (Wd := WL E qa ca ad wd cI cB cP cT) (u := ((x1, y1, g1), qf0, cf0)) hx hb hr hlocks hAe hK hP hD hS rfl dL_asks_102 (by (try dsimp only); omega) (by (try dsimp only); omega) h)
        · refine vx_catch (name := "java/lang/IndexOutOfBoundsException") hown (tableOf [(0, 97, 98, 39)]) ⟨0, 97, 103, 42⟩ (tableOf [(0, 97, 108, 45)]) (by rw [htab]; rfl) (List.forall_mem_cons.mpr ⟨Or.inr ⟨by decide, "java/util/NoSuchElementException", hts _ clL_39, hX.2 _ (by decide +kernel) _ (by decide +kernel) (by decide +kernel)⟩, (fun _ h9 => absurd h9 List.not_mem_nil)⟩) (by decide) (by decide) (hts _ clL_42) (va_Nw.use rfl (hX.1.2.2.2.1 _ xcast_IOB)) hce hcv hcl ?_
          refine lv_astore (pc := 103) (lv' := [(4, .ref q9), (0, .ref (ad 0 0)), (1, .int a1), (2, .int a2), (3, .int a3)]) hx hb dL_asks_103 hl (by decide) rfl (fun ls hl => ?_)
          refine lv_ldc (pc := 105) (v := -70007) hx hb hown (hts _ lK_44) dL_asks_105 ?_
          exact vx_ret (zirV (pc := 107) (Wd := WL E qa ca ad wd cI cB cP cT) (u := ((x1, y1, g1), qf0, cf0)) hx hb hr hlocks hAe hK hP hD hS rfl dL_asks_107 (by (try dsimp only); omega) (by (try dsimp only); omega) h)
        · refine vx_catch (name := "java/lang/IllegalStateException") hown (tableOf [(0, 97, 98, 39), (0, 97, 103, 42)]) ⟨0, 97, 108, 45⟩ (tableOf []) (by rw [htab]; rfl) (List.forall_mem_cons.mpr ⟨Or.inr ⟨by decide, "java/util/NoSuchElementException", hts _ clL_39, hX.2 _ (by decide +kernel) _ (by decide +kernel) (by decide +kernel)⟩, (List.forall_mem_cons.mpr ⟨Or.inr ⟨by decide, "java/lang/IndexOutOfBoundsException", hts _ clL_42, hX.2 _ (by decide +kernel) _ (by decide +kernel) (by decide +kernel)⟩, (fun _ h9 => absurd h9 List.not_mem_nil)⟩)⟩) (by decide) (by decide) (hts _ clL_45) (va_Nw.use rfl (hX.1.2.2.2.1 _ xcast_ISE)) hce hcv hcl ?_
          refine lv_astore (pc := 108) (lv' := [(4, .ref q9), (0, .ref (ad 0 0)), (1, .int a1), (2, .int a2), (3, .int a3)]) hx hb dL_asks_108 hl (by decide) rfl (fun ls hl => ?_)
          refine lv_ldc (pc := 110) (v := -70008) hx hb hown (hts _ lK_47) dL_asks_110 ?_
          exact vx_ret (zirV (pc := 112) (Wd := WL E qa ca ad wd cI cB cP cT) (u := ((x1, y1, g1), qf0, cf0)) hx hb hr hlocks hAe hK hP hD hS rfl dL_asks_112 (by (try dsimp only); omega) (by (try dsimp only); omega) h)
      · refine lv_goto (pc := 21) (tgt := 97) hx hb dL_asks_21 (by decide) ?_
        exact vx_ret (zirV (pc := 97) (Wd := WL E qa ca ad wd cI cB cP cT) (u := ((x_18, y_18, g_18), qf0, cf0)) hx hb hr hlocks hAe hK hP hD hS rfl dL_asks_97 (by (try dsimp only); omega) (by (try dsimp only); omega) h)
  · have h := h.1 c_1
    refine lv_aload_n (pc := 4) hx hb dL_asks_4 rfl (lv_at hl 0 rfl) ?_
    refine lv_iload_n (pc := 5) hx hb dL_asks_5 rfl (lv_at hl 2 rfl) ?_
    refine lCall (pc := 6) (E := LE qa ca cI qf0 cf0 E) (x := x0) (y := y0) (g := g0) [.int a2] hFc (kX8_step x0 y0 g0 a2 BC BS hlf h) (cwL_X8_step hts ⟨Nat.le_of_ble_eq_true rfl, Nat.le_of_ble_eq_true rfl⟩) (lRo hFc hP) hP hD hS rfl rfl hl.1 (Nat.le_of_ble_eq_true rfl) dL_asks_6 ⟨by show _ ≤ BC; (try dsimp only); omega, by show _ ≤ BS; (try dsimp only); omega⟩ (fun E2 ce q9 x1 y1 g1 H locs h hP hD hS hce hcv hcl => ?_) (fun r_6 x_6 y_6 g_6 H locs h hP hD hS => ?_)
    · rcases h with ⟨rfl, h⟩ | ⟨rfl, h⟩ | ⟨rfl, h⟩
      · refine vx_catch (name := "java/util/NoSuchElementException") hown (tableOf []) ⟨0, 97, 98, 39⟩ (tableOf [(0, 97, 103, 42), (0, 97, 108, 45)]) (by rw [htab]; rfl) (fun _ h9 => absurd h9 List.not_mem_nil) (by decide) (by decide) (hts _ clL_39) (va_Nw.use rfl (hX.1.2.2.2.1 _ xcast_NSE)) hce hcv hcl ?_
        refine lv_astore (pc := 98) (lv' := [(4, .ref q9), (0, .ref (ad 0 0)), (1, .int a1), (2, .int a2), (3, .int a3)]) hx hb dL_asks_98 hl (by decide) rfl (fun ls hl => ?_)
        refine lv_ldc (pc := 100) (v := -70006) hx hb hown (hts _ lK_41) dL_asks_100 ?_
        exact vx_ret (zirV (pc := 102) (Wd := WL E qa ca ad wd cI cB cP cT) (u := ((x1, y1, g1), qf0, cf0)) hx hb hr hlocks hAe hK hP hD hS rfl dL_asks_102 (by (try dsimp only); omega) (by (try dsimp only); omega) h)
      · refine vx_catch (name := "java/lang/IndexOutOfBoundsException") hown (tableOf [(0, 97, 98, 39)]) ⟨0, 97, 103, 42⟩ (tableOf [(0, 97, 108, 45)]) (by rw [htab]; rfl) (List.forall_mem_cons.mpr ⟨Or.inr ⟨by decide, "java/util/NoSuchElementException", hts _ clL_39, hX.2 _ (by decide +kernel) _ (by decide +kernel) (by decide +kernel)⟩, (fun _ h9 => absurd h9 List.not_mem_nil)⟩) (by decide) (by decide) (hts _ clL_42) (va_Nw.use rfl (hX.1.2.2.2.1 _ xcast_IOB)) hce hcv hcl ?_
        refine lv_astore (pc := 103) (lv' := [(4, .ref q9), (0, .ref (ad 0 0)), (1, .int a1), (2, .int a2), (3, .int a3)]) hx hb dL_asks_103 hl (by decide) rfl (fun ls hl => ?_)
        refine lv_ldc (pc := 105) (v := -70007) hx hb hown (hts _ lK_44) dL_asks_105 ?_
        exact vx_ret (zirV (pc := 107) (Wd := WL E qa ca ad wd cI cB cP cT) (u := ((x1, y1, g1), qf0, cf0)) hx hb hr hlocks hAe hK hP hD hS rfl dL_asks_107 (by (try dsimp only); omega) (by (try dsimp only); omega) h)
      · refine vx_catch (name := "java/lang/IllegalStateException") hown (tableOf [(0, 97, 98, 39), (0, 97, 103, 42)]) ⟨0, 97, 108, 45⟩ (tableOf []) (by rw [htab]; rfl) (List.forall_mem_cons.mpr ⟨Or.inr ⟨by decide, "java/util/NoSuchElementException", hts _ clL_39, hX.2 _ (by decide +kernel) _ (by decide +kernel) (by decide +kernel)⟩, (List.forall_mem_cons.mpr ⟨Or.inr ⟨by decide, "java/lang/IndexOutOfBoundsException", hts _ clL_42, hX.2 _ (by decide +kernel) _ (by decide +kernel) (by decide +kernel)⟩, (fun _ h9 => absurd h9 List.not_mem_nil)⟩)⟩) (by decide) (by decide) (hts _ clL_45) (va_Nw.use rfl (hX.1.2.2.2.1 _ xcast_ISE)) hce hcv hcl ?_
        refine lv_astore (pc := 108) (lv' := [(4, .ref q9), (0, .ref (ad 0 0)), (1, .int a1), (2, .int a2), (3, .int a3)]) hx hb dL_asks_108 hl (by decide) rfl (fun ls hl => ?_)
        refine lv_ldc (pc := 110) (v := -70008) hx hb hown (hts _ lK_47) dL_asks_110 ?_
        exact vx_ret (zirV (pc := 112) (Wd := WL E qa ca ad wd cI cB cP cT) (u := ((x1, y1, g1), qf0, cf0)) hx hb hr hlocks hAe hK hP hD hS rfl dL_asks_112 (by (try dsimp only); omega) (by (try dsimp only); omega) h)
    · refine lv_goto (pc := 9) (tgt := 97) hx hb dL_asks_9 (by decide) ?_
      exact vx_ret (zirV (pc := 97) (Wd := WL E qa ca ad wd cI cB cP cT) (u := ((x_6, y_6, g_6), qf0, cf0)) hx hb hr hlocks hAe hK hP hD hS rfl dL_asks_97 (by (try dsimp only); omega) (by (try dsimp only); omega) h)

def wL_plans (x : Nat → Nat → Int32) (y : Nat → Nat → Nat) (g : Nat → Nat → Nat → Int32) (qf cf : Nat → Int32) (a1 : Int32) (bc bs : Nat) (Φ : Int32 → (Nat → Nat → Int32) → (Nat → Nat → Nat) → (Nat → Nat → Nat → Int32) → (Nat → Int32) → (Nat → Int32) → Prop) : Prop := ((a1 = 0 ∨ a1 = 1) ∧ (wX8_plan x y g a1 bc bs (fun r_2 x_2 y_2 g_2 => Φ r_2 x_2 y_2 g_2 qf cf) (fun E2 x1 y1 g1 => (E2 = "java/lang/IllegalArgumentException" ∧ Φ (-70009) x1 y1 g1 qf cf) ∨ (E2 = "java/lang/IllegalStateException" ∧ Φ (-70008) x1 y1 g1 qf cf))))
set_option maxRecDepth 100000 in
set_option maxHeartbeats 4000000 in
theorem kL_plans {l : Launch} {D : va_G} {E : va_W} {qa ca : Nat} {ad : Nat → Nat → Nat} {wd sk : Nat → Nat} {cI cB cP cT : ClassId} {sz : Nat} (x0 : Nat → Nat → Int32) (y0 : Nat → Nat → Nat) (g0 : Nat → Nat → Nat → Int32) (qf0 cf0 : Nat → Int32) (a1 : Int32) (BC BS : Nat) {Φ : Int32 → (Nat → Nat → Int32) → (Nat → Nat → Nat) → (Nat → Nat → Nat → Int32) → (Nat → Int32) → (Nat → Int32) → Prop} (hlf : l.stackTraces = false) (h : wL_plans x0 y0 g0 qf0 cf0 a1 BC BS Φ) : vx_Met l yL_plans (zwsH yL_plans cL_plans 3 (some .int) [(0, 5, 6, 52), (0, 5, 10, 45)]) { frames := 9, cells := BC, slots := BS, locals := 216 } (zPc D (cTy cI cB cP cT) (lX wd sk) (cW (LE qa ca cI qf0 cf0 E) ad wd cI cB cP cT (x0, y0, g0)) [.ref (ad 0 0), .int a1] sz) (zQi D (cTy cI cB cP cT) (WL E qa ca ad wd cI cB cP cT) (fun r u => Φ r u.1.1 u.1.2.1 u.1.2.2 u.2.1 u.2.2) (cW (LE qa ca cI qf0 cf0 E) ad wd cI cB cP cT (x0, y0, g0)) sz) (fun _ _ _ => False) BC BS (va_A (cW (LE qa ca cI qf0 cf0 E) ad wd cI cB cP cT (x0, y0, g0)) sz) := by
  refine zMetH (by decide) (Nat.le_of_ble_eq_true rfl) ?_
  intro p e s m args below meth c A hx hb hr hml hown hts hlocks htab hsz hAe hA hS hP hK hD hX ls hl
  subst hsz
  have hF : zFx p s m args c cL_plans RL A D (cTy cI cB cP cT) (lX wd sk) 3 := ⟨hx, hb, hml, hown, hts, hA, hK, lX_cl wd sk, hX⟩
  have hFc : zFx p s m args c cL_plans RL A D (cTy cI cB cP cT) (cX wd sk) 3 := ⟨hx, hb, hml, hown, hts, hA, hK, cX_cl wd sk, hX.1⟩
  have hl : lv_has ls 3 [(0, .ref (ad 0 0)), (1, .int a1)] := hl
  have hB : 0 + BC ≤ BC ∧ 0 + BS ≤ BS := ⟨by omega, by omega⟩
  unfold wL_plans at h
  refine lv_aload_n (pc := 0) hx hb dL_plans_0 rfl (lv_at hl 0 rfl) ?_
  refine lv_iload_n (pc := 1) hx hb dL_plans_1 rfl (lv_at hl 1 rfl) ?_
  obtain ⟨hz_2, h⟩ := h
  refine lCall (pc := 2) (E := LE qa ca cI qf0 cf0 E) (x := x0) (y := y0) (g := g0) [.int a1] hFc (kX8_plan x0 y0 g0 a1 BC BS hlf h hz_2) (cwL_X8_plan hts ⟨Nat.le_of_ble_eq_true rfl, Nat.le_of_ble_eq_true rfl⟩) (lRo hFc hP) hP hD hS rfl rfl hl.1 (Nat.le_of_ble_eq_true rfl) dL_plans_2 ⟨by show _ ≤ BC; (try dsimp only); omega, by show _ ≤ BS; (try dsimp only); omega⟩ (fun E2 ce q9 x1 y1 g1 H locs h hP hD hS hce hcv hcl => ?_) (fun r_2 x_2 y_2 g_2 H locs h hP hD hS => ?_)
  · rcases h with ⟨rfl, h⟩ | ⟨rfl, h⟩
    · refine vx_catch (name := "java/lang/IllegalArgumentException") hown (tableOf []) ⟨0, 5, 6, 52⟩ (tableOf [(0, 5, 10, 45)]) (by rw [htab]; rfl) (fun _ h9 => absurd h9 List.not_mem_nil) (by decide) (by decide) (hts _ clL_52) (va_Nw.use rfl (hX.1.2.2.2.1 _ xcast_IAE)) hce hcv hcl ?_
      refine lv_astore_n (pc := 6) (lv' := [(2, .ref q9), (0, .ref (ad 0 0)), (1, .int a1)]) hx hb dL_plans_6 rfl hl (by decide) rfl (fun ls hl => ?_)
      refine lv_ldc (pc := 7) (v := -70009) hx hb hown (hts _ lK_54) dL_plans_7 ?_
      exact vx_ret (zirV (pc := 9) (Wd := WL E qa ca ad wd cI cB cP cT) (u := ((x1, y1, g1), qf0, cf0)) hx hb hr hlocks hAe hK hP hD hS rfl dL_plans_9 (by (try dsimp only); omega) (by (try dsimp only); omega) h)
    · refine vx_catch (name := "java/lang/IllegalStateException") hown (tableOf [(0, 5, 6, 52)]) ⟨0, 5, 10, 45⟩ (tableOf []) (by rw [htab]; rfl) (List.forall_mem_cons.mpr ⟨Or.inr ⟨by decide, "java/lang/IllegalArgumentException", hts _ clL_52, hX.2 _ (by decide +kernel) _ (by decide +kernel) (by decide +kernel)⟩, (fun _ h9 => absurd h9 List.not_mem_nil)⟩) (by decide) (by decide) (hts _ clL_45) (va_Nw.use rfl (hX.1.2.2.2.1 _ xcast_ISE)) hce hcv hcl ?_
      refine lv_astore_n (pc := 10) (lv' := [(2, .ref q9), (0, .ref (ad 0 0)), (1, .int a1)]) hx hb dL_plans_10 rfl hl (by decide) rfl (fun ls hl => ?_)
      refine lv_ldc (pc := 11) (v := -70008) hx hb hown (hts _ lK_47) dL_plans_11 ?_
      exact vx_ret (zirV (pc := 13) (Wd := WL E qa ca ad wd cI cB cP cT) (u := ((x1, y1, g1), qf0, cf0)) hx hb hr hlocks hAe hK hP hD hS rfl dL_plans_13 (by (try dsimp only); omega) (by (try dsimp only); omega) h)
  · exact vx_ret (zirV (pc := 5) (Wd := WL E qa ca ad wd cI cB cP cT) (u := ((x_2, y_2, g_2), qf0, cf0)) hx hb hr hlocks hAe hK hP hD hS rfl dL_plans_5 (by (try dsimp only); omega) (by (try dsimp only); omega) h)

def jL_types_89 (W3 : (Nat → Nat → Int32) → (Nat → Nat → Nat) → (Nat → Nat → Nat → Int32) → (Nat → Int32) → (Nat → Int32) → Int32 → Int32 → Int32 → Int32 → Int32 → Int32 → Int32 → Int32 → Nat → Nat → Prop) (Φ : (Nat → Nat → Int32) → (Nat → Nat → Nat) → (Nat → Nat → Nat → Int32) → (Nat → Int32) → (Nat → Int32) → Prop) (x : Nat → Nat → Int32) (y : Nat → Nat → Nat) (g : Nat → Nat → Nat → Int32) (qf cf : Nat → Int32) (v1 : Int32) (v2 : Int32) (v3 : Int32) (v4 : Int32) (v5 : Int32) (v6 : Int32) (v7 : Int32) (v8 : Int32) (bc bs : Nat) : Prop := (∀ v8_89 : Int32, v8_89 = v8 + 1 → (W3 x y g qf cf v1 v2 v3 v4 v5 v6 v7 v8_89 bc bs))
def jL_types_74 (W3 : (Nat → Nat → Int32) → (Nat → Nat → Nat) → (Nat → Nat → Nat → Int32) → (Nat → Int32) → (Nat → Int32) → Int32 → Int32 → Int32 → Int32 → Int32 → Int32 → Int32 → Int32 → Nat → Nat → Prop) (Φ : (Nat → Nat → Int32) → (Nat → Nat → Nat) → (Nat → Nat → Nat → Int32) → (Nat → Int32) → (Nat → Int32) → Prop) (x : Nat → Nat → Int32) (y : Nat → Nat → Nat) (g : Nat → Nat → Nat → Int32) (qf cf : Nat → Int32) (v1 : Int32) (v2 : Int32) (v3 : Int32) (v4 : Int32) (v5 : Int32) (v6 : Int32) (v7 : Int32) (v8 : Int32) (s0 : Int32) (bc bs : Nat) : Prop := ((s0 ≤ 0 → (jL_types_89 W3 Φ x y g qf cf v1 v2 v3 v4 v5 v6 v7 v8 bc bs)) ∧ (¬ s0 ≤ 0 → (∃ kc_85 ks_85 bc_85 bs_85 : Nat, kc_85 + bc_85 ≤ bc ∧ ks_85 + bs_85 ≤ bs ∧ (wX8_type x y g ((s0.toUInt32 % 65536).toInt32) kc_85 ks_85 (fun r_85 x_85 y_85 g_85 => (jL_types_89 W3 Φ x_85 y_85 g_85 qf cf v1 v2 v3 v4 v5 v6 v7 v8 bc_85 bs_85)) (fun _ _ _ _ => False)))))
def lL_types_3 (Φ : (Nat → Nat → Int32) → (Nat → Nat → Nat) → (Nat → Nat → Nat → Int32) → (Nat → Int32) → (Nat → Int32) → Prop) : Nat → (Nat → Nat → Int32) → (Nat → Nat → Nat) → (Nat → Nat → Nat → Int32) → (Nat → Int32) → (Nat → Int32) → Int32 → Int32 → Int32 → Int32 → Int32 → Int32 → Int32 → Int32 → Nat → Nat → Prop
  | 0, _, _, _, _, _, _, _, _, _, _, _, _, _, _, _ => False
  | n3 + 1, x, y, g, qf, cf, v1, v2, v3, v4, v5, v6, v7, v8, bc, bs => ((7 ≤ v8 → (Φ x y g qf cf)) ∧ (¬ 7 ≤ v8 → ((v8 = 0 → (jL_types_74 (lL_types_3 Φ n3) Φ x y g qf cf v1 v2 v3 v4 v5 v6 v7 v8 v1 bc bs)) ∧ (¬ v8 = 0 → ((v8 = 1 → (jL_types_74 (lL_types_3 Φ n3) Φ x y g qf cf v1 v2 v3 v4 v5 v6 v7 v8 v2 bc bs)) ∧ (¬ v8 = 1 → ((v8 = 2 → (jL_types_74 (lL_types_3 Φ n3) Φ x y g qf cf v1 v2 v3 v4 v5 v6 v7 v8 v3 bc bs)) ∧ (¬ v8 = 2 → ((v8 = 3 → (jL_types_74 (lL_types_3 Φ n3) Φ x y g qf cf v1 v2 v3 v4 v5 v6 v7 v8 v4 bc bs)) ∧ (¬ v8 = 3 → ((v8 = 4 → (jL_types_74 (lL_types_3 Φ n3) Φ x y g qf cf v1 v2 v3 v4 v5 v6 v7 v8 v5 bc bs)) ∧ (¬ v8 = 4 → ((v8 = 5 → (jL_types_74 (lL_types_3 Φ n3) Φ x y g qf cf v1 v2 v3 v4 v5 v6 v7 v8 v6 bc bs)) ∧ (¬ v8 = 5 → (jL_types_74 (lL_types_3 Φ n3) Φ x y g qf cf v1 v2 v3 v4 v5 v6 v7 v8 v7 bc bs)))))))))))))))
def wL_types (x : Nat → Nat → Int32) (y : Nat → Nat → Nat) (g : Nat → Nat → Nat → Int32) (qf cf : Nat → Int32) (a1 : Int32) (a2 : Int32) (a3 : Int32) (a4 : Int32) (a5 : Int32) (a6 : Int32) (a7 : Int32) (bc bs : Nat) (Φ : (Nat → Nat → Int32) → (Nat → Nat → Nat) → (Nat → Nat → Nat → Int32) → (Nat → Int32) → (Nat → Int32) → Prop) : Prop := (∃ n3 : Nat, lL_types_3 Φ n3 x y g qf cf a1 a2 a3 a4 a5 a6 a7 0 bc bs)
set_option maxRecDepth 100000 in
set_option maxHeartbeats 4000000 in
theorem kL_types {l : Launch} {D : va_G} {E : va_W} {qa ca : Nat} {ad : Nat → Nat → Nat} {wd sk : Nat → Nat} {cI cB cP cT : ClassId} {sz : Nat} (x0 : Nat → Nat → Int32) (y0 : Nat → Nat → Nat) (g0 : Nat → Nat → Nat → Int32) (qf0 cf0 : Nat → Int32) (a1 : Int32) (a2 : Int32) (a3 : Int32) (a4 : Int32) (a5 : Int32) (a6 : Int32) (a7 : Int32) (BC BS : Nat) {Φ : (Nat → Nat → Int32) → (Nat → Nat → Nat) → (Nat → Nat → Nat → Int32) → (Nat → Int32) → (Nat → Int32) → Prop} (hlf : l.stackTraces = false) (h : wL_types x0 y0 g0 qf0 cf0 a1 a2 a3 a4 a5 a6 a7 BC BS Φ) : Met l yL_types (zws yL_types cL_types 10 none) { frames := 7, cells := BC, slots := BS, locals := 193 } (zPc D (cTy cI cB cP cT) (lX wd sk) (cW (LE qa ca cI qf0 cf0 E) ad wd cI cB cP cT (x0, y0, g0)) [.ref (ad 0 0), .int a1, .int a2, .int a3, .int a4, .int a5, .int a6, .int a7] sz) (zQv D (cTy cI cB cP cT) (WL E qa ca ad wd cI cB cP cT) (fun u => Φ u.1.1 u.1.2.1 u.1.2.2 u.2.1 u.2.2) (cW (LE qa ca cI qf0 cf0 E) ad wd cI cB cP cT (x0, y0, g0)) sz) BC BS (va_A (cW (LE qa ca cI qf0 cf0 E) ad wd cI cB cP cT (x0, y0, g0)) sz) := by
  refine zMet (by decide) (Nat.le_of_ble_eq_true rfl) ?_
  intro p e s m args below meth c A hx hb hr hml hown hts hlocks hsz hAe hA hS hP hK hD hX ls hl
  subst hsz
  have hF : zFx p s m args c cL_types RL A D (cTy cI cB cP cT) (lX wd sk) 10 := ⟨hx, hb, hml, hown, hts, hA, hK, lX_cl wd sk, hX⟩
  have hFc : zFx p s m args c cL_types RL A D (cTy cI cB cP cT) (cX wd sk) 10 := ⟨hx, hb, hml, hown, hts, hA, hK, cX_cl wd sk, hX.1⟩
  have hl : lv_has ls 10 [(0, .ref (ad 0 0)), (1, .int a1), (2, .int a2), (3, .int a3), (4, .int a4), (5, .int a5), (6, .int a6), (7, .int a7)] := hl
  have hB : 0 + BC ≤ BC ∧ 0 + BS ≤ BS := ⟨by omega, by omega⟩
  have L3 : ∀ n3 : Nat, ∀ (x : Nat → Nat → Int32) (y : Nat → Nat → Nat) (g : Nat → Nat → Nat → Int32) (qf cf : Nat → Int32) (v1 : Int32) (v2 : Int32) (v3 : Int32) (v4 : Int32) (v5 : Int32) (v6 : Int32) (v7 : Int32) (v8 : Int32) (bc bs : Nat), lL_types_3 Φ n3 x y g qf cf v1 v2 v3 v4 v5 v6 v7 v8 bc bs → ∀ (cells slots : Nat), (cells + bc ≤ BC ∧ slots + bs ≤ BS) → ∀ (H : Heap) (locs : List Loc) (ls : Array Slot), va_P D vwCl (cW (LE qa ca cI qf cf E) ad wd cI cB cP cT (x, y, g)) H → va_D A (cW (LE qa ca cI qf cf E) ad wd cI cB cP cT (x, y, g)) → va_S A s.heap H locs → lv_has ls 10 [(0, .ref (ad 0 0)), (1, .int v1), (2, .int v2), (3, .int v3), (4, .int v4), (5, .int v5), (6, .int v6), (7, .int v7), (8, .int v8)] → W p l e { frames := 7, cells := BC, slots := BS, locals := 193 } s m args below meth c H locs cells slots (MQ below (zQv D (cTy cI cB cP cT) (WL E qa ca ad wd cI cB cP cT) (fun u => Φ u.1.1 u.1.2.1 u.1.2.2 u.2.1 u.2.2) (cW (LE qa ca cI qf0 cf0 E) ad wd cI cB cP cT (x0, y0, g0)) s.heap.size) args s BC BS (va_A (cW (LE qa ca cI qf0 cf0 E) ad wd cI cB cP cT (x0, y0, g0)) s.heap.size)) (F0 m 3 ls []) := by
    intro n3
    induction n3 with
    | zero => intro x y g qf cf v1 v2 v3 v4 v5 v6 v7 v8 bc bs h cells slots hB H locs ls hP hD hS hl; exact h.elim
    | succ n3 ih3 =>
      have J89 : ∀ (x : Nat → Nat → Int32) (y : Nat → Nat → Nat) (g : Nat → Nat → Nat → Int32) (qf cf : Nat → Int32) (v1 : Int32) (v2 : Int32) (v3 : Int32) (v4 : Int32) (v5 : Int32) (v6 : Int32) (v7 : Int32) (v8 : Int32) (bc bs : Nat), jL_types_89 (lL_types_3 Φ n3) Φ x y g qf cf v1 v2 v3 v4 v5 v6 v7 v8 bc bs → ∀ (cells slots : Nat), (cells + bc ≤ BC ∧ slots + bs ≤ BS) → ∀ (H : Heap) (locs : List Loc) (ls : Array Slot), va_P D vwCl (cW (LE qa ca cI qf cf E) ad wd cI cB cP cT (x, y, g)) H → va_D A (cW (LE qa ca cI qf cf E) ad wd cI cB cP cT (x, y, g)) → va_S A s.heap H locs → lv_has ls 10 [(0, .ref (ad 0 0)), (1, .int v1), (2, .int v2), (3, .int v3), (4, .int v4), (5, .int v5), (6, .int v6), (7, .int v7), (8, .int v8)] → W p l e { frames := 7, cells := BC, slots := BS, locals := 193 } s m args below meth c H locs cells slots (MQ below (zQv D (cTy cI cB cP cT) (WL E qa ca ad wd cI cB cP cT) (fun u => Φ u.1.1 u.1.2.1 u.1.2.2 u.2.1 u.2.2) (cW (LE qa ca cI qf0 cf0 E) ad wd cI cB cP cT (x0, y0, g0)) s.heap.size) args s BC BS (va_A (cW (LE qa ca cI qf0 cf0 E) ad wd cI cB cP cT (x0, y0, g0)) s.heap.size)) (F0 m 89 ls []) := by
        intro x y g qf cf v1 v2 v3 v4 v5 v6 v7 v8 bc bs h cells slots hB H locs ls hP hD hS hl
        unfold jL_types_89 at h
        obtain ⟨v8_89, e_v8_89⟩ : ∃ y : Int32, y = v8 + 1 := ⟨_, rfl⟩
        replace h := h v8_89 e_v8_89
        refine lv_iinc (pc := 89) (v := v8_89) (lv' := [(8, .int v8_89), (0, .ref (ad 0 0)), (1, .int v1), (2, .int v2), (3, .int v3), (4, .int v4), (5, .int v5), (6, .int v6), (7, .int v7)]) hx hb dL_types_89 hl (k := 8) rfl (by rw [e_v8_89]; rfl) (by decide) rfl (fun ls hl => ?_)
        refine lv_goto (pc := 92) (tgt := 3) hx hb dL_types_92 (by decide) ?_
        exact ih3 x y g qf cf v1 v2 v3 v4 v5 v6 v7 v8_89 bc bs h _ _ hB _ _ _ hP hD hS (lv_sub hl [1, 2, 3, 4, 5, 6, 7, 8, 0] rfl)
      have J74 : ∀ (x : Nat → Nat → Int32) (y : Nat → Nat → Nat) (g : Nat → Nat → Nat → Int32) (qf cf : Nat → Int32) (v1 : Int32) (v2 : Int32) (v3 : Int32) (v4 : Int32) (v5 : Int32) (v6 : Int32) (v7 : Int32) (v8 : Int32) (s0 : Int32) (bc bs : Nat), jL_types_74 (lL_types_3 Φ n3) Φ x y g qf cf v1 v2 v3 v4 v5 v6 v7 v8 s0 bc bs → ∀ (cells slots : Nat), (cells + bc ≤ BC ∧ slots + bs ≤ BS) → ∀ (H : Heap) (locs : List Loc) (ls : Array Slot), va_P D vwCl (cW (LE qa ca cI qf cf E) ad wd cI cB cP cT (x, y, g)) H → va_D A (cW (LE qa ca cI qf cf E) ad wd cI cB cP cT (x, y, g)) → va_S A s.heap H locs → lv_has ls 10 [(0, .ref (ad 0 0)), (1, .int v1), (2, .int v2), (3, .int v3), (4, .int v4), (5, .int v5), (6, .int v6), (7, .int v7), (8, .int v8)] → W p l e { frames := 7, cells := BC, slots := BS, locals := 193 } s m args below meth c H locs cells slots (MQ below (zQv D (cTy cI cB cP cT) (WL E qa ca ad wd cI cB cP cT) (fun u => Φ u.1.1 u.1.2.1 u.1.2.2 u.2.1 u.2.2) (cW (LE qa ca cI qf0 cf0 E) ad wd cI cB cP cT (x0, y0, g0)) s.heap.size) args s BC BS (va_A (cW (LE qa ca cI qf0 cf0 E) ad wd cI cB cP cT (x0, y0, g0)) s.heap.size)) (F0 m 74 ls [.int s0]) := by
        intro x y g qf cf v1 v2 v3 v4 v5 v6 v7 v8 s0 bc bs h cells slots hB H locs ls hP hD hS hl
        unfold jL_types_74 at h
        refine lv_istore (pc := 74) (lv' := [(9, .int s0), (0, .ref (ad 0 0)), (1, .int v1), (2, .int v2), (3, .int v3), (4, .int v4), (5, .int v5), (6, .int v6), (7, .int v7), (8, .int v8)]) hx hb dL_types_74 hl (by decide) rfl (fun ls hl => ?_)
        refine lv_iload (pc := 76) hx hb dL_types_76 (lv_at hl 0 rfl) ?_
        refine lv_if_le (pc := 78) (tgt := 89) hx hb dL_types_78 (by decide) (fun c_78 => ?_) (fun c_78 => ?_)
        · have h := h.1 c_78
          exact J89 x y g qf cf v1 v2 v3 v4 v5 v6 v7 v8 bc bs h _ _ hB _ _ _ hP hD hS (lv_sub hl [1, 2, 3, 4, 5, 6, 7, 8, 9] rfl)
        · have h := h.2 c_78
          refine lv_aload_n (pc := 81) hx hb dL_types_81 rfl (lv_at hl 1 rfl) ?_
          refine lv_iload (pc := 82) hx hb dL_types_82 (lv_at hl 0 rfl) ?_
          refine lv_i2c (pc := 84) (v := ((s0.toUInt32 % 65536).toInt32)) hx hb dL_types_84 rfl ?_
          obtain ⟨kc_85, ks_85, bc_85, bs_85, ec_85, es_85, h⟩ := h
          refine lCall (pc := 85) (E := LE qa ca cI qf cf E) (x := x) (y := y) (g := g) [.int ((s0.toUInt32 % 65536).toInt32)] hFc (kX8_type x y g ((s0.toUInt32 % 65536).toInt32) kc_85 ks_85 hlf h) (cwL_X8_type hts ⟨Nat.le_of_ble_eq_true rfl, Nat.le_of_ble_eq_true rfl⟩) (lRo hFc hP) hP hD hS rfl rfl hl.1 (Nat.le_of_ble_eq_true rfl) dL_types_85 ⟨by show _ ≤ BC; (try dsimp only); omega, by show _ ≤ BS; (try dsimp only); omega⟩ (fun E2 ce q9 x1 y1 g1 H locs h hP hD hS hce hcv hcl => h.elim) (fun r_85 x_85 y_85 g_85 H locs h hP hD hS => ?_)
          have hB : (cells + kc_85) + bc_85 ≤ BC ∧ (slots + ks_85) + bs_85 ≤ BS := ⟨by omega, by omega⟩
          refine lv_pop (pc := 88) hx hb dL_types_88 rfl ?_
          exact J89 x_85 y_85 g_85 qf cf v1 v2 v3 v4 v5 v6 v7 v8 bc_85 bs_85 h _ _ hB _ _ _ hP hD hS (lv_sub hl [1, 2, 3, 4, 5, 6, 7, 8, 9] rfl)
      intro x y g qf cf v1 v2 v3 v4 v5 v6 v7 v8 bc bs h cells slots hB H locs ls hP hD hS hl
      unfold lL_types_3 at h
      refine lv_iload (pc := 3) hx hb dL_types_3 (lv_at hl 8 rfl) ?_
      refine lv_bipush (pc := 5) (v := 7) hx hb dL_types_5 (by decide) ?_
      refine lv_icmp_ge (pc := 7) (tgt := 95) hx hb dL_types_7 (by decide) (fun c_7 => ?_) (fun c_7 => ?_)
      · have h := h.1 c_7
        exact zvr (pc := 95) (Wd := WL E qa ca ad wd cI cB cP cT) (u := ((x, y, g), qf, cf)) hx hb hr hlocks hAe hK hP hD hS dL_types_95 (by (try dsimp only); omega) (by (try dsimp only); omega) h
      · have h := h.2 c_7
        refine lv_iload (pc := 10) hx hb dL_types_10 (lv_at hl 8 rfl) ?_
        refine lv_if_ne (pc := 12) (tgt := 19) hx hb dL_types_12 (by decide) (fun c_12 => ?_) (fun c_12 => ?_)
        · have h := h.2 c_12
          refine lv_iload (pc := 19) hx hb dL_types_19 (lv_at hl 8 rfl) ?_
          refine lv_iconst (pc := 21) (v := 1) hx hb dL_types_21 (by decide) ?_
          refine lv_icmp_ne (pc := 22) (tgt := 29) hx hb dL_types_22 (by decide) (fun c_22 => ?_) (fun c_22 => ?_)
          · have h := h.2 c_22
            refine lv_iload (pc := 29) hx hb dL_types_29 (lv_at hl 8 rfl) ?_
            refine lv_iconst (pc := 31) (v := 2) hx hb dL_types_31 (by decide) ?_
            refine lv_icmp_ne (pc := 32) (tgt := 39) hx hb dL_types_32 (by decide) (fun c_32 => ?_) (fun c_32 => ?_)
            · have h := h.2 c_32
              refine lv_iload (pc := 39) hx hb dL_types_39 (lv_at hl 8 rfl) ?_
              refine lv_iconst (pc := 41) (v := 3) hx hb dL_types_41 (by decide) ?_
              refine lv_icmp_ne (pc := 42) (tgt := 50) hx hb dL_types_42 (by decide) (fun c_42 => ?_) (fun c_42 => ?_)
              · have h := h.2 c_42
                refine lv_iload (pc := 50) hx hb dL_types_50 (lv_at hl 8 rfl) ?_
                refine lv_iconst (pc := 52) (v := 4) hx hb dL_types_52 (by decide) ?_
                refine lv_icmp_ne (pc := 53) (tgt := 61) hx hb dL_types_53 (by decide) (fun c_53 => ?_) (fun c_53 => ?_)
                · have h := h.2 c_53
                  refine lv_iload (pc := 61) hx hb dL_types_61 (lv_at hl 8 rfl) ?_
                  refine lv_iconst (pc := 63) (v := 5) hx hb dL_types_63 (by decide) ?_
                  refine lv_icmp_ne (pc := 64) (tgt := 72) hx hb dL_types_64 (by decide) (fun c_64 => ?_) (fun c_64 => ?_)
                  · have h := h.2 c_64
                    refine lv_iload (pc := 72) hx hb dL_types_72 (lv_at hl 7 rfl) ?_
                    exact J74 x y g qf cf v1 v2 v3 v4 v5 v6 v7 v8 v7 bc bs h _ _ hB _ _ _ hP hD hS (lv_sub hl [0, 1, 2, 3, 4, 5, 6, 7, 8] rfl)
                  · have h := h.1 c_64
                    refine lv_iload (pc := 67) hx hb dL_types_67 (lv_at hl 6 rfl) ?_
                    refine lv_goto (pc := 69) (tgt := 74) hx hb dL_types_69 (by decide) ?_
                    exact J74 x y g qf cf v1 v2 v3 v4 v5 v6 v7 v8 v6 bc bs h _ _ hB _ _ _ hP hD hS (lv_sub hl [0, 1, 2, 3, 4, 5, 6, 7, 8] rfl)
                · have h := h.1 c_53
                  refine lv_iload (pc := 56) hx hb dL_types_56 (lv_at hl 5 rfl) ?_
                  refine lv_goto (pc := 58) (tgt := 74) hx hb dL_types_58 (by decide) ?_
                  exact J74 x y g qf cf v1 v2 v3 v4 v5 v6 v7 v8 v5 bc bs h _ _ hB _ _ _ hP hD hS (lv_sub hl [0, 1, 2, 3, 4, 5, 6, 7, 8] rfl)
              · have h := h.1 c_42
                refine lv_iload (pc := 45) hx hb dL_types_45 (lv_at hl 4 rfl) ?_
                refine lv_goto (pc := 47) (tgt := 74) hx hb dL_types_47 (by decide) ?_
                exact J74 x y g qf cf v1 v2 v3 v4 v5 v6 v7 v8 v4 bc bs h _ _ hB _ _ _ hP hD hS (lv_sub hl [0, 1, 2, 3, 4, 5, 6, 7, 8] rfl)
            · have h := h.1 c_32
              refine lv_iload_n (pc := 35) hx hb dL_types_35 rfl (lv_at hl 3 rfl) ?_
              refine lv_goto (pc := 36) (tgt := 74) hx hb dL_types_36 (by decide) ?_
              exact J74 x y g qf cf v1 v2 v3 v4 v5 v6 v7 v8 v3 bc bs h _ _ hB _ _ _ hP hD hS (lv_sub hl [0, 1, 2, 3, 4, 5, 6, 7, 8] rfl)
          · have h := h.1 c_22
            refine lv_iload_n (pc := 25) hx hb dL_types_25 rfl (lv_at hl 2 rfl) ?_
            refine lv_goto (pc := 26) (tgt := 74) hx hb dL_types_26 (by decide) ?_
            exact J74 x y g qf cf v1 v2 v3 v4 v5 v6 v7 v8 v2 bc bs h _ _ hB _ _ _ hP hD hS (lv_sub hl [0, 1, 2, 3, 4, 5, 6, 7, 8] rfl)
        · have h := h.1 c_12
          refine lv_iload_n (pc := 15) hx hb dL_types_15 rfl (lv_at hl 1 rfl) ?_
          refine lv_goto (pc := 16) (tgt := 74) hx hb dL_types_16 (by decide) ?_
          exact J74 x y g qf cf v1 v2 v3 v4 v5 v6 v7 v8 v1 bc bs h _ _ hB _ _ _ hP hD hS (lv_sub hl [0, 1, 2, 3, 4, 5, 6, 7, 8] rfl)
  unfold wL_types at h
  refine lv_iconst (pc := 0) (v := 0) hx hb dL_types_0 (by decide) ?_
  refine lv_istore (pc := 1) (lv' := [(8, .int 0), (0, .ref (ad 0 0)), (1, .int a1), (2, .int a2), (3, .int a3), (4, .int a4), (5, .int a5), (6, .int a6), (7, .int a7)]) hx hb dL_types_1 hl (by decide) rfl (fun ls hl => ?_)
  obtain ⟨n3, h⟩ := h
  exact L3 n3 x0 y0 g0 qf0 cf0 a1 a2 a3 a4 a5 a6 a7 0 BC BS h _ _ hB _ _ _ hP hD hS (lv_sub hl [1, 2, 3, 4, 5, 6, 7, 8, 0] rfl)

def jL_figures_18 (Φ : (Nat → Nat → Int32) → (Nat → Nat → Nat) → (Nat → Nat → Nat → Int32) → (Nat → Int32) → (Nat → Int32) → Prop) (x : Nat → Nat → Int32) (y : Nat → Nat → Nat) (g : Nat → Nat → Nat → Int32) (qf cf : Nat → Int32) (v1 : Int32) (s1 : Int32) (bc bs : Nat) : Prop := (∃ kc_30 ks_30 bc_30 bs_30 : Nat, kc_30 + bc_30 ≤ bc ∧ ks_30 + bs_30 ≤ bs ∧ (wL_types x y g qf cf s1 (48 + (v1 - v1 / 10 * 10)) 0 0 0 0 0 kc_30 ks_30 (fun x_30 y_30 g_30 qf_30 cf_30 => (Φ x_30 y_30 g_30 qf_30 cf_30))))
def wL_figures (x : Nat → Nat → Int32) (y : Nat → Nat → Nat) (g : Nat → Nat → Nat → Int32) (qf cf : Nat → Int32) (a1 : Int32) (bc bs : Nat) (Φ : (Nat → Nat → Int32) → (Nat → Nat → Nat) → (Nat → Nat → Nat → Int32) → (Nat → Int32) → (Nat → Int32) → Prop) : Prop := ((a1 ≤ 9 → (jL_figures_18 Φ x y g qf cf a1 0 bc bs)) ∧ (¬ a1 ≤ 9 → (jL_figures_18 Φ x y g qf cf a1 (48 + (a1 / 10)) bc bs)))
set_option maxRecDepth 100000 in
set_option maxHeartbeats 4000000 in
theorem kL_figures {l : Launch} {D : va_G} {E : va_W} {qa ca : Nat} {ad : Nat → Nat → Nat} {wd sk : Nat → Nat} {cI cB cP cT : ClassId} {sz : Nat} (x0 : Nat → Nat → Int32) (y0 : Nat → Nat → Nat) (g0 : Nat → Nat → Nat → Int32) (qf0 cf0 : Nat → Int32) (a1 : Int32) (BC BS : Nat) {Φ : (Nat → Nat → Int32) → (Nat → Nat → Nat) → (Nat → Nat → Nat → Int32) → (Nat → Int32) → (Nat → Int32) → Prop} (hlf : l.stackTraces = false) (h : wL_figures x0 y0 g0 qf0 cf0 a1 BC BS Φ) : Met l yL_figures (zws yL_figures cL_figures 2 none) { frames := 8, cells := BC, slots := BS, locals := 222 } (zPc D (cTy cI cB cP cT) (lX wd sk) (cW (LE qa ca cI qf0 cf0 E) ad wd cI cB cP cT (x0, y0, g0)) [.ref (ad 0 0), .int a1] sz) (zQv D (cTy cI cB cP cT) (WL E qa ca ad wd cI cB cP cT) (fun u => Φ u.1.1 u.1.2.1 u.1.2.2 u.2.1 u.2.2) (cW (LE qa ca cI qf0 cf0 E) ad wd cI cB cP cT (x0, y0, g0)) sz) BC BS (va_A (cW (LE qa ca cI qf0 cf0 E) ad wd cI cB cP cT (x0, y0, g0)) sz) := by
  refine zMet (by decide) (Nat.le_of_ble_eq_true rfl) ?_
  intro p e s m args below meth c A hx hb hr hml hown hts hlocks hsz hAe hA hS hP hK hD hX ls hl
  subst hsz
  have hF : zFx p s m args c cL_figures RL A D (cTy cI cB cP cT) (lX wd sk) 2 := ⟨hx, hb, hml, hown, hts, hA, hK, lX_cl wd sk, hX⟩
  have hFc : zFx p s m args c cL_figures RL A D (cTy cI cB cP cT) (cX wd sk) 2 := ⟨hx, hb, hml, hown, hts, hA, hK, cX_cl wd sk, hX.1⟩
  have hl : lv_has ls 2 [(0, .ref (ad 0 0)), (1, .int a1)] := hl
  have hB : 0 + BC ≤ BC ∧ 0 + BS ≤ BS := ⟨by omega, by omega⟩
  have J18 : ∀ (x : Nat → Nat → Int32) (y : Nat → Nat → Nat) (g : Nat → Nat → Nat → Int32) (qf cf : Nat → Int32) (v1 : Int32) (s1 : Int32) (bc bs : Nat), jL_figures_18 Φ x y g qf cf v1 s1 bc bs → ∀ (cells slots : Nat), (cells + bc ≤ BC ∧ slots + bs ≤ BS) → ∀ (H : Heap) (locs : List Loc) (ls : Array Slot), va_P D vwCl (cW (LE qa ca cI qf cf E) ad wd cI cB cP cT (x, y, g)) H → va_D A (cW (LE qa ca cI qf cf E) ad wd cI cB cP cT (x, y, g)) → va_S A s.heap H locs → lv_has ls 2 [(1, .int v1)] → W p l e { frames := 8, cells := BC, slots := BS, locals := 222 } s m args below meth c H locs cells slots (MQ below (zQv D (cTy cI cB cP cT) (WL E qa ca ad wd cI cB cP cT) (fun u => Φ u.1.1 u.1.2.1 u.1.2.2 u.2.1 u.2.2) (cW (LE qa ca cI qf0 cf0 E) ad wd cI cB cP cT (x0, y0, g0)) s.heap.size) args s BC BS (va_A (cW (LE qa ca cI qf0 cf0 E) ad wd cI cB cP cT (x0, y0, g0)) s.heap.size)) (F0 m 18 ls [.int s1, .ref (ad 0 0)]) := by
    intro x y g qf cf v1 s1 bc bs h cells slots hB H locs ls hP hD hS hl
    unfold jL_figures_18 at h
    refine lv_bipush (pc := 18) (v := 48) hx hb dL_figures_18 (by decide) ?_
    refine lv_iload_n (pc := 20) hx hb dL_figures_20 rfl (lv_at hl 0 rfl) ?_
    refine lv_bipush (pc := 21) (v := 10) hx hb dL_figures_21 (by decide) ?_
    refine lv_irem (pc := 23) hx hb dL_figures_23 (by decide) ?_
    refine lv_iadd (pc := 24) hx hb dL_figures_24 ?_
    refine lv_iconst (pc := 25) (v := 0) hx hb dL_figures_25 (by decide) ?_
    refine lv_iconst (pc := 26) (v := 0) hx hb dL_figures_26 (by decide) ?_
    refine lv_iconst (pc := 27) (v := 0) hx hb dL_figures_27 (by decide) ?_
    refine lv_iconst (pc := 28) (v := 0) hx hb dL_figures_28 (by decide) ?_
    refine lv_iconst (pc := 29) (v := 0) hx hb dL_figures_29 (by decide) ?_
    obtain ⟨kc_30, ks_30, bc_30, bs_30, ec_30, es_30, h⟩ := h
    refine zSv (pc := 30) (Wd := (WL E qa ca ad wd cI cB cP cT)) (u0 := ((x, y, g), qf, cf)) [.ref (ad 0 0), .int s1, .int (48 + (v1 - v1 / 10 * 10)), .int 0, .int 0, .int 0, .int 0, .int 0] hF (kL_types x y g qf cf s1 (48 + (v1 - v1 / 10 * 10)) 0 0 0 0 0 kc_30 ks_30 hlf h) (cwL_L_types hts ⟨Nat.le_of_ble_eq_true rfl, Nat.le_of_ble_eq_true rfl⟩) hP hD hS rfl rfl hl.1 (Nat.le_of_ble_eq_true rfl) dL_figures_30 ⟨by show _ ≤ BC; (try dsimp only); omega, by show _ ≤ BS; (try dsimp only); omega⟩ (fun u H locs h hP hD hS => ?_)
    obtain ⟨⟨x_30, y_30, g_30⟩, qf_30, cf_30⟩ := u
    have hP : va_P D vwCl (cW (LE qa ca cI qf_30 cf_30 E) ad wd cI cB cP cT (x_30, y_30, g_30)) H := hP
    have hD : va_D A (cW (LE qa ca cI qf_30 cf_30 E) ad wd cI cB cP cT (x_30, y_30, g_30)) := hD
    have hB : (cells + kc_30) + bc_30 ≤ BC ∧ (slots + ks_30) + bs_30 ≤ BS := ⟨by omega, by omega⟩
    exact zvr (pc := 33) (Wd := WL E qa ca ad wd cI cB cP cT) (u := ((x_30, y_30, g_30), qf_30, cf_30)) hx hb hr hlocks hAe hK hP hD hS dL_figures_33 (by (try dsimp only); omega) (by (try dsimp only); omega) h
  unfold wL_figures at h
  refine lv_aload_n (pc := 0) hx hb dL_figures_0 rfl (lv_at hl 0 rfl) ?_
  refine lv_iload_n (pc := 1) hx hb dL_figures_1 rfl (lv_at hl 1 rfl) ?_
  refine lv_bipush (pc := 2) (v := 9) hx hb dL_figures_2 (by decide) ?_
  refine lv_icmp_le (pc := 4) (tgt := 17) hx hb dL_figures_4 (by decide) (fun c_4 => ?_) (fun c_4 => ?_)
  · have h := h.1 c_4
    refine lv_iconst (pc := 17) (v := 0) hx hb dL_figures_17 (by decide) ?_
    exact J18 x0 y0 g0 qf0 cf0 a1 0 BC BS h _ _ hB _ _ _ hP hD hS (lv_sub hl [1] rfl)
  · have h := h.2 c_4
    refine lv_bipush (pc := 7) (v := 48) hx hb dL_figures_7 (by decide) ?_
    refine lv_iload_n (pc := 9) hx hb dL_figures_9 rfl (lv_at hl 1 rfl) ?_
    refine lv_bipush (pc := 10) (v := 10) hx hb dL_figures_10 (by decide) ?_
    refine lv_idiv (pc := 12) hx hb dL_figures_12 (by decide) ?_
    refine lv_iadd (pc := 13) hx hb dL_figures_13 ?_
    refine lv_goto (pc := 14) (tgt := 18) hx hb dL_figures_14 (by decide) ?_
    exact J18 x0 y0 g0 qf0 cf0 a1 (48 + (a1 / 10)) BC BS h _ _ hB _ _ _ hP hD hS (lv_sub hl [1] rfl)
