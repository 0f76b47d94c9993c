def jX6_addWindow_33 (Φ : Int32 → (Nat → Nat → Int32) → (Nat → Nat → Nat) → (Nat → Nat → Nat → Int32) → Prop) (x : Nat → Nat → Int32) (y : Nat → Nat → Nat) (g : Nat → Nat → Nat → Int32) (q0 : Nat) (v1 : Int32) (v2 : Int32) (v3 : Int32) (v4 : Int32) (v5 : Int32) (bc bs : Nat) : Prop := (∃ kc_39 ks_39 bc_39 bs_39 : Nat, kc_39 + bc_39 ≤ bc ∧ ks_39 + bs_39 ≤ bs ∧ (wX4_insert x y g (5 + q0) v5 kc_39 ks_39 (fun x_39 y_39 g_39 => (wX4_set x_39 y_39 g_39 (5 + q0) v5 0 v1 (fun x_50 y_50 g_50 => (wX4_set x_50 y_50 g_50 (5 + q0) v5 1 v2 (fun x_61 y_61 g_61 => (wX4_set x_61 y_61 g_61 (5 + q0) v5 2 v3 (fun x_72 y_72 g_72 => (wX4_set x_72 y_72 g_72 (5 + q0) v5 3 v4 (fun x_84 y_84 g_84 => (Φ v5 x_84 y_84 g_84))))))))))))
def lX6_addWindow_3 (Φ : Int32 → (Nat → Nat → Int32) → (Nat → Nat → Nat) → (Nat → Nat → Nat → Int32) → Prop) : Nat → (Nat → Nat → Int32) → (Nat → Nat → Nat) → (Nat → Nat → Nat → Int32) → Nat → Int32 → Int32 → Int32 → Int32 → Int32 → Nat → Nat → Prop
  | 0, _, _, _, _, _, _, _, _, _, _, _ => False
  | n3 + 1, x, y, g, q0, v1, v2, v3, v4, v5, bc, bs => ((((x 1) (5 + q0)) ≤ v5 → (jX6_addWindow_33 Φ x y g q0 v1 v2 v3 v4 v5 bc bs)) ∧ (¬ ((x 1) (5 + q0)) ≤ v5 → (wX6_isAhead x y g q0 v5 v1 v2 v3 (fun r_21 => ((r_21 = 0 → (jX6_addWindow_33 Φ x y g q0 v1 v2 v3 v4 v5 bc bs)) ∧ (¬ r_21 = 0 → (∀ v5_27 : Int32, v5_27 = v5 + 1 → ((lX6_addWindow_3 Φ n3) x y g q0 v1 v2 v3 v4 v5_27 bc bs))))))))
def wX6_addWindow (x : Nat → Nat → Int32) (y : Nat → Nat → Nat) (g : Nat → Nat → Nat → Int32) (q0 : Nat) (a1 : Int32) (a2 : Int32) (a3 : Int32) (a4 : Int32) (bc bs : Nat) (Φ : Int32 → (Nat → Nat → Int32) → (Nat → Nat → Nat) → (Nat → Nat → Nat → Int32) → Prop) : Prop := (∃ n3 : Nat, lX6_addWindow_3 Φ n3 x y g q0 a1 a2 a3 a4 0 bc bs)
set_option maxRecDepth 100000 in
set_option maxHeartbeats 4000000 in
theorem kX6_addWindow {l : Launch} {D : va_G} {E : va_W} {ad : Nat → Nat → Nat} {wd sk : Nat → Nat} {cI cB cP cT : ClassId} {sz : Nat} (x0 : Nat → Nat → Int32) (y0 : Nat → Nat → Nat) (g0 : Nat → Nat → Nat → Int32) (q0 : Nat) (a1 : Int32) (a2 : Int32) (a3 : Int32) (a4 : Int32) (BC BS : Nat) {Φ : Int32 → (Nat → Nat → Int32) → (Nat → Nat → Nat) → (Nat → Nat → Nat → Int32) → Prop} (h : wX6_addWindow x0 y0 g0 q0 a1 a2 a3 a4 BC BS Φ) (hq0 : q0 < 7) : Met l yX6_addWindow (zws yX6_addWindow cX6_addWindow 6 (some .int)) { frames := 3, cells := BC, slots := BS, locals := 106 } (zPc D (cTy cI cB cP cT) (cX wd sk) (cW E ad wd cI cB cP cT (x0, y0, g0)) [.ref (ad 6 q0), .int a1, .int a2, .int a3, .int a4] sz) (zQi D (cTy cI cB cP cT) (cW E ad wd cI cB cP cT) (fun r u => Φ r u.1 u.2.1 u.2.2) (cW E ad wd cI cB cP cT (x0, y0, g0)) sz) BC BS (va_A (cW E ad wd cI cB cP cT (x0, y0, g0)) sz) := by
  refine zMet (by decide) (Nat.le_of_ble_eq_true rfl) ?_
  intro p e s m args below meth c A hx hb hr hml hown hts hlocks hsz hAe hA hS hP hK hD hX ls hl
  subst hsz
  have hF : zFx p s m args c cX6_addWindow RX6 A D (cTy cI cB cP cT) (cX wd sk) 6 := ⟨hx, hb, hml, hown, hts, hA, hK, cX_cl wd sk, hX⟩
  have hl : lv_has ls 6 [(0, .ref (ad 6 q0)), (1, .int a1), (2, .int a2), (3, .int a3), (4, .int a4)] := hl
  have hB : 0 + BC ≤ BC ∧ 0 + BS ≤ BS := ⟨by omega, by omega⟩
  have J33 : ∀ (x : Nat → Nat → Int32) (y : Nat → Nat → Nat) (g : Nat → Nat → Nat → Int32) (q0 : Nat) (v1 : Int32) (v2 : Int32) (v3 : Int32) (v4 : Int32) (v5 : Int32) (bc bs : Nat), jX6_addWindow_33 Φ x y g q0 v1 v2 v3 v4 v5 bc bs → q0 < 7 → ∀ (cells slots : Nat), (cells + bc ≤ BC ∧ slots + bs ≤ BS) → ∀ (H : Heap) (locs : List Loc) (ls : Array Slot), va_P D vwCl (cW E ad wd cI cB cP cT (x, y, g)) H → va_D A (cW E ad wd cI cB cP cT (x, y, g)) → va_S A s.heap H locs → lv_has ls 6 [(0, .ref (ad 6 q0)), (1, .int v1), (2, .int v2), (3, .int v3), (4, .int v4), (5, .int v5)] → W p l e { frames := 3, cells := BC, slots := BS, locals := 106 } s m args below meth c H locs cells slots (MQ below (zQi D (cTy cI cB cP cT) (cW E ad wd cI cB cP cT) (fun r u => Φ r u.1 u.2.1 u.2.2) (cW E ad wd cI cB cP cT (x0, y0, g0)) s.heap.size) args s BC BS (va_A (cW E ad wd cI cB cP cT (x0, y0, g0)) s.heap.size)) (F0 m 33 ls []) := by
    intro x y g q0 v1 v2 v3 v4 v5 bc bs h hcq0 cells slots hB H locs ls hP hD hS hl
    unfold jX6_addWindow_33 at h
    refine lv_aload_n (pc := 33) hx hb dX6_addWindow_33 rfl (lv_at hl 0 rfl) ?_
    refine cG_X6_windows (pc := 34) hF hP (i := q0) (by omega) lkX6_23 dX6_addWindow_34 ?_
    refine lv_iload (pc := 37) hx hb dX6_addWindow_37 (lv_at hl 5 rfl) ?_
    obtain ⟨kc_39, ks_39, bc_39, bs_39, ec_39, es_39, h⟩ := h
    refine cVv (pc := 39) (x := x) (y := y) (g := g) [.int v5] hF (kX4_insert x y g (5 + q0) v5 kc_39 ks_39 h (by omega)) (cwX6_X4_insert hts ⟨Nat.le_of_ble_eq_true rfl, Nat.le_of_ble_eq_true rfl⟩) rfl (cA_R _ _ _ _ _ _ _ _ _ _ (i := (5 + q0)) (by omega)) hP hD hS rfl rfl hl.1 (Nat.le_of_ble_eq_true rfl) dX6_addWindow_39 ⟨by show _ ≤ BC; omega, by show _ ≤ BS; omega⟩ (fun x_39 y_39 g_39 H locs h hP hD hS => ?_)
    have hB : (cells + kc_39) + bc_39 ≤ BC ∧ (slots + ks_39) + bs_39 ≤ BS := ⟨by omega, by omega⟩
    refine lv_aload_n (pc := 42) hx hb dX6_addWindow_42 rfl (lv_at hl 0 rfl) ?_
    refine cG_X6_windows (pc := 43) hF hP (i := q0) (by omega) lkX6_23 dX6_addWindow_43 ?_
    refine lv_iload (pc := 46) hx hb dX6_addWindow_46 (lv_at hl 5 rfl) ?_
    refine lv_iconst (pc := 48) (v := 0) hx hb dX6_addWindow_48 (by decide) ?_
    refine lv_iload_n (pc := 49) hx hb dX6_addWindow_49 rfl (lv_at hl 1 rfl) ?_
    refine cVv (pc := 50) (x := x_39) (y := y_39) (g := g_39) [.int v5, .int 0, .int v1] hF (kX4_set x_39 y_39 g_39 (5 + q0) v5 0 v1 h (by omega)) (cwX6_X4_set hts ⟨Nat.le_of_ble_eq_true rfl, Nat.le_of_ble_eq_true rfl⟩) rfl (cA_R _ _ _ _ _ _ _ _ _ _ (i := (5 + q0)) (by omega)) hP hD hS rfl rfl hl.1 (Nat.le_of_ble_eq_true rfl) dX6_addWindow_50 ⟨by show _ ≤ BC; omega, by show _ ≤ BS; omega⟩ (fun x_50 y_50 g_50 H locs h hP hD hS => ?_)
    refine lv_aload_n (pc := 53) hx hb dX6_addWindow_53 rfl (lv_at hl 0 rfl) ?_
    refine cG_X6_windows (pc := 54) hF hP (i := q0) (by omega) lkX6_23 dX6_addWindow_54 ?_
    refine lv_iload (pc := 57) hx hb dX6_addWindow_57 (lv_at hl 5 rfl) ?_
    refine lv_iconst (pc := 59) (v := 1) hx hb dX6_addWindow_59 (by decide) ?_
    refine lv_iload_n (pc := 60) hx hb dX6_addWindow_60 rfl (lv_at hl 2 rfl) ?_
    refine cVv (pc := 61) (x := x_50) (y := y_50) (g := g_50) [.int v5, .int 1, .int v2] hF (kX4_set x_50 y_50 g_50 (5 + q0) v5 1 v2 h (by omega)) (cwX6_X4_set hts ⟨Nat.le_of_ble_eq_true rfl, Nat.le_of_ble_eq_true rfl⟩) rfl (cA_R _ _ _ _ _ _ _ _ _ _ (i := (5 + q0)) (by omega)) hP hD hS rfl rfl hl.1 (Nat.le_of_ble_eq_true rfl) dX6_addWindow_61 ⟨by show _ ≤ BC; omega, by show _ ≤ BS; omega⟩ (fun x_61 y_61 g_61 H locs h hP hD hS => ?_)
    refine lv_aload_n (pc := 64) hx hb dX6_addWindow_64 rfl (lv_at hl 0 rfl) ?_
    refine cG_X6_windows (pc := 65) hF hP (i := q0) (by omega) lkX6_23 dX6_addWindow_65 ?_
    refine lv_iload (pc := 68) hx hb dX6_addWindow_68 (lv_at hl 5 rfl) ?_
    refine lv_iconst (pc := 70) (v := 2) hx hb dX6_addWindow_70 (by decide) ?_
    refine lv_iload_n (pc := 71) hx hb dX6_addWindow_71 rfl (lv_at hl 3 rfl) ?_
    refine cVv (pc := 72) (x := x_61) (y := y_61) (g := g_61) [.int v5, .int 2, .int v3] hF (kX4_set x_61 y_61 g_61 (5 + q0) v5 2 v3 h (by omega)) (cwX6_X4_set hts ⟨Nat.le_of_ble_eq_true rfl, Nat.le_of_ble_eq_true rfl⟩) rfl (cA_R _ _ _ _ _ _ _ _ _ _ (i := (5 + q0)) (by omega)) hP hD hS rfl rfl hl.1 (Nat.le_of_ble_eq_true rfl) dX6_addWindow_72 ⟨by show _ ≤ BC; omega, by show _ ≤ BS; omega⟩ (fun x_72 y_72 g_72 H locs h hP hD hS => ?_)
    refine lv_aload_n (pc := 75) hx hb dX6_addWindow_75 rfl (lv_at hl 0 rfl) ?_
    refine cG_X6_windows (pc := 76) hF hP (i := q0) (by omega) lkX6_23 dX6_addWindow_76 ?_
    refine lv_iload (pc := 79) hx hb dX6_addWindow_79 (lv_at hl 5 rfl) ?_
    refine lv_iconst (pc := 81) (v := 3) hx hb dX6_addWindow_81 (by decide) ?_
    refine lv_iload (pc := 82) hx hb dX6_addWindow_82 (lv_at hl 4 rfl) ?_
    refine cVv (pc := 84) (x := x_72) (y := y_72) (g := g_72) [.int v5, .int 3, .int v4] hF (kX4_set x_72 y_72 g_72 (5 + q0) v5 3 v4 h (by omega)) (cwX6_X4_set hts ⟨Nat.le_of_ble_eq_true rfl, Nat.le_of_ble_eq_true rfl⟩) rfl (cA_R _ _ _ _ _ _ _ _ _ _ (i := (5 + q0)) (by omega)) hP hD hS rfl rfl hl.1 (Nat.le_of_ble_eq_true rfl) dX6_addWindow_84 ⟨by show _ ≤ BC; omega, by show _ ≤ BS; omega⟩ (fun x_84 y_84 g_84 H locs h hP hD hS => ?_)
    refine lv_iload (pc := 87) hx hb dX6_addWindow_87 (lv_at hl 5 rfl) ?_
    exact zirV (pc := 89) (Wd := cW E ad wd cI cB cP cT) (u := (x_84, y_84, g_84)) hx hb hr hlocks hAe hK hP hD hS rfl dX6_addWindow_89 (by omega) (by omega) h
  have L3 : ∀ n3 : Nat, ∀ (x : Nat → Nat → Int32) (y : Nat → Nat → Nat) (g : Nat → Nat → Nat → Int32) (q0 : Nat) (v1 : Int32) (v2 : Int32) (v3 : Int32) (v4 : Int32) (v5 : Int32) (bc bs : Nat), lX6_addWindow_3 Φ n3 x y g q0 v1 v2 v3 v4 v5 bc bs → q0 < 7 → ∀ (cells slots : Nat), (cells + bc ≤ BC ∧ slots + bs ≤ BS) → ∀ (H : Heap) (locs : List Loc) (ls : Array Slot), va_P D vwCl (cW E ad wd cI cB cP cT (x, y, g)) H → va_D A (cW E ad wd cI cB cP cT (x, y, g)) → va_S A s.heap H locs → lv_has ls 6 [(0, .ref (ad 6 q0)), (1, .int v1), (2, .int v2), (3, .int v3), (4, .int v4), (5, .int v5)] → W p l e { frames := 3, cells := BC, slots := BS, locals := 106 } s m args below meth c H locs cells slots (MQ below (zQi D (cTy cI cB cP cT) (cW E ad wd cI cB cP cT) (fun r u => Φ r u.1 u.2.1 u.2.2) (cW E ad wd cI cB cP cT (x0, y0, g0)) s.heap.size) args s BC BS (va_A (cW E ad wd cI cB cP cT (x0, y0, g0)) s.heap.size)) (F0 m 3 ls []) := by
    intro n3
    induction n3 with
    | zero => intro x y g q0 v1 v2 v3 v4 v5 bc bs h hcq0 cells slots hB H locs ls hP hD hS hl; exact h.elim
    | succ n3 ih3 =>
      intro x y g q0 v1 v2 v3 v4 v5 bc bs h hcq0 cells slots hB H locs ls hP hD hS hl
      unfold lX6_addWindow_3 at h
      refine lv_iload (pc := 3) hx hb dX6_addWindow_3 (lv_at hl 5 rfl) ?_
      refine lv_aload_n (pc := 5) hx hb dX6_addWindow_5 rfl (lv_at hl 0 rfl) ?_
      refine cG_X6_windows (pc := 6) hF hP (i := q0) (by omega) lkX6_23 dX6_addWindow_6 ?_
      refine cGN_X4_count (pc := 9) hF hP (i := (5 + q0)) (by omega) lkX6_47 (v := ((x 1) (5 + q0))) rfl dX6_addWindow_9 ?_
      refine lv_icmp_ge (pc := 12) (tgt := 33) hx hb dX6_addWindow_12 (by decide) (fun c_12 => ?_) (fun c_12 => ?_)
      · have h := h.1 c_12
        exact J33 x y g q0 v1 v2 v3 v4 v5 bc bs h (by omega) _ _ hB _ _ _ hP hD hS (lv_sub hl [0, 1, 2, 3, 4, 5] rfl)
      · have h := h.2 c_12
        refine lv_aload_n (pc := 15) hx hb dX6_addWindow_15 rfl (lv_at hl 0 rfl) ?_
        refine lv_iload (pc := 16) hx hb dX6_addWindow_16 (lv_at hl 5 rfl) ?_
        refine lv_iload_n (pc := 18) hx hb dX6_addWindow_18 rfl (lv_at hl 1 rfl) ?_
        refine lv_iload_n (pc := 19) hx hb dX6_addWindow_19 rfl (lv_at hl 2 rfl) ?_
        refine lv_iload_n (pc := 20) hx hb dX6_addWindow_20 rfl (lv_at hl 3 rfl) ?_
        refine cVbp (pc := 21) (x := x) (y := y) (g := g) [.int v5, .int v1, .int v2, .int v3] hF (kX6_isAhead x y g q0 v5 v1 v2 v3 h (by omega)) (cwX6_X6_isAhead hts ⟨Nat.le_of_ble_eq_true rfl, Nat.le_of_ble_eq_true rfl⟩) rfl (cA_T _ _ _ _ _ _ _ _ _ _ (i := q0) (by omega)) hP hD hS rfl rfl hl.1 (Nat.le_of_ble_eq_true rfl) dX6_addWindow_21 ⟨by show _ ≤ BC; omega, by show _ ≤ BS; omega⟩ (fun r_21 H locs hb_21 h hP hD hS => ?_)
        refine lv_if_eq (pc := 24) (tgt := 33) hx hb dX6_addWindow_24 (by decide) (fun c_24 => ?_) (fun c_24 => ?_)
        · have h := h.1 c_24
          exact J33 x y g q0 v1 v2 v3 v4 v5 bc bs h (by omega) _ _ hB _ _ _ hP hD hS (lv_sub hl [0, 1, 2, 3, 4, 5] rfl)
        · have h := h.2 c_24
          obtain ⟨v5_27, e_v5_27⟩ : ∃ y : Int32, y = v5 + 1 := ⟨_, rfl⟩
          replace h := h v5_27 e_v5_27
          refine lv_iinc (pc := 27) (v := v5_27) (lv' := [(5, .int v5_27), (0, .ref (ad 6 q0)), (1, .int v1), (2, .int v2), (3, .int v3), (4, .int v4)]) hx hb dX6_addWindow_27 hl (k := 5) rfl (by rw [e_v5_27]; rfl) (by decide) rfl (fun ls hl => ?_)
          refine lv_goto (pc := 30) (tgt := 3) hx hb dX6_addWindow_30 (by decide) ?_
          exact ih3 x y g q0 v1 v2 v3 v4 v5_27 bc bs h (by omega) _ _ hB _ _ _ hP hD hS (lv_sub hl [1, 2, 3, 4, 5, 0] rfl)
  unfold wX6_addWindow at h
  refine lv_iconst (pc := 0) (v := 0) hx hb dX6_addWindow_0 (by decide) ?_
  refine lv_istore (pc := 1) (lv' := [(5, .int 0), (0, .ref (ad 6 q0)), (1, .int a1), (2, .int a2), (3, .int a3), (4, .int a4)]) hx hb dX6_addWindow_1 hl (by decide) rfl (fun ls hl => ?_)
  obtain ⟨n3, h⟩ := h
  exact L3 n3 x0 y0 g0 q0 a1 a2 a3 a4 0 BC BS h (by omega) _ _ hB _ _ _ hP hD hS (lv_sub hl [1, 2, 3, 4, 5, 0] rfl)

def wX0_isRipe (x : Nat → Nat → Int32) (y : Nat → Nat → Nat) (g : Nat → Nat → Nat → Int32) (a1 : Int32) (Φ : Int32 → Prop) : Prop := (wX4_get x y g 5 a1 4 (fun r_9 => ((r_9 = 1 → (Φ 1)) ∧ (¬ r_9 = 1 → (wX4_get x y g 5 a1 2 (fun r_25 => ((((x 2) 0) < r_25 → (Φ 0)) ∧ (¬ ((x 2) 0) < r_25 → (Φ 1)))))))))
set_option maxRecDepth 100000 in
set_option maxHeartbeats 4000000 in
theorem kX0_isRipe {l : Launch} {D : va_G} {E : va_W} {ad : Nat → Nat → Nat} {wd sk : Nat → Nat} {cI cB cP cT : ClassId} {sz : Nat} (x0 : Nat → Nat → Int32) (y0 : Nat → Nat → Nat) (g0 : Nat → Nat → Nat → Int32) (a1 : Int32) {Φ : Int32 → Prop} (h : wX0_isRipe x0 y0 g0 a1 Φ) : Met l yX0_isRipe (zws yX0_isRipe cX0_isRipe 2 (some .boolean)) { frames := 2, cells := 0, slots := 0, locals := 44 } (zPc D (cTy cI cB cP cT) (cX wd sk) (cW E ad wd cI cB cP cT (x0, y0, g0)) [.ref (ad 2 0), .int a1] sz) (zQi D (cTy cI cB cP cT) (cW E ad wd cI cB cP cT) (fun r u => u = (x0, y0, g0) ∧ (r = 0 ∨ r = 1) ∧ Φ r) (cW E ad wd cI cB cP cT (x0, y0, g0)) sz) 0 0 (va_A (cW E ad wd cI cB cP cT (x0, y0, g0)) sz) := by
  refine zMet (by decide) (Nat.le_of_ble_eq_true rfl) ?_
  intro p e s m args below meth c A hx hb hr hml hown hts hlocks hsz hAe hA hS hP hK hD hX ls hl
  subst hsz
  have hF : zFx p s m args c cX0_isRipe RX0 A D (cTy cI cB cP cT) (cX wd sk) 2 := ⟨hx, hb, hml, hown, hts, hA, hK, cX_cl wd sk, hX⟩
  have hl : lv_has ls 2 [(0, .ref (ad 2 0)), (1, .int a1)] := hl
  unfold wX0_isRipe at h
  refine lv_aload_n (pc := 0) hx hb dX0_isRipe_0 rfl (lv_at hl 0 rfl) ?_
  refine cG_X0_now (pc := 1) hF hP lkX0_32 dX0_isRipe_1 ?_
  refine cGN_X6_windows (pc := 4) hF hP (i := 0) (by omega) lkX0_135 dX0_isRipe_4 ?_
  refine lv_iload_n (pc := 7) hx hb dX0_isRipe_7 rfl (lv_at hl 1 rfl) ?_
  refine lv_iconst (pc := 8) (v := 4) hx hb dX0_isRipe_8 (by decide) ?_
  refine cVip (pc := 9) (x := x0) (y := y0) (g := g0) [.int a1, .int 4] hF (kX4_get x0 y0 g0 5 a1 4 h (by omega)) (cwX0_X4_get hts ⟨Nat.le_of_ble_eq_true rfl, Nat.le_of_ble_eq_true rfl⟩) rfl (cA_R _ _ _ _ _ _ _ _ _ _ (i := 5) (by omega)) hP hD hS rfl rfl hl.1 (Nat.le_of_ble_eq_true rfl) dX0_isRipe_9 ⟨Nat.le_refl _, Nat.le_refl _⟩ (fun r_9 H locs h hP hD hS => ?_)
  refine lv_iconst (pc := 12) (v := 1) hx hb dX0_isRipe_12 (by decide) ?_
  refine lv_icmp_eq (pc := 13) (tgt := 38) hx hb dX0_isRipe_13 (by decide) (fun c_13 => ?_) (fun c_13 => ?_)
  · have h := h.1 c_13
    refine lv_iconst (pc := 38) (v := 1) hx hb dX0_isRipe_38 (by decide) ?_
    refine lv_goto (pc := 39) (tgt := 43) hx hb dX0_isRipe_39 (by decide) ?_
    exact zirV (pc := 43) (Wd := cW E ad wd cI cB cP cT) (u := (x0, y0, g0)) hx hb hr hlocks hAe hK hP hD hS rfl dX0_isRipe_43 (Nat.le_refl _) (Nat.le_refl _) ⟨rfl, (Or.inr rfl), h⟩
  · have h := h.2 c_13
    refine lv_aload_n (pc := 16) hx hb dX0_isRipe_16 rfl (lv_at hl 0 rfl) ?_
    refine cG_X0_now (pc := 17) hF hP lkX0_32 dX0_isRipe_17 ?_
    refine cGN_X6_windows (pc := 20) hF hP (i := 0) (by omega) lkX0_135 dX0_isRipe_20 ?_
    refine lv_iload_n (pc := 23) hx hb dX0_isRipe_23 rfl (lv_at hl 1 rfl) ?_
    refine lv_iconst (pc := 24) (v := 2) hx hb dX0_isRipe_24 (by decide) ?_
    refine cVip (pc := 25) (x := x0) (y := y0) (g := g0) [.int a1, .int 2] hF (kX4_get x0 y0 g0 5 a1 2 h (by omega)) (cwX0_X4_get hts ⟨Nat.le_of_ble_eq_true rfl, Nat.le_of_ble_eq_true rfl⟩) rfl (cA_R _ _ _ _ _ _ _ _ _ _ (i := 5) (by omega)) hP hD hS rfl rfl hl.1 (Nat.le_of_ble_eq_true rfl) dX0_isRipe_25 ⟨Nat.le_refl _, Nat.le_refl _⟩ (fun r_25 H locs h hP hD hS => ?_)
    refine lv_aload_n (pc := 28) hx hb dX0_isRipe_28 rfl (lv_at hl 0 rfl) ?_
    refine cG_X0_now (pc := 29) hF hP lkX0_32 dX0_isRipe_29 ?_
    refine cGN_X6_mark (pc := 32) hF hP (i := 0) (by omega) lkX0_57 (v := ((x0 2) 0)) rfl dX0_isRipe_32 ?_
    refine lv_icmp_gt (pc := 35) (tgt := 42) hx hb dX0_isRipe_35 (by decide) (fun c_35 => ?_) (fun c_35 => ?_)
    · have h := h.1 c_35
      refine lv_iconst (pc := 42) (v := 0) hx hb dX0_isRipe_42 (by decide) ?_
      exact zirV (pc := 43) (Wd := cW E ad wd cI cB cP cT) (u := (x0, y0, g0)) hx hb hr hlocks hAe hK hP hD hS rfl dX0_isRipe_43 (Nat.le_refl _) (Nat.le_refl _) ⟨rfl, (Or.inl rfl), h⟩
    · have h := h.2 c_35
      refine lv_iconst (pc := 38) (v := 1) hx hb dX0_isRipe_38 (by decide) ?_
      refine lv_goto (pc := 39) (tgt := 43) hx hb dX0_isRipe_39 (by decide) ?_
      exact zirV (pc := 43) (Wd := cW E ad wd cI cB cP cT) (u := (x0, y0, g0)) hx hb hr hlocks hAe hK hP hD hS rfl dX0_isRipe_43 (Nat.le_refl _) (Nat.le_refl _) ⟨rfl, (Or.inr rfl), h⟩

def jX0_tell_104 (Φ : (Nat → Nat → Int32) → (Nat → Nat → Nat) → (Nat → Nat → Nat → Int32) → Prop) (x : Nat → Nat → Int32) (y : Nat → Nat → Nat) (g : Nat → Nat → Nat → Int32) (v1 : Int32) (v2 : Int32) (bc bs : Nat) : Prop := (wX4_set x y g 5 v1 4 1 (fun x_114 y_114 g_114 => (wX4_set x_114 y_114 g_114 5 v1 5 v2 (fun x_127 y_127 g_127 => (Φ x_127 y_127 g_127)))))
def jX0_tell_97 (Φ : (Nat → Nat → Int32) → (Nat → Nat → Nat) → (Nat → Nat → Nat → Int32) → Prop) (x : Nat → Nat → Int32) (y : Nat → Nat → Nat) (g : Nat → Nat → Nat → Int32) (v1 : Int32) (v2 : Int32) (bc bs : Nat) : Prop := (∃ kc_101 ks_101 bc_101 bs_101 : Nat, kc_101 + bc_101 ≤ bc ∧ ks_101 + bs_101 ≤ bs ∧ (wX0_putResult x y g v1 v2 1 kc_101 ks_101 (fun x_101 y_101 g_101 => (jX0_tell_104 Φ x_101 y_101 g_101 v1 v2 bc_101 bs_101))))
def wX0_tell (x : Nat → Nat → Int32) (y : Nat → Nat → Nat) (g : Nat → Nat → Nat → Int32) (a1 : Int32) (bc bs : Nat) (Φ : (Nat → Nat → Int32) → (Nat → Nat → Nat) → (Nat → Nat → Nat → Int32) → Prop) : Prop := (wX4_get x y g 5 a1 3 (fun r_9 => (wX4_get x y g 5 a1 5 (fun r_22 => ((((y 6) 0) = 12 → (∃ kc_43 ks_43 bc_43 bs_43 : Nat, kc_43 + bc_43 ≤ bc ∧ ks_43 + bs_43 ≤ bs ∧ (wX0_putResult x y g a1 r_9 0 kc_43 ks_43 (fun x_43 y_43 g_43 => (jX0_tell_104 Φ x_43 y_43 g_43 a1 r_9 bc_43 bs_43))))) ∧ (¬ ((y 6) 0) = 12 → ((((y 6) 0) = 13 → (∃ kc_68 ks_68 bc_68 bs_68 : Nat, kc_68 + bc_68 ≤ bc ∧ ks_68 + bs_68 ≤ bs ∧ (wX0_putResult x y g a1 (r_9 - r_22) 1 kc_68 ks_68 (fun x_68 y_68 g_68 => (jX0_tell_104 Φ x_68 y_68 g_68 a1 r_9 bc_68 bs_68))))) ∧ (¬ ((y 6) 0) = 13 → (wX4_get x y g 5 a1 4 (fun r_83 => ((r_83 = 1 → (∃ kc_94 ks_94 bc_94 bs_94 : Nat, kc_94 + bc_94 ≤ bc ∧ ks_94 + bs_94 ≤ bs ∧ (wX0_putResult x y g a1 r_22 2 kc_94 ks_94 (fun x_94 y_94 g_94 => (jX0_tell_97 Φ x_94 y_94 g_94 a1 r_9 bc_94 bs_94))))) ∧ (¬ r_83 = 1 → (jX0_tell_97 Φ x y g a1 r_9 bc bs)))))))))))))
set_option maxRecDepth 100000 in
set_option maxHeartbeats 4000000 in
theorem kX0_tell {l : Launch} {D : va_G} {E : va_W} {ad : Nat → Nat → Nat} {wd sk : Nat → Nat} {cI cB cP cT : ClassId} {sz : Nat} (x0 : Nat → Nat → Int32) (y0 : Nat → Nat → Nat) (g0 : Nat → Nat → Nat → Int32) (a1 : Int32) (BC BS : Nat) {Φ : (Nat → Nat → Int32) → (Nat → Nat → Nat) → (Nat → Nat → Nat → Int32) → Prop} (h : wX0_tell x0 y0 g0 a1 BC BS Φ) : Met l yX0_tell (zws yX0_tell cX0_tell 4 none) { frames := 4, cells := BC, slots := BS, locals := 130 } (zPc D (cTy cI cB cP cT) (cX wd sk) (cW E ad wd cI cB cP cT (x0, y0, g0)) [.ref (ad 2 0), .int a1] sz) (zQv D (cTy cI cB cP cT) (cW E ad wd cI cB cP cT) (fun u => Φ u.1 u.2.1 u.2.2) (cW E ad wd cI cB cP cT (x0, y0, g0)) sz) BC BS (va_A (cW E ad wd cI cB cP cT (x0, y0, g0)) sz) := by
  refine zMet (by decide) (Nat.le_of_ble_eq_true rfl) ?_
  intro p e s m args below meth c A hx hb hr hml hown hts hlocks hsz hAe hA hS hP hK hD hX ls hl
  subst hsz
  have hF : zFx p s m args c cX0_tell RX0 A D (cTy cI cB cP cT) (cX wd sk) 4 := ⟨hx, hb, hml, hown, hts, hA, hK, cX_cl wd sk, hX⟩
  have hl : lv_has ls 4 [(0, .ref (ad 2 0)), (1, .int a1)] := hl
  have hB : 0 + BC ≤ BC ∧ 0 + BS ≤ BS := ⟨by omega, by omega⟩
  have J104 : ∀ (x : Nat → Nat → Int32) (y : Nat → Nat → Nat) (g : Nat → Nat → Nat → Int32) (v1 : Int32) (v2 : Int32) (bc bs : Nat), jX0_tell_104 Φ x y g v1 v2 bc bs → ∀ (cells slots : Nat), (cells + bc ≤ BC ∧ slots + bs ≤ BS) → ∀ (H : Heap) (locs : List Loc) (ls : Array Slot), va_P D vwCl (cW E ad wd cI cB cP cT (x, y, g)) H → va_D A (cW E ad wd cI cB cP cT (x, y, g)) → va_S A s.heap H locs → lv_has ls 4 [(0, .ref (ad 2 0)), (1, .int v1), (2, .int v2)] → W p l e { frames := 4, cells := BC, slots := BS, locals := 130 } s m args below meth c H locs cells slots (MQ below (zQv D (cTy cI cB cP cT) (cW E ad wd cI cB cP cT) (fun u => Φ u.1 u.2.1 u.2.2) (cW E ad wd cI cB cP cT (x0, y0, g0)) s.heap.size) args s BC BS (va_A (cW E ad wd cI cB cP cT (x0, y0, g0)) s.heap.size)) (F0 m 104 ls []) := by
    intro x y g v1 v2 bc bs h cells slots hB H locs ls hP hD hS hl
    unfold jX0_tell_104 at h
    refine lv_aload_n (pc := 104) hx hb dX0_tell_104 rfl (lv_at hl 0 rfl) ?_
    refine cG_X0_now (pc := 105) hF hP lkX0_32 dX0_tell_105 ?_
    refine cGN_X6_windows (pc := 108) hF hP (i := 0) (by omega) lkX0_135 dX0_tell_108 ?_
    refine lv_iload_n (pc := 111) hx hb dX0_tell_111 rfl (lv_at hl 1 rfl) ?_
    refine lv_iconst (pc := 112) (v := 4) hx hb dX0_tell_112 (by decide) ?_
    refine lv_iconst (pc := 113) (v := 1) hx hb dX0_tell_113 (by decide) ?_
    refine cVv (pc := 114) (x := x) (y := y) (g := g) [.int v1, .int 4, .int 1] hF (kX4_set x y g 5 v1 4 1 h (by omega)) (cwX0_X4_set hts ⟨Nat.le_of_ble_eq_true rfl, Nat.le_of_ble_eq_true rfl⟩) rfl (cA_R _ _ _ _ _ _ _ _ _ _ (i := 5) (by omega)) hP hD hS rfl rfl hl.1 (Nat.le_of_ble_eq_true rfl) dX0_tell_114 ⟨by show _ ≤ BC; omega, by show _ ≤ BS; omega⟩ (fun x_114 y_114 g_114 H locs h hP hD hS => ?_)
    refine lv_aload_n (pc := 117) hx hb dX0_tell_117 rfl (lv_at hl 0 rfl) ?_
    refine cG_X0_now (pc := 118) hF hP lkX0_32 dX0_tell_118 ?_
    refine cGN_X6_windows (pc := 121) hF hP (i := 0) (by omega) lkX0_135 dX0_tell_121 ?_
    refine lv_iload_n (pc := 124) hx hb dX0_tell_124 rfl (lv_at hl 1 rfl) ?_
    refine lv_iconst (pc := 125) (v := 5) hx hb dX0_tell_125 (by decide) ?_
    refine lv_iload_n (pc := 126) hx hb dX0_tell_126 rfl (lv_at hl 2 rfl) ?_
    refine cVv (pc := 127) (x := x_114) (y := y_114) (g := g_114) [.int v1, .int 5, .int v2] hF (kX4_set x_114 y_114 g_114 5 v1 5 v2 h (by omega)) (cwX0_X4_set hts ⟨Nat.le_of_ble_eq_true rfl, Nat.le_of_ble_eq_true rfl⟩) rfl (cA_R _ _ _ _ _ _ _ _ _ _ (i := 5) (by omega)) hP hD hS rfl rfl hl.1 (Nat.le_of_ble_eq_true rfl) dX0_tell_127 ⟨by show _ ≤ BC; omega, by show _ ≤ BS; omega⟩ (fun x_127 y_127 g_127 H locs h hP hD hS => ?_)
    exact zvr (pc := 130) (Wd := cW E ad wd cI cB cP cT) (u := (x_127, y_127, g_127)) hx hb hr hlocks hAe hK hP hD hS dX0_tell_130 (by omega) (by omega) h
  have J97 : ∀ (x : Nat → Nat → Int32) (y : Nat → Nat → Nat) (g : Nat → Nat → Nat → Int32) (v1 : Int32) (v2 : Int32) (bc bs : Nat), jX0_tell_97 Φ x y g v1 v2 bc bs → ∀ (cells slots : Nat), (cells + bc ≤ BC ∧ slots + bs ≤ BS) → ∀ (H : Heap) (locs : List Loc) (ls : Array Slot), va_P D vwCl (cW E ad wd cI cB cP cT (x, y, g)) H → va_D A (cW E ad wd cI cB cP cT (x, y, g)) → va_S A s.heap H locs → lv_has ls 4 [(0, .ref (ad 2 0)), (1, .int v1), (2, .int v2)] → W p l e { frames := 4, cells := BC, slots := BS, locals := 130 } s m args below meth c H locs cells slots (MQ below (zQv D (cTy cI cB cP cT) (cW E ad wd cI cB cP cT) (fun u => Φ u.1 u.2.1 u.2.2) (cW E ad wd cI cB cP cT (x0, y0, g0)) s.heap.size) args s BC BS (va_A (cW E ad wd cI cB cP cT (x0, y0, g0)) s.heap.size)) (F0 m 97 ls []) := by
    intro x y g v1 v2 bc bs h cells slots hB H locs ls hP hD hS hl
    unfold jX0_tell_97 at h
    refine lv_aload_n (pc := 97) hx hb dX0_tell_97 rfl (lv_at hl 0 rfl) ?_
    refine lv_iload_n (pc := 98) hx hb dX0_tell_98 rfl (lv_at hl 1 rfl) ?_
    refine lv_iload_n (pc := 99) hx hb dX0_tell_99 rfl (lv_at hl 2 rfl) ?_
    refine lv_iconst (pc := 100) (v := 1) hx hb dX0_tell_100 (by decide) ?_
    obtain ⟨kc_101, ks_101, bc_101, bs_101, ec_101, es_101, h⟩ := h
    refine cVv (pc := 101) (x := x) (y := y) (g := g) [.int v1, .int v2, .int 1] hF (kX0_putResult x y g v1 v2 1 kc_101 ks_101 h) (cwX0_X0_putResult hts ⟨Nat.le_of_ble_eq_true rfl, Nat.le_of_ble_eq_true rfl⟩) rfl (cA_L ..) hP hD hS rfl rfl hl.1 (Nat.le_of_ble_eq_true rfl) dX0_tell_101 ⟨by show _ ≤ BC; omega, by show _ ≤ BS; omega⟩ (fun x_101 y_101 g_101 H locs h hP hD hS => ?_)
    have hB : (cells + kc_101) + bc_101 ≤ BC ∧ (slots + ks_101) + bs_101 ≤ BS := ⟨by omega, by omega⟩
    exact J104 x_101 y_101 g_101 v1 v2 bc_101 bs_101 h _ _ hB _ _ _ hP hD hS (lv_sub hl [0, 1, 2] rfl)
  unfold wX0_tell at h
  refine lv_aload_n (pc := 0) hx hb dX0_tell_0 rfl (lv_at hl 0 rfl) ?_
  refine cG_X0_now (pc := 1) hF hP lkX0_32 dX0_tell_1 ?_
  refine cGN_X6_windows (pc := 4) hF hP (i := 0) (by omega) lkX0_135 dX0_tell_4 ?_
  refine lv_iload_n (pc := 7) hx hb dX0_tell_7 rfl (lv_at hl 1 rfl) ?_
  refine lv_iconst (pc := 8) (v := 3) hx hb dX0_tell_8 (by decide) ?_
  refine cVip (pc := 9) (x := x0) (y := y0) (g := g0) [.int a1, .int 3] hF (kX4_get x0 y0 g0 5 a1 3 h (by omega)) (cwX0_X4_get hts ⟨Nat.le_of_ble_eq_true rfl, Nat.le_of_ble_eq_true rfl⟩) rfl (cA_R _ _ _ _ _ _ _ _ _ _ (i := 5) (by omega)) hP hD hS rfl rfl hl.1 (Nat.le_of_ble_eq_true rfl) dX0_tell_9 ⟨by show _ ≤ BC; omega, by show _ ≤ BS; omega⟩ (fun r_9 H locs h hP hD hS => ?_)
  refine lv_istore_n (pc := 12) (lv' := [(2, .int r_9), (0, .ref (ad 2 0)), (1, .int a1)]) hx hb dX0_tell_12 rfl hl (by decide) rfl (fun ls hl => ?_)
  refine lv_aload_n (pc := 13) hx hb dX0_tell_13 rfl (lv_at hl 1 rfl) ?_
  refine cG_X0_now (pc := 14) hF hP lkX0_32 dX0_tell_14 ?_
  refine cGN_X6_windows (pc := 17) hF hP (i := 0) (by omega) lkX0_135 dX0_tell_17 ?_
  refine lv_iload_n (pc := 20) hx hb dX0_tell_20 rfl (lv_at hl 2 rfl) ?_
  refine lv_iconst (pc := 21) (v := 5) hx hb dX0_tell_21 (by decide) ?_
  refine cVip (pc := 22) (x := x0) (y := y0) (g := g0) [.int a1, .int 5] hF (kX4_get x0 y0 g0 5 a1 5 h (by omega)) (cwX0_X4_get hts ⟨Nat.le_of_ble_eq_true rfl, Nat.le_of_ble_eq_true rfl⟩) rfl (cA_R _ _ _ _ _ _ _ _ _ _ (i := 5) (by omega)) hP hD hS rfl rfl hl.1 (Nat.le_of_ble_eq_true rfl) dX0_tell_22 ⟨by show _ ≤ BC; omega, by show _ ≤ BS; omega⟩ (fun r_22 H locs h hP hD hS => ?_)
  refine lv_istore_n (pc := 25) (lv' := [(3, .int r_22), (2, .int r_9), (0, .ref (ad 2 0)), (1, .int a1)]) hx hb dX0_tell_25 rfl hl (by decide) rfl (fun ls hl => ?_)
  refine lv_aload_n (pc := 26) hx hb dX0_tell_26 rfl (lv_at hl 2 rfl) ?_
  refine cG_X0_query (pc := 27) hF hP lkX0_39 dX0_tell_27 ?_
  refine cGN_X2_mode (pc := 30) hF hP lkX0_164 dX0_tell_30 ?_
  refine c_word (pc := 33) hF hP hS (k := 12) (by decide) rfl lkX0_167 dX0_tell_33 ?_
  refine c_acmp_ne (pc := 36) (i := ((y0 6) 0)) (j := 12) (tgt := 49) hF hP dX0_tell_36 (by decide) (fun c_36 => ?_) (fun c_36 => ?_)
  · have h := h.2 c_36
    refine lv_aload_n (pc := 49) hx hb dX0_tell_49 rfl (lv_at hl 2 rfl) ?_
    refine cG_X0_query (pc := 50) hF hP lkX0_39 dX0_tell_50 ?_
    refine cGN_X2_mode (pc := 53) hF hP lkX0_164 dX0_tell_53 ?_
    refine c_word (pc := 56) hF hP hS (k := 13) (by decide) rfl lkX0_170 dX0_tell_56 ?_
    refine c_acmp_ne (pc := 59) (i := ((y0 6) 0)) (j := 13) (tgt := 74) hF hP dX0_tell_59 (by decide) (fun c_59 => ?_) (fun c_59 => ?_)
    · have h := h.2 c_59
      refine lv_aload_n (pc := 74) hx hb dX0_tell_74 rfl (lv_at hl 2 rfl) ?_
      refine cG_X0_now (pc := 75) hF hP lkX0_32 dX0_tell_75 ?_
      refine cGN_X6_windows (pc := 78) hF hP (i := 0) (by omega) lkX0_135 dX0_tell_78 ?_
      refine lv_iload_n (pc := 81) hx hb dX0_tell_81 rfl (lv_at hl 3 rfl) ?_
      refine lv_iconst (pc := 82) (v := 4) hx hb dX0_tell_82 (by decide) ?_
      refine cVip (pc := 83) (x := x0) (y := y0) (g := g0) [.int a1, .int 4] hF (kX4_get x0 y0 g0 5 a1 4 h (by omega)) (cwX0_X4_get hts ⟨Nat.le_of_ble_eq_true rfl, Nat.le_of_ble_eq_true rfl⟩) rfl (cA_R _ _ _ _ _ _ _ _ _ _ (i := 5) (by omega)) hP hD hS rfl rfl hl.1 (Nat.le_of_ble_eq_true rfl) dX0_tell_83 ⟨by show _ ≤ BC; omega, by show _ ≤ BS; omega⟩ (fun r_83 H locs h hP hD hS => ?_)
      refine lv_iconst (pc := 86) (v := 1) hx hb dX0_tell_86 (by decide) ?_
      refine lv_icmp_ne (pc := 87) (tgt := 97) hx hb dX0_tell_87 (by decide) (fun c_87 => ?_) (fun c_87 => ?_)
      · have h := h.2 c_87
        exact J97 x0 y0 g0 a1 r_9 BC BS h _ _ hB _ _ _ hP hD hS (lv_sub hl [2, 3, 1] rfl)
      · have h := h.1 c_87
        refine lv_aload_n (pc := 90) hx hb dX0_tell_90 rfl (lv_at hl 2 rfl) ?_
        refine lv_iload_n (pc := 91) hx hb dX0_tell_91 rfl (lv_at hl 3 rfl) ?_
        refine lv_iload_n (pc := 92) hx hb dX0_tell_92 rfl (lv_at hl 0 rfl) ?_
        refine lv_iconst (pc := 93) (v := 2) hx hb dX0_tell_93 (by decide) ?_
        obtain ⟨kc_94, ks_94, bc_94, bs_94, ec_94, es_94, h⟩ := h
        refine cVv (pc := 94) (x := x0) (y := y0) (g := g0) [.int a1, .int r_22, .int 2] hF (kX0_putResult x0 y0 g0 a1 r_22 2 kc_94 ks_94 h) (cwX0_X0_putResult hts ⟨Nat.le_of_ble_eq_true rfl, Nat.le_of_ble_eq_true rfl⟩) rfl (cA_L ..) hP hD hS rfl rfl hl.1 (Nat.le_of_ble_eq_true rfl) dX0_tell_94 ⟨by show _ ≤ BC; omega, by show _ ≤ BS; omega⟩ (fun x_94 y_94 g_94 H locs h hP hD hS => ?_)
        have hB : ((((0 + 0) + 0) + 0) + kc_94) + bc_94 ≤ BC ∧ ((((0 + 0) + 0) + 0) + ks_94) + bs_94 ≤ BS := ⟨by omega, by omega⟩
        exact J97 x_94 y_94 g_94 a1 r_9 bc_94 bs_94 h _ _ hB _ _ _ hP hD hS (lv_sub hl [2, 3, 1] rfl)
    · have h := h.1 c_59
      refine lv_aload_n (pc := 62) hx hb dX0_tell_62 rfl (lv_at hl 2 rfl) ?_
      refine lv_iload_n (pc := 63) hx hb dX0_tell_63 rfl (lv_at hl 3 rfl) ?_
      refine lv_iload_n (pc := 64) hx hb dX0_tell_64 rfl (lv_at hl 1 rfl) ?_
      refine lv_iload_n (pc := 65) hx hb dX0_tell_65 rfl (lv_at hl 0 rfl) ?_
      refine lv_isub (pc := 66) hx hb dX0_tell_66 ?_
      refine lv_iconst (pc := 67) (v := 1) hx hb dX0_tell_67 (by decide) ?_
      obtain ⟨kc_68, ks_68, bc_68, bs_68, ec_68, es_68, h⟩ := h
      refine cVv (pc := 68) (x := x0) (y := y0) (g := g0) [.int a1, .int (r_9 - r_22), .int 1] hF (kX0_putResult x0 y0 g0 a1 (r_9 - r_22) 1 kc_68 ks_68 h) (cwX0_X0_putResult hts ⟨Nat.le_of_ble_eq_true rfl, Nat.le_of_ble_eq_true rfl⟩) rfl (cA_L ..) hP hD hS rfl rfl hl.1 (Nat.le_of_ble_eq_true rfl) dX0_tell_68 ⟨by show _ ≤ BC; omega, by show _ ≤ BS; omega⟩ (fun x_68 y_68 g_68 H locs h hP hD hS => ?_)
      have hB : (((0 + 0) + 0) + kc_68) + bc_68 ≤ BC ∧ (((0 + 0) + 0) + ks_68) + bs_68 ≤ BS := ⟨by omega, by omega⟩
      refine lv_goto (pc := 71) (tgt := 104) hx hb dX0_tell_71 (by decide) ?_
      exact J104 x_68 y_68 g_68 a1 r_9 bc_68 bs_68 h _ _ hB _ _ _ hP hD hS (lv_sub hl [2, 3, 1] rfl)
  · have h := h.1 c_36
    refine lv_aload_n (pc := 39) hx hb dX0_tell_39 rfl (lv_at hl 2 rfl) ?_
    refine lv_iload_n (pc := 40) hx hb dX0_tell_40 rfl (lv_at hl 3 rfl) ?_
    refine lv_iload_n (pc := 41) hx hb dX0_tell_41 rfl (lv_at hl 1 rfl) ?_
    refine lv_iconst (pc := 42) (v := 0) hx hb dX0_tell_42 (by decide) ?_
    obtain ⟨kc_43, ks_43, bc_43, bs_43, ec_43, es_43, h⟩ := h
    refine cVv (pc := 43) (x := x0) (y := y0) (g := g0) [.int a1, .int r_9, .int 0] hF (kX0_putResult x0 y0 g0 a1 r_9 0 kc_43 ks_43 h) (cwX0_X0_putResult hts ⟨Nat.le_of_ble_eq_true rfl, Nat.le_of_ble_eq_true rfl⟩) rfl (cA_L ..) hP hD hS rfl rfl hl.1 (Nat.le_of_ble_eq_true rfl) dX0_tell_43 ⟨by show _ ≤ BC; omega, by show _ ≤ BS; omega⟩ (fun x_43 y_43 g_43 H locs h hP hD hS => ?_)
    have hB : (((0 + 0) + 0) + kc_43) + bc_43 ≤ BC ∧ (((0 + 0) + 0) + ks_43) + bs_43 ≤ BS := ⟨by omega, by omega⟩
    refine lv_goto (pc := 46) (tgt := 104) hx hb dX0_tell_46 (by decide) ?_
    exact J104 x_43 y_43 g_43 a1 r_9 bc_43 bs_43 h _ _ hB _ _ _ hP hD hS (lv_sub hl [2, 3, 1] rfl)

def jX0_putIntoSession_199 (Φ : (Nat → Nat → Int32) → (Nat → Nat → Nat) → (Nat → Nat → Nat → Int32) → Prop) (x : Nat → Nat → Int32) (y : Nat → Nat → Nat) (g : Nat → Nat → Nat → Int32) (v6 : Int32) (v9 : Int32) (bc bs : Nat) : Prop := (wX4_set x y g 5 v9 3 v6 (fun x_206 y_206 g_206 => (wX0_isRipe x_206 y_206 g_206 v9 (fun r_212 => ((r_212 = 0 → (Φ x_206 y_206 g_206)) ∧ (¬ r_212 = 0 → (∃ kc_221 ks_221 bc_221 bs_221 : Nat, kc_221 + bc_221 ≤ bc ∧ ks_221 + bs_221 ≤ bs ∧ (wX0_tell x_206 y_206 g_206 v9 kc_221 ks_221 (fun x_221 y_221 g_221 => (Φ x_221 y_221 g_221))))))))))
def jX0_putIntoSession_177 (Φ : (Nat → Nat → Int32) → (Nat → Nat → Nat) → (Nat → Nat → Nat → Int32) → Prop) (x : Nat → Nat → Int32) (y : Nat → Nat → Nat) (g : Nat → Nat → Nat → Int32) (v1 : Int32) (v2 : Int32) (v4 : Int32) (v5 : Int32) (v6 : Int32) (bc bs : Nat) : Prop := (∃ kc_180 ks_180 bc_180 bs_180 : Nat, kc_180 + bc_180 ≤ bc ∧ ks_180 + bs_180 ≤ bs ∧ (wX0_endSessions x y g v1 v2 kc_180 ks_180 (fun x_180 y_180 g_180 => (∃ kc_194 ks_194 bc_194 bs_194 : Nat, kc_194 + bc_194 ≤ bc_180 ∧ ks_194 + bs_194 ≤ bs_180 ∧ (wX6_addWindow x_180 y_180 g_180 0 v1 v4 v5 v6 kc_194 ks_194 (fun r_194 x_194 y_194 g_194 => (jX0_putIntoSession_199 Φ x_194 y_194 g_194 v6 r_194 bc_194 bs_194)))))))
def jX0_putIntoSession_141 (Φ : (Nat → Nat → Int32) → (Nat → Nat → Nat) → (Nat → Nat → Nat → Int32) → Prop) (x : Nat → Nat → Int32) (y : Nat → Nat → Nat) (g : Nat → Nat → Nat → Int32) (v1 : Int32) (v2 : Int32) (v4 : Int32) (v5 : Int32) (v6 : Int32) (v7 : Int32) (bc bs : Nat) : Prop := ((v7 = (-1) → (jX0_putIntoSession_177 Φ x y g v1 v2 v4 v5 v6 bc bs)) ∧ (¬ v7 = (-1) → (wX4_get x y g 5 v7 1 (fun r_156 => ((r_156 = v4 → (wX4_get x y g 5 v7 2 (fun r_169 => ((r_169 = v5 → (jX0_putIntoSession_199 Φ x y g v6 v7 bc bs)) ∧ (¬ r_169 = v5 → (jX0_putIntoSession_177 Φ x y g v1 v2 v4 v5 v6 bc bs)))))) ∧ (¬ r_156 = v4 → (jX0_putIntoSession_177 Φ x y g v1 v2 v4 v5 v6 bc bs)))))))
def lX0_putIntoSession_32 (Φ : (Nat → Nat → Int32) → (Nat → Nat → Nat) → (Nat → Nat → Nat → Int32) → Prop) : Nat → (Nat → Nat → Int32) → (Nat → Nat → Nat) → (Nat → Nat → Nat → Int32) → Int32 → Int32 → Int32 → Int32 → Int32 → Int32 → Int32 → Nat → Nat → Prop
  | 0, _, _, _, _, _, _, _, _, _, _, _, _ => False
  | n32 + 1, x, y, g, v1, v2, v4, v5, v6, v7, v9, bc, bs => ((((x 1) 5) ≤ v9 → ((v7 = (-1) → (wX0_horizon x y g (fun r_121 => ((r_121 < v5 → (jX0_putIntoSession_141 Φ x y g v1 v2 v4 v5 v6 v7 bc bs)) ∧ (¬ r_121 < v5 → (Φ (va_up x 3 (va_up (x 3) 0 (((x 3) 0) + 1))) y g)))))) ∧ (¬ v7 = (-1) → (jX0_putIntoSession_141 Φ x y g v1 v2 v4 v5 v6 v7 bc bs)))) ∧ (¬ ((x 1) 5) ≤ v9 → (wX0_isMet x y g v9 v1 v2 (fun r_47 => ((r_47 = 0 → (∀ v9_106 : Int32, v9_106 = v9 + 1 → ((lX0_putIntoSession_32 Φ n32) x y g v1 v2 v4 v5 v6 v7 v9_106 bc bs))) ∧ (¬ r_47 = 0 → (wX4_get x y g 5 v9 1 (fun r_60 => (∀ v4_66 : Int32, v4_66 = (if r_60 < v4 then r_60 else v4) → (wX4_get x y g 5 v9 2 (fun r_75 => (∀ v5_81 : Int32, v5_81 = (if v5 < r_75 then r_75 else v5) → (wX4_get x y g 5 v9 3 (fun r_94 => (wX2_foldWith x y g v6 r_94 (fun r_97 => (∀ v9_106 : Int32, v9_106 = v9 + 1 → ((lX0_putIntoSession_32 Φ n32) x y g v1 v2 v4_66 v5_81 r_97 v9 v9_106 bc bs))))))))))))))))))
def wX0_putIntoSession (x : Nat → Nat → Int32) (y : Nat → Nat → Nat) (g : Nat → Nat → Nat → Int32) (a1 : Int32) (a2 : Int32) (a3 : Int32) (bc bs : Nat) (Φ : (Nat → Nat → Int32) → (Nat → Nat → Nat) → (Nat → Nat → Nat → Int32) → Prop) : Prop := (∀ v5_12 : Int32, v5_12 = (a2 + ((x 10) 0)) → (∃ n32 : Nat, lX0_putIntoSession_32 Φ n32 x y g a1 a2 a2 v5_12 a3 (-1) 0 bc bs))
set_option maxRecDepth 100000 in
set_option maxHeartbeats 4000000 in
theorem kX0_putIntoSession {l : Launch} {D : va_G} {E : va_W} {ad : Nat → Nat → Nat} {wd sk : Nat → Nat} {cI cB cP cT : ClassId} {sz : Nat} (x0 : Nat → Nat → Int32) (y0 : Nat → Nat → Nat) (g0 : Nat → Nat → Nat → Int32) (a1 : Int32) (a2 : Int32) (a3 : Int32) (BC BS : Nat) {Φ : (Nat → Nat → Int32) → (Nat → Nat → Nat) → (Nat → Nat → Nat → Int32) → Prop} (h : wX0_putIntoSession x0 y0 g0 a1 a2 a3 BC BS Φ) : Met l yX0_putIntoSession (zws yX0_putIntoSession cX0_putIntoSession 10 none) { frames := 5, cells := BC, slots := BS, locals := 155 } (zPc D (cTy cI cB cP cT) (cX wd sk) (cW E ad wd cI cB cP cT (x0, y0, g0)) [.ref (ad 2 0), .int a1, .int a2, .int a3] sz) (zQv D (cTy cI cB cP cT) (cW E ad wd cI cB cP cT) (fun u => Φ u.1 u.2.1 u.2.2) (cW E ad wd cI cB cP cT (x0, y0, g0)) sz) BC BS (va_A (cW E ad wd cI cB cP cT (x0, y0, g0)) sz) := by
  refine zMet (by decide) (Nat.le_of_ble_eq_true rfl) ?_
  intro p e s m args below meth c A hx hb hr hml hown hts hlocks hsz hAe hA hS hP hK hD hX ls hl
  subst hsz
  have hF : zFx p s m args c cX0_putIntoSession RX0 A D (cTy cI cB cP cT) (cX wd sk) 10 := ⟨hx, hb, hml, hown, hts, hA, hK, cX_cl wd sk, hX⟩
  have hl : lv_has ls 10 [(0, .ref (ad 2 0)), (1, .int a1), (2, .int a2), (3, .int a3)] := hl
  have hB : 0 + BC ≤ BC ∧ 0 + BS ≤ BS := ⟨by omega, by omega⟩
  have J199 : ∀ (x : Nat → Nat → Int32) (y : Nat → Nat → Nat) (g : Nat → Nat → Nat → Int32) (v6 : Int32) (v9 : Int32) (bc bs : Nat), jX0_putIntoSession_199 Φ x y g v6 v9 bc bs → ∀ (cells slots : Nat), (cells + bc ≤ BC ∧ slots + bs ≤ BS) → ∀ (H : Heap) (locs : List Loc) (ls : Array Slot), va_P D vwCl (cW E ad wd cI cB cP cT (x, y, g)) H → va_D A (cW E ad wd cI cB cP cT (x, y, g)) → va_S A s.heap H locs → lv_has ls 10 [(0, .ref (ad 2 0)), (6, .int v6), (8, .ref (ad 5 5)), (9, .int v9)] → W p l e { frames := 5, cells := BC, slots := BS, locals := 155 } s m args below meth c H locs cells slots (MQ below (zQv D (cTy cI cB cP cT) (cW E ad wd cI cB cP cT) (fun u => Φ u.1 u.2.1 u.2.2) (cW E ad wd cI cB cP cT (x0, y0, g0)) s.heap.size) args s BC BS (va_A (cW E ad wd cI cB cP cT (x0, y0, g0)) s.heap.size)) (F0 m 199 ls []) := by
    intro x y g v6 v9 bc bs h cells slots hB H locs ls hP hD hS hl
    unfold jX0_putIntoSession_199 at h
    refine lv_aload (pc := 199) hx hb dX0_putIntoSession_199 (lv_at hl 2 rfl) ?_
    refine lv_iload (pc := 201) hx hb dX0_putIntoSession_201 (lv_at hl 3 rfl) ?_
    refine lv_iconst (pc := 203) (v := 3) hx hb dX0_putIntoSession_203 (by decide) ?_
    refine lv_iload (pc := 204) hx hb dX0_putIntoSession_204 (lv_at hl 1 rfl) ?_
    refine cVv (pc := 206) (x := x) (y := y) (g := g) [.int v9, .int 3, .int v6] hF (kX4_set x y g 5 v9 3 v6 h (by omega)) (cwX0_X4_set hts ⟨Nat.le_of_ble_eq_true rfl, Nat.le_of_ble_eq_true rfl⟩) rfl (cA_R _ _ _ _ _ _ _ _ _ _ (i := 5) (by omega)) hP hD hS rfl rfl hl.1 (Nat.le_of_ble_eq_true rfl) dX0_putIntoSession_206 ⟨by show _ ≤ BC; omega, by show _ ≤ BS; omega⟩ (fun x_206 y_206 g_206 H locs h hP hD hS => ?_)
    refine lv_aload_n (pc := 209) hx hb dX0_putIntoSession_209 rfl (lv_at hl 0 rfl) ?_
    refine lv_iload (pc := 210) hx hb dX0_putIntoSession_210 (lv_at hl 3 rfl) ?_
    refine cVbp (pc := 212) (x := x_206) (y := y_206) (g := g_206) [.int v9] hF (kX0_isRipe x_206 y_206 g_206 v9 h) (cwX0_X0_isRipe hts ⟨Nat.le_of_ble_eq_true rfl, Nat.le_of_ble_eq_true rfl⟩) rfl (cA_L ..) hP hD hS rfl rfl hl.1 (Nat.le_of_ble_eq_true rfl) dX0_putIntoSession_212 ⟨by show _ ≤ BC; omega, by show _ ≤ BS; omega⟩ (fun r_212 H locs hb_212 h hP hD hS => ?_)
    refine lv_if_eq (pc := 215) (tgt := 224) hx hb dX0_putIntoSession_215 (by decide) (fun c_215 => ?_) (fun c_215 => ?_)
    · have h := h.1 c_215
      exact zvr (pc := 224) (Wd := cW E ad wd cI cB cP cT) (u := (x_206, y_206, g_206)) hx hb hr hlocks hAe hK hP hD hS dX0_putIntoSession_224 (by omega) (by omega) h
    · have h := h.2 c_215
      refine lv_aload_n (pc := 218) hx hb dX0_putIntoSession_218 rfl (lv_at hl 0 rfl) ?_
      refine lv_iload (pc := 219) hx hb dX0_putIntoSession_219 (lv_at hl 3 rfl) ?_
      obtain ⟨kc_221, ks_221, bc_221, bs_221, ec_221, es_221, h⟩ := h
      refine cVv (pc := 221) (x := x_206) (y := y_206) (g := g_206) [.int v9] hF (kX0_tell x_206 y_206 g_206 v9 kc_221 ks_221 h) (cwX0_X0_tell hts ⟨Nat.le_of_ble_eq_true rfl, Nat.le_of_ble_eq_true rfl⟩) rfl (cA_L ..) hP hD hS rfl rfl hl.1 (Nat.le_of_ble_eq_true rfl) dX0_putIntoSession_221 ⟨by show _ ≤ BC; omega, by show _ ≤ BS; omega⟩ (fun x_221 y_221 g_221 H locs h hP hD hS => ?_)
      have hB : (((cells + 0) + 0) + kc_221) + bc_221 ≤ BC ∧ (((slots + 0) + 0) + ks_221) + bs_221 ≤ BS := ⟨by omega, by omega⟩
      exact zvr (pc := 224) (Wd := cW E ad wd cI cB cP cT) (u := (x_221, y_221, g_221)) hx hb hr hlocks hAe hK hP hD hS dX0_putIntoSession_224 (by omega) (by omega) h
  have J177 : ∀ (x : Nat → Nat → Int32) (y : Nat → Nat → Nat) (g : Nat → Nat → Nat → Int32) (v1 : Int32) (v2 : Int32) (v4 : Int32) (v5 : Int32) (v6 : Int32) (bc bs : Nat), jX0_putIntoSession_177 Φ x y g v1 v2 v4 v5 v6 bc bs → ∀ (cells slots : Nat), (cells + bc ≤ BC ∧ slots + bs ≤ BS) → ∀ (H : Heap) (locs : List Loc) (ls : Array Slot), va_P D vwCl (cW E ad wd cI cB cP cT (x, y, g)) H → va_D A (cW E ad wd cI cB cP cT (x, y, g)) → va_S A s.heap H locs → lv_has ls 10 [(0, .ref (ad 2 0)), (1, .int v1), (2, .int v2), (4, .int v4), (5, .int v5), (6, .int v6), (8, .ref (ad 5 5))] → W p l e { frames := 5, cells := BC, slots := BS, locals := 155 } s m args below meth c H locs cells slots (MQ below (zQv D (cTy cI cB cP cT) (cW E ad wd cI cB cP cT) (fun u => Φ u.1 u.2.1 u.2.2) (cW E ad wd cI cB cP cT (x0, y0, g0)) s.heap.size) args s BC BS (va_A (cW E ad wd cI cB cP cT (x0, y0, g0)) s.heap.size)) (F0 m 177 ls []) := by
    intro x y g v1 v2 v4 v5 v6 bc bs h cells slots hB H locs ls hP hD hS hl
    unfold jX0_putIntoSession_177 at h
    refine lv_aload_n (pc := 177) hx hb dX0_putIntoSession_177 rfl (lv_at hl 0 rfl) ?_
    refine lv_iload_n (pc := 178) hx hb dX0_putIntoSession_178 rfl (lv_at hl 1 rfl) ?_
    refine lv_iload_n (pc := 179) hx hb dX0_putIntoSession_179 rfl (lv_at hl 2 rfl) ?_
    obtain ⟨kc_180, ks_180, bc_180, bs_180, ec_180, es_180, h⟩ := h
    refine cVv (pc := 180) (x := x) (y := y) (g := g) [.int v1, .int v2] hF (kX0_endSessions x y g v1 v2 kc_180 ks_180 h) (cwX0_X0_endSessions hts ⟨Nat.le_of_ble_eq_true rfl, Nat.le_of_ble_eq_true rfl⟩) rfl (cA_L ..) hP hD hS rfl rfl hl.1 (Nat.le_of_ble_eq_true rfl) dX0_putIntoSession_180 ⟨by show _ ≤ BC; omega, by show _ ≤ BS; omega⟩ (fun x_180 y_180 g_180 H locs h hP hD hS => ?_)
    have hB : (cells + kc_180) + bc_180 ≤ BC ∧ (slots + ks_180) + bs_180 ≤ BS := ⟨by omega, by omega⟩
    refine lv_aload_n (pc := 183) hx hb dX0_putIntoSession_183 rfl (lv_at hl 0 rfl) ?_
    refine cG_X0_now (pc := 184) hF hP lkX0_32 dX0_putIntoSession_184 ?_
    refine lv_iload_n (pc := 187) hx hb dX0_putIntoSession_187 rfl (lv_at hl 1 rfl) ?_
    refine lv_iload (pc := 188) hx hb dX0_putIntoSession_188 (lv_at hl 3 rfl) ?_
    refine lv_iload (pc := 190) hx hb dX0_putIntoSession_190 (lv_at hl 4 rfl) ?_
    refine lv_iload (pc := 192) hx hb dX0_putIntoSession_192 (lv_at hl 5 rfl) ?_
    obtain ⟨kc_194, ks_194, bc_194, bs_194, ec_194, es_194, h⟩ := h
    refine cVi (pc := 194) (x := x_180) (y := y_180) (g := g_180) [.int v1, .int v4, .int v5, .int v6] hF (kX6_addWindow x_180 y_180 g_180 0 v1 v4 v5 v6 kc_194 ks_194 h (by omega)) (cwX0_X6_addWindow hts ⟨Nat.le_of_ble_eq_true rfl, Nat.le_of_ble_eq_true rfl⟩) rfl (cA_T _ _ _ _ _ _ _ _ _ _ (i := 0) (by omega)) hP hD hS rfl rfl hl.1 (Nat.le_of_ble_eq_true rfl) dX0_putIntoSession_194 ⟨by show _ ≤ BC; omega, by show _ ≤ BS; omega⟩ (fun r_194 x_194 y_194 g_194 H locs h hP hD hS => ?_)
    have hB : ((cells + kc_180) + kc_194) + bc_194 ≤ BC ∧ ((slots + ks_180) + ks_194) + bs_194 ≤ BS := ⟨by omega, by omega⟩
    refine lv_istore (pc := 197) (lv' := [(9, .int r_194), (0, .ref (ad 2 0)), (1, .int v1), (2, .int v2), (4, .int v4), (5, .int v5), (6, .int v6), (8, .ref (ad 5 5))]) hx hb dX0_putIntoSession_197 hl (by decide) rfl (fun ls hl => ?_)
    exact J199 x_194 y_194 g_194 v6 r_194 bc_194 bs_194 h _ _ hB _ _ _ hP hD hS (lv_sub hl [1, 6, 7, 0] rfl)
  have J141 : ∀ (x : Nat → Nat → Int32) (y : Nat → Nat → Nat) (g : Nat → Nat → Nat → Int32) (v1 : Int32) (v2 : Int32) (v4 : Int32) (v5 : Int32) (v6 : Int32) (v7 : Int32) (bc bs : Nat), jX0_putIntoSession_141 Φ x y g v1 v2 v4 v5 v6 v7 bc bs → ∀ (cells slots : Nat), (cells + bc ≤ BC ∧ slots + bs ≤ BS) → ∀ (H : Heap) (locs : List Loc) (ls : Array Slot), va_P D vwCl (cW E ad wd cI cB cP cT (x, y, g)) H → va_D A (cW E ad wd cI cB cP cT (x, y, g)) → va_S A s.heap H locs → lv_has ls 10 [(0, .ref (ad 2 0)), (1, .int v1), (2, .int v2), (4, .int v4), (5, .int v5), (6, .int v6), (7, .int v7), (8, .ref (ad 5 5))] → W p l e { frames := 5, cells := BC, slots := BS, locals := 155 } s m args below meth c H locs cells slots (MQ below (zQv D (cTy cI cB cP cT) (cW E ad wd cI cB cP cT) (fun u => Φ u.1 u.2.1 u.2.2) (cW E ad wd cI cB cP cT (x0, y0, g0)) s.heap.size) args s BC BS (va_A (cW E ad wd cI cB cP cT (x0, y0, g0)) s.heap.size)) (F0 m 141 ls []) := by
    intro x y g v1 v2 v4 v5 v6 v7 bc bs h cells slots hB H locs ls hP hD hS hl
    unfold jX0_putIntoSession_141 at h
    refine lv_iload (pc := 141) hx hb dX0_putIntoSession_141 (lv_at hl 6 rfl) ?_
    refine lv_istore (pc := 143) (lv' := [(9, .int v7), (0, .ref (ad 2 0)), (1, .int v1), (2, .int v2), (4, .int v4), (5, .int v5), (6, .int v6), (7, .int v7), (8, .ref (ad 5 5))]) hx hb dX0_putIntoSession_143 hl (by decide) rfl (fun ls hl => ?_)
    refine lv_iload (pc := 145) hx hb dX0_putIntoSession_145 (lv_at hl 7 rfl) ?_
    refine lv_iconst (pc := 147) (v := (-1)) hx hb dX0_putIntoSession_147 (by decide) ?_
    refine lv_icmp_eq (pc := 148) (tgt := 177) hx hb dX0_putIntoSession_148 (by decide) (fun c_148 => ?_) (fun c_148 => ?_)
    · have h := h.1 c_148
      exact J177 x y g v1 v2 v4 v5 v6 bc bs h _ _ hB _ _ _ hP hD hS (lv_sub hl [1, 2, 3, 4, 5, 6, 8] rfl)
    · have h := h.2 c_148
      refine lv_aload (pc := 151) hx hb dX0_putIntoSession_151 (lv_at hl 8 rfl) ?_
      refine lv_iload (pc := 153) hx hb dX0_putIntoSession_153 (lv_at hl 7 rfl) ?_
      refine lv_iconst (pc := 155) (v := 1) hx hb dX0_putIntoSession_155 (by decide) ?_
      refine cVip (pc := 156) (x := x) (y := y) (g := g) [.int v7, .int 1] hF (kX4_get x y g 5 v7 1 h (by omega)) (cwX0_X4_get hts ⟨Nat.le_of_ble_eq_true rfl, Nat.le_of_ble_eq_true rfl⟩) rfl (cA_R _ _ _ _ _ _ _ _ _ _ (i := 5) (by omega)) hP hD hS rfl rfl hl.1 (Nat.le_of_ble_eq_true rfl) dX0_putIntoSession_156 ⟨by show _ ≤ BC; omega, by show _ ≤ BS; omega⟩ (fun r_156 H locs h hP hD hS => ?_)
      refine lv_iload (pc := 159) hx hb dX0_putIntoSession_159 (lv_at hl 4 rfl) ?_
      refine lv_icmp_ne (pc := 161) (tgt := 177) hx hb dX0_putIntoSession_161 (by decide) (fun c_161 => ?_) (fun c_161 => ?_)
      · have h := h.2 c_161
        exact J177 x y g v1 v2 v4 v5 v6 bc bs h _ _ hB _ _ _ hP hD hS (lv_sub hl [1, 2, 3, 4, 5, 6, 8] rfl)
      · have h := h.1 c_161
        refine lv_aload (pc := 164) hx hb dX0_putIntoSession_164 (lv_at hl 8 rfl) ?_
        refine lv_iload (pc := 166) hx hb dX0_putIntoSession_166 (lv_at hl 7 rfl) ?_
        refine lv_iconst (pc := 168) (v := 2) hx hb dX0_putIntoSession_168 (by decide) ?_
        refine cVip (pc := 169) (x := x) (y := y) (g := g) [.int v7, .int 2] hF (kX4_get x y g 5 v7 2 h (by omega)) (cwX0_X4_get hts ⟨Nat.le_of_ble_eq_true rfl, Nat.le_of_ble_eq_true rfl⟩) rfl (cA_R _ _ _ _ _ _ _ _ _ _ (i := 5) (by omega)) hP hD hS rfl rfl hl.1 (Nat.le_of_ble_eq_true rfl) dX0_putIntoSession_169 ⟨by show _ ≤ BC; omega, by show _ ≤ BS; omega⟩ (fun r_169 H locs h hP hD hS => ?_)
        refine lv_iload (pc := 172) hx hb dX0_putIntoSession_172 (lv_at hl 5 rfl) ?_
        refine lv_icmp_eq (pc := 174) (tgt := 199) hx hb dX0_putIntoSession_174 (by decide) (fun c_174 => ?_) (fun c_174 => ?_)
        · have h := h.1 c_174
          exact J199 x y g v6 v7 bc bs h _ _ hB _ _ _ hP hD hS (lv_sub hl [1, 6, 8, 0] rfl)
        · have h := h.2 c_174
          exact J177 x y g v1 v2 v4 v5 v6 bc bs h _ _ hB _ _ _ hP hD hS (lv_sub hl [1, 2, 3, 4, 5, 6, 8] rfl)
  have L32 : ∀ n32 : Nat, ∀ (x : Nat → Nat → Int32) (y : Nat → Nat → Nat) (g : Nat → Nat → Nat → Int32) (v1 : Int32) (v2 : Int32) (v4 : Int32) (v5 : Int32) (v6 : Int32) (v7 : Int32) (v9 : Int32) (bc bs : Nat), lX0_putIntoSession_32 Φ n32 x y g v1 v2 v4 v5 v6 v7 v9 bc bs → ∀ (cells slots : Nat), (cells + bc ≤ BC ∧ slots + bs ≤ BS) → ∀ (H : Heap) (locs : List Loc) (ls : Array Slot), va_P D vwCl (cW E ad wd cI cB cP cT (x, y, g)) H → va_D A (cW E ad wd cI cB cP cT (x, y, g)) → va_S A s.heap H locs → lv_has ls 10 [(0, .ref (ad 2 0)), (1, .int v1), (2, .int v2), (4, .int v4), (5, .int v5), (6, .int v6), (7, .int v7), (8, .ref (ad 5 5)), (9, .int v9)] → W p l e { frames := 5, cells := BC, slots := BS, locals := 155 } s m args below meth c H locs cells slots (MQ below (zQv D (cTy cI cB cP cT) (cW E ad wd cI cB cP cT) (fun u => Φ u.1 u.2.1 u.2.2) (cW E ad wd cI cB cP cT (x0, y0, g0)) s.heap.size) args s BC BS (va_A (cW E ad wd cI cB cP cT (x0, y0, g0)) s.heap.size)) (F0 m 32 ls []) := by
    intro n32
    induction n32 with
    | zero => intro x y g v1 v2 v4 v5 v6 v7 v9 bc bs h cells slots hB H locs ls hP hD hS hl; exact h.elim
    | succ n32 ih32 =>
      intro x y g v1 v2 v4 v5 v6 v7 v9 bc bs h cells slots hB H locs ls hP hD hS hl
      unfold lX0_putIntoSession_32 at h
      refine lv_iload (pc := 32) hx hb dX0_putIntoSession_32 (lv_at hl 8 rfl) ?_
      refine lv_aload (pc := 34) hx hb dX0_putIntoSession_34 (lv_at hl 7 rfl) ?_
      refine cGN_X4_count (pc := 36) hF hP (i := 5) (by omega) lkX0_53 (v := ((x 1) 5)) rfl dX0_putIntoSession_36 ?_
      refine lv_icmp_ge (pc := 39) (tgt := 112) hx hb dX0_putIntoSession_39 (by decide) (fun c_39 => ?_) (fun c_39 => ?_)
      · have h := h.1 c_39
        refine lv_iload (pc := 112) hx hb dX0_putIntoSession_112 (lv_at hl 6 rfl) ?_
        refine lv_iconst (pc := 114) (v := (-1)) hx hb dX0_putIntoSession_114 (by decide) ?_
        refine lv_icmp_ne (pc := 115) (tgt := 141) hx hb dX0_putIntoSession_115 (by decide) (fun c_115 => ?_) (fun c_115 => ?_)
        · have h := h.2 c_115
          exact J141 x y g v1 v2 v4 v5 v6 v7 bc bs h _ _ hB _ _ _ hP hD hS (lv_sub hl [0, 1, 2, 3, 4, 5, 6, 7] rfl)
        · have h := h.1 c_115
          refine lv_iload (pc := 118) hx hb dX0_putIntoSession_118 (lv_at hl 4 rfl) ?_
          refine lv_aload_n (pc := 120) hx hb dX0_putIntoSession_120 rfl (lv_at hl 0 rfl) ?_
          refine cVip (pc := 121) (x := x) (y := y) (g := g) [] hF (kX0_horizon x y g h) (cwX0_X0_horizon hts ⟨Nat.le_of_ble_eq_true rfl, Nat.le_of_ble_eq_true rfl⟩) rfl (cA_L ..) hP hD hS rfl rfl hl.1 (Nat.le_of_ble_eq_true rfl) dX0_putIntoSession_121 ⟨by show _ ≤ BC; omega, by show _ ≤ BS; omega⟩ (fun r_121 H locs h hP hD hS => ?_)
          refine lv_icmp_gt (pc := 124) (tgt := 141) hx hb dX0_putIntoSession_124 (by decide) (fun c_124 => ?_) (fun c_124 => ?_)
          · have h := h.1 c_124
            exact J141 x y g v1 v2 v4 v5 v6 v7 bc bs h _ _ hB _ _ _ hP hD hS (lv_sub hl [0, 1, 2, 3, 4, 5, 6, 7] rfl)
          · have h := h.2 c_124
            refine lv_aload_n (pc := 127) hx hb dX0_putIntoSession_127 rfl (lv_at hl 0 rfl) ?_
            refine cG_X0_now (pc := 128) hF hP lkX0_32 dX0_putIntoSession_128 ?_
            refine lv_dup (pc := 131) hx hb dX0_putIntoSession_131 rfl ?_
            refine cGN_X6_lateCount (pc := 132) hF hP (i := 0) (by omega) lkX0_125 (v := ((x 3) 0)) rfl dX0_putIntoSession_132 ?_
            refine lv_iconst (pc := 135) (v := 1) hx hb dX0_putIntoSession_135 (by decide) ?_
            refine lv_iadd (pc := 136) hx hb dX0_putIntoSession_136 ?_
            refine cPN_X6_lateCount (pc := 137) hF hP hD hS (i := 0) (by omega) lkX0_125 dX0_putIntoSession_137 (fun H locs hP hD hS => ?_)
            exact zvr (pc := 140) (Wd := cW E ad wd cI cB cP cT) (u := ((va_up x 3 (va_up (x 3) 0 (((x 3) 0) + 1))), y, g)) hx hb hr hlocks hAe hK hP hD hS dX0_putIntoSession_140 (by omega) (by omega) h
      · have h := h.2 c_39
        refine lv_aload_n (pc := 42) hx hb dX0_putIntoSession_42 rfl (lv_at hl 0 rfl) ?_
        refine lv_iload (pc := 43) hx hb dX0_putIntoSession_43 (lv_at hl 8 rfl) ?_
        refine lv_iload_n (pc := 45) hx hb dX0_putIntoSession_45 rfl (lv_at hl 1 rfl) ?_
        refine lv_iload_n (pc := 46) hx hb dX0_putIntoSession_46 rfl (lv_at hl 2 rfl) ?_
        refine cVbp (pc := 47) (x := x) (y := y) (g := g) [.int v9, .int v1, .int v2] hF (kX0_isMet x y g v9 v1 v2 h) (cwX0_X0_isMet hts ⟨Nat.le_of_ble_eq_true rfl, Nat.le_of_ble_eq_true rfl⟩) rfl (cA_L ..) hP hD hS rfl rfl hl.1 (Nat.le_of_ble_eq_true rfl) dX0_putIntoSession_47 ⟨by show _ ≤ BC; omega, by show _ ≤ BS; omega⟩ (fun r_47 H locs hb_47 h hP hD hS => ?_)
        refine lv_if_eq (pc := 50) (tgt := 106) hx hb dX0_putIntoSession_50 (by decide) (fun c_50 => ?_) (fun c_50 => ?_)
        · have h := h.1 c_50
          obtain ⟨v9_106, e_v9_106⟩ : ∃ y : Int32, y = v9 + 1 := ⟨_, rfl⟩
          replace h := h v9_106 e_v9_106
          refine lv_iinc (pc := 106) (v := v9_106) (lv' := [(9, .int v9_106), (0, .ref (ad 2 0)), (1, .int v1), (2, .int v2), (4, .int v4), (5, .int v5), (6, .int v6), (7, .int v7), (8, .ref (ad 5 5))]) hx hb dX0_putIntoSession_106 hl (k := 8) rfl (by rw [e_v9_106]; rfl) (by decide) rfl (fun ls hl => ?_)
          refine lv_goto (pc := 109) (tgt := 32) hx hb dX0_putIntoSession_109 (by decide) ?_
          exact ih32 x y g v1 v2 v4 v5 v6 v7 v9_106 bc bs h _ _ hB _ _ _ hP hD hS (lv_sub hl [1, 2, 3, 4, 5, 6, 7, 8, 0] rfl)
        · have h := h.2 c_50
          refine lv_iload (pc := 53) hx hb dX0_putIntoSession_53 (lv_at hl 3 rfl) ?_
          refine lv_aload (pc := 55) hx hb dX0_putIntoSession_55 (lv_at hl 7 rfl) ?_
          refine lv_iload (pc := 57) hx hb dX0_putIntoSession_57 (lv_at hl 8 rfl) ?_
          refine lv_iconst (pc := 59) (v := 1) hx hb dX0_putIntoSession_59 (by decide) ?_
          refine cVip (pc := 60) (x := x) (y := y) (g := g) [.int v9, .int 1] hF (kX4_get x y g 5 v9 1 h (by omega)) (cwX0_X4_get hts ⟨Nat.le_of_ble_eq_true rfl, Nat.le_of_ble_eq_true rfl⟩) rfl (cA_R _ _ _ _ _ _ _ _ _ _ (i := 5) (by omega)) hP hD hS rfl rfl hl.1 (Nat.le_of_ble_eq_true rfl) dX0_putIntoSession_60 ⟨by show _ ≤ BC; omega, by show _ ≤ BS; omega⟩ (fun r_60 H locs h hP hD hS => ?_)
          refine c_min (pc := 63) hF hl.1 mlX0_151 ⟨Nat.le_of_ble_eq_true rfl, Nat.le_of_ble_eq_true rfl⟩ ⟨by show _ ≤ BC; omega, by show _ ≤ BS; omega⟩ dX0_putIntoSession_63 ?_
          refine lv_topi (fun v4_66 e_v4_66 => ?_)
          replace h := h v4_66 e_v4_66
          refine lv_istore (pc := 66) (lv' := [(4, .int v4_66), (0, .ref (ad 2 0)), (1, .int v1), (2, .int v2), (5, .int v5), (6, .int v6), (7, .int v7), (8, .ref (ad 5 5)), (9, .int v9)]) hx hb dX0_putIntoSession_66 hl (by decide) rfl (fun ls hl => ?_)
          refine lv_iload (pc := 68) hx hb dX0_putIntoSession_68 (lv_at hl 4 rfl) ?_
          refine lv_aload (pc := 70) hx hb dX0_putIntoSession_70 (lv_at hl 7 rfl) ?_
          refine lv_iload (pc := 72) hx hb dX0_putIntoSession_72 (lv_at hl 8 rfl) ?_
          refine lv_iconst (pc := 74) (v := 2) hx hb dX0_putIntoSession_74 (by decide) ?_
          refine cVip (pc := 75) (x := x) (y := y) (g := g) [.int v9, .int 2] hF (kX4_get x y g 5 v9 2 h (by omega)) (cwX0_X4_get hts ⟨Nat.le_of_ble_eq_true rfl, Nat.le_of_ble_eq_true rfl⟩) rfl (cA_R _ _ _ _ _ _ _ _ _ _ (i := 5) (by omega)) hP hD hS rfl rfl hl.1 (Nat.le_of_ble_eq_true rfl) dX0_putIntoSession_75 ⟨by show _ ≤ BC; omega, by show _ ≤ BS; omega⟩ (fun r_75 H locs h hP hD hS => ?_)
          refine c_max (pc := 78) hF hl.1 mlX0_74 ⟨Nat.le_of_ble_eq_true rfl, Nat.le_of_ble_eq_true rfl⟩ ⟨by show _ ≤ BC; omega, by show _ ≤ BS; omega⟩ dX0_putIntoSession_78 ?_
          refine lv_topi (fun v5_81 e_v5_81 => ?_)
          replace h := h v5_81 e_v5_81
          refine lv_istore (pc := 81) (lv' := [(5, .int v5_81), (4, .int v4_66), (0, .ref (ad 2 0)), (1, .int v1), (2, .int v2), (6, .int v6), (7, .int v7), (8, .ref (ad 5 5)), (9, .int v9)]) hx hb dX0_putIntoSession_81 hl (by decide) rfl (fun ls hl => ?_)
          refine lv_aload_n (pc := 83) hx hb dX0_putIntoSession_83 rfl (lv_at hl 2 rfl) ?_
          refine cG_X0_query (pc := 84) hF hP lkX0_39 dX0_putIntoSession_84 ?_
          refine lv_iload (pc := 87) hx hb dX0_putIntoSession_87 (lv_at hl 5 rfl) ?_
          refine lv_aload (pc := 89) hx hb dX0_putIntoSession_89 (lv_at hl 7 rfl) ?_
          refine lv_iload (pc := 91) hx hb dX0_putIntoSession_91 (lv_at hl 8 rfl) ?_
          refine lv_iconst (pc := 93) (v := 3) hx hb dX0_putIntoSession_93 (by decide) ?_
          refine cVip (pc := 94) (x := x) (y := y) (g := g) [.int v9, .int 3] hF (kX4_get x y g 5 v9 3 h (by omega)) (cwX0_X4_get hts ⟨Nat.le_of_ble_eq_true rfl, Nat.le_of_ble_eq_true rfl⟩) rfl (cA_R _ _ _ _ _ _ _ _ _ _ (i := 5) (by omega)) hP hD hS rfl rfl hl.1 (Nat.le_of_ble_eq_true rfl) dX0_putIntoSession_94 ⟨by show _ ≤ BC; omega, by show _ ≤ BS; omega⟩ (fun r_94 H locs h hP hD hS => ?_)
          refine cVip (pc := 97) (x := x) (y := y) (g := g) [.int v6, .int r_94] hF (kX2_foldWith x y g v6 r_94 h) (cwX0_X2_foldWith hts ⟨Nat.le_of_ble_eq_true rfl, Nat.le_of_ble_eq_true rfl⟩) rfl (cA_Q ..) hP hD hS rfl rfl hl.1 (Nat.le_of_ble_eq_true rfl) dX0_putIntoSession_97 ⟨by show _ ≤ BC; omega, by show _ ≤ BS; omega⟩ (fun r_97 H locs h hP hD hS => ?_)
          refine lv_istore (pc := 100) (lv' := [(6, .int r_97), (5, .int v5_81), (4, .int v4_66), (0, .ref (ad 2 0)), (1, .int v1), (2, .int v2), (7, .int v7), (8, .ref (ad 5 5)), (9, .int v9)]) hx hb dX0_putIntoSession_100 hl (by decide) rfl (fun ls hl => ?_)
          refine lv_iload (pc := 102) hx hb dX0_putIntoSession_102 (lv_at hl 8 rfl) ?_
          refine lv_istore (pc := 104) (lv' := [(7, .int v9), (6, .int r_97), (5, .int v5_81), (4, .int v4_66), (0, .ref (ad 2 0)), (1, .int v1), (2, .int v2), (8, .ref (ad 5 5)), (9, .int v9)]) hx hb dX0_putIntoSession_104 hl (by decide) rfl (fun ls hl => ?_)
          obtain ⟨v9_106, e_v9_106⟩ : ∃ y : Int32, y = v9 + 1 := ⟨_, rfl⟩
          replace h := h v9_106 e_v9_106
          refine lv_iinc (pc := 106) (v := v9_106) (lv' := [(9, .int v9_106), (7, .int v9), (6, .int r_97), (5, .int v5_81), (4, .int v4_66), (0, .ref (ad 2 0)), (1, .int v1), (2, .int v2), (8, .ref (ad 5 5))]) hx hb dX0_putIntoSession_106 hl (k := 8) rfl (by rw [e_v9_106]; rfl) (by decide) rfl (fun ls hl => ?_)
          refine lv_goto (pc := 109) (tgt := 32) hx hb dX0_putIntoSession_109 (by decide) ?_
          exact ih32 x y g v1 v2 v4_66 v5_81 r_97 v9 v9_106 bc bs h _ _ hB _ _ _ hP hD hS (lv_sub hl [5, 6, 7, 4, 3, 2, 1, 8, 0] rfl)
  unfold wX0_putIntoSession at h
  refine lv_iload_n (pc := 0) hx hb dX0_putIntoSession_0 rfl (lv_at hl 2 rfl) ?_
  refine lv_istore (pc := 1) (lv' := [(4, .int a2), (0, .ref (ad 2 0)), (1, .int a1), (2, .int a2), (3, .int a3)]) hx hb dX0_putIntoSession_1 hl (by decide) rfl (fun ls hl => ?_)
  refine lv_iload_n (pc := 3) hx hb dX0_putIntoSession_3 rfl (lv_at hl 3 rfl) ?_
  refine lv_aload_n (pc := 4) hx hb dX0_putIntoSession_4 rfl (lv_at hl 1 rfl) ?_
  refine cG_X0_query (pc := 5) hF hP lkX0_39 dX0_putIntoSession_5 ?_
  refine cGN_X2_size (pc := 8) hF hP lkX0_119 (v := ((x0 10) 0)) rfl dX0_putIntoSession_8 ?_
  refine lv_iadd (pc := 11) hx hb dX0_putIntoSession_11 ?_
  refine lv_topi (fun v5_12 e_v5_12 => ?_)
  replace h := h v5_12 e_v5_12
  refine lv_istore (pc := 12) (lv' := [(5, .int v5_12), (4, .int a2), (0, .ref (ad 2 0)), (1, .int a1), (2, .int a2), (3, .int a3)]) hx hb dX0_putIntoSession_12 hl (by decide) rfl (fun ls hl => ?_)
  refine lv_iload_n (pc := 14) hx hb dX0_putIntoSession_14 rfl (lv_at hl 5 rfl) ?_
  refine lv_istore (pc := 15) (lv' := [(6, .int a3), (5, .int v5_12), (4, .int a2), (0, .ref (ad 2 0)), (1, .int a1), (2, .int a2), (3, .int a3)]) hx hb dX0_putIntoSession_15 hl (by decide) rfl (fun ls hl => ?_)
  refine lv_iconst (pc := 17) (v := (-1)) hx hb dX0_putIntoSession_17 (by decide) ?_
  refine lv_istore (pc := 18) (lv' := [(7, .int (-1)), (6, .int a3), (5, .int v5_12), (4, .int a2), (0, .ref (ad 2 0)), (1, .int a1), (2, .int a2), (3, .int a3)]) hx hb dX0_putIntoSession_18 hl (by decide) rfl (fun ls hl => ?_)
  refine lv_aload_n (pc := 20) hx hb dX0_putIntoSession_20 rfl (lv_at hl 4 rfl) ?_
  refine cG_X0_now (pc := 21) hF hP lkX0_32 dX0_putIntoSession_21 ?_
  refine cGN_X6_windows (pc := 24) hF hP (i := 0) (by omega) lkX0_135 dX0_putIntoSession_24 ?_
  refine lv_astore (pc := 27) (lv' := [(8, .ref (ad 5 5)), (7, .int (-1)), (6, .int a3), (5, .int v5_12), (4, .int a2), (0, .ref (ad 2 0)), (1, .int a1), (2, .int a2), (3, .int a3)]) hx hb dX0_putIntoSession_27 hl (by decide) rfl (fun ls hl => ?_)
  refine lv_iconst (pc := 29) (v := 0) hx hb dX0_putIntoSession_29 (by decide) ?_
  refine lv_istore (pc := 30) (lv' := [(9, .int 0), (8, .ref (ad 5 5)), (7, .int (-1)), (6, .int a3), (5, .int v5_12), (4, .int a2), (0, .ref (ad 2 0)), (1, .int a1), (2, .int a2), (3, .int a3)]) hx hb dX0_putIntoSession_30 hl (by decide) rfl (fun ls hl => ?_)
  obtain ⟨n32, h⟩ := h
  exact L32 n32 x0 y0 g0 a1 a2 a2 v5_12 a3 (-1) 0 BC BS h _ _ hB _ _ _ hP hD hS (lv_sub hl [6, 7, 8, 5, 4, 3, 2, 1, 0] rfl)

def lX6_findWindow_2 (Φ : Int32 → Prop) : Nat → (Nat → Nat → Int32) → (Nat → Nat → Nat) → (Nat → Nat → Nat → Int32) → Nat → Int32 → Int32 → Int32 → Prop
  | 0, _, _, _, _, _, _, _ => False
  | n2 + 1, x, y, g, q0, v1, v2, v3 => ((((x 1) (5 + q0)) ≤ v3 → (Φ (-1))) ∧ (¬ ((x 1) (5 + q0)) ≤ v3 → (wX4_get x y g (5 + q0) v3 0 (fun r_19 => ((r_19 = v1 → (wX4_get x y g (5 + q0) v3 1 (fun r_32 => ((r_32 = v2 → (Φ v3)) ∧ (¬ r_32 = v2 → (∀ v3_41 : Int32, v3_41 = v3 + 1 → ((lX6_findWindow_2 Φ n2) x y g q0 v1 v2 v3_41))))))) ∧ (¬ r_19 = v1 → (∀ v3_41 : Int32, v3_41 = v3 + 1 → ((lX6_findWindow_2 Φ n2) x y g q0 v1 v2 v3_41))))))))
def wX6_findWindow (x : Nat → Nat → Int32) (y : Nat → Nat → Nat) (g : Nat → Nat → Nat → Int32) (q0 : Nat) (a1 : Int32) (a2 : Int32) (Φ : Int32 → Prop) : Prop := (∃ n2 : Nat, lX6_findWindow_2 Φ n2 x y g q0 a1 a2 0)
set_option maxRecDepth 100000 in
set_option maxHeartbeats 4000000 in
theorem kX6_findWindow {l : Launch} {D : va_G} {E : va_W} {ad : Nat → Nat → Nat} {wd sk : Nat → Nat} {cI cB cP cT : ClassId} {sz : Nat} (x0 : Nat → Nat → Int32) (y0 : Nat → Nat → Nat) (g0 : Nat → Nat → Nat → Int32) (q0 : Nat) (a1 : Int32) (a2 : Int32) {Φ : Int32 → Prop} (h : wX6_findWindow x0 y0 g0 q0 a1 a2 Φ) (hq0 : q0 < 7) : Met l yX6_findWindow (zws yX6_findWindow cX6_findWindow 4 (some .int)) { frames := 2, cells := 0, slots := 0, locals := 44 } (zPc D (cTy cI cB cP cT) (cX wd sk) (cW E ad wd cI cB cP cT (x0, y0, g0)) [.ref (ad 6 q0), .int a1, .int a2] sz) (zQi D (cTy cI cB cP cT) (cW E ad wd cI cB cP cT) (fun r u => u = (x0, y0, g0) ∧ Φ r) (cW E ad wd cI cB cP cT (x0, y0, g0)) sz) 0 0 (va_A (cW E ad wd cI cB cP cT (x0, y0, g0)) sz) := by
  refine zMet (by decide) (Nat.le_of_ble_eq_true rfl) ?_
  intro p e s m args below meth c A hx hb hr hml hown hts hlocks hsz hAe hA hS hP hK hD hX ls hl
  subst hsz
  have hF : zFx p s m args c cX6_findWindow RX6 A D (cTy cI cB cP cT) (cX wd sk) 4 := ⟨hx, hb, hml, hown, hts, hA, hK, cX_cl wd sk, hX⟩
  have hl : lv_has ls 4 [(0, .ref (ad 6 q0)), (1, .int a1), (2, .int a2)] := hl
  have L2 : ∀ n2 : Nat, ∀ (q0 : Nat) (v1 : Int32) (v2 : Int32) (v3 : Int32), lX6_findWindow_2 Φ n2 x0 y0 g0 q0 v1 v2 v3 → q0 < 7 → ∀ (H : Heap) (locs : List Loc) (ls : Array Slot), va_P D vwCl (cW E ad wd cI cB cP cT (x0, y0, g0)) H → va_D A (cW E ad wd cI cB cP cT (x0, y0, g0)) → va_S A s.heap H locs → lv_has ls 4 [(0, .ref (ad 6 q0)), (1, .int v1), (2, .int v2), (3, .int v3)] → W p l e { frames := 2, cells := 0, slots := 0, locals := 44 } s m args below meth c H locs 0 0 (MQ below (zQi D (cTy cI cB cP cT) (cW E ad wd cI cB cP cT) (fun r u => u = (x0, y0, g0) ∧ Φ r) (cW E ad wd cI cB cP cT (x0, y0, g0)) s.heap.size) args s 0 0 (va_A (cW E ad wd cI cB cP cT (x0, y0, g0)) s.heap.size)) (F0 m 2 ls []) := by
    intro n2
    induction n2 with
    | zero => intro q0 v1 v2 v3 h hcq0 H locs ls hP hD hS hl; exact h.elim
    | succ n2 ih2 =>
      intro q0 v1 v2 v3 h hcq0 H locs ls hP hD hS hl
      unfold lX6_findWindow_2 at h
      refine lv_iload_n (pc := 2) hx hb dX6_findWindow_2 rfl (lv_at hl 3 rfl) ?_
      refine lv_aload_n (pc := 3) hx hb dX6_findWindow_3 rfl (lv_at hl 0 rfl) ?_
      refine cG_X6_windows (pc := 4) hF hP (i := q0) (by omega) lkX6_23 dX6_findWindow_4 ?_
      refine cGN_X4_count (pc := 7) hF hP (i := (5 + q0)) (by omega) lkX6_47 (v := ((x0 1) (5 + q0))) rfl dX6_findWindow_7 ?_
      refine lv_icmp_ge (pc := 10) (tgt := 47) hx hb dX6_findWindow_10 (by decide) (fun c_10 => ?_) (fun c_10 => ?_)
      · have h := h.1 c_10
        refine lv_iconst (pc := 47) (v := (-1)) hx hb dX6_findWindow_47 (by decide) ?_
        exact zirV (pc := 48) (Wd := cW E ad wd cI cB cP cT) (u := (x0, y0, g0)) hx hb hr hlocks hAe hK hP hD hS rfl dX6_findWindow_48 (Nat.le_refl _) (Nat.le_refl _) ⟨rfl, h⟩
      · have h := h.2 c_10
        refine lv_aload_n (pc := 13) hx hb dX6_findWindow_13 rfl (lv_at hl 0 rfl) ?_
        refine cG_X6_windows (pc := 14) hF hP (i := q0) (by omega) lkX6_23 dX6_findWindow_14 ?_
        refine lv_iload_n (pc := 17) hx hb dX6_findWindow_17 rfl (lv_at hl 3 rfl) ?_
        refine lv_iconst (pc := 18) (v := 0) hx hb dX6_findWindow_18 (by decide) ?_
        refine cVip (pc := 19) (x := x0) (y := y0) (g := g0) [.int v3, .int 0] hF (kX4_get x0 y0 g0 (5 + q0) v3 0 h (by omega)) (cwX6_X4_get hts ⟨Nat.le_of_ble_eq_true rfl, Nat.le_of_ble_eq_true rfl⟩) rfl (cA_R _ _ _ _ _ _ _ _ _ _ (i := (5 + q0)) (by omega)) hP hD hS rfl rfl hl.1 (Nat.le_of_ble_eq_true rfl) dX6_findWindow_19 ⟨Nat.le_refl _, Nat.le_refl _⟩ (fun r_19 H locs h hP hD hS => ?_)
        refine lv_iload_n (pc := 22) hx hb dX6_findWindow_22 rfl (lv_at hl 1 rfl) ?_
        refine lv_icmp_ne (pc := 23) (tgt := 41) hx hb dX6_findWindow_23 (by decide) (fun c_23 => ?_) (fun c_23 => ?_)
        · have h := h.2 c_23
          obtain ⟨v3_41, e_v3_41⟩ : ∃ y : Int32, y = v3 + 1 := ⟨_, rfl⟩
          replace h := h v3_41 e_v3_41
          refine lv_iinc (pc := 41) (v := v3_41) (lv' := [(3, .int v3_41), (0, .ref (ad 6 q0)), (1, .int v1), (2, .int v2)]) hx hb dX6_findWindow_41 hl (k := 3) rfl (by rw [e_v3_41]; rfl) (by decide) rfl (fun ls hl => ?_)
          refine lv_goto (pc := 44) (tgt := 2) hx hb dX6_findWindow_44 (by decide) ?_
          exact ih2 q0 v1 v2 v3_41 h (by omega) _ _ _ hP hD hS (lv_sub hl [1, 2, 3, 0] rfl)
        · have h := h.1 c_23
          refine lv_aload_n (pc := 26) hx hb dX6_findWindow_26 rfl (lv_at hl 0 rfl) ?_
          refine cG_X6_windows (pc := 27) hF hP (i := q0) (by omega) lkX6_23 dX6_findWindow_27 ?_
          refine lv_iload_n (pc := 30) hx hb dX6_findWindow_30 rfl (lv_at hl 3 rfl) ?_
          refine lv_iconst (pc := 31) (v := 1) hx hb dX6_findWindow_31 (by decide) ?_
          refine cVip (pc := 32) (x := x0) (y := y0) (g := g0) [.int v3, .int 1] hF (kX4_get x0 y0 g0 (5 + q0) v3 1 h (by omega)) (cwX6_X4_get hts ⟨Nat.le_of_ble_eq_true rfl, Nat.le_of_ble_eq_true rfl⟩) rfl (cA_R _ _ _ _ _ _ _ _ _ _ (i := (5 + q0)) (by omega)) hP hD hS rfl rfl hl.1 (Nat.le_of_ble_eq_true rfl) dX6_findWindow_32 ⟨Nat.le_refl _, Nat.le_refl _⟩ (fun r_32 H locs h hP hD hS => ?_)
          refine lv_iload_n (pc := 35) hx hb dX6_findWindow_35 rfl (lv_at hl 2 rfl) ?_
          refine lv_icmp_ne (pc := 36) (tgt := 41) hx hb dX6_findWindow_36 (by decide) (fun c_36 => ?_) (fun c_36 => ?_)
          · have h := h.2 c_36
            obtain ⟨v3_41, e_v3_41⟩ : ∃ y : Int32, y = v3 + 1 := ⟨_, rfl⟩
            replace h := h v3_41 e_v3_41
            refine lv_iinc (pc := 41) (v := v3_41) (lv' := [(3, .int v3_41), (0, .ref (ad 6 q0)), (1, .int v1), (2, .int v2)]) hx hb dX6_findWindow_41 hl (k := 3) rfl (by rw [e_v3_41]; rfl) (by decide) rfl (fun ls hl => ?_)
            refine lv_goto (pc := 44) (tgt := 2) hx hb dX6_findWindow_44 (by decide) ?_
            exact ih2 q0 v1 v2 v3_41 h (by omega) _ _ _ hP hD hS (lv_sub hl [1, 2, 3, 0] rfl)
          · have h := h.1 c_36
            refine lv_iload_n (pc := 39) hx hb dX6_findWindow_39 rfl (lv_at hl 3 rfl) ?_
            exact zirV (pc := 40) (Wd := cW E ad wd cI cB cP cT) (u := (x0, y0, g0)) hx hb hr hlocks hAe hK hP hD hS rfl dX6_findWindow_40 (Nat.le_refl _) (Nat.le_refl _) ⟨rfl, h⟩
  unfold wX6_findWindow at h
  refine lv_iconst (pc := 0) (v := 0) hx hb dX6_findWindow_0 (by decide) ?_
  refine lv_istore_n (pc := 1) (lv' := [(3, .int 0), (0, .ref (ad 6 q0)), (1, .int a1), (2, .int a2)]) hx hb dX6_findWindow_1 rfl hl (by decide) rfl (fun ls hl => ?_)
  obtain ⟨n2, h⟩ := h
  exact L2 n2 q0 a1 a2 0 h (by omega) _ _ _ hP hD hS (lv_sub hl [1, 2, 3, 0] rfl)

def jX0_putIntoWindow_102 (Φ : (Nat → Nat → Int32) → (Nat → Nat → Nat) → (Nat → Nat → Nat → Int32) → Prop) (x : Nat → Nat → Int32) (y : Nat → Nat → Nat) (g : Nat → Nat → Nat → Int32) (v5 : Int32) (bc bs : Nat) : Prop := (wX0_isRipe x y g v5 (fun r_105 => ((r_105 = 0 → (Φ x y g)) ∧ (¬ r_105 = 0 → (∃ kc_114 ks_114 bc_114 bs_114 : Nat, kc_114 + bc_114 ≤ bc ∧ ks_114 + bs_114 ≤ bs ∧ (wX0_tell x y g v5 kc_114 ks_114 (fun x_114 y_114 g_114 => (Φ x_114 y_114 g_114))))))))
def wX0_putIntoWindow (x : Nat → Nat → Int32) (y : Nat → Nat → Nat) (g : Nat → Nat → Nat → Int32) (a1 : Int32) (a2 : Int32) (a3 : Int32) (bc bs : Nat) (Φ : (Nat → Nat → Int32) → (Nat → Nat → Nat) → (Nat → Nat → Nat → Int32) → Prop) : Prop := (∀ v4_9 : Int32, v4_9 = (a2 + ((x 10) 0)) → (wX0_horizon x y g (fun r_14 => ((r_14 < v4_9 → (wX6_findWindow x y g 0 a1 a2 (fun r_40 => ((r_40 = (-1) → (∃ kc_60 ks_60 bc_60 bs_60 : Nat, kc_60 + bc_60 ≤ bc ∧ ks_60 + bs_60 ≤ bs ∧ (wX6_addWindow x y g 0 a1 a2 v4_9 a3 kc_60 ks_60 (fun r_60 x_60 y_60 g_60 => (jX0_putIntoWindow_102 Φ x_60 y_60 g_60 r_60 bc_60 bs_60))))) ∧ (¬ r_40 = (-1) → (wX4_get x y g 5 r_40 3 (fun r_92 => (wX2_foldWith x y g r_92 a3 (fun r_96 => (wX4_set x y g 5 r_40 3 r_96 (fun x_99 y_99 g_99 => (jX0_putIntoWindow_102 Φ x_99 y_99 g_99 r_40 bc bs)))))))))))) ∧ (¬ r_14 < v4_9 → (Φ (va_up x 3 (va_up (x 3) 0 (((x 3) 0) + 1))) y g))))))
set_option maxRecDepth 100000 in
set_option maxHeartbeats 4000000 in
theorem kX0_putIntoWindow {l : Launch} {D : va_G} {E : va_W} {ad : Nat → Nat → Nat} {wd sk : Nat → Nat} {cI cB cP cT : ClassId} {sz : Nat} (x0 : Nat → Nat → Int32) (y0 : Nat → Nat → Nat) (g0 : Nat → Nat → Nat → Int32) (a1 : Int32) (a2 : Int32) (a3 : Int32) (BC BS : Nat) {Φ : (Nat → Nat → Int32) → (Nat → Nat → Nat) → (Nat → Nat → Nat → Int32) → Prop} (h : wX0_putIntoWindow x0 y0 g0 a1 a2 a3 BC BS Φ) : Met l yX0_putIntoWindow (zws yX0_putIntoWindow cX0_putIntoWindow 6 none) { frames := 5, cells := BC, slots := BS, locals := 153 } (zPc D (cTy cI cB cP cT) (cX wd sk) (cW E ad wd cI cB cP cT (x0, y0, g0)) [.ref (ad 2 0), .int a1, .int a2, .int a3] sz) (zQv D (cTy cI cB cP cT) (cW E ad wd cI cB cP cT) (fun u => Φ u.1 u.2.1 u.2.2) (cW E ad wd cI cB cP cT (x0, y0, g0)) sz) BC BS (va_A (cW E ad wd cI cB cP cT (x0, y0, g0)) sz) := by
  refine zMet (by decide) (Nat.le_of_ble_eq_true rfl) ?_
  intro p e s m args below meth c A hx hb hr hml hown hts hlocks hsz hAe hA hS hP hK hD hX ls hl
  subst hsz
  have hF : zFx p s m args c cX0_putIntoWindow RX0 A D (cTy cI cB cP cT) (cX wd sk) 6 := ⟨hx, hb, hml, hown, hts, hA, hK, cX_cl wd sk, hX⟩
  have hl : lv_has ls 6 [(0, .ref (ad 2 0)), (1, .int a1), (2, .int a2), (3, .int a3)] := hl
  have hB : 0 + BC ≤ BC ∧ 0 + BS ≤ BS := ⟨by omega, by omega⟩
  have J102 : ∀ (x : Nat → Nat → Int32) (y : Nat → Nat → Nat) (g : Nat → Nat → Nat → Int32) (v5 : Int32) (bc bs : Nat), jX0_putIntoWindow_102 Φ x y g v5 bc bs → ∀ (cells slots : Nat), (cells + bc ≤ BC ∧ slots + bs ≤ BS) → ∀ (H : Heap) (locs : List Loc) (ls : Array Slot), va_P D vwCl (cW E ad wd cI cB cP cT (x, y, g)) H → va_D A (cW E ad wd cI cB cP cT (x, y, g)) → va_S A s.heap H locs → lv_has ls 6 [(0, .ref (ad 2 0)), (5, .int v5)] → W p l e { frames := 5, cells := BC, slots := BS, locals := 153 } s m args below meth c H locs cells slots (MQ below (zQv D (cTy cI cB cP cT) (cW E ad wd cI cB cP cT) (fun u => Φ u.1 u.2.1 u.2.2) (cW E ad wd cI cB cP cT (x0, y0, g0)) s.heap.size) args s BC BS (va_A (cW E ad wd cI cB cP cT (x0, y0, g0)) s.heap.size)) (F0 m 102 ls []) := by
    intro x y g v5 bc bs h cells slots hB H locs ls hP hD hS hl
    unfold jX0_putIntoWindow_102 at h
    refine lv_aload_n (pc := 102) hx hb dX0_putIntoWindow_102 rfl (lv_at hl 0 rfl) ?_
    refine lv_iload (pc := 103) hx hb dX0_putIntoWindow_103 (lv_at hl 1 rfl) ?_
    refine cVbp (pc := 105) (x := x) (y := y) (g := g) [.int v5] hF (kX0_isRipe x y g v5 h) (cwX0_X0_isRipe hts ⟨Nat.le_of_ble_eq_true rfl, Nat.le_of_ble_eq_true rfl⟩) rfl (cA_L ..) hP hD hS rfl rfl hl.1 (Nat.le_of_ble_eq_true rfl) dX0_putIntoWindow_105 ⟨by show _ ≤ BC; omega, by show _ ≤ BS; omega⟩ (fun r_105 H locs hb_105 h hP hD hS => ?_)
    refine lv_if_eq (pc := 108) (tgt := 117) hx hb dX0_putIntoWindow_108 (by decide) (fun c_108 => ?_) (fun c_108 => ?_)
    · have h := h.1 c_108
      exact zvr (pc := 117) (Wd := cW E ad wd cI cB cP cT) (u := (x, y, g)) hx hb hr hlocks hAe hK hP hD hS dX0_putIntoWindow_117 (by omega) (by omega) h
    · have h := h.2 c_108
      refine lv_aload_n (pc := 111) hx hb dX0_putIntoWindow_111 rfl (lv_at hl 0 rfl) ?_
      refine lv_iload (pc := 112) hx hb dX0_putIntoWindow_112 (lv_at hl 1 rfl) ?_
      obtain ⟨kc_114, ks_114, bc_114, bs_114, ec_114, es_114, h⟩ := h
      refine cVv (pc := 114) (x := x) (y := y) (g := g) [.int v5] hF (kX0_tell x y g v5 kc_114 ks_114 h) (cwX0_X0_tell hts ⟨Nat.le_of_ble_eq_true rfl, Nat.le_of_ble_eq_true rfl⟩) rfl (cA_L ..) hP hD hS rfl rfl hl.1 (Nat.le_of_ble_eq_true rfl) dX0_putIntoWindow_114 ⟨by show _ ≤ BC; omega, by show _ ≤ BS; omega⟩ (fun x_114 y_114 g_114 H locs h hP hD hS => ?_)
      have hB : ((cells + 0) + kc_114) + bc_114 ≤ BC ∧ ((slots + 0) + ks_114) + bs_114 ≤ BS := ⟨by omega, by omega⟩
      exact zvr (pc := 117) (Wd := cW E ad wd cI cB cP cT) (u := (x_114, y_114, g_114)) hx hb hr hlocks hAe hK hP hD hS dX0_putIntoWindow_117 (by omega) (by omega) h
  unfold wX0_putIntoWindow at h
  refine lv_iload_n (pc := 0) hx hb dX0_putIntoWindow_0 rfl (lv_at hl 2 rfl) ?_
  refine lv_aload_n (pc := 1) hx hb dX0_putIntoWindow_1 rfl (lv_at hl 0 rfl) ?_
  refine cG_X0_query (pc := 2) hF hP lkX0_39 dX0_putIntoWindow_2 ?_
  refine cGN_X2_size (pc := 5) hF hP lkX0_119 (v := ((x0 10) 0)) rfl dX0_putIntoWindow_5 ?_
  refine lv_iadd (pc := 8) hx hb dX0_putIntoWindow_8 ?_
  refine lv_topi (fun v4_9 e_v4_9 => ?_)
  replace h := h v4_9 e_v4_9
  refine lv_istore (pc := 9) (lv' := [(4, .int v4_9), (0, .ref (ad 2 0)), (1, .int a1), (2, .int a2), (3, .int a3)]) hx hb dX0_putIntoWindow_9 hl (by decide) rfl (fun ls hl => ?_)
  refine lv_iload (pc := 11) hx hb dX0_putIntoWindow_11 (lv_at hl 0 rfl) ?_
  refine lv_aload_n (pc := 13) hx hb dX0_putIntoWindow_13 rfl (lv_at hl 1 rfl) ?_
  refine cVip (pc := 14) (x := x0) (y := y0) (g := g0) [] hF (kX0_horizon x0 y0 g0 h) (cwX0_X0_horizon hts ⟨Nat.le_of_ble_eq_true rfl, Nat.le_of_ble_eq_true rfl⟩) rfl (cA_L ..) hP hD hS rfl rfl hl.1 (Nat.le_of_ble_eq_true rfl) dX0_putIntoWindow_14 ⟨by show _ ≤ BC; omega, by show _ ≤ BS; omega⟩ (fun r_14 H locs h hP hD hS => ?_)
  refine lv_icmp_gt (pc := 17) (tgt := 34) hx hb dX0_putIntoWindow_17 (by decide) (fun c_17 => ?_) (fun c_17 => ?_)
  · have h := h.1 c_17
    refine lv_aload_n (pc := 34) hx hb dX0_putIntoWindow_34 rfl (lv_at hl 1 rfl) ?_
    refine cG_X0_now (pc := 35) hF hP lkX0_32 dX0_putIntoWindow_35 ?_
    refine lv_iload_n (pc := 38) hx hb dX0_putIntoWindow_38 rfl (lv_at hl 2 rfl) ?_
    refine lv_iload_n (pc := 39) hx hb dX0_putIntoWindow_39 rfl (lv_at hl 3 rfl) ?_
    refine cVip (pc := 40) (x := x0) (y := y0) (g := g0) [.int a1, .int a2] hF (kX6_findWindow x0 y0 g0 0 a1 a2 h (by omega)) (cwX0_X6_findWindow hts ⟨Nat.le_of_ble_eq_true rfl, Nat.le_of_ble_eq_true rfl⟩) rfl (cA_T _ _ _ _ _ _ _ _ _ _ (i := 0) (by omega)) hP hD hS rfl rfl hl.1 (Nat.le_of_ble_eq_true rfl) dX0_putIntoWindow_40 ⟨by show _ ≤ BC; omega, by show _ ≤ BS; omega⟩ (fun r_40 H locs h hP hD hS => ?_)
    refine lv_istore (pc := 43) (lv' := [(5, .int r_40), (4, .int v4_9), (0, .ref (ad 2 0)), (1, .int a1), (2, .int a2), (3, .int a3)]) hx hb dX0_putIntoWindow_43 hl (by decide) rfl (fun ls hl => ?_)
    refine lv_iload (pc := 45) hx hb dX0_putIntoWindow_45 (lv_at hl 0 rfl) ?_
    refine lv_iconst (pc := 47) (v := (-1)) hx hb dX0_putIntoWindow_47 (by decide) ?_
    refine lv_icmp_ne (pc := 48) (tgt := 68) hx hb dX0_putIntoWindow_48 (by decide) (fun c_48 => ?_) (fun c_48 => ?_)
    · have h := h.2 c_48
      refine lv_aload_n (pc := 68) hx hb dX0_putIntoWindow_68 rfl (lv_at hl 2 rfl) ?_
      refine cG_X0_now (pc := 69) hF hP lkX0_32 dX0_putIntoWindow_69 ?_
      refine cGN_X6_windows (pc := 72) hF hP (i := 0) (by omega) lkX0_135 dX0_putIntoWindow_72 ?_
      refine lv_iload (pc := 75) hx hb dX0_putIntoWindow_75 (lv_at hl 0 rfl) ?_
      refine lv_iconst (pc := 77) (v := 3) hx hb dX0_putIntoWindow_77 (by decide) ?_
      refine lv_aload_n (pc := 78) hx hb dX0_putIntoWindow_78 rfl (lv_at hl 2 rfl) ?_
      refine cG_X0_query (pc := 79) hF hP lkX0_39 dX0_putIntoWindow_79 ?_
      refine lv_aload_n (pc := 82) hx hb dX0_putIntoWindow_82 rfl (lv_at hl 2 rfl) ?_
      refine cG_X0_now (pc := 83) hF hP lkX0_32 dX0_putIntoWindow_83 ?_
      refine cGN_X6_windows (pc := 86) hF hP (i := 0) (by omega) lkX0_135 dX0_putIntoWindow_86 ?_
      refine lv_iload (pc := 89) hx hb dX0_putIntoWindow_89 (lv_at hl 0 rfl) ?_
      refine lv_iconst (pc := 91) (v := 3) hx hb dX0_putIntoWindow_91 (by decide) ?_
      refine cVip (pc := 92) (x := x0) (y := y0) (g := g0) [.int r_40, .int 3] hF (kX4_get x0 y0 g0 5 r_40 3 h (by omega)) (cwX0_X4_get hts ⟨Nat.le_of_ble_eq_true rfl, Nat.le_of_ble_eq_true rfl⟩) rfl (cA_R _ _ _ _ _ _ _ _ _ _ (i := 5) (by omega)) hP hD hS rfl rfl hl.1 (Nat.le_of_ble_eq_true rfl) dX0_putIntoWindow_92 ⟨by show _ ≤ BC; omega, by show _ ≤ BS; omega⟩ (fun r_92 H locs h hP hD hS => ?_)
      refine lv_iload_n (pc := 95) hx hb dX0_putIntoWindow_95 rfl (lv_at hl 5 rfl) ?_
      refine cVip (pc := 96) (x := x0) (y := y0) (g := g0) [.int r_92, .int a3] hF (kX2_foldWith x0 y0 g0 r_92 a3 h) (cwX0_X2_foldWith hts ⟨Nat.le_of_ble_eq_true rfl, Nat.le_of_ble_eq_true rfl⟩) rfl (cA_Q ..) hP hD hS rfl rfl hl.1 (Nat.le_of_ble_eq_true rfl) dX0_putIntoWindow_96 ⟨by show _ ≤ BC; omega, by show _ ≤ BS; omega⟩ (fun r_96 H locs h hP hD hS => ?_)
      refine cVv (pc := 99) (x := x0) (y := y0) (g := g0) [.int r_40, .int 3, .int r_96] hF (kX4_set x0 y0 g0 5 r_40 3 r_96 h (by omega)) (cwX0_X4_set hts ⟨Nat.le_of_ble_eq_true rfl, Nat.le_of_ble_eq_true rfl⟩) rfl (cA_R _ _ _ _ _ _ _ _ _ _ (i := 5) (by omega)) hP hD hS rfl rfl hl.1 (Nat.le_of_ble_eq_true rfl) dX0_putIntoWindow_99 ⟨by show _ ≤ BC; omega, by show _ ≤ BS; omega⟩ (fun x_99 y_99 g_99 H locs h hP hD hS => ?_)
      exact J102 x_99 y_99 g_99 r_40 BC BS h _ _ hB _ _ _ hP hD hS (lv_sub hl [2, 0] rfl)
    · have h := h.1 c_48
      refine lv_aload_n (pc := 51) hx hb dX0_putIntoWindow_51 rfl (lv_at hl 2 rfl) ?_
      refine cG_X0_now (pc := 52) hF hP lkX0_32 dX0_putIntoWindow_52 ?_
      refine lv_iload_n (pc := 55) hx hb dX0_putIntoWindow_55 rfl (lv_at hl 3 rfl) ?_
      refine lv_iload_n (pc := 56) hx hb dX0_putIntoWindow_56 rfl (lv_at hl 4 rfl) ?_
      refine lv_iload (pc := 57) hx hb dX0_putIntoWindow_57 (lv_at hl 1 rfl) ?_
      refine lv_iload_n (pc := 59) hx hb dX0_putIntoWindow_59 rfl (lv_at hl 5 rfl) ?_
      obtain ⟨kc_60, ks_60, bc_60, bs_60, ec_60, es_60, h⟩ := h
      refine cVi (pc := 60) (x := x0) (y := y0) (g := g0) [.int a1, .int a2, .int v4_9, .int a3] hF (kX6_addWindow x0 y0 g0 0 a1 a2 v4_9 a3 kc_60 ks_60 h (by omega)) (cwX0_X6_addWindow hts ⟨Nat.le_of_ble_eq_true rfl, Nat.le_of_ble_eq_true rfl⟩) rfl (cA_T _ _ _ _ _ _ _ _ _ _ (i := 0) (by omega)) hP hD hS rfl rfl hl.1 (Nat.le_of_ble_eq_true rfl) dX0_putIntoWindow_60 ⟨by show _ ≤ BC; omega, by show _ ≤ BS; omega⟩ (fun r_60 x_60 y_60 g_60 H locs h hP hD hS => ?_)
      have hB : (((0 + 0) + 0) + kc_60) + bc_60 ≤ BC ∧ (((0 + 0) + 0) + ks_60) + bs_60 ≤ BS := ⟨by omega, by omega⟩
      refine lv_istore (pc := 63) (lv' := [(5, .int r_60), (4, .int v4_9), (0, .ref (ad 2 0)), (1, .int a1), (2, .int a2), (3, .int a3)]) hx hb dX0_putIntoWindow_63 hl (by decide) rfl (fun ls hl => ?_)
      refine lv_goto (pc := 65) (tgt := 102) hx hb dX0_putIntoWindow_65 (by decide) ?_
      exact J102 x_60 y_60 g_60 r_60 bc_60 bs_60 h _ _ hB _ _ _ hP hD hS (lv_sub hl [2, 0] rfl)
  · have h := h.2 c_17
    refine lv_aload_n (pc := 20) hx hb dX0_putIntoWindow_20 rfl (lv_at hl 1 rfl) ?_
    refine cG_X0_now (pc := 21) hF hP lkX0_32 dX0_putIntoWindow_21 ?_
    refine lv_dup (pc := 24) hx hb dX0_putIntoWindow_24 rfl ?_
    refine cGN_X6_lateCount (pc := 25) hF hP (i := 0) (by omega) lkX0_125 (v := ((x0 3) 0)) rfl dX0_putIntoWindow_25 ?_
    refine lv_iconst (pc := 28) (v := 1) hx hb dX0_putIntoWindow_28 (by decide) ?_
    refine lv_iadd (pc := 29) hx hb dX0_putIntoWindow_29 ?_
    refine cPN_X6_lateCount (pc := 30) hF hP hD hS (i := 0) (by omega) lkX0_125 dX0_putIntoWindow_30 (fun H locs hP hD hS => ?_)
    exact zvr (pc := 33) (Wd := cW E ad wd cI cB cP cT) (u := ((va_up x0 3 (va_up (x0 3) 0 (((x0 3) 0) + 1))), y0, g0)) hx hb hr hlocks hAe hK hP hD hS dX0_putIntoWindow_33 (by omega) (by omega) h

def lX0_putIntoWindows_116 (Φ : (Nat → Nat → Int32) → (Nat → Nat → Nat) → (Nat → Nat → Nat → Int32) → Prop) : Nat → (Nat → Nat → Int32) → (Nat → Nat → Nat) → (Nat → Nat → Nat → Int32) → Int32 → Int32 → Int32 → Int32 → Nat → Nat → Prop
  | 0, _, _, _, _, _, _, _, _, _ => False
  | n116 + 1, x, y, g, v4, v6, v7, v8, bc, bs => ((v8 < 0 → (Φ x y g)) ∧ (¬ v8 < 0 → (∀ v9_134 : Int32, v9_134 = (v7 - (v8 * ((x 11) 0))) → ((v9_134 < 0 → (∀ v8_151 : Int32, v8_151 = v8 + (-1) → ((lX0_putIntoWindows_116 Φ n116) x y g v4 v6 v7 v8_151 bc bs))) ∧ (¬ v9_134 < 0 → (∃ kc_148 ks_148 bc_148 bs_148 : Nat, kc_148 + bc_148 ≤ bc ∧ ks_148 + bs_148 ≤ bs ∧ (wX0_putIntoWindow x y g v4 v9_134 v6 kc_148 ks_148 (fun x_148 y_148 g_148 => (∀ v8_151 : Int32, v8_151 = v8 + (-1) → ((lX0_putIntoWindows_116 Φ n116) x_148 y_148 g_148 v4 v6 v7 v8_151 bc_148 bs_148))))))))))
def wX0_putIntoWindows (x : Nat → Nat → Int32) (y : Nat → Nat → Nat) (g : Nat → Nat → Nat → Int32) (a1 : Int32) (bc bs : Nat) (Φ : (Nat → Nat → Int32) → (Nat → Nat → Nat) → (Nat → Nat → Nat → Int32) → Prop) : Prop := (vp_in a1 3 ∧ (vp_in a1 3 ∧ (∀ v3_21 : Int32, v3_21 = ((((g 1) 0) a1.toNatClampNeg) - 1) → (wX4_get x y g (a1.toNatClampNeg) v3_21 0 (fun r_25 => (wX4_get x y g (a1.toNatClampNeg) v3_21 1 (fun r_33 => (wX4_get x y g (a1.toNatClampNeg) v3_21 4 (fun r_41 => ((((y 5) 0) = 10 → (∃ kc_66 ks_66 bc_66 bs_66 : Nat, kc_66 + bc_66 ≤ bc ∧ ks_66 + bs_66 ≤ bs ∧ (wX0_putIntoSession x y g r_25 r_33 r_41 kc_66 ks_66 (fun x_66 y_66 g_66 => (Φ x_66 y_66 g_66))))) ∧ (¬ ((y 5) 0) = 10 → ((((x 11) 0) ≤ 0 → (Φ x y g)) ∧ (¬ ((x 11) 0) ≤ 0 → (¬ ((x 11) 0) = 0 ∧ (∀ v7_95 : Int32, v7_95 = (r_33 - (r_33 - r_33 / ((x 11) 0) * ((x 11) 0))) → (¬ ((x 11) 0) = 0 ∧ (∀ v8_114 : Int32, v8_114 = ((((x 10) 0) / ((x 11) 0)) - 1) → (∃ n116 : Nat, lX0_putIntoWindows_116 Φ n116 x y g r_25 r_41 v7_95 v8_114 bc bs))))))))))))))))))
set_option maxRecDepth 100000 in
set_option maxHeartbeats 4000000 in
theorem kX0_putIntoWindows {l : Launch} {D : va_G} {E : va_W} {ad : Nat → Nat → Nat} {wd sk : Nat → Nat} {cI cB cP cT : ClassId} {sz : Nat} (x0 : Nat → Nat → Int32) (y0 : Nat → Nat → Nat) (g0 : Nat → Nat → Nat → Int32) (a1 : Int32) (BC BS : Nat) {Φ : (Nat → Nat → Int32) → (Nat → Nat → Nat) → (Nat → Nat → Nat → Int32) → Prop} (h : wX0_putIntoWindows x0 y0 g0 a1 BC BS Φ) : Met l yX0_putIntoWindows (zws yX0_putIntoWindows cX0_putIntoWindows 10 none) { frames := 6, cells := BC, slots := BS, locals := 184 } (zPc D (cTy cI cB cP cT) (cX wd sk) (cW E ad wd cI cB cP cT (x0, y0, g0)) [.ref (ad 2 0), .int a1] sz) (zQv D (cTy cI cB cP cT) (cW E ad wd cI cB cP cT) (fun u => Φ u.1 u.2.1 u.2.2) (cW E ad wd cI cB cP cT (x0, y0, g0)) sz) BC BS (va_A (cW E ad wd cI cB cP cT (x0, y0, g0)) sz) := by
  refine zMet (by decide) (Nat.le_of_ble_eq_true rfl) ?_
  intro p e s m args below meth c A hx hb hr hml hown hts hlocks hsz hAe hA hS hP hK hD hX ls hl
  subst hsz
  have hF : zFx p s m args c cX0_putIntoWindows RX0 A D (cTy cI cB cP cT) (cX wd sk) 10 := ⟨hx, hb, hml, hown, hts, hA, hK, cX_cl wd sk, hX⟩
  have hl : lv_has ls 10 [(0, .ref (ad 2 0)), (1, .int a1)] := hl
  have hB : 0 + BC ≤ BC ∧ 0 + BS ≤ BS := ⟨by omega, by omega⟩
  have L116 : ∀ n116 : Nat, ∀ (x : Nat → Nat → Int32) (y : Nat → Nat → Nat) (g : Nat → Nat → Nat → Int32) (v4 : Int32) (v6 : Int32) (v7 : Int32) (v8 : Int32) (bc bs : Nat), lX0_putIntoWindows_116 Φ n116 x y g v4 v6 v7 v8 bc bs → ∀ (cells slots : Nat), (cells + bc ≤ BC ∧ slots + bs ≤ BS) → ∀ (H : Heap) (locs : List Loc) (ls : Array Slot), va_P D vwCl (cW E ad wd cI cB cP cT (x, y, g)) H → va_D A (cW E ad wd cI cB cP cT (x, y, g)) → va_S A s.heap H locs → lv_has ls 10 [(0, .ref (ad 2 0)), (4, .int v4), (6, .int v6), (7, .int v7), (8, .int v8)] → W p l e { frames := 6, cells := BC, slots := BS, locals := 184 } s m args below meth c H locs cells slots (MQ below (zQv D (cTy cI cB cP cT) (cW E ad wd cI cB cP cT) (fun u => Φ u.1 u.2.1 u.2.2) (cW E ad wd cI cB cP cT (x0, y0, g0)) s.heap.size) args s BC BS (va_A (cW E ad wd cI cB cP cT (x0, y0, g0)) s.heap.size)) (F0 m 116 ls []) := by
    intro n116
    induction n116 with
    | zero => intro x y g v4 v6 v7 v8 bc bs h cells slots hB H locs ls hP hD hS hl; exact h.elim
    | succ n116 ih116 =>
      intro x y g v4 v6 v7 v8 bc bs h cells slots hB H locs ls hP hD hS hl
      unfold lX0_putIntoWindows_116 at h
      refine lv_iload (pc := 116) hx hb dX0_putIntoWindows_116 (lv_at hl 4 rfl) ?_
      refine lv_if_lt (pc := 118) (tgt := 157) hx hb dX0_putIntoWindows_118 (by decide) (fun c_118 => ?_) (fun c_118 => ?_)
      · have h := h.1 c_118
        exact zvr (pc := 157) (Wd := cW E ad wd cI cB cP cT) (u := (x, y, g)) hx hb hr hlocks hAe hK hP hD hS dX0_putIntoWindows_157 (by omega) (by omega) h
      · have h := h.2 c_118
        refine lv_iload (pc := 121) hx hb dX0_putIntoWindows_121 (lv_at hl 3 rfl) ?_
        refine lv_iload (pc := 123) hx hb dX0_putIntoWindows_123 (lv_at hl 4 rfl) ?_
        refine lv_aload_n (pc := 125) hx hb dX0_putIntoWindows_125 rfl (lv_at hl 0 rfl) ?_
        refine cG_X0_query (pc := 126) hF hP lkX0_39 dX0_putIntoWindows_126 ?_
        refine cGN_X2_slide (pc := 129) hF hP lkX0_116 (v := ((x 11) 0)) rfl dX0_putIntoWindows_129 ?_
        refine lv_imul (pc := 132) hx hb dX0_putIntoWindows_132 ?_
        refine lv_isub (pc := 133) hx hb dX0_putIntoWindows_133 ?_
        refine lv_topi (fun v9_134 e_v9_134 => ?_)
        replace h := h v9_134 e_v9_134
        refine lv_istore (pc := 134) (lv' := [(9, .int v9_134), (0, .ref (ad 2 0)), (4, .int v4), (6, .int v6), (7, .int v7), (8, .int v8)]) hx hb dX0_putIntoWindows_134 hl (by decide) rfl (fun ls hl => ?_)
        refine lv_iload (pc := 136) hx hb dX0_putIntoWindows_136 (lv_at hl 0 rfl) ?_
        refine lv_if_lt (pc := 138) (tgt := 151) hx hb dX0_putIntoWindows_138 (by decide) (fun c_138 => ?_) (fun c_138 => ?_)
        · have h := h.1 c_138
          obtain ⟨v8_151, e_v8_151⟩ : ∃ y : Int32, y = v8 + (-1) := ⟨_, rfl⟩
          replace h := h v8_151 e_v8_151
          refine lv_iinc (pc := 151) (v := v8_151) (lv' := [(8, .int v8_151), (9, .int v9_134), (0, .ref (ad 2 0)), (4, .int v4), (6, .int v6), (7, .int v7)]) hx hb dX0_putIntoWindows_151 hl (k := 5) rfl (by rw [e_v8_151]; rfl) (by decide) rfl (fun ls hl => ?_)
          refine lv_goto (pc := 154) (tgt := 116) hx hb dX0_putIntoWindows_154 (by decide) ?_
          exact ih116 x y g v4 v6 v7 v8_151 bc bs h _ _ hB _ _ _ hP hD hS (lv_sub hl [2, 3, 4, 5, 0] rfl)
        · have h := h.2 c_138
          refine lv_aload_n (pc := 141) hx hb dX0_putIntoWindows_141 rfl (lv_at hl 1 rfl) ?_
          refine lv_iload (pc := 142) hx hb dX0_putIntoWindows_142 (lv_at hl 2 rfl) ?_
          refine lv_iload (pc := 144) hx hb dX0_putIntoWindows_144 (lv_at hl 0 rfl) ?_
          refine lv_iload (pc := 146) hx hb dX0_putIntoWindows_146 (lv_at hl 3 rfl) ?_
          obtain ⟨kc_148, ks_148, bc_148, bs_148, ec_148, es_148, h⟩ := h
          refine cVv (pc := 148) (x := x) (y := y) (g := g) [.int v4, .int v9_134, .int v6] hF (kX0_putIntoWindow x y g v4 v9_134 v6 kc_148 ks_148 h) (cwX0_X0_putIntoWindow hts ⟨Nat.le_of_ble_eq_true rfl, Nat.le_of_ble_eq_true rfl⟩) rfl (cA_L ..) hP hD hS rfl rfl hl.1 (Nat.le_of_ble_eq_true rfl) dX0_putIntoWindows_148 ⟨by show _ ≤ BC; omega, by show _ ≤ BS; omega⟩ (fun x_148 y_148 g_148 H locs h hP hD hS => ?_)
          have hB : (cells + kc_148) + bc_148 ≤ BC ∧ (slots + ks_148) + bs_148 ≤ BS := ⟨by omega, by omega⟩
          obtain ⟨v8_151, e_v8_151⟩ : ∃ y : Int32, y = v8 + (-1) := ⟨_, rfl⟩
          replace h := h v8_151 e_v8_151
          refine lv_iinc (pc := 151) (v := v8_151) (lv' := [(8, .int v8_151), (9, .int v9_134), (0, .ref (ad 2 0)), (4, .int v4), (6, .int v6), (7, .int v7)]) hx hb dX0_putIntoWindows_151 hl (k := 5) rfl (by rw [e_v8_151]; rfl) (by decide) rfl (fun ls hl => ?_)
          refine lv_goto (pc := 154) (tgt := 116) hx hb dX0_putIntoWindows_154 (by decide) ?_
          exact ih116 x_148 y_148 g_148 v4 v6 v7 v8_151 bc_148 bs_148 h _ _ hB _ _ _ hP hD hS (lv_sub hl [2, 3, 4, 5, 0] rfl)
  unfold wX0_putIntoWindows at h
  refine lv_aload_n (pc := 0) hx hb dX0_putIntoWindows_0 rfl (lv_at hl 0 rfl) ?_
  refine cG_X0_partitions (pc := 1) hF hP lkX0_11 dX0_putIntoWindows_1 ?_
  refine lv_iload_n (pc := 4) hx hb dX0_putIntoWindows_4 rfl (lv_at hl 1 rfl) ?_
  obtain ⟨hi_5, h⟩ := h
  have hj_5 := vp_lt hi_5
  refine cL_PA (pc := 5) hF hP hi_5 dX0_putIntoWindows_5 ?_
  refine cGN_X1_events (pc := 6) hF hP (i := (a1.toNatClampNeg)) (by omega) lkX0_50 dX0_putIntoWindows_6 ?_
  refine lv_astore_n (pc := 9) (lv' := [(2, .ref (ad 5 (a1.toNatClampNeg))), (0, .ref (ad 2 0)), (1, .int a1)]) hx hb dX0_putIntoWindows_9 rfl hl (by decide) rfl (fun ls hl => ?_)
  refine lv_aload_n (pc := 10) hx hb dX0_putIntoWindows_10 rfl (lv_at hl 1 rfl) ?_
  refine cG_X0_now (pc := 11) hF hP lkX0_32 dX0_putIntoWindows_11 ?_
  refine cGN_X6_read (pc := 14) hF hP (i := 0) (by omega) lkX0_63 dX0_putIntoWindows_14 ?_
  refine lv_iload_n (pc := 17) hx hb dX0_putIntoWindows_17 rfl (lv_at hl 2 rfl) ?_
  obtain ⟨hi_18, h⟩ := h
  refine cL_TR (pc := 18) hF hP (i := 0) (by omega) (f := ((g0 1) 0)) rfl hi_18 dX0_putIntoWindows_18 ?_
  refine lv_iconst (pc := 19) (v := 1) hx hb dX0_putIntoWindows_19 (by decide) ?_
  refine lv_isub (pc := 20) hx hb dX0_putIntoWindows_20 ?_
  refine lv_topi (fun v3_21 e_v3_21 => ?_)
  replace h := h v3_21 e_v3_21
  refine lv_istore_n (pc := 21) (lv' := [(3, .int v3_21), (2, .ref (ad 5 (a1.toNatClampNeg))), (0, .ref (ad 2 0)), (1, .int a1)]) hx hb dX0_putIntoWindows_21 rfl hl (by decide) rfl (fun ls hl => ?_)
  refine lv_aload_n (pc := 22) hx hb dX0_putIntoWindows_22 rfl (lv_at hl 1 rfl) ?_
  refine lv_iload_n (pc := 23) hx hb dX0_putIntoWindows_23 rfl (lv_at hl 0 rfl) ?_
  refine lv_iconst (pc := 24) (v := 0) hx hb dX0_putIntoWindows_24 (by decide) ?_
  refine cVip (pc := 25) (x := x0) (y := y0) (g := g0) [.int v3_21, .int 0] hF (kX4_get x0 y0 g0 (a1.toNatClampNeg) v3_21 0 h (by omega)) (cwX0_X4_get hts ⟨Nat.le_of_ble_eq_true rfl, Nat.le_of_ble_eq_true rfl⟩) rfl (cA_R _ _ _ _ _ _ _ _ _ _ (i := (a1.toNatClampNeg)) (by omega)) hP hD hS rfl rfl hl.1 (Nat.le_of_ble_eq_true rfl) dX0_putIntoWindows_25 ⟨by show _ ≤ BC; omega, by show _ ≤ BS; omega⟩ (fun r_25 H locs h hP hD hS => ?_)
  refine lv_istore (pc := 28) (lv' := [(4, .int r_25), (3, .int v3_21), (2, .ref (ad 5 (a1.toNatClampNeg))), (0, .ref (ad 2 0)), (1, .int a1)]) hx hb dX0_putIntoWindows_28 hl (by decide) rfl (fun ls hl => ?_)
  refine lv_aload_n (pc := 30) hx hb dX0_putIntoWindows_30 rfl (lv_at hl 2 rfl) ?_
  refine lv_iload_n (pc := 31) hx hb dX0_putIntoWindows_31 rfl (lv_at hl 1 rfl) ?_
  refine lv_iconst (pc := 32) (v := 1) hx hb dX0_putIntoWindows_32 (by decide) ?_
  refine cVip (pc := 33) (x := x0) (y := y0) (g := g0) [.int v3_21, .int 1] hF (kX4_get x0 y0 g0 (a1.toNatClampNeg) v3_21 1 h (by omega)) (cwX0_X4_get hts ⟨Nat.le_of_ble_eq_true rfl, Nat.le_of_ble_eq_true rfl⟩) rfl (cA_R _ _ _ _ _ _ _ _ _ _ (i := (a1.toNatClampNeg)) (by omega)) hP hD hS rfl rfl hl.1 (Nat.le_of_ble_eq_true rfl) dX0_putIntoWindows_33 ⟨by show _ ≤ BC; omega, by show _ ≤ BS; omega⟩ (fun r_33 H locs h hP hD hS => ?_)
  refine lv_istore (pc := 36) (lv' := [(5, .int r_33), (4, .int r_25), (3, .int v3_21), (2, .ref (ad 5 (a1.toNatClampNeg))), (0, .ref (ad 2 0)), (1, .int a1)]) hx hb dX0_putIntoWindows_36 hl (by decide) rfl (fun ls hl => ?_)
  refine lv_aload_n (pc := 38) hx hb dX0_putIntoWindows_38 rfl (lv_at hl 3 rfl) ?_
  refine lv_iload_n (pc := 39) hx hb dX0_putIntoWindows_39 rfl (lv_at hl 2 rfl) ?_
  refine lv_iconst (pc := 40) (v := 4) hx hb dX0_putIntoWindows_40 (by decide) ?_
  refine cVip (pc := 41) (x := x0) (y := y0) (g := g0) [.int v3_21, .int 4] hF (kX4_get x0 y0 g0 (a1.toNatClampNeg) v3_21 4 h (by omega)) (cwX0_X4_get hts ⟨Nat.le_of_ble_eq_true rfl, Nat.le_of_ble_eq_true rfl⟩) rfl (cA_R _ _ _ _ _ _ _ _ _ _ (i := (a1.toNatClampNeg)) (by omega)) hP hD hS rfl rfl hl.1 (Nat.le_of_ble_eq_true rfl) dX0_putIntoWindows_41 ⟨by show _ ≤ BC; omega, by show _ ≤ BS; omega⟩ (fun r_41 H locs h hP hD hS => ?_)
  refine lv_istore (pc := 44) (lv' := [(6, .int r_41), (5, .int r_33), (4, .int r_25), (3, .int v3_21), (2, .ref (ad 5 (a1.toNatClampNeg))), (0, .ref (ad 2 0)), (1, .int a1)]) hx hb dX0_putIntoWindows_44 hl (by decide) rfl (fun ls hl => ?_)
  refine lv_aload_n (pc := 46) hx hb dX0_putIntoWindows_46 rfl (lv_at hl 5 rfl) ?_
  refine cG_X0_query (pc := 47) hF hP lkX0_39 dX0_putIntoWindows_47 ?_
  refine cGN_X2_shape (pc := 50) hF hP lkX0_107 dX0_putIntoWindows_50 ?_
  refine c_word (pc := 53) hF hP hS (k := 10) (by decide) rfl lkX0_110 dX0_putIntoWindows_53 ?_
  refine c_acmp_ne (pc := 56) (i := ((y0 5) 0)) (j := 10) (tgt := 72) hF hP dX0_putIntoWindows_56 (by decide) (fun c_56 => ?_) (fun c_56 => ?_)
  · have h := h.2 c_56
    refine lv_aload_n (pc := 72) hx hb dX0_putIntoWindows_72 rfl (lv_at hl 5 rfl) ?_
    refine cG_X0_query (pc := 73) hF hP lkX0_39 dX0_putIntoWindows_73 ?_
    refine cGN_X2_slide (pc := 76) hF hP lkX0_116 (v := ((x0 11) 0)) rfl dX0_putIntoWindows_76 ?_
    refine lv_if_le (pc := 79) (tgt := 157) hx hb dX0_putIntoWindows_79 (by decide) (fun c_79 => ?_) (fun c_79 => ?_)
    · have h := h.1 c_79
      exact zvr (pc := 157) (Wd := cW E ad wd cI cB cP cT) (u := (x0, y0, g0)) hx hb hr hlocks hAe hK hP hD hS dX0_putIntoWindows_157 (by omega) (by omega) h
    · have h := h.2 c_79
      refine lv_iload (pc := 82) hx hb dX0_putIntoWindows_82 (lv_at hl 1 rfl) ?_
      refine lv_iload (pc := 84) hx hb dX0_putIntoWindows_84 (lv_at hl 1 rfl) ?_
      refine lv_aload_n (pc := 86) hx hb dX0_putIntoWindows_86 rfl (lv_at hl 5 rfl) ?_
      refine cG_X0_query (pc := 87) hF hP lkX0_39 dX0_putIntoWindows_87 ?_
      refine cGN_X2_slide (pc := 90) hF hP lkX0_116 (v := ((x0 11) 0)) rfl dX0_putIntoWindows_90 ?_
      obtain ⟨h0_93, h⟩ := h
      refine lv_irem (pc := 93) hx hb dX0_putIntoWindows_93 h0_93 ?_
      refine lv_isub (pc := 94) hx hb dX0_putIntoWindows_94 ?_
      refine lv_topi (fun v7_95 e_v7_95 => ?_)
      replace h := h v7_95 e_v7_95
      refine lv_istore (pc := 95) (lv' := [(7, .int v7_95), (6, .int r_41), (5, .int r_33), (4, .int r_25), (3, .int v3_21), (2, .ref (ad 5 (a1.toNatClampNeg))), (0, .ref (ad 2 0)), (1, .int a1)]) hx hb dX0_putIntoWindows_95 hl (by decide) rfl (fun ls hl => ?_)
      refine lv_aload_n (pc := 97) hx hb dX0_putIntoWindows_97 rfl (lv_at hl 6 rfl) ?_
      refine cG_X0_query (pc := 98) hF hP lkX0_39 dX0_putIntoWindows_98 ?_
      refine cGN_X2_size (pc := 101) hF hP lkX0_119 (v := ((x0 10) 0)) rfl dX0_putIntoWindows_101 ?_
      refine lv_aload_n (pc := 104) hx hb dX0_putIntoWindows_104 rfl (lv_at hl 6 rfl) ?_
      refine cG_X0_query (pc := 105) hF hP lkX0_39 dX0_putIntoWindows_105 ?_
      refine cGN_X2_slide (pc := 108) hF hP lkX0_116 (v := ((x0 11) 0)) rfl dX0_putIntoWindows_108 ?_
      obtain ⟨h0_111, h⟩ := h
      refine lv_idiv (pc := 111) hx hb dX0_putIntoWindows_111 h0_111 ?_
      refine lv_iconst (pc := 112) (v := 1) hx hb dX0_putIntoWindows_112 (by decide) ?_
      refine lv_isub (pc := 113) hx hb dX0_putIntoWindows_113 ?_
      refine lv_topi (fun v8_114 e_v8_114 => ?_)
      replace h := h v8_114 e_v8_114
      refine lv_istore (pc := 114) (lv' := [(8, .int v8_114), (7, .int v7_95), (6, .int r_41), (5, .int r_33), (4, .int r_25), (3, .int v3_21), (2, .ref (ad 5 (a1.toNatClampNeg))), (0, .ref (ad 2 0)), (1, .int a1)]) hx hb dX0_putIntoWindows_114 hl (by decide) rfl (fun ls hl => ?_)
      obtain ⟨n116, h⟩ := h
      exact L116 n116 x0 y0 g0 r_25 r_41 v7_95 v8_114 BC BS h _ _ hB _ _ _ hP hD hS (lv_sub hl [7, 4, 2, 1, 0] rfl)
  · have h := h.1 c_56
    refine lv_aload_n (pc := 59) hx hb dX0_putIntoWindows_59 rfl (lv_at hl 5 rfl) ?_
    refine lv_iload (pc := 60) hx hb dX0_putIntoWindows_60 (lv_at hl 2 rfl) ?_
    refine lv_iload (pc := 62) hx hb dX0_putIntoWindows_62 (lv_at hl 1 rfl) ?_
    refine lv_iload (pc := 64) hx hb dX0_putIntoWindows_64 (lv_at hl 0 rfl) ?_
    obtain ⟨kc_66, ks_66, bc_66, bs_66, ec_66, es_66, h⟩ := h
    refine cVv (pc := 66) (x := x0) (y := y0) (g := g0) [.int r_25, .int r_33, .int r_41] hF (kX0_putIntoSession x0 y0 g0 r_25 r_33 r_41 kc_66 ks_66 h) (cwX0_X0_putIntoSession hts ⟨Nat.le_of_ble_eq_true rfl, Nat.le_of_ble_eq_true rfl⟩) rfl (cA_L ..) hP hD hS rfl rfl hl.1 (Nat.le_of_ble_eq_true rfl) dX0_putIntoWindows_66 ⟨by show _ ≤ BC; omega, by show _ ≤ BS; omega⟩ (fun x_66 y_66 g_66 H locs h hP hD hS => ?_)
    have hB : ((((0 + 0) + 0) + 0) + kc_66) + bc_66 ≤ BC ∧ ((((0 + 0) + 0) + 0) + ks_66) + bs_66 ≤ BS := ⟨by omega, by omega⟩
    refine lv_goto (pc := 69) (tgt := 157) hx hb dX0_putIntoWindows_69 (by decide) ?_
    exact zvr (pc := 157) (Wd := cW E ad wd cI cB cP cT) (u := (x_66, y_66, g_66)) hx hb hr hlocks hAe hK hP hD hS dX0_putIntoWindows_157 (by omega) (by omega) h

def jX0_tellAndDrop_60 (W4 : (Nat → Nat → Int32) → (Nat → Nat → Nat) → (Nat → Nat → Nat → Int32) → Int32 → Int32 → Nat → Nat → Prop) (Φ : (Nat → Nat → Int32) → (Nat → Nat → Nat) → (Nat → Nat → Nat → Int32) → Prop) (x : Nat → Nat → Int32) (y : Nat → Nat → Nat) (g : Nat → Nat → Nat → Int32) (v1 : Int32) (v2 : Int32) (bc bs : Nat) : Prop := (wX4_get x y g 5 v2 2 (fun r_69 => (wX0_horizon x y g (fun r_73 => ((r_73 < r_69 → (∀ v2_83 : Int32, v2_83 = v2 + 1 → (W4 x y g v1 v2_83 bc bs))) ∧ (¬ r_73 < r_69 → (∀ v1_82 : Int32, v1_82 = (v2 + 1) → (∀ v2_83 : Int32, v2_83 = v2 + 1 → (W4 x y g v1_82 v2_83 bc bs)))))))))
def lX0_tellAndDrop_4 (Φ : (Nat → Nat → Int32) → (Nat → Nat → Nat) → (Nat → Nat → Nat → Int32) → Prop) : Nat → (Nat → Nat → Int32) → (Nat → Nat → Nat) → (Nat → Nat → Nat → Int32) → Int32 → Int32 → Nat → Nat → Prop
  | 0, _, _, _, _, _, _, _ => False
  | n4 + 1, x, y, g, v1, v2, bc, bs => ((((x 1) 5) ≤ v2 → (wX4_remove x y g 5 0 v1 (fun x_98 y_98 g_98 => (Φ x_98 y_98 g_98)))) ∧ (¬ ((x 1) 5) ≤ v2 → (wX4_get x y g 5 v2 2 (fun r_27 => ((((x 2) 0) < r_27 → (wX4_remove x y g 5 0 v1 (fun x_98 y_98 g_98 => (Φ x_98 y_98 g_98)))) ∧ (¬ ((x 2) 0) < r_27 → (wX4_get x y g 5 v2 4 (fun r_49 => ((r_49 = 0 → (∃ kc_57 ks_57 bc_57 bs_57 : Nat, kc_57 + bc_57 ≤ bc ∧ ks_57 + bs_57 ≤ bs ∧ (wX0_tell x y g v2 kc_57 ks_57 (fun x_57 y_57 g_57 => (jX0_tellAndDrop_60 (lX0_tellAndDrop_4 Φ n4) Φ x_57 y_57 g_57 v1 v2 bc_57 bs_57))))) ∧ (¬ r_49 = 0 → (jX0_tellAndDrop_60 (lX0_tellAndDrop_4 Φ n4) Φ x y g v1 v2 bc bs)))))))))))
def wX0_tellAndDrop (x : Nat → Nat → Int32) (y : Nat → Nat → Nat) (g : Nat → Nat → Nat → Int32) (bc bs : Nat) (Φ : (Nat → Nat → Int32) → (Nat → Nat → Nat) → (Nat → Nat → Nat → Int32) → Prop) : Prop := (∃ n4 : Nat, lX0_tellAndDrop_4 Φ n4 x y g 0 0 bc bs)
set_option maxRecDepth 100000 in
set_option maxHeartbeats 4000000 in
theorem kX0_tellAndDrop {l : Launch} {D : va_G} {E : va_W} {ad : Nat → Nat → Nat} {wd sk : Nat → Nat} {cI cB cP cT : ClassId} {sz : Nat} (x0 : Nat → Nat → Int32) (y0 : Nat → Nat → Nat) (g0 : Nat → Nat → Nat → Int32) (BC BS : Nat) {Φ : (Nat → Nat → Int32) → (Nat → Nat → Nat) → (Nat → Nat → Nat → Int32) → Prop} (h : wX0_tellAndDrop x0 y0 g0 BC BS Φ) : Met l yX0_tellAndDrop (zws yX0_tellAndDrop cX0_tellAndDrop 3 none) { frames := 5, cells := BC, slots := BS, locals := 153 } (zPc D (cTy cI cB cP cT) (cX wd sk) (cW E ad wd cI cB cP cT (x0, y0, g0)) [.ref (ad 2 0)] sz) (zQv D (cTy cI cB cP cT) (cW E ad wd cI cB cP cT) (fun u => Φ u.1 u.2.1 u.2.2) (cW E ad wd cI cB cP cT (x0, y0, g0)) sz) BC BS (va_A (cW E ad wd cI cB cP cT (x0, y0, g0)) sz) := by
  refine zMet (by decide) (Nat.le_of_ble_eq_true rfl) ?_
  intro p e s m args below meth c A hx hb hr hml hown hts hlocks hsz hAe hA hS hP hK hD hX ls hl
  subst hsz
  have hF : zFx p s m args c cX0_tellAndDrop RX0 A D (cTy cI cB cP cT) (cX wd sk) 3 := ⟨hx, hb, hml, hown, hts, hA, hK, cX_cl wd sk, hX⟩
  have hl : lv_has ls 3 [(0, .ref (ad 2 0))] := hl
  have hB : 0 + BC ≤ BC ∧ 0 + BS ≤ BS := ⟨by omega, by omega⟩
  have L4 : ∀ n4 : Nat, ∀ (x : Nat → Nat → Int32) (y : Nat → Nat → Nat) (g : Nat → Nat → Nat → Int32) (v1 : Int32) (v2 : Int32) (bc bs : Nat), lX0_tellAndDrop_4 Φ n4 x y g v1 v2 bc bs → ∀ (cells slots : Nat), (cells + bc ≤ BC ∧ slots + bs ≤ BS) → ∀ (H : Heap) (locs : List Loc) (ls : Array Slot), va_P D vwCl (cW E ad wd cI cB cP cT (x, y, g)) H → va_D A (cW E ad wd cI cB cP cT (x, y, g)) → va_S A s.heap H locs → lv_has ls 3 [(0, .ref (ad 2 0)), (1, .int v1), (2, .int v2)] → W p l e { frames := 5, cells := BC, slots := BS, locals := 153 } s m args below meth c H locs cells slots (MQ below (zQv D (cTy cI cB cP cT) (cW E ad wd cI cB cP cT) (fun u => Φ u.1 u.2.1 u.2.2) (cW E ad wd cI cB cP cT (x0, y0, g0)) s.heap.size) args s BC BS (va_A (cW E ad wd cI cB cP cT (x0, y0, g0)) s.heap.size)) (F0 m 4 ls []) := by
    intro n4
    induction n4 with
    | zero => intro x y g v1 v2 bc bs h cells slots hB H locs ls hP hD hS hl; exact h.elim
    | succ n4 ih4 =>
      have J60 : ∀ (x : Nat → Nat → Int32) (y : Nat → Nat → Nat) (g : Nat → Nat → Nat → Int32) (v1 : Int32) (v2 : Int32) (bc bs : Nat), jX0_tellAndDrop_60 (lX0_tellAndDrop_4 Φ n4) Φ x y g v1 v2 bc bs → ∀ (cells slots : Nat), (cells + bc ≤ BC ∧ slots + bs ≤ BS) → ∀ (H : Heap) (locs : List Loc) (ls : Array Slot), va_P D vwCl (cW E ad wd cI cB cP cT (x, y, g)) H → va_D A (cW E ad wd cI cB cP cT (x, y, g)) → va_S A s.heap H locs → lv_has ls 3 [(0, .ref (ad 2 0)), (1, .int v1), (2, .int v2)] → W p l e { frames := 5, cells := BC, slots := BS, locals := 153 } s m args below meth c H locs cells slots (MQ below (zQv D (cTy cI cB cP cT) (cW E ad wd cI cB cP cT) (fun u => Φ u.1 u.2.1 u.2.2) (cW E ad wd cI cB cP cT (x0, y0, g0)) s.heap.size) args s BC BS (va_A (cW E ad wd cI cB cP cT (x0, y0, g0)) s.heap.size)) (F0 m 60 ls []) := by
        intro x y g v1 v2 bc bs h cells slots hB H locs ls hP hD hS hl
        unfold jX0_tellAndDrop_60 at h
        refine lv_aload_n (pc := 60) hx hb dX0_tellAndDrop_60 rfl (lv_at hl 0 rfl) ?_
        refine cG_X0_now (pc := 61) hF hP lkX0_32 dX0_tellAndDrop_61 ?_
        refine cGN_X6_windows (pc := 64) hF hP (i := 0) (by omega) lkX0_135 dX0_tellAndDrop_64 ?_
        refine lv_iload_n (pc := 67) hx hb dX0_tellAndDrop_67 rfl (lv_at hl 2 rfl) ?_
        refine lv_iconst (pc := 68) (v := 2) hx hb dX0_tellAndDrop_68 (by decide) ?_
        refine cVip (pc := 69) (x := x) (y := y) (g := g) [.int v2, .int 2] hF (kX4_get x y g 5 v2 2 h (by omega)) (cwX0_X4_get hts ⟨Nat.le_of_ble_eq_true rfl, Nat.le_of_ble_eq_true rfl⟩) rfl (cA_R _ _ _ _ _ _ _ _ _ _ (i := 5) (by omega)) hP hD hS rfl rfl hl.1 (Nat.le_of_ble_eq_true rfl) dX0_tellAndDrop_69 ⟨by show _ ≤ BC; omega, by show _ ≤ BS; omega⟩ (fun r_69 H locs h hP hD hS => ?_)
        refine lv_aload_n (pc := 72) hx hb dX0_tellAndDrop_72 rfl (lv_at hl 0 rfl) ?_
        refine cVip (pc := 73) (x := x) (y := y) (g := g) [] hF (kX0_horizon x y g h) (cwX0_X0_horizon hts ⟨Nat.le_of_ble_eq_true rfl, Nat.le_of_ble_eq_true rfl⟩) rfl (cA_L ..) hP hD hS rfl rfl hl.1 (Nat.le_of_ble_eq_true rfl) dX0_tellAndDrop_73 ⟨by show _ ≤ BC; omega, by show _ ≤ BS; omega⟩ (fun r_73 H locs h hP hD hS => ?_)
        refine lv_icmp_gt (pc := 76) (tgt := 83) hx hb dX0_tellAndDrop_76 (by decide) (fun c_76 => ?_) (fun c_76 => ?_)
        · have h := h.1 c_76
          obtain ⟨v2_83, e_v2_83⟩ : ∃ y : Int32, y = v2 + 1 := ⟨_, rfl⟩
          replace h := h v2_83 e_v2_83
          refine lv_iinc (pc := 83) (v := v2_83) (lv' := [(2, .int v2_83), (0, .ref (ad 2 0)), (1, .int v1)]) hx hb dX0_tellAndDrop_83 hl (k := 2) rfl (by rw [e_v2_83]; rfl) (by decide) rfl (fun ls hl => ?_)
          refine lv_goto (pc := 86) (tgt := 4) hx hb dX0_tellAndDrop_86 (by decide) ?_
          exact ih4 x y g v1 v2_83 bc bs h _ _ hB _ _ _ hP hD hS (lv_sub hl [1, 2, 0] rfl)
        · have h := h.2 c_76
          refine lv_iload_n (pc := 79) hx hb dX0_tellAndDrop_79 rfl (lv_at hl 2 rfl) ?_
          refine lv_iconst (pc := 80) (v := 1) hx hb dX0_tellAndDrop_80 (by decide) ?_
          refine lv_iadd (pc := 81) hx hb dX0_tellAndDrop_81 ?_
          refine lv_topi (fun v1_82 e_v1_82 => ?_)
          replace h := h v1_82 e_v1_82
          refine lv_istore_n (pc := 82) (lv' := [(1, .int v1_82), (0, .ref (ad 2 0)), (2, .int v2)]) hx hb dX0_tellAndDrop_82 rfl hl (by decide) rfl (fun ls hl => ?_)
          obtain ⟨v2_83, e_v2_83⟩ : ∃ y : Int32, y = v2 + 1 := ⟨_, rfl⟩
          replace h := h v2_83 e_v2_83
          refine lv_iinc (pc := 83) (v := v2_83) (lv' := [(2, .int v2_83), (1, .int v1_82), (0, .ref (ad 2 0))]) hx hb dX0_tellAndDrop_83 hl (k := 2) rfl (by rw [e_v2_83]; rfl) (by decide) rfl (fun ls hl => ?_)
          refine lv_goto (pc := 86) (tgt := 4) hx hb dX0_tellAndDrop_86 (by decide) ?_
          exact ih4 x y g v1_82 v2_83 bc bs h _ _ hB _ _ _ hP hD hS (lv_sub hl [2, 1, 0] rfl)
      intro x y g v1 v2 bc bs h cells slots hB H locs ls hP hD hS hl
      unfold lX0_tellAndDrop_4 at h
      refine lv_iload_n (pc := 4) hx hb dX0_tellAndDrop_4 rfl (lv_at hl 2 rfl) ?_
      refine lv_aload_n (pc := 5) hx hb dX0_tellAndDrop_5 rfl (lv_at hl 0 rfl) ?_
      refine cG_X0_now (pc := 6) hF hP lkX0_32 dX0_tellAndDrop_6 ?_
      refine cGN_X6_windows (pc := 9) hF hP (i := 0) (by omega) lkX0_135 dX0_tellAndDrop_9 ?_
      refine cGN_X4_count (pc := 12) hF hP (i := 5) (by omega) lkX0_53 (v := ((x 1) 5)) rfl dX0_tellAndDrop_12 ?_
      refine lv_icmp_ge (pc := 15) (tgt := 89) hx hb dX0_tellAndDrop_15 (by decide) (fun c_15 => ?_) (fun c_15 => ?_)
      · have h := h.1 c_15
        refine lv_aload_n (pc := 89) hx hb dX0_tellAndDrop_89 rfl (lv_at hl 0 rfl) ?_
        refine cG_X0_now (pc := 90) hF hP lkX0_32 dX0_tellAndDrop_90 ?_
        refine cGN_X6_windows (pc := 93) hF hP (i := 0) (by omega) lkX0_135 dX0_tellAndDrop_93 ?_
        refine lv_iconst (pc := 96) (v := 0) hx hb dX0_tellAndDrop_96 (by decide) ?_
        refine lv_iload_n (pc := 97) hx hb dX0_tellAndDrop_97 rfl (lv_at hl 1 rfl) ?_
        refine cVv (pc := 98) (x := x) (y := y) (g := g) [.int 0, .int v1] hF (kX4_remove x y g 5 0 v1 h (by omega)) (cwX0_X4_remove hts ⟨Nat.le_of_ble_eq_true rfl, Nat.le_of_ble_eq_true rfl⟩) rfl (cA_R _ _ _ _ _ _ _ _ _ _ (i := 5) (by omega)) hP hD hS rfl rfl hl.1 (Nat.le_of_ble_eq_true rfl) dX0_tellAndDrop_98 ⟨by show _ ≤ BC; omega, by show _ ≤ BS; omega⟩ (fun x_98 y_98 g_98 H locs h hP hD hS => ?_)
        exact zvr (pc := 101) (Wd := cW E ad wd cI cB cP cT) (u := (x_98, y_98, g_98)) hx hb hr hlocks hAe hK hP hD hS dX0_tellAndDrop_101 (by omega) (by omega) h
      · have h := h.2 c_15
        refine lv_aload_n (pc := 18) hx hb dX0_tellAndDrop_18 rfl (lv_at hl 0 rfl) ?_
        refine cG_X0_now (pc := 19) hF hP lkX0_32 dX0_tellAndDrop_19 ?_
        refine cGN_X6_windows (pc := 22) hF hP (i := 0) (by omega) lkX0_135 dX0_tellAndDrop_22 ?_
        refine lv_iload_n (pc := 25) hx hb dX0_tellAndDrop_25 rfl (lv_at hl 2 rfl) ?_
        refine lv_iconst (pc := 26) (v := 2) hx hb dX0_tellAndDrop_26 (by decide) ?_
        refine cVip (pc := 27) (x := x) (y := y) (g := g) [.int v2, .int 2] hF (kX4_get x y g 5 v2 2 h (by omega)) (cwX0_X4_get hts ⟨Nat.le_of_ble_eq_true rfl, Nat.le_of_ble_eq_true rfl⟩) rfl (cA_R _ _ _ _ _ _ _ _ _ _ (i := 5) (by omega)) hP hD hS rfl rfl hl.1 (Nat.le_of_ble_eq_true rfl) dX0_tellAndDrop_27 ⟨by show _ ≤ BC; omega, by show _ ≤ BS; omega⟩ (fun r_27 H locs h hP hD hS => ?_)
        refine lv_aload_n (pc := 30) hx hb dX0_tellAndDrop_30 rfl (lv_at hl 0 rfl) ?_
        refine cG_X0_now (pc := 31) hF hP lkX0_32 dX0_tellAndDrop_31 ?_
        refine cGN_X6_mark (pc := 34) hF hP (i := 0) (by omega) lkX0_57 (v := ((x 2) 0)) rfl dX0_tellAndDrop_34 ?_
        refine lv_icmp_gt (pc := 37) (tgt := 89) hx hb dX0_tellAndDrop_37 (by decide) (fun c_37 => ?_) (fun c_37 => ?_)
        · have h := h.1 c_37
          refine lv_aload_n (pc := 89) hx hb dX0_tellAndDrop_89 rfl (lv_at hl 0 rfl) ?_
          refine cG_X0_now (pc := 90) hF hP lkX0_32 dX0_tellAndDrop_90 ?_
          refine cGN_X6_windows (pc := 93) hF hP (i := 0) (by omega) lkX0_135 dX0_tellAndDrop_93 ?_
          refine lv_iconst (pc := 96) (v := 0) hx hb dX0_tellAndDrop_96 (by decide) ?_
          refine lv_iload_n (pc := 97) hx hb dX0_tellAndDrop_97 rfl (lv_at hl 1 rfl) ?_
          refine cVv (pc := 98) (x := x) (y := y) (g := g) [.int 0, .int v1] hF (kX4_remove x y g 5 0 v1 h (by omega)) (cwX0_X4_remove hts ⟨Nat.le_of_ble_eq_true rfl, Nat.le_of_ble_eq_true rfl⟩) rfl (cA_R _ _ _ _ _ _ _ _ _ _ (i := 5) (by omega)) hP hD hS rfl rfl hl.1 (Nat.le_of_ble_eq_true rfl) dX0_tellAndDrop_98 ⟨by show _ ≤ BC; omega, by show _ ≤ BS; omega⟩ (fun x_98 y_98 g_98 H locs h hP hD hS => ?_)
          exact zvr (pc := 101) (Wd := cW E ad wd cI cB cP cT) (u := (x_98, y_98, g_98)) hx hb hr hlocks hAe hK hP hD hS dX0_tellAndDrop_101 (by omega) (by omega) h
        · have h := h.2 c_37
          refine lv_aload_n (pc := 40) hx hb dX0_tellAndDrop_40 rfl (lv_at hl 0 rfl) ?_
          refine cG_X0_now (pc := 41) hF hP lkX0_32 dX0_tellAndDrop_41 ?_
          refine cGN_X6_windows (pc := 44) hF hP (i := 0) (by omega) lkX0_135 dX0_tellAndDrop_44 ?_
          refine lv_iload_n (pc := 47) hx hb dX0_tellAndDrop_47 rfl (lv_at hl 2 rfl) ?_
          refine lv_iconst (pc := 48) (v := 4) hx hb dX0_tellAndDrop_48 (by decide) ?_
          refine cVip (pc := 49) (x := x) (y := y) (g := g) [.int v2, .int 4] hF (kX4_get x y g 5 v2 4 h (by omega)) (cwX0_X4_get hts ⟨Nat.le_of_ble_eq_true rfl, Nat.le_of_ble_eq_true rfl⟩) rfl (cA_R _ _ _ _ _ _ _ _ _ _ (i := 5) (by omega)) hP hD hS rfl rfl hl.1 (Nat.le_of_ble_eq_true rfl) dX0_tellAndDrop_49 ⟨by show _ ≤ BC; omega, by show _ ≤ BS; omega⟩ (fun r_49 H locs h hP hD hS => ?_)
          refine lv_if_ne (pc := 52) (tgt := 60) hx hb dX0_tellAndDrop_52 (by decide) (fun c_52 => ?_) (fun c_52 => ?_)
          · have h := h.2 c_52
            exact J60 x y g v1 v2 bc bs h _ _ hB _ _ _ hP hD hS (lv_sub hl [0, 1, 2] rfl)
          · have h := h.1 c_52
            refine lv_aload_n (pc := 55) hx hb dX0_tellAndDrop_55 rfl (lv_at hl 0 rfl) ?_
            refine lv_iload_n (pc := 56) hx hb dX0_tellAndDrop_56 rfl (lv_at hl 2 rfl) ?_
            obtain ⟨kc_57, ks_57, bc_57, bs_57, ec_57, es_57, h⟩ := h
            refine cVv (pc := 57) (x := x) (y := y) (g := g) [.int v2] hF (kX0_tell x y g v2 kc_57 ks_57 h) (cwX0_X0_tell hts ⟨Nat.le_of_ble_eq_true rfl, Nat.le_of_ble_eq_true rfl⟩) rfl (cA_L ..) hP hD hS rfl rfl hl.1 (Nat.le_of_ble_eq_true rfl) dX0_tellAndDrop_57 ⟨by show _ ≤ BC; omega, by show _ ≤ BS; omega⟩ (fun x_57 y_57 g_57 H locs h hP hD hS => ?_)
            have hB : (((cells + 0) + 0) + kc_57) + bc_57 ≤ BC ∧ (((slots + 0) + 0) + ks_57) + bs_57 ≤ BS := ⟨by omega, by omega⟩
            exact J60 x_57 y_57 g_57 v1 v2 bc_57 bs_57 h _ _ hB _ _ _ hP hD hS (lv_sub hl [0, 1, 2] rfl)
  unfold wX0_tellAndDrop at h
  refine lv_iconst (pc := 0) (v := 0) hx hb dX0_tellAndDrop_0 (by decide) ?_
  refine lv_istore_n (pc := 1) (lv' := [(1, .int 0), (0, .ref (ad 2 0))]) hx hb dX0_tellAndDrop_1 rfl hl (by decide) rfl (fun ls hl => ?_)
  refine lv_iconst (pc := 2) (v := 0) hx hb dX0_tellAndDrop_2 (by decide) ?_
  refine lv_istore_n (pc := 3) (lv' := [(2, .int 0), (1, .int 0), (0, .ref (ad 2 0))]) hx hb dX0_tellAndDrop_3 rfl hl (by decide) rfl (fun ls hl => ?_)
  obtain ⟨n4, h⟩ := h
  exact L4 n4 x0 y0 g0 0 0 BC BS h _ _ hB _ _ _ hP hD hS (lv_sub hl [2, 1, 0] rfl)

def lX0_findWatermark_6 (Φ : (Nat → Nat → Int32) → (Nat → Nat → Nat) → (Nat → Nat → Nat → Int32) → Prop) : Nat → (Nat → Nat → Int32) → (Nat → Nat → Nat) → (Nat → Nat → Nat → Int32) → Int32 → Int32 → Int32 → Nat → Nat → Prop
  | 0, _, _, _, _, _, _, _, _ => False
  | n6 + 1, x, y, g, v1, v2, v3, bc, bs => ((3 ≤ v3 → ((v1 = 0 → (Φ x y g)) ∧ (¬ v1 = 0 → ((v2 ≤ ((x 2) 0) → (Φ x y g)) ∧ (¬ v2 ≤ ((x 2) 0) → (∃ kc_105 ks_105 bc_105 bs_105 : Nat, kc_105 + bc_105 ≤ bc ∧ ks_105 + bs_105 ≤ bs ∧ (wX0_tellAndDrop (va_up x 2 (va_up (x 2) 0 v2)) y g kc_105 ks_105 (fun x_105 y_105 g_105 => (Φ x_105 y_105 g_105))))))))) ∧ (¬ 3 ≤ v3 → (vp_in v3 3 ∧ ((((x 7) (v3.toNatClampNeg)) = 0 → (vp_in v3 3 ∧ (((((g 1) 0) v3.toNatClampNeg) = 0 → (Φ x y g)) ∧ (¬ (((g 1) 0) v3.toNatClampNeg) = 0 → (vp_in v3 3 ∧ (vp_in v3 3 ∧ (∀ v4_55 : Int32, v4_55 = ((((g 2) 0) v3.toNatClampNeg) - ((x 6) (v3.toNatClampNeg))) → ((v1 = 0 → (∀ v3_75 : Int32, v3_75 = v3 + 1 → ((lX0_findWatermark_6 Φ n6) x y g 1 v4_55 v3_75 bc bs))) ∧ (¬ v1 = 0 → (∀ v2_72 : Int32, v2_72 = (if v4_55 < v2 then v4_55 else v2) → (∀ v3_75 : Int32, v3_75 = v3 + 1 → ((lX0_findWatermark_6 Φ n6) x y g 1 v2_72 v3_75 bc bs)))))))))))) ∧ (¬ ((x 7) (v3.toNatClampNeg)) = 0 → (∀ v3_75 : Int32, v3_75 = v3 + 1 → ((lX0_findWatermark_6 Φ n6) x y g v1 v2 v3_75 bc bs)))))))
def wX0_findWatermark (x : Nat → Nat → Int32) (y : Nat → Nat → Nat) (g : Nat → Nat → Nat → Int32) (bc bs : Nat) (Φ : (Nat → Nat → Int32) → (Nat → Nat → Nat) → (Nat → Nat → Nat → Int32) → Prop) : Prop := (∃ n6 : Nat, lX0_findWatermark_6 Φ n6 x y g 0 0 0 bc bs)
set_option maxRecDepth 100000 in
set_option maxHeartbeats 4000000 in
theorem kX0_findWatermark {l : Launch} {D : va_G} {E : va_W} {ad : Nat → Nat → Nat} {wd sk : Nat → Nat} {cI cB cP cT : ClassId} {sz : Nat} (x0 : Nat → Nat → Int32) (y0 : Nat → Nat → Nat) (g0 : Nat → Nat → Nat → Int32) (BC BS : Nat) {Φ : (Nat → Nat → Int32) → (Nat → Nat → Nat) → (Nat → Nat → Nat → Int32) → Prop} (h : wX0_findWatermark x0 y0 g0 BC BS Φ) : Met l yX0_findWatermark (zws yX0_findWatermark cX0_findWatermark 5 none) { frames := 6, cells := BC, slots := BS, locals := 175 } (zPc D (cTy cI cB cP cT) (cX wd sk) (cW E ad wd cI cB cP cT (x0, y0, g0)) [.ref (ad 2 0)] sz) (zQv D (cTy cI cB cP cT) (cW E ad wd cI cB cP cT) (fun u => Φ u.1 u.2.1 u.2.2) (cW E ad wd cI cB cP cT (x0, y0, g0)) sz) BC BS (va_A (cW E ad wd cI cB cP cT (x0, y0, g0)) sz) := by
  refine zMet (by decide) (Nat.le_of_ble_eq_true rfl) ?_
  intro p e s m args below meth c A hx hb hr hml hown hts hlocks hsz hAe hA hS hP hK hD hX ls hl
  subst hsz
  have hF : zFx p s m args c cX0_findWatermark RX0 A D (cTy cI cB cP cT) (cX wd sk) 5 := ⟨hx, hb, hml, hown, hts, hA, hK, cX_cl wd sk, hX⟩
  have hl : lv_has ls 5 [(0, .ref (ad 2 0))] := hl
  have hB : 0 + BC ≤ BC ∧ 0 + BS ≤ BS := ⟨by omega, by omega⟩
  have L6 : ∀ n6 : Nat, ∀ (x : Nat → Nat → Int32) (y : Nat → Nat → Nat) (g : Nat → Nat → Nat → Int32) (v1 : Int32) (v2 : Int32) (v3 : Int32) (bc bs : Nat), lX0_findWatermark_6 Φ n6 x y g v1 v2 v3 bc bs → ∀ (cells slots : Nat), (cells + bc ≤ BC ∧ slots + bs ≤ BS) → ∀ (H : Heap) (locs : List Loc) (ls : Array Slot), va_P D vwCl (cW E ad wd cI cB cP cT (x, y, g)) H → va_D A (cW E ad wd cI cB cP cT (x, y, g)) → va_S A s.heap H locs → lv_has ls 5 [(0, .ref (ad 2 0)), (1, .int v1), (2, .int v2), (3, .int v3)] → W p l e { frames := 6, cells := BC, slots := BS, locals := 175 } s m args below meth c H locs cells slots (MQ below (zQv D (cTy cI cB cP cT) (cW E ad wd cI cB cP cT) (fun u => Φ u.1 u.2.1 u.2.2) (cW E ad wd cI cB cP cT (x0, y0, g0)) s.heap.size) args s BC BS (va_A (cW E ad wd cI cB cP cT (x0, y0, g0)) s.heap.size)) (F0 m 6 ls []) := by
    intro n6
    induction n6 with
    | zero => intro x y g v1 v2 v3 bc bs h cells slots hB H locs ls hP hD hS hl; exact h.elim
    | succ n6 ih6 =>
      intro x y g v1 v2 v3 bc bs h cells slots hB H locs ls hP hD hS hl
      unfold lX0_findWatermark_6 at h
      refine lv_iload_n (pc := 6) hx hb dX0_findWatermark_6 rfl (lv_at hl 3 rfl) ?_
      refine lv_iconst (pc := 7) (v := 3) hx hb dX0_findWatermark_7 (by decide) ?_
      refine lv_icmp_ge (pc := 8) (tgt := 81) hx hb dX0_findWatermark_8 (by decide) (fun c_8 => ?_) (fun c_8 => ?_)
      · have h := h.1 c_8
        refine lv_iload_n (pc := 81) hx hb dX0_findWatermark_81 rfl (lv_at hl 1 rfl) ?_
        refine lv_if_eq (pc := 82) (tgt := 108) hx hb dX0_findWatermark_82 (by decide) (fun c_82 => ?_) (fun c_82 => ?_)
        · have h := h.1 c_82
          exact zvr (pc := 108) (Wd := cW E ad wd cI cB cP cT) (u := (x, y, g)) hx hb hr hlocks hAe hK hP hD hS dX0_findWatermark_108 (by omega) (by omega) h
        · have h := h.2 c_82
          refine lv_iload_n (pc := 85) hx hb dX0_findWatermark_85 rfl (lv_at hl 2 rfl) ?_
          refine lv_aload_n (pc := 86) hx hb dX0_findWatermark_86 rfl (lv_at hl 0 rfl) ?_
          refine cG_X0_now (pc := 87) hF hP lkX0_32 dX0_findWatermark_87 ?_
          refine cGN_X6_mark (pc := 90) hF hP (i := 0) (by omega) lkX0_57 (v := ((x 2) 0)) rfl dX0_findWatermark_90 ?_
          refine lv_icmp_le (pc := 93) (tgt := 108) hx hb dX0_findWatermark_93 (by decide) (fun c_93 => ?_) (fun c_93 => ?_)
          · have h := h.1 c_93
            exact zvr (pc := 108) (Wd := cW E ad wd cI cB cP cT) (u := (x, y, g)) hx hb hr hlocks hAe hK hP hD hS dX0_findWatermark_108 (by omega) (by omega) h
          · have h := h.2 c_93
            refine lv_aload_n (pc := 96) hx hb dX0_findWatermark_96 rfl (lv_at hl 0 rfl) ?_
            refine cG_X0_now (pc := 97) hF hP lkX0_32 dX0_findWatermark_97 ?_
            refine lv_iload_n (pc := 100) hx hb dX0_findWatermark_100 rfl (lv_at hl 2 rfl) ?_
            refine cPN_X6_mark (pc := 101) hF hP hD hS (i := 0) (by omega) lkX0_57 dX0_findWatermark_101 (fun H locs hP hD hS => ?_)
            refine lv_aload_n (pc := 104) hx hb dX0_findWatermark_104 rfl (lv_at hl 0 rfl) ?_
            obtain ⟨kc_105, ks_105, bc_105, bs_105, ec_105, es_105, h⟩ := h
            refine cVv (pc := 105) (x := (va_up x 2 (va_up (x 2) 0 v2))) (y := y) (g := g) [] hF (kX0_tellAndDrop (va_up x 2 (va_up (x 2) 0 v2)) y g kc_105 ks_105 h) (cwX0_X0_tellAndDrop hts ⟨Nat.le_of_ble_eq_true rfl, Nat.le_of_ble_eq_true rfl⟩) rfl (cA_L ..) hP hD hS rfl rfl hl.1 (Nat.le_of_ble_eq_true rfl) dX0_findWatermark_105 ⟨by show _ ≤ BC; omega, by show _ ≤ BS; omega⟩ (fun x_105 y_105 g_105 H locs h hP hD hS => ?_)
            have hB : (cells + kc_105) + bc_105 ≤ BC ∧ (slots + ks_105) + bs_105 ≤ BS := ⟨by omega, by omega⟩
            exact zvr (pc := 108) (Wd := cW E ad wd cI cB cP cT) (u := (x_105, y_105, g_105)) hx hb hr hlocks hAe hK hP hD hS dX0_findWatermark_108 (by omega) (by omega) h
      · have h := h.2 c_8
        refine lv_aload_n (pc := 11) hx hb dX0_findWatermark_11 rfl (lv_at hl 0 rfl) ?_
        refine cG_X0_partitions (pc := 12) hF hP lkX0_11 dX0_findWatermark_12 ?_
        refine lv_iload_n (pc := 15) hx hb dX0_findWatermark_15 rfl (lv_at hl 3 rfl) ?_
        obtain ⟨hi_16, h⟩ := h
        have hj_16 := vp_lt hi_16
        refine cL_PA (pc := 16) hF hP hi_16 dX0_findWatermark_16 ?_
        refine cGN_X1_isIdle (pc := 17) hF hP (i := (v3.toNatClampNeg)) (by omega) lkX0_176 (v := ((x 7) (v3.toNatClampNeg))) rfl dX0_findWatermark_17 ?_
        refine lv_if_ne (pc := 20) (tgt := 75) hx hb dX0_findWatermark_20 (by decide) (fun c_20 => ?_) (fun c_20 => ?_)
        · have h := h.2 c_20
          obtain ⟨v3_75, e_v3_75⟩ : ∃ y : Int32, y = v3 + 1 := ⟨_, rfl⟩
          replace h := h v3_75 e_v3_75
          refine lv_iinc (pc := 75) (v := v3_75) (lv' := [(3, .int v3_75), (0, .ref (ad 2 0)), (1, .int v1), (2, .int v2)]) hx hb dX0_findWatermark_75 hl (k := 3) rfl (by rw [e_v3_75]; rfl) (by decide) rfl (fun ls hl => ?_)
          refine lv_goto (pc := 78) (tgt := 6) hx hb dX0_findWatermark_78 (by decide) ?_
          exact ih6 x y g v1 v2 v3_75 bc bs h _ _ hB _ _ _ hP hD hS (lv_sub hl [1, 2, 3, 0] rfl)
        · have h := h.1 c_20
          refine lv_aload_n (pc := 23) hx hb dX0_findWatermark_23 rfl (lv_at hl 0 rfl) ?_
          refine cG_X0_now (pc := 24) hF hP lkX0_32 dX0_findWatermark_24 ?_
          refine cGN_X6_read (pc := 27) hF hP (i := 0) (by omega) lkX0_63 dX0_findWatermark_27 ?_
          refine lv_iload_n (pc := 30) hx hb dX0_findWatermark_30 rfl (lv_at hl 3 rfl) ?_
          obtain ⟨hi_31, h⟩ := h
          refine cL_TR (pc := 31) hF hP (i := 0) (by omega) (f := ((g 1) 0)) rfl hi_31 dX0_findWatermark_31 ?_
          refine lv_if_ne (pc := 32) (tgt := 36) hx hb dX0_findWatermark_32 (by decide) (fun c_32 => ?_) (fun c_32 => ?_)
          · have h := h.2 c_32
            refine lv_aload_n (pc := 36) hx hb dX0_findWatermark_36 rfl (lv_at hl 0 rfl) ?_
            refine cG_X0_now (pc := 37) hF hP lkX0_32 dX0_findWatermark_37 ?_
            refine cGN_X6_greatest (pc := 40) hF hP (i := 0) (by omega) lkX0_71 dX0_findWatermark_40 ?_
            refine lv_iload_n (pc := 43) hx hb dX0_findWatermark_43 rfl (lv_at hl 3 rfl) ?_
            obtain ⟨hi_44, h⟩ := h
            refine cL_TG (pc := 44) hF hP (i := 0) (by omega) (f := ((g 2) 0)) rfl hi_44 dX0_findWatermark_44 ?_
            refine lv_aload_n (pc := 45) hx hb dX0_findWatermark_45 rfl (lv_at hl 0 rfl) ?_
            refine cG_X0_partitions (pc := 46) hF hP lkX0_11 dX0_findWatermark_46 ?_
            refine lv_iload_n (pc := 49) hx hb dX0_findWatermark_49 rfl (lv_at hl 3 rfl) ?_
            obtain ⟨hi_50, h⟩ := h
            have hj_50 := vp_lt hi_50
            refine cL_PA (pc := 50) hF hP hi_50 dX0_findWatermark_50 ?_
            refine cGN_X1_lag (pc := 51) hF hP (i := (v3.toNatClampNeg)) (by omega) lkX0_179 (v := ((x 6) (v3.toNatClampNeg))) rfl dX0_findWatermark_51 ?_
            refine lv_isub (pc := 54) hx hb dX0_findWatermark_54 ?_
            refine lv_topi (fun v4_55 e_v4_55 => ?_)
            replace h := h v4_55 e_v4_55
            refine lv_istore (pc := 55) (lv' := [(4, .int v4_55), (0, .ref (ad 2 0)), (1, .int v1), (2, .int v2), (3, .int v3)]) hx hb dX0_findWatermark_55 hl (by decide) rfl (fun ls hl => ?_)
            refine lv_iload_n (pc := 57) hx hb dX0_findWatermark_57 rfl (lv_at hl 2 rfl) ?_
            refine lv_if_eq (pc := 58) (tgt := 70) hx hb dX0_findWatermark_58 (by decide) (fun c_58 => ?_) (fun c_58 => ?_)
            · have h := h.1 c_58
              refine lv_iload (pc := 70) hx hb dX0_findWatermark_70 (lv_at hl 0 rfl) ?_
              refine lv_istore_n (pc := 72) (lv' := [(2, .int v4_55), (4, .int v4_55), (0, .ref (ad 2 0)), (1, .int v1), (3, .int v3)]) hx hb dX0_findWatermark_72 rfl hl (by decide) rfl (fun ls hl => ?_)
              refine lv_iconst (pc := 73) (v := 1) hx hb dX0_findWatermark_73 (by decide) ?_
              refine lv_istore_n (pc := 74) (lv' := [(1, .int 1), (2, .int v4_55), (4, .int v4_55), (0, .ref (ad 2 0)), (3, .int v3)]) hx hb dX0_findWatermark_74 rfl hl (by decide) rfl (fun ls hl => ?_)
              obtain ⟨v3_75, e_v3_75⟩ : ∃ y : Int32, y = v3 + 1 := ⟨_, rfl⟩
              replace h := h v3_75 e_v3_75
              refine lv_iinc (pc := 75) (v := v3_75) (lv' := [(3, .int v3_75), (1, .int 1), (2, .int v4_55), (4, .int v4_55), (0, .ref (ad 2 0))]) hx hb dX0_findWatermark_75 hl (k := 4) rfl (by rw [e_v3_75]; rfl) (by decide) rfl (fun ls hl => ?_)
              refine lv_goto (pc := 78) (tgt := 6) hx hb dX0_findWatermark_78 (by decide) ?_
              exact ih6 x y g 1 v4_55 v3_75 bc bs h _ _ hB _ _ _ hP hD hS (lv_sub hl [4, 1, 2, 0] rfl)
            · have h := h.2 c_58
              refine lv_iload_n (pc := 61) hx hb dX0_findWatermark_61 rfl (lv_at hl 3 rfl) ?_
              refine lv_iload (pc := 62) hx hb dX0_findWatermark_62 (lv_at hl 0 rfl) ?_
              refine c_min (pc := 64) hF hl.1 mlX0_151 ⟨Nat.le_of_ble_eq_true rfl, Nat.le_of_ble_eq_true rfl⟩ ⟨by show _ ≤ BC; omega, by show _ ≤ BS; omega⟩ dX0_findWatermark_64 ?_
              refine lv_goto (pc := 67) (tgt := 72) hx hb dX0_findWatermark_67 (by decide) ?_
              refine lv_topi (fun v2_72 e_v2_72 => ?_)
              replace h := h v2_72 e_v2_72
              refine lv_istore_n (pc := 72) (lv' := [(2, .int v2_72), (4, .int v4_55), (0, .ref (ad 2 0)), (1, .int v1), (3, .int v3)]) hx hb dX0_findWatermark_72 rfl hl (by decide) rfl (fun ls hl => ?_)
              refine lv_iconst (pc := 73) (v := 1) hx hb dX0_findWatermark_73 (by decide) ?_
              refine lv_istore_n (pc := 74) (lv' := [(1, .int 1), (2, .int v2_72), (4, .int v4_55), (0, .ref (ad 2 0)), (3, .int v3)]) hx hb dX0_findWatermark_74 rfl hl (by decide) rfl (fun ls hl => ?_)
              obtain ⟨v3_75, e_v3_75⟩ : ∃ y : Int32, y = v3 + 1 := ⟨_, rfl⟩
              replace h := h v3_75 e_v3_75
              refine lv_iinc (pc := 75) (v := v3_75) (lv' := [(3, .int v3_75), (1, .int 1), (2, .int v2_72), (4, .int v4_55), (0, .ref (ad 2 0))]) hx hb dX0_findWatermark_75 hl (k := 4) rfl (by rw [e_v3_75]; rfl) (by decide) rfl (fun ls hl => ?_)
              refine lv_goto (pc := 78) (tgt := 6) hx hb dX0_findWatermark_78 (by decide) ?_
              exact ih6 x y g 1 v2_72 v3_75 bc bs h _ _ hB _ _ _ hP hD hS (lv_sub hl [4, 1, 2, 0] rfl)
          · have h := h.1 c_32
            exact zvr (pc := 35) (Wd := cW E ad wd cI cB cP cT) (u := (x, y, g)) hx hb hr hlocks hAe hK hP hD hS dX0_findWatermark_35 (by omega) (by omega) h
  unfold wX0_findWatermark at h
  refine lv_iconst (pc := 0) (v := 0) hx hb dX0_findWatermark_0 (by decide) ?_
  refine lv_istore_n (pc := 1) (lv' := [(1, .int 0), (0, .ref (ad 2 0))]) hx hb dX0_findWatermark_1 rfl hl (by decide) rfl (fun ls hl => ?_)
  refine lv_iconst (pc := 2) (v := 0) hx hb dX0_findWatermark_2 (by decide) ?_
  refine lv_istore_n (pc := 3) (lv' := [(2, .int 0), (1, .int 0), (0, .ref (ad 2 0))]) hx hb dX0_findWatermark_3 rfl hl (by decide) rfl (fun ls hl => ?_)
  refine lv_iconst (pc := 4) (v := 0) hx hb dX0_findWatermark_4 (by decide) ?_
  refine lv_istore_n (pc := 5) (lv' := [(3, .int 0), (2, .int 0), (1, .int 0), (0, .ref (ad 2 0))]) hx hb dX0_findWatermark_5 rfl hl (by decide) rfl (fun ls hl => ?_)
  obtain ⟨n6, h⟩ := h
  exact L6 n6 x0 y0 g0 0 0 0 BC BS h _ _ hB _ _ _ hP hD hS (lv_sub hl [3, 2, 1, 0] rfl)

def lX0_totalOfResults_5 (Φ : Int32 → Prop) : Nat → (Nat → Nat → Int32) → (Nat → Nat → Nat) → (Nat → Nat → Nat → Int32) → Int32 → Int32 → Int32 → Int32 → Prop
  | 0, _, _, _, _, _, _, _ => False
  | n5 + 1, x, y, g, v1, v2, v3, v4 => ((((x 1) 4) ≤ v4 → (Φ v3)) ∧ (¬ ((x 1) 4) ≤ v4 → (wX4_get x y g 4 v4 0 (fun r_24 => ((r_24 = v1 → (wX4_get x y g 4 v4 1 (fun r_38 => ((r_38 = v2 → (wX4_get x y g 4 v4 3 (fun r_52 => (wX4_get x y g 4 v4 4 (fun r_64 => ((r_64 = 0 → (∀ v4_97 : Int32, v4_97 = v4 + 1 → ((lX0_totalOfResults_5 Φ n5) x y g v1 v2 r_52 v4_97))) ∧ (¬ r_64 = 0 → ((r_64 = 1 → (∀ v3_96 : Int32, v3_96 = (v3 + r_52) → (∀ v4_97 : Int32, v4_97 = v4 + 1 → ((lX0_totalOfResults_5 Φ n5) x y g v1 v2 v3_96 v4_97)))) ∧ (¬ r_64 = 1 → (∀ v3_96 : Int32, v3_96 = (v3 - r_52) → (∀ v4_97 : Int32, v4_97 = v4 + 1 → ((lX0_totalOfResults_5 Φ n5) x y g v1 v2 v3_96 v4_97)))))))))))) ∧ (¬ r_38 = v2 → (∀ v4_97 : Int32, v4_97 = v4 + 1 → ((lX0_totalOfResults_5 Φ n5) x y g v1 v2 v3 v4_97))))))) ∧ (¬ r_24 = v1 → (∀ v4_97 : Int32, v4_97 = v4 + 1 → ((lX0_totalOfResults_5 Φ n5) x y g v1 v2 v3 v4_97))))))))
def wX0_totalOfResults (x : Nat → Nat → Int32) (y : Nat → Nat → Nat) (g : Nat → Nat → Nat → Int32) (a1 : Int32) (a2 : Int32) (Φ : Int32 → Prop) : Prop := (∃ n5 : Nat, lX0_totalOfResults_5 Φ n5 x y g a1 a2 0 0)
set_option maxRecDepth 100000 in
set_option maxHeartbeats 4000000 in
theorem kX0_totalOfResults {l : Launch} {D : va_G} {E : va_W} {ad : Nat → Nat → Nat} {wd sk : Nat → Nat} {cI cB cP cT : ClassId} {sz : Nat} (x0 : Nat → Nat → Int32) (y0 : Nat → Nat → Nat) (g0 : Nat → Nat → Nat → Int32) (a1 : Int32) (a2 : Int32) {Φ : Int32 → Prop} (h : wX0_totalOfResults x0 y0 g0 a1 a2 Φ) : Met l yX0_totalOfResults (zws yX0_totalOfResults cX0_totalOfResults 7 (some .int)) { frames := 2, cells := 0, slots := 0, locals := 44 } (zPc D (cTy cI cB cP cT) (cX wd sk) (cW E ad wd cI cB cP cT (x0, y0, g0)) [.ref (ad 2 0), .int a1, .int a2] sz) (zQi D (cTy cI cB cP cT) (cW E ad wd cI cB cP cT) (fun r u => u = (x0, y0, g0) ∧ Φ r) (cW E ad wd cI cB cP cT (x0, y0, g0)) sz) 0 0 (va_A (cW E ad wd cI cB cP cT (x0, y0, g0)) sz) := by
  refine zMet (by decide) (Nat.le_of_ble_eq_true rfl) ?_
  intro p e s m args below meth c A hx hb hr hml hown hts hlocks hsz hAe hA hS hP hK hD hX ls hl
  subst hsz
  have hF : zFx p s m args c cX0_totalOfResults RX0 A D (cTy cI cB cP cT) (cX wd sk) 7 := ⟨hx, hb, hml, hown, hts, hA, hK, cX_cl wd sk, hX⟩
  have hl : lv_has ls 7 [(0, .ref (ad 2 0)), (1, .int a1), (2, .int a2)] := hl
  have L5 : ∀ n5 : Nat, ∀ (v1 : Int32) (v2 : Int32) (v3 : Int32) (v4 : Int32), lX0_totalOfResults_5 Φ n5 x0 y0 g0 v1 v2 v3 v4 → ∀ (H : Heap) (locs : List Loc) (ls : Array Slot), va_P D vwCl (cW E ad wd cI cB cP cT (x0, y0, g0)) H → va_D A (cW E ad wd cI cB cP cT (x0, y0, g0)) → va_S A s.heap H locs → lv_has ls 7 [(0, .ref (ad 2 0)), (1, .int v1), (2, .int v2), (3, .int v3), (4, .int v4)] → W p l e { frames := 2, cells := 0, slots := 0, locals := 44 } s m args below meth c H locs 0 0 (MQ below (zQi D (cTy cI cB cP cT) (cW E ad wd cI cB cP cT) (fun r u => u = (x0, y0, g0) ∧ Φ r) (cW E ad wd cI cB cP cT (x0, y0, g0)) s.heap.size) args s 0 0 (va_A (cW E ad wd cI cB cP cT (x0, y0, g0)) s.heap.size)) (F0 m 5 ls []) := by
    intro n5
    induction n5 with
    | zero => intro v1 v2 v3 v4 h H locs ls hP hD hS hl; exact h.elim
    | succ n5 ih5 =>
      intro v1 v2 v3 v4 h H locs ls hP hD hS hl
      unfold lX0_totalOfResults_5 at h
      refine lv_iload (pc := 5) hx hb dX0_totalOfResults_5 (lv_at hl 4 rfl) ?_
      refine lv_aload_n (pc := 7) hx hb dX0_totalOfResults_7 rfl (lv_at hl 0 rfl) ?_
      refine cG_X0_told (pc := 8) hF hP lkX0_26 dX0_totalOfResults_8 ?_
      refine cGN_X4_count (pc := 11) hF hP (i := 4) (by omega) lkX0_53 (v := ((x0 1) 4)) rfl dX0_totalOfResults_11 ?_
      refine lv_icmp_ge (pc := 14) (tgt := 103) hx hb dX0_totalOfResults_14 (by decide) (fun c_14 => ?_) (fun c_14 => ?_)
      · have h := h.1 c_14
        refine lv_iload_n (pc := 103) hx hb dX0_totalOfResults_103 rfl (lv_at hl 3 rfl) ?_
        exact zirV (pc := 104) (Wd := cW E ad wd cI cB cP cT) (u := (x0, y0, g0)) hx hb hr hlocks hAe hK hP hD hS rfl dX0_totalOfResults_104 (Nat.le_refl _) (Nat.le_refl _) ⟨rfl, h⟩
      · have h := h.2 c_14
        refine lv_aload_n (pc := 17) hx hb dX0_totalOfResults_17 rfl (lv_at hl 0 rfl) ?_
        refine cG_X0_told (pc := 18) hF hP lkX0_26 dX0_totalOfResults_18 ?_
        refine lv_iload (pc := 21) hx hb dX0_totalOfResults_21 (lv_at hl 4 rfl) ?_
        refine lv_iconst (pc := 23) (v := 0) hx hb dX0_totalOfResults_23 (by decide) ?_
        refine cVip (pc := 24) (x := x0) (y := y0) (g := g0) [.int v4, .int 0] hF (kX4_get x0 y0 g0 4 v4 0 h (by omega)) (cwX0_X4_get hts ⟨Nat.le_of_ble_eq_true rfl, Nat.le_of_ble_eq_true rfl⟩) rfl (cA_R _ _ _ _ _ _ _ _ _ _ (i := 4) (by omega)) hP hD hS rfl rfl hl.1 (Nat.le_of_ble_eq_true rfl) dX0_totalOfResults_24 ⟨Nat.le_refl _, Nat.le_refl _⟩ (fun r_24 H locs h hP hD hS => ?_)
        refine lv_iload_n (pc := 27) hx hb dX0_totalOfResults_27 rfl (lv_at hl 1 rfl) ?_
        refine lv_icmp_ne (pc := 28) (tgt := 97) hx hb dX0_totalOfResults_28 (by decide) (fun c_28 => ?_) (fun c_28 => ?_)
        · have h := h.2 c_28
          obtain ⟨v4_97, e_v4_97⟩ : ∃ y : Int32, y = v4 + 1 := ⟨_, rfl⟩
          replace h := h v4_97 e_v4_97
          refine lv_iinc (pc := 97) (v := v4_97) (lv' := [(4, .int v4_97), (0, .ref (ad 2 0)), (1, .int v1), (2, .int v2), (3, .int v3)]) hx hb dX0_totalOfResults_97 hl (k := 4) rfl (by rw [e_v4_97]; rfl) (by decide) rfl (fun ls hl => ?_)
          refine lv_goto (pc := 100) (tgt := 5) hx hb dX0_totalOfResults_100 (by decide) ?_
          exact ih5 v1 v2 v3 v4_97 h _ _ _ hP hD hS (lv_sub hl [1, 2, 3, 4, 0] rfl)
        · have h := h.1 c_28
          refine lv_aload_n (pc := 31) hx hb dX0_totalOfResults_31 rfl (lv_at hl 0 rfl) ?_
          refine cG_X0_told (pc := 32) hF hP lkX0_26 dX0_totalOfResults_32 ?_
          refine lv_iload (pc := 35) hx hb dX0_totalOfResults_35 (lv_at hl 4 rfl) ?_
          refine lv_iconst (pc := 37) (v := 1) hx hb dX0_totalOfResults_37 (by decide) ?_
          refine cVip (pc := 38) (x := x0) (y := y0) (g := g0) [.int v4, .int 1] hF (kX4_get x0 y0 g0 4 v4 1 h (by omega)) (cwX0_X4_get hts ⟨Nat.le_of_ble_eq_true rfl, Nat.le_of_ble_eq_true rfl⟩) rfl (cA_R _ _ _ _ _ _ _ _ _ _ (i := 4) (by omega)) hP hD hS rfl rfl hl.1 (Nat.le_of_ble_eq_true rfl) dX0_totalOfResults_38 ⟨Nat.le_refl _, Nat.le_refl _⟩ (fun r_38 H locs h hP hD hS => ?_)
          refine lv_iload_n (pc := 41) hx hb dX0_totalOfResults_41 rfl (lv_at hl 2 rfl) ?_
          refine lv_icmp_ne (pc := 42) (tgt := 97) hx hb dX0_totalOfResults_42 (by decide) (fun c_42 => ?_) (fun c_42 => ?_)
          · have h := h.2 c_42
            obtain ⟨v4_97, e_v4_97⟩ : ∃ y : Int32, y = v4 + 1 := ⟨_, rfl⟩
            replace h := h v4_97 e_v4_97
            refine lv_iinc (pc := 97) (v := v4_97) (lv' := [(4, .int v4_97), (0, .ref (ad 2 0)), (1, .int v1), (2, .int v2), (3, .int v3)]) hx hb dX0_totalOfResults_97 hl (k := 4) rfl (by rw [e_v4_97]; rfl) (by decide) rfl (fun ls hl => ?_)
            refine lv_goto (pc := 100) (tgt := 5) hx hb dX0_totalOfResults_100 (by decide) ?_
            exact ih5 v1 v2 v3 v4_97 h _ _ _ hP hD hS (lv_sub hl [1, 2, 3, 4, 0] rfl)
          · have h := h.1 c_42
            refine lv_aload_n (pc := 45) hx hb dX0_totalOfResults_45 rfl (lv_at hl 0 rfl) ?_
            refine cG_X0_told (pc := 46) hF hP lkX0_26 dX0_totalOfResults_46 ?_
            refine lv_iload (pc := 49) hx hb dX0_totalOfResults_49 (lv_at hl 4 rfl) ?_
            refine lv_iconst (pc := 51) (v := 3) hx hb dX0_totalOfResults_51 (by decide) ?_
            refine cVip (pc := 52) (x := x0) (y := y0) (g := g0) [.int v4, .int 3] hF (kX4_get x0 y0 g0 4 v4 3 h (by omega)) (cwX0_X4_get hts ⟨Nat.le_of_ble_eq_true rfl, Nat.le_of_ble_eq_true rfl⟩) rfl (cA_R _ _ _ _ _ _ _ _ _ _ (i := 4) (by omega)) hP hD hS rfl rfl hl.1 (Nat.le_of_ble_eq_true rfl) dX0_totalOfResults_52 ⟨Nat.le_refl _, Nat.le_refl _⟩ (fun r_52 H locs h hP hD hS => ?_)
            refine lv_istore (pc := 55) (lv' := [(5, .int r_52), (0, .ref (ad 2 0)), (1, .int v1), (2, .int v2), (3, .int v3), (4, .int v4)]) hx hb dX0_totalOfResults_55 hl (by decide) rfl (fun ls hl => ?_)
            refine lv_aload_n (pc := 57) hx hb dX0_totalOfResults_57 rfl (lv_at hl 1 rfl) ?_
            refine cG_X0_told (pc := 58) hF hP lkX0_26 dX0_totalOfResults_58 ?_
            refine lv_iload (pc := 61) hx hb dX0_totalOfResults_61 (lv_at hl 5 rfl) ?_
            refine lv_iconst (pc := 63) (v := 4) hx hb dX0_totalOfResults_63 (by decide) ?_
            refine cVip (pc := 64) (x := x0) (y := y0) (g := g0) [.int v4, .int 4] hF (kX4_get x0 y0 g0 4 v4 4 h (by omega)) (cwX0_X4_get hts ⟨Nat.le_of_ble_eq_true rfl, Nat.le_of_ble_eq_true rfl⟩) rfl (cA_R _ _ _ _ _ _ _ _ _ _ (i := 4) (by omega)) hP hD hS rfl rfl hl.1 (Nat.le_of_ble_eq_true rfl) dX0_totalOfResults_64 ⟨Nat.le_refl _, Nat.le_refl _⟩ (fun r_64 H locs h hP hD hS => ?_)
            refine lv_istore (pc := 67) (lv' := [(6, .int r_64), (5, .int r_52), (0, .ref (ad 2 0)), (1, .int v1), (2, .int v2), (3, .int v3), (4, .int v4)]) hx hb dX0_totalOfResults_67 hl (by decide) rfl (fun ls hl => ?_)
            refine lv_iload (pc := 69) hx hb dX0_totalOfResults_69 (lv_at hl 0 rfl) ?_
            refine lv_if_ne (pc := 71) (tgt := 79) hx hb dX0_totalOfResults_71 (by decide) (fun c_71 => ?_) (fun c_71 => ?_)
            · have h := h.2 c_71
              refine lv_iload (pc := 79) hx hb dX0_totalOfResults_79 (lv_at hl 0 rfl) ?_
              refine lv_iconst (pc := 81) (v := 1) hx hb dX0_totalOfResults_81 (by decide) ?_
              refine lv_icmp_ne (pc := 82) (tgt := 92) hx hb dX0_totalOfResults_82 (by decide) (fun c_82 => ?_) (fun c_82 => ?_)
              · have h := h.2 c_82
                refine lv_iload_n (pc := 92) hx hb dX0_totalOfResults_92 rfl (lv_at hl 5 rfl) ?_
                refine lv_iload (pc := 93) hx hb dX0_totalOfResults_93 (lv_at hl 1 rfl) ?_
                refine lv_isub (pc := 95) hx hb dX0_totalOfResults_95 ?_
                refine lv_topi (fun v3_96 e_v3_96 => ?_)
                replace h := h v3_96 e_v3_96
                refine lv_istore_n (pc := 96) (lv' := [(3, .int v3_96), (6, .int r_64), (5, .int r_52), (0, .ref (ad 2 0)), (1, .int v1), (2, .int v2), (4, .int v4)]) hx hb dX0_totalOfResults_96 rfl hl (by decide) rfl (fun ls hl => ?_)
                obtain ⟨v4_97, e_v4_97⟩ : ∃ y : Int32, y = v4 + 1 := ⟨_, rfl⟩
                replace h := h v4_97 e_v4_97
                refine lv_iinc (pc := 97) (v := v4_97) (lv' := [(4, .int v4_97), (3, .int v3_96), (6, .int r_64), (5, .int r_52), (0, .ref (ad 2 0)), (1, .int v1), (2, .int v2)]) hx hb dX0_totalOfResults_97 hl (k := 6) rfl (by rw [e_v4_97]; rfl) (by decide) rfl (fun ls hl => ?_)
                refine lv_goto (pc := 100) (tgt := 5) hx hb dX0_totalOfResults_100 (by decide) ?_
                exact ih5 v1 v2 v3_96 v4_97 h _ _ _ hP hD hS (lv_sub hl [4, 5, 6, 1, 0] rfl)
              · have h := h.1 c_82
                refine lv_iload_n (pc := 85) hx hb dX0_totalOfResults_85 rfl (lv_at hl 5 rfl) ?_
                refine lv_iload (pc := 86) hx hb dX0_totalOfResults_86 (lv_at hl 1 rfl) ?_
                refine lv_iadd (pc := 88) hx hb dX0_totalOfResults_88 ?_
                refine lv_goto (pc := 89) (tgt := 96) hx hb dX0_totalOfResults_89 (by decide) ?_
                refine lv_topi (fun v3_96 e_v3_96 => ?_)
                replace h := h v3_96 e_v3_96
                refine lv_istore_n (pc := 96) (lv' := [(3, .int v3_96), (6, .int r_64), (5, .int r_52), (0, .ref (ad 2 0)), (1, .int v1), (2, .int v2), (4, .int v4)]) hx hb dX0_totalOfResults_96 rfl hl (by decide) rfl (fun ls hl => ?_)
                obtain ⟨v4_97, e_v4_97⟩ : ∃ y : Int32, y = v4 + 1 := ⟨_, rfl⟩
                replace h := h v4_97 e_v4_97
                refine lv_iinc (pc := 97) (v := v4_97) (lv' := [(4, .int v4_97), (3, .int v3_96), (6, .int r_64), (5, .int r_52), (0, .ref (ad 2 0)), (1, .int v1), (2, .int v2)]) hx hb dX0_totalOfResults_97 hl (k := 6) rfl (by rw [e_v4_97]; rfl) (by decide) rfl (fun ls hl => ?_)
                refine lv_goto (pc := 100) (tgt := 5) hx hb dX0_totalOfResults_100 (by decide) ?_
                exact ih5 v1 v2 v3_96 v4_97 h _ _ _ hP hD hS (lv_sub hl [4, 5, 6, 1, 0] rfl)
            · have h := h.1 c_71
              refine lv_iload (pc := 74) hx hb dX0_totalOfResults_74 (lv_at hl 1 rfl) ?_
              refine lv_goto (pc := 76) (tgt := 96) hx hb dX0_totalOfResults_76 (by decide) ?_
              refine lv_istore_n (pc := 96) (lv' := [(3, .int r_52), (6, .int r_64), (5, .int r_52), (0, .ref (ad 2 0)), (1, .int v1), (2, .int v2), (4, .int v4)]) hx hb dX0_totalOfResults_96 rfl hl (by decide) rfl (fun ls hl => ?_)
              obtain ⟨v4_97, e_v4_97⟩ : ∃ y : Int32, y = v4 + 1 := ⟨_, rfl⟩
              replace h := h v4_97 e_v4_97
              refine lv_iinc (pc := 97) (v := v4_97) (lv' := [(4, .int v4_97), (3, .int r_52), (6, .int r_64), (5, .int r_52), (0, .ref (ad 2 0)), (1, .int v1), (2, .int v2)]) hx hb dX0_totalOfResults_97 hl (k := 6) rfl (by rw [e_v4_97]; rfl) (by decide) rfl (fun ls hl => ?_)
              refine lv_goto (pc := 100) (tgt := 5) hx hb dX0_totalOfResults_100 (by decide) ?_
              exact ih5 v1 v2 r_52 v4_97 h _ _ _ hP hD hS (lv_sub hl [4, 5, 6, 1, 0] rfl)
  unfold wX0_totalOfResults at h
  refine lv_iconst (pc := 0) (v := 0) hx hb dX0_totalOfResults_0 (by decide) ?_
  refine lv_istore_n (pc := 1) (lv' := [(3, .int 0), (0, .ref (ad 2 0)), (1, .int a1), (2, .int a2)]) hx hb dX0_totalOfResults_1 rfl hl (by decide) rfl (fun ls hl => ?_)
  refine lv_iconst (pc := 2) (v := 0) hx hb dX0_totalOfResults_2 (by decide) ?_
  refine lv_istore (pc := 3) (lv' := [(4, .int 0), (3, .int 0), (0, .ref (ad 2 0)), (1, .int a1), (2, .int a2)]) hx hb dX0_totalOfResults_3 hl (by decide) rfl (fun ls hl => ?_)
  obtain ⟨n5, h⟩ := h
  exact L5 n5 a1 a2 0 0 h _ _ _ hP hD hS (lv_sub hl [2, 3, 4, 1, 0] rfl)
