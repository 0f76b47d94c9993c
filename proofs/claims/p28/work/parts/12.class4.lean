def wX8_watermark (x : Nat → Nat → Int32) (y : Nat → Nat → Nat) (g : Nat → Nat → Nat → Int32) (Φ : Int32 → Prop) : Prop := (Φ ((x 2) 0))
set_option maxRecDepth 100000 in
set_option maxHeartbeats 4000000 in
theorem kX8_watermark {l : Launch} {D : va_G} {E : va_W} {ad : Nat → Nat → Nat} {wd sk : Nat → Nat} {cI cB cP cT : ClassId} {sz : Nat} (x0 : Nat → Nat → Int32) (y0 : Nat → Nat → Nat) (g0 : Nat → Nat → Nat → Int32) {Φ : Int32 → Prop} (h : wX8_watermark x0 y0 g0 Φ) : Met l yX8_watermark (zws yX8_watermark cX8_watermark 1 (some .int)) { frames := 0, cells := 0, slots := 0, locals := 0 } (zPc D (cTy cI cB cP cT) (cX wd sk) (cW E ad wd cI cB cP cT (x0, y0, g0)) [.ref (ad 0 0)] sz) (zQi D (cTy cI cB cP cT) (cW E ad wd cI cB cP cT) (fun r u => u = (x0, y0, g0) ∧ Φ r) (cW E ad wd cI cB cP cT (x0, y0, g0)) sz) 0 0 (va_A (cW E ad wd cI cB cP cT (x0, y0, g0)) sz) := by
  refine zMet (by decide) (Nat.le_of_ble_eq_true rfl) ?_
  intro p e s m args below meth c A hx hb hr hml hown hts hlocks hsz hAe hA hS hP hK hD hX ls hl
  subst hsz
  have hF : zFx p s m args c cX8_watermark RX8 A D (cTy cI cB cP cT) (cX wd sk) 1 := ⟨hx, hb, hml, hown, hts, hA, hK, cX_cl wd sk, hX⟩
  have hl : lv_has ls 1 [(0, .ref (ad 0 0))] := hl
  unfold wX8_watermark at h
  refine lv_aload_n (pc := 0) hx hb dX8_watermark_0 rfl (lv_at hl 0 rfl) ?_
  refine cG_X8_loom (pc := 1) hF hP lkX8_19 dX8_watermark_1 ?_
  refine cGN_X0_now (pc := 4) hF hP lkX8_83 dX8_watermark_4 ?_
  refine cGN_X6_mark (pc := 7) hF hP (i := 0) (by omega) lkX8_137 (v := ((x0 2) 0)) rfl dX8_watermark_7 ?_
  exact zirV (pc := 10) (Wd := cW E ad wd cI cB cP cT) (u := (x0, y0, g0)) hx hb hr hlocks hAe hK hP hD hS rfl dX8_watermark_10 (Nat.le_refl _) (Nat.le_refl _) ⟨rfl, h⟩

def wX8_read (x : Nat → Nat → Int32) (y : Nat → Nat → Nat) (g : Nat → Nat → Nat → Int32) (a1 : Int32) (bc bs : Nat) (Φ : Int32 → Prop) (Ψ : String → (Nat → Nat → Int32) → (Nat → Nat → Nat) → (Nat → Nat → Nat → Int32) → Prop) : Prop := (wX8_isOutside a1 3 (fun r_2 => ((r_2 = 0 → (vp_in a1 3 ∧ (Φ (((g 1) 0) a1.toNatClampNeg)))) ∧ (¬ r_2 = 0 → (1 ≤ bc ∧ 6 ≤ bs ∧ Ψ "java/lang/IndexOutOfBoundsException" x y g)))))
set_option maxRecDepth 100000 in
set_option maxHeartbeats 4000000 in
theorem kX8_read {l : Launch} {D : va_G} {E : va_W} {ad : Nat → Nat → Nat} {wd sk : Nat → Nat} {cI cB cP cT : ClassId} {sz : Nat} (x0 : Nat → Nat → Int32) (y0 : Nat → Nat → Nat) (g0 : Nat → Nat → Nat → Int32) (a1 : Int32) (BC BS : Nat) {Φ : Int32 → Prop} {Ψ : String → (Nat → Nat → Int32) → (Nat → Nat → Nat) → (Nat → Nat → Nat → Int32) → Prop} (hlf : l.stackTraces = false) (h : wX8_read x0 y0 g0 a1 BC BS Φ Ψ) : vx_Met l yX8_read (zws yX8_read cX8_read 2 (some .int)) { frames := 6, cells := BC, slots := BS, locals := 120 } (zPc D (cTy cI cB cP cT) (cX wd sk) (cW E ad wd cI cB cP cT (x0, y0, g0)) [.ref (ad 0 0), .int a1] sz) (zQi D (cTy cI cB cP cT) (cW E ad wd cI cB cP cT) (fun r u => u = (x0, y0, g0) ∧ Φ r) (cW E ad wd cI cB cP cT (x0, y0, g0)) sz) (vx_X (S := cS) (fun _ => True) (fun E2 u t => Ψ E2 u.1 u.2.1 u.2.2 ∧ zB D (cTy cI cB cP cT) (cW E ad wd cI cB cP cT) (va_A (cW E ad wd cI cB cP cT (x0, y0, g0)) sz) u t) (va_A (cW E ad wd cI cB cP cT (x0, y0, g0)) sz)) BC BS (va_A (cW E ad wd cI cB cP cT (x0, y0, g0)) sz) := by
  refine zMetX (by decide) (Nat.le_of_ble_eq_true rfl) ?_
  intro p e s m args below meth c A hx hb hr hml hown hts hlocks hexc hsz hAe hA hS hP hK hD hX ls hl
  subst hsz
  have hF : zFx p s m args c cX8_read RX8 A D (cTy cI cB cP cT) (cX wd sk) 2 := ⟨hx, hb, hml, hown, hts, hA, hK, cX_cl wd sk, hX⟩
  have hl : lv_has ls 2 [(0, .ref (ad 0 0)), (1, .int a1)] := hl
  have hB : 0 + BC ≤ BC ∧ 0 + BS ≤ BS := ⟨by omega, by omega⟩
  unfold wX8_read at h
  refine lv_iload_n (pc := 0) hx hb dX8_read_0 rfl (lv_at hl 1 rfl) ?_
  refine lv_iconst (pc := 1) (v := 3) hx hb dX8_read_1 (by decide) ?_
  refine cSbp (pc := 2) (x := x0) (y := y0) (g := g0) [.int a1, .int 3] hF (kX8_isOutside x0 y0 g0 a1 3 h) (cwX8_X8_isOutside hts ⟨Nat.le_of_ble_eq_true rfl, Nat.le_of_ble_eq_true rfl⟩) hP hD hS rfl rfl hl.1 (Nat.le_of_ble_eq_true rfl) dX8_read_2 ⟨by show _ ≤ BC; omega, by show _ ≤ BS; omega⟩ (fun r_2 H locs hb_2 h hP hD hS => ?_)
  refine lv_if_eq (pc := 5) (tgt := 16) hx hb dX8_read_5 (by decide) (fun c_5 => ?_) (fun c_5 => ?_)
  · have h := h.1 c_5
    refine lv_aload_n (pc := 16) hx hb dX8_read_16 rfl (lv_at hl 0 rfl) ?_
    refine cG_X8_loom (pc := 17) hF hP lkX8_19 dX8_read_17 ?_
    refine cGN_X0_now (pc := 20) hF hP lkX8_83 dX8_read_20 ?_
    refine cGN_X6_read (pc := 23) hF hP (i := 0) (by omega) lkX8_149 dX8_read_23 ?_
    refine lv_iload_n (pc := 26) hx hb dX8_read_26 rfl (lv_at hl 1 rfl) ?_
    obtain ⟨hi_27, h⟩ := h
    refine cL_TR (pc := 27) hF hP (i := 0) (by omega) (f := ((g0 1) 0)) rfl hi_27 dX8_read_27 ?_
    exact vx_ret (zirV (pc := 28) (Wd := cW E ad wd cI cB cP cT) (u := (x0, y0, g0)) hx hb hr hlocks hAe hK hP hD hS rfl dX8_read_28 (by omega) (by omega) ⟨rfl, h⟩)
  · have h := h.2 c_5
    obtain ⟨ec_8, es_8, h⟩ := h
    exact c_throw (pc := 8) hF hP hD hS hlf hexc hlocks hl.1 hAe (names := xn_IOB) (by decide) (by decide) xl_X8_IOB xi_IOB xa_X8_IOB_104 xg_X8_IOB_104 dX8_read_8 dX8_read_11 dX8_read_12 dX8_read_15 ⟨by show _ < (6 : Nat); decide, Nat.le_of_ble_eq_true rfl, by show _ ≤ BC; omega, by show _ ≤ BS; omega⟩ (by omega) (by omega) h

def wX8_tooLate (x : Nat → Nat → Int32) (y : Nat → Nat → Nat) (g : Nat → Nat → Nat → Int32) (Φ : Int32 → Prop) : Prop := (Φ ((x 3) 0))
set_option maxRecDepth 100000 in
set_option maxHeartbeats 4000000 in
theorem kX8_tooLate {l : Launch} {D : va_G} {E : va_W} {ad : Nat → Nat → Nat} {wd sk : Nat → Nat} {cI cB cP cT : ClassId} {sz : Nat} (x0 : Nat → Nat → Int32) (y0 : Nat → Nat → Nat) (g0 : Nat → Nat → Nat → Int32) {Φ : Int32 → Prop} (h : wX8_tooLate x0 y0 g0 Φ) : Met l yX8_tooLate (zws yX8_tooLate cX8_tooLate 1 (some .int)) { frames := 0, cells := 0, slots := 0, locals := 0 } (zPc D (cTy cI cB cP cT) (cX wd sk) (cW E ad wd cI cB cP cT (x0, y0, g0)) [.ref (ad 0 0)] sz) (zQi D (cTy cI cB cP cT) (cW E ad wd cI cB cP cT) (fun r u => u = (x0, y0, g0) ∧ Φ r) (cW E ad wd cI cB cP cT (x0, y0, g0)) sz) 0 0 (va_A (cW E ad wd cI cB cP cT (x0, y0, g0)) sz) := by
  refine zMet (by decide) (Nat.le_of_ble_eq_true rfl) ?_
  intro p e s m args below meth c A hx hb hr hml hown hts hlocks hsz hAe hA hS hP hK hD hX ls hl
  subst hsz
  have hF : zFx p s m args c cX8_tooLate RX8 A D (cTy cI cB cP cT) (cX wd sk) 1 := ⟨hx, hb, hml, hown, hts, hA, hK, cX_cl wd sk, hX⟩
  have hl : lv_has ls 1 [(0, .ref (ad 0 0))] := hl
  unfold wX8_tooLate at h
  refine lv_aload_n (pc := 0) hx hb dX8_tooLate_0 rfl (lv_at hl 0 rfl) ?_
  refine cG_X8_loom (pc := 1) hF hP lkX8_19 dX8_tooLate_1 ?_
  refine cGN_X0_now (pc := 4) hF hP lkX8_83 dX8_tooLate_4 ?_
  refine cGN_X6_lateCount (pc := 7) hF hP (i := 0) (by omega) lkX8_162 (v := ((x0 3) 0)) rfl dX8_tooLate_7 ?_
  exact zirV (pc := 10) (Wd := cW E ad wd cI cB cP cT) (u := (x0, y0, g0)) hx hb hr hlocks hAe hK hP hD hS rfl dX8_tooLate_10 (Nat.le_refl _) (Nat.le_refl _) ⟨rfl, h⟩

def wX8_windows (x : Nat → Nat → Int32) (y : Nat → Nat → Nat) (g : Nat → Nat → Nat → Int32) (Φ : Int32 → Prop) : Prop := (Φ ((x 1) 5))
set_option maxRecDepth 100000 in
set_option maxHeartbeats 4000000 in
theorem kX8_windows {l : Launch} {D : va_G} {E : va_W} {ad : Nat → Nat → Nat} {wd sk : Nat → Nat} {cI cB cP cT : ClassId} {sz : Nat} (x0 : Nat → Nat → Int32) (y0 : Nat → Nat → Nat) (g0 : Nat → Nat → Nat → Int32) {Φ : Int32 → Prop} (h : wX8_windows x0 y0 g0 Φ) : Met l yX8_windows (zws yX8_windows cX8_windows 1 (some .int)) { frames := 0, cells := 0, slots := 0, locals := 0 } (zPc D (cTy cI cB cP cT) (cX wd sk) (cW E ad wd cI cB cP cT (x0, y0, g0)) [.ref (ad 0 0)] sz) (zQi D (cTy cI cB cP cT) (cW E ad wd cI cB cP cT) (fun r u => u = (x0, y0, g0) ∧ Φ r) (cW E ad wd cI cB cP cT (x0, y0, g0)) sz) 0 0 (va_A (cW E ad wd cI cB cP cT (x0, y0, g0)) sz) := by
  refine zMet (by decide) (Nat.le_of_ble_eq_true rfl) ?_
  intro p e s m args below meth c A hx hb hr hml hown hts hlocks hsz hAe hA hS hP hK hD hX ls hl
  subst hsz
  have hF : zFx p s m args c cX8_windows RX8 A D (cTy cI cB cP cT) (cX wd sk) 1 := ⟨hx, hb, hml, hown, hts, hA, hK, cX_cl wd sk, hX⟩
  have hl : lv_has ls 1 [(0, .ref (ad 0 0))] := hl
  unfold wX8_windows at h
  refine lv_aload_n (pc := 0) hx hb dX8_windows_0 rfl (lv_at hl 0 rfl) ?_
  refine cG_X8_loom (pc := 1) hF hP lkX8_19 dX8_windows_1 ?_
  refine cGN_X0_now (pc := 4) hF hP lkX8_83 dX8_windows_4 ?_
  refine cGN_X6_windows (pc := 7) hF hP (i := 0) (by omega) lkX8_87 dX8_windows_7 ?_
  refine cGN_X4_count (pc := 10) hF hP (i := 5) (by omega) lkX8_93 (v := ((x0 1) 5)) rfl dX8_windows_10 ?_
  exact zirV (pc := 13) (Wd := cW E ad wd cI cB cP cT) (u := (x0, y0, g0)) hx hb hr hlocks hAe hK hP hD hS rfl dX8_windows_13 (Nat.le_refl _) (Nat.le_refl _) ⟨rfl, h⟩

def wX8_window (x : Nat → Nat → Int32) (y : Nat → Nat → Nat) (g : Nat → Nat → Nat → Int32) (a1 : Int32) (a2 : Int32) (bc bs : Nat) (Φ : Int32 → Prop) (Ψ : String → (Nat → Nat → Int32) → (Nat → Nat → Nat) → (Nat → Nat → Nat → Int32) → Prop) : Prop := (wX8_isOutside a1 ((x 1) 5) (fun r_14 => ((r_14 = 0 → (wX8_isOutside a2 5 (fun r_30 => ((r_30 = 0 → (wX6_windowByKey x y g 0 a1 (fun r_62 => (wX4_get x y g 5 r_62 a2 (fun r_66 => (Φ r_66)))))) ∧ (¬ r_30 = 0 → (1 ≤ bc ∧ 6 ≤ bs ∧ Ψ "java/lang/IllegalArgumentException" x y g)))))) ∧ (¬ r_14 = 0 → (1 ≤ bc ∧ 6 ≤ bs ∧ Ψ "java/lang/IndexOutOfBoundsException" x y g)))))
set_option maxRecDepth 100000 in
set_option maxHeartbeats 4000000 in
theorem kX8_window {l : Launch} {D : va_G} {E : va_W} {ad : Nat → Nat → Nat} {wd sk : Nat → Nat} {cI cB cP cT : ClassId} {sz : Nat} (x0 : Nat → Nat → Int32) (y0 : Nat → Nat → Nat) (g0 : Nat → Nat → Nat → Int32) (a1 : Int32) (a2 : Int32) (BC BS : Nat) {Φ : Int32 → Prop} {Ψ : String → (Nat → Nat → Int32) → (Nat → Nat → Nat) → (Nat → Nat → Nat → Int32) → Prop} (hlf : l.stackTraces = false) (h : wX8_window x0 y0 g0 a1 a2 BC BS Φ Ψ) : vx_Met l yX8_window (zws yX8_window cX8_window 3 (some .int)) { frames := 6, cells := BC, slots := BS, locals := 120 } (zPc D (cTy cI cB cP cT) (cX wd sk) (cW E ad wd cI cB cP cT (x0, y0, g0)) [.ref (ad 0 0), .int a1, .int a2] sz) (zQi D (cTy cI cB cP cT) (cW E ad wd cI cB cP cT) (fun r u => u = (x0, y0, g0) ∧ Φ r) (cW E ad wd cI cB cP cT (x0, y0, g0)) sz) (vx_X (S := cS) (fun _ => True) (fun E2 u t => Ψ E2 u.1 u.2.1 u.2.2 ∧ zB D (cTy cI cB cP cT) (cW E ad wd cI cB cP cT) (va_A (cW E ad wd cI cB cP cT (x0, y0, g0)) sz) u t) (va_A (cW E ad wd cI cB cP cT (x0, y0, g0)) sz)) BC BS (va_A (cW E ad wd cI cB cP cT (x0, y0, g0)) sz) := by
  refine zMetX (by decide) (Nat.le_of_ble_eq_true rfl) ?_
  intro p e s m args below meth c A hx hb hr hml hown hts hlocks hexc hsz hAe hA hS hP hK hD hX ls hl
  subst hsz
  have hF : zFx p s m args c cX8_window RX8 A D (cTy cI cB cP cT) (cX wd sk) 3 := ⟨hx, hb, hml, hown, hts, hA, hK, cX_cl wd sk, hX⟩
  have hl : lv_has ls 3 [(0, .ref (ad 0 0)), (1, .int a1), (2, .int a2)] := hl
  have hB : 0 + BC ≤ BC ∧ 0 + BS ≤ BS := ⟨by omega, by omega⟩
  unfold wX8_window at h
  refine lv_iload_n (pc := 0) hx hb dX8_window_0 rfl (lv_at hl 1 rfl) ?_
  refine lv_aload_n (pc := 1) hx hb dX8_window_1 rfl (lv_at hl 0 rfl) ?_
  refine cG_X8_loom (pc := 2) hF hP lkX8_19 dX8_window_2 ?_
  refine cGN_X0_now (pc := 5) hF hP lkX8_83 dX8_window_5 ?_
  refine cGN_X6_windows (pc := 8) hF hP (i := 0) (by omega) lkX8_87 dX8_window_8 ?_
  refine cGN_X4_count (pc := 11) hF hP (i := 5) (by omega) lkX8_93 (v := ((x0 1) 5)) rfl dX8_window_11 ?_
  refine cSbp (pc := 14) (x := x0) (y := y0) (g := g0) [.int a1, .int ((x0 1) 5)] hF (kX8_isOutside x0 y0 g0 a1 ((x0 1) 5) h) (cwX8_X8_isOutside hts ⟨Nat.le_of_ble_eq_true rfl, Nat.le_of_ble_eq_true rfl⟩) hP hD hS rfl rfl hl.1 (Nat.le_of_ble_eq_true rfl) dX8_window_14 ⟨by show _ ≤ BC; omega, by show _ ≤ BS; omega⟩ (fun r_14 H locs hb_14 h hP hD hS => ?_)
  refine lv_if_eq (pc := 17) (tgt := 28) hx hb dX8_window_17 (by decide) (fun c_17 => ?_) (fun c_17 => ?_)
  · have h := h.1 c_17
    refine lv_iload_n (pc := 28) hx hb dX8_window_28 rfl (lv_at hl 2 rfl) ?_
    refine lv_iconst (pc := 29) (v := 5) hx hb dX8_window_29 (by decide) ?_
    refine cSbp (pc := 30) (x := x0) (y := y0) (g := g0) [.int a2, .int 5] hF (kX8_isOutside x0 y0 g0 a2 5 h) (cwX8_X8_isOutside hts ⟨Nat.le_of_ble_eq_true rfl, Nat.le_of_ble_eq_true rfl⟩) hP hD hS rfl rfl hl.1 (Nat.le_of_ble_eq_true rfl) dX8_window_30 ⟨by show _ ≤ BC; omega, by show _ ≤ BS; omega⟩ (fun r_30 H locs hb_30 h hP hD hS => ?_)
    refine lv_if_eq (pc := 33) (tgt := 44) hx hb dX8_window_33 (by decide) (fun c_33 => ?_) (fun c_33 => ?_)
    · have h := h.1 c_33
      refine lv_aload_n (pc := 44) hx hb dX8_window_44 rfl (lv_at hl 0 rfl) ?_
      refine cG_X8_loom (pc := 45) hF hP lkX8_19 dX8_window_45 ?_
      refine cGN_X0_now (pc := 48) hF hP lkX8_83 dX8_window_48 ?_
      refine cGN_X6_windows (pc := 51) hF hP (i := 0) (by omega) lkX8_87 dX8_window_51 ?_
      refine lv_aload_n (pc := 54) hx hb dX8_window_54 rfl (lv_at hl 0 rfl) ?_
      refine cG_X8_loom (pc := 55) hF hP lkX8_19 dX8_window_55 ?_
      refine cGN_X0_now (pc := 58) hF hP lkX8_83 dX8_window_58 ?_
      refine lv_iload_n (pc := 61) hx hb dX8_window_61 rfl (lv_at hl 1 rfl) ?_
      refine cVip (pc := 62) (x := x0) (y := y0) (g := g0) [.int a1] hF (kX6_windowByKey x0 y0 g0 0 a1 h (by omega)) (cwX8_X6_windowByKey hts ⟨Nat.le_of_ble_eq_true rfl, Nat.le_of_ble_eq_true rfl⟩) rfl (cA_T _ _ _ _ _ _ _ _ _ _ (i := 0) (by omega)) hP hD hS rfl rfl hl.1 (Nat.le_of_ble_eq_true rfl) dX8_window_62 ⟨by show _ ≤ BC; omega, by show _ ≤ BS; omega⟩ (fun r_62 H locs h hP hD hS => ?_)
      refine lv_iload_n (pc := 65) hx hb dX8_window_65 rfl (lv_at hl 2 rfl) ?_
      refine cVip (pc := 66) (x := x0) (y := y0) (g := g0) [.int r_62, .int a2] hF (kX4_get x0 y0 g0 5 r_62 a2 h (by omega)) (cwX8_X4_get hts ⟨Nat.le_of_ble_eq_true rfl, Nat.le_of_ble_eq_true rfl⟩) rfl (cA_R _ _ _ _ _ _ _ _ _ _ (i := 5) (by omega)) hP hD hS rfl rfl hl.1 (Nat.le_of_ble_eq_true rfl) dX8_window_66 ⟨by show _ ≤ BC; omega, by show _ ≤ BS; omega⟩ (fun r_66 H locs h hP hD hS => ?_)
      exact vx_ret (zirV (pc := 69) (Wd := cW E ad wd cI cB cP cT) (u := (x0, y0, g0)) hx hb hr hlocks hAe hK hP hD hS rfl dX8_window_69 (by omega) (by omega) ⟨rfl, h⟩)
    · have h := h.2 c_33
      obtain ⟨ec_36, es_36, h⟩ := h
      exact c_throw (pc := 36) hF hP hD hS hlf hexc hlocks hl.1 hAe (names := xn_IAE) (by decide) (by decide) xl_X8_IAE xi_IAE xa_X8_IAE_40 xg_X8_IAE_40 dX8_window_36 dX8_window_39 dX8_window_40 dX8_window_43 ⟨by show _ < (6 : Nat); decide, Nat.le_of_ble_eq_true rfl, by show _ ≤ BC; omega, by show _ ≤ BS; omega⟩ (by omega) (by omega) h
  · have h := h.2 c_17
    obtain ⟨ec_20, es_20, h⟩ := h
    exact c_throw (pc := 20) hF hP hD hS hlf hexc hlocks hl.1 hAe (names := xn_IOB) (by decide) (by decide) xl_X8_IOB xi_IOB xa_X8_IOB_104 xg_X8_IOB_104 dX8_window_20 dX8_window_23 dX8_window_24 dX8_window_27 ⟨by show _ < (6 : Nat); decide, Nat.le_of_ble_eq_true rfl, by show _ ≤ BC; omega, by show _ ≤ BS; omega⟩ (by omega) (by omega) h

def wX8_results (x : Nat → Nat → Int32) (y : Nat → Nat → Nat) (g : Nat → Nat → Nat → Int32) (Φ : Int32 → Prop) : Prop := (Φ ((x 1) 4))
set_option maxRecDepth 100000 in
set_option maxHeartbeats 4000000 in
theorem kX8_results {l : Launch} {D : va_G} {E : va_W} {ad : Nat → Nat → Nat} {wd sk : Nat → Nat} {cI cB cP cT : ClassId} {sz : Nat} (x0 : Nat → Nat → Int32) (y0 : Nat → Nat → Nat) (g0 : Nat → Nat → Nat → Int32) {Φ : Int32 → Prop} (h : wX8_results x0 y0 g0 Φ) : Met l yX8_results (zws yX8_results cX8_results 1 (some .int)) { frames := 0, cells := 0, slots := 0, locals := 0 } (zPc D (cTy cI cB cP cT) (cX wd sk) (cW E ad wd cI cB cP cT (x0, y0, g0)) [.ref (ad 0 0)] sz) (zQi D (cTy cI cB cP cT) (cW E ad wd cI cB cP cT) (fun r u => u = (x0, y0, g0) ∧ Φ r) (cW E ad wd cI cB cP cT (x0, y0, g0)) sz) 0 0 (va_A (cW E ad wd cI cB cP cT (x0, y0, g0)) sz) := by
  refine zMet (by decide) (Nat.le_of_ble_eq_true rfl) ?_
  intro p e s m args below meth c A hx hb hr hml hown hts hlocks hsz hAe hA hS hP hK hD hX ls hl
  subst hsz
  have hF : zFx p s m args c cX8_results RX8 A D (cTy cI cB cP cT) (cX wd sk) 1 := ⟨hx, hb, hml, hown, hts, hA, hK, cX_cl wd sk, hX⟩
  have hl : lv_has ls 1 [(0, .ref (ad 0 0))] := hl
  unfold wX8_results at h
  refine lv_aload_n (pc := 0) hx hb dX8_results_0 rfl (lv_at hl 0 rfl) ?_
  refine cG_X8_loom (pc := 1) hF hP lkX8_19 dX8_results_1 ?_
  refine cGN_X0_told (pc := 4) hF hP lkX8_143 dX8_results_4 ?_
  refine cGN_X4_count (pc := 7) hF hP (i := 4) (by omega) lkX8_93 (v := ((x0 1) 4)) rfl dX8_results_7 ?_
  exact zirV (pc := 10) (Wd := cW E ad wd cI cB cP cT) (u := (x0, y0, g0)) hx hb hr hlocks hAe hK hP hD hS rfl dX8_results_10 (Nat.le_refl _) (Nat.le_refl _) ⟨rfl, h⟩

def wX8_committed (x : Nat → Nat → Int32) (y : Nat → Nat → Nat) (g : Nat → Nat → Nat → Int32) (Φ : Int32 → Prop) : Prop := (Φ ((x 4) 1))
set_option maxRecDepth 100000 in
set_option maxHeartbeats 4000000 in
theorem kX8_committed {l : Launch} {D : va_G} {E : va_W} {ad : Nat → Nat → Nat} {wd sk : Nat → Nat} {cI cB cP cT : ClassId} {sz : Nat} (x0 : Nat → Nat → Int32) (y0 : Nat → Nat → Nat) (g0 : Nat → Nat → Nat → Int32) {Φ : Int32 → Prop} (h : wX8_committed x0 y0 g0 Φ) : Met l yX8_committed (zws yX8_committed cX8_committed 1 (some .int)) { frames := 0, cells := 0, slots := 0, locals := 0 } (zPc D (cTy cI cB cP cT) (cX wd sk) (cW E ad wd cI cB cP cT (x0, y0, g0)) [.ref (ad 0 0)] sz) (zQi D (cTy cI cB cP cT) (cW E ad wd cI cB cP cT) (fun r u => u = (x0, y0, g0) ∧ Φ r) (cW E ad wd cI cB cP cT (x0, y0, g0)) sz) 0 0 (va_A (cW E ad wd cI cB cP cT (x0, y0, g0)) sz) := by
  refine zMet (by decide) (Nat.le_of_ble_eq_true rfl) ?_
  intro p e s m args below meth c A hx hb hr hml hown hts hlocks hsz hAe hA hS hP hK hD hX ls hl
  subst hsz
  have hF : zFx p s m args c cX8_committed RX8 A D (cTy cI cB cP cT) (cX wd sk) 1 := ⟨hx, hb, hml, hown, hts, hA, hK, cX_cl wd sk, hX⟩
  have hl : lv_has ls 1 [(0, .ref (ad 0 0))] := hl
  unfold wX8_committed at h
  refine lv_aload_n (pc := 0) hx hb dX8_committed_0 rfl (lv_at hl 0 rfl) ?_
  refine cG_X8_snapshots (pc := 1) hF hP lkX8_26 dX8_committed_1 ?_
  refine cGN_X5_completed (pc := 4) hF hP lkX8_173 dX8_committed_4 ?_
  refine cGN_X6_resultCount (pc := 7) hF hP (i := 1) (by omega) lkX8_176 (v := ((x0 4) 1)) rfl dX8_committed_7 ?_
  exact zirV (pc := 10) (Wd := cW E ad wd cI cB cP cT) (u := (x0, y0, g0)) hx hb hr hlocks hAe hK hP hD hS rfl dX8_committed_10 (Nat.le_refl _) (Nat.le_refl _) ⟨rfl, h⟩

def wX8_result (x : Nat → Nat → Int32) (y : Nat → Nat → Nat) (g : Nat → Nat → Nat → Int32) (a1 : Int32) (a2 : Int32) (bc bs : Nat) (Φ : Int32 → Prop) (Ψ : String → (Nat → Nat → Int32) → (Nat → Nat → Nat) → (Nat → Nat → Nat → Int32) → Prop) : Prop := (wX8_isOutside a1 ((x 1) 4) (fun r_11 => ((r_11 = 0 → (wX8_isOutside a2 5 (fun r_27 => ((r_27 = 0 → (wX4_get x y g 4 a1 a2 (fun r_50 => (Φ r_50)))) ∧ (¬ r_27 = 0 → (1 ≤ bc ∧ 6 ≤ bs ∧ Ψ "java/lang/IllegalArgumentException" x y g)))))) ∧ (¬ r_11 = 0 → (1 ≤ bc ∧ 6 ≤ bs ∧ Ψ "java/lang/IndexOutOfBoundsException" x y g)))))
set_option maxRecDepth 100000 in
set_option maxHeartbeats 4000000 in
theorem kX8_result {l : Launch} {D : va_G} {E : va_W} {ad : Nat → Nat → Nat} {wd sk : Nat → Nat} {cI cB cP cT : ClassId} {sz : Nat} (x0 : Nat → Nat → Int32) (y0 : Nat → Nat → Nat) (g0 : Nat → Nat → Nat → Int32) (a1 : Int32) (a2 : Int32) (BC BS : Nat) {Φ : Int32 → Prop} {Ψ : String → (Nat → Nat → Int32) → (Nat → Nat → Nat) → (Nat → Nat → Nat → Int32) → Prop} (hlf : l.stackTraces = false) (h : wX8_result x0 y0 g0 a1 a2 BC BS Φ Ψ) : vx_Met l yX8_result (zws yX8_result cX8_result 3 (some .int)) { frames := 6, cells := BC, slots := BS, locals := 120 } (zPc D (cTy cI cB cP cT) (cX wd sk) (cW E ad wd cI cB cP cT (x0, y0, g0)) [.ref (ad 0 0), .int a1, .int a2] sz) (zQi D (cTy cI cB cP cT) (cW E ad wd cI cB cP cT) (fun r u => u = (x0, y0, g0) ∧ Φ r) (cW E ad wd cI cB cP cT (x0, y0, g0)) sz) (vx_X (S := cS) (fun _ => True) (fun E2 u t => Ψ E2 u.1 u.2.1 u.2.2 ∧ zB D (cTy cI cB cP cT) (cW E ad wd cI cB cP cT) (va_A (cW E ad wd cI cB cP cT (x0, y0, g0)) sz) u t) (va_A (cW E ad wd cI cB cP cT (x0, y0, g0)) sz)) BC BS (va_A (cW E ad wd cI cB cP cT (x0, y0, g0)) sz) := by
  refine zMetX (by decide) (Nat.le_of_ble_eq_true rfl) ?_
  intro p e s m args below meth c A hx hb hr hml hown hts hlocks hexc hsz hAe hA hS hP hK hD hX ls hl
  subst hsz
  have hF : zFx p s m args c cX8_result RX8 A D (cTy cI cB cP cT) (cX wd sk) 3 := ⟨hx, hb, hml, hown, hts, hA, hK, cX_cl wd sk, hX⟩
  have hl : lv_has ls 3 [(0, .ref (ad 0 0)), (1, .int a1), (2, .int a2)] := hl
  have hB : 0 + BC ≤ BC ∧ 0 + BS ≤ BS := ⟨by omega, by omega⟩
  unfold wX8_result at h
  refine lv_iload_n (pc := 0) hx hb dX8_result_0 rfl (lv_at hl 1 rfl) ?_
  refine lv_aload_n (pc := 1) hx hb dX8_result_1 rfl (lv_at hl 0 rfl) ?_
  refine cG_X8_loom (pc := 2) hF hP lkX8_19 dX8_result_2 ?_
  refine cGN_X0_told (pc := 5) hF hP lkX8_143 dX8_result_5 ?_
  refine cGN_X4_count (pc := 8) hF hP (i := 4) (by omega) lkX8_93 (v := ((x0 1) 4)) rfl dX8_result_8 ?_
  refine cSbp (pc := 11) (x := x0) (y := y0) (g := g0) [.int a1, .int ((x0 1) 4)] hF (kX8_isOutside x0 y0 g0 a1 ((x0 1) 4) h) (cwX8_X8_isOutside hts ⟨Nat.le_of_ble_eq_true rfl, Nat.le_of_ble_eq_true rfl⟩) hP hD hS rfl rfl hl.1 (Nat.le_of_ble_eq_true rfl) dX8_result_11 ⟨by show _ ≤ BC; omega, by show _ ≤ BS; omega⟩ (fun r_11 H locs hb_11 h hP hD hS => ?_)
  refine lv_if_eq (pc := 14) (tgt := 25) hx hb dX8_result_14 (by decide) (fun c_14 => ?_) (fun c_14 => ?_)
  · have h := h.1 c_14
    refine lv_iload_n (pc := 25) hx hb dX8_result_25 rfl (lv_at hl 2 rfl) ?_
    refine lv_iconst (pc := 26) (v := 5) hx hb dX8_result_26 (by decide) ?_
    refine cSbp (pc := 27) (x := x0) (y := y0) (g := g0) [.int a2, .int 5] hF (kX8_isOutside x0 y0 g0 a2 5 h) (cwX8_X8_isOutside hts ⟨Nat.le_of_ble_eq_true rfl, Nat.le_of_ble_eq_true rfl⟩) hP hD hS rfl rfl hl.1 (Nat.le_of_ble_eq_true rfl) dX8_result_27 ⟨by show _ ≤ BC; omega, by show _ ≤ BS; omega⟩ (fun r_27 H locs hb_27 h hP hD hS => ?_)
    refine lv_if_eq (pc := 30) (tgt := 41) hx hb dX8_result_30 (by decide) (fun c_30 => ?_) (fun c_30 => ?_)
    · have h := h.1 c_30
      refine lv_aload_n (pc := 41) hx hb dX8_result_41 rfl (lv_at hl 0 rfl) ?_
      refine cG_X8_loom (pc := 42) hF hP lkX8_19 dX8_result_42 ?_
      refine cGN_X0_told (pc := 45) hF hP lkX8_143 dX8_result_45 ?_
      refine lv_iload_n (pc := 48) hx hb dX8_result_48 rfl (lv_at hl 1 rfl) ?_
      refine lv_iload_n (pc := 49) hx hb dX8_result_49 rfl (lv_at hl 2 rfl) ?_
      refine cVip (pc := 50) (x := x0) (y := y0) (g := g0) [.int a1, .int a2] hF (kX4_get x0 y0 g0 4 a1 a2 h (by omega)) (cwX8_X4_get hts ⟨Nat.le_of_ble_eq_true rfl, Nat.le_of_ble_eq_true rfl⟩) rfl (cA_R _ _ _ _ _ _ _ _ _ _ (i := 4) (by omega)) hP hD hS rfl rfl hl.1 (Nat.le_of_ble_eq_true rfl) dX8_result_50 ⟨by show _ ≤ BC; omega, by show _ ≤ BS; omega⟩ (fun r_50 H locs h hP hD hS => ?_)
      exact vx_ret (zirV (pc := 53) (Wd := cW E ad wd cI cB cP cT) (u := (x0, y0, g0)) hx hb hr hlocks hAe hK hP hD hS rfl dX8_result_53 (by omega) (by omega) ⟨rfl, h⟩)
    · have h := h.2 c_30
      obtain ⟨ec_33, es_33, h⟩ := h
      exact c_throw (pc := 33) hF hP hD hS hlf hexc hlocks hl.1 hAe (names := xn_IAE) (by decide) (by decide) xl_X8_IAE xi_IAE xa_X8_IAE_40 xg_X8_IAE_40 dX8_result_33 dX8_result_36 dX8_result_37 dX8_result_40 ⟨by show _ < (6 : Nat); decide, Nat.le_of_ble_eq_true rfl, by show _ ≤ BC; omega, by show _ ≤ BS; omega⟩ (by omega) (by omega) h
  · have h := h.2 c_14
    obtain ⟨ec_17, es_17, h⟩ := h
    exact c_throw (pc := 17) hF hP hD hS hlf hexc hlocks hl.1 hAe (names := xn_IOB) (by decide) (by decide) xl_X8_IOB xi_IOB xa_X8_IOB_104 xg_X8_IOB_104 dX8_result_17 dX8_result_20 dX8_result_21 dX8_result_24 ⟨by show _ < (6 : Nat); decide, Nat.le_of_ble_eq_true rfl, by show _ ≤ BC; omega, by show _ ≤ BS; omega⟩ (by omega) (by omega) h

def wX8_total (x : Nat → Nat → Int32) (y : Nat → Nat → Nat) (g : Nat → Nat → Nat → Int32) (a1 : Int32) (a2 : Int32) (bc bs : Nat) (Φ : Int32 → Prop) (Ψ : String → (Nat → Nat → Int32) → (Nat → Nat → Nat) → (Nat → Nat → Nat → Int32) → Prop) : Prop := (wX8_isOutside a1 8 (fun r_3 => ((r_3 = 0 → (wX0_totalOfResults x y g a1 a2 (fun r_23 => (Φ r_23)))) ∧ (¬ r_3 = 0 → (1 ≤ bc ∧ 6 ≤ bs ∧ Ψ "java/lang/IndexOutOfBoundsException" x y g)))))
set_option maxRecDepth 100000 in
set_option maxHeartbeats 4000000 in
theorem kX8_total {l : Launch} {D : va_G} {E : va_W} {ad : Nat → Nat → Nat} {wd sk : Nat → Nat} {cI cB cP cT : ClassId} {sz : Nat} (x0 : Nat → Nat → Int32) (y0 : Nat → Nat → Nat) (g0 : Nat → Nat → Nat → Int32) (a1 : Int32) (a2 : Int32) (BC BS : Nat) {Φ : Int32 → Prop} {Ψ : String → (Nat → Nat → Int32) → (Nat → Nat → Nat) → (Nat → Nat → Nat → Int32) → Prop} (hlf : l.stackTraces = false) (h : wX8_total x0 y0 g0 a1 a2 BC BS Φ Ψ) : vx_Met l yX8_total (zws yX8_total cX8_total 3 (some .int)) { frames := 6, cells := BC, slots := BS, locals := 120 } (zPc D (cTy cI cB cP cT) (cX wd sk) (cW E ad wd cI cB cP cT (x0, y0, g0)) [.ref (ad 0 0), .int a1, .int a2] sz) (zQi D (cTy cI cB cP cT) (cW E ad wd cI cB cP cT) (fun r u => u = (x0, y0, g0) ∧ Φ r) (cW E ad wd cI cB cP cT (x0, y0, g0)) sz) (vx_X (S := cS) (fun _ => True) (fun E2 u t => Ψ E2 u.1 u.2.1 u.2.2 ∧ zB D (cTy cI cB cP cT) (cW E ad wd cI cB cP cT) (va_A (cW E ad wd cI cB cP cT (x0, y0, g0)) sz) u t) (va_A (cW E ad wd cI cB cP cT (x0, y0, g0)) sz)) BC BS (va_A (cW E ad wd cI cB cP cT (x0, y0, g0)) sz) := by
  refine zMetX (by decide) (Nat.le_of_ble_eq_true rfl) ?_
  intro p e s m args below meth c A hx hb hr hml hown hts hlocks hexc hsz hAe hA hS hP hK hD hX ls hl
  subst hsz
  have hF : zFx p s m args c cX8_total RX8 A D (cTy cI cB cP cT) (cX wd sk) 3 := ⟨hx, hb, hml, hown, hts, hA, hK, cX_cl wd sk, hX⟩
  have hl : lv_has ls 3 [(0, .ref (ad 0 0)), (1, .int a1), (2, .int a2)] := hl
  have hB : 0 + BC ≤ BC ∧ 0 + BS ≤ BS := ⟨by omega, by omega⟩
  unfold wX8_total at h
  refine lv_iload_n (pc := 0) hx hb dX8_total_0 rfl (lv_at hl 1 rfl) ?_
  refine lv_bipush (pc := 1) (v := 8) hx hb dX8_total_1 (by decide) ?_
  refine cSbp (pc := 3) (x := x0) (y := y0) (g := g0) [.int a1, .int 8] hF (kX8_isOutside x0 y0 g0 a1 8 h) (cwX8_X8_isOutside hts ⟨Nat.le_of_ble_eq_true rfl, Nat.le_of_ble_eq_true rfl⟩) hP hD hS rfl rfl hl.1 (Nat.le_of_ble_eq_true rfl) dX8_total_3 ⟨by show _ ≤ BC; omega, by show _ ≤ BS; omega⟩ (fun r_3 H locs hb_3 h hP hD hS => ?_)
  refine lv_if_eq (pc := 6) (tgt := 17) hx hb dX8_total_6 (by decide) (fun c_6 => ?_) (fun c_6 => ?_)
  · have h := h.1 c_6
    refine lv_aload_n (pc := 17) hx hb dX8_total_17 rfl (lv_at hl 0 rfl) ?_
    refine cG_X8_loom (pc := 18) hF hP lkX8_19 dX8_total_18 ?_
    refine lv_iload_n (pc := 21) hx hb dX8_total_21 rfl (lv_at hl 1 rfl) ?_
    refine lv_iload_n (pc := 22) hx hb dX8_total_22 rfl (lv_at hl 2 rfl) ?_
    refine cVip (pc := 23) (x := x0) (y := y0) (g := g0) [.int a1, .int a2] hF (kX0_totalOfResults x0 y0 g0 a1 a2 h) (cwX8_X0_totalOfResults hts ⟨Nat.le_of_ble_eq_true rfl, Nat.le_of_ble_eq_true rfl⟩) rfl (cA_L ..) hP hD hS rfl rfl hl.1 (Nat.le_of_ble_eq_true rfl) dX8_total_23 ⟨by show _ ≤ BC; omega, by show _ ≤ BS; omega⟩ (fun r_23 H locs h hP hD hS => ?_)
    exact vx_ret (zirV (pc := 26) (Wd := cW E ad wd cI cB cP cT) (u := (x0, y0, g0)) hx hb hr hlocks hAe hK hP hD hS rfl dX8_total_26 (by omega) (by omega) ⟨rfl, h⟩)
  · have h := h.2 c_6
    obtain ⟨ec_9, es_9, h⟩ := h
    exact c_throw (pc := 9) hF hP hD hS hlf hexc hlocks hl.1 hAe (names := xn_IOB) (by decide) (by decide) xl_X8_IOB xi_IOB xa_X8_IOB_104 xg_X8_IOB_104 dX8_total_9 dX8_total_12 dX8_total_13 dX8_total_16 ⟨by show _ < (6 : Nat); decide, Nat.le_of_ble_eq_true rfl, by show _ ≤ BC; omega, by show _ ≤ BS; omega⟩ (by omega) (by omega) h

def wX8_totalAnew (x : Nat → Nat → Int32) (y : Nat → Nat → Nat) (g : Nat → Nat → Nat → Int32) (a1 : Int32) (a2 : Int32) (bc bs : Nat) (Φ : Int32 → Prop) (Ψ : String → (Nat → Nat → Int32) → (Nat → Nat → Nat) → (Nat → Nat → Nat → Int32) → Prop) : Prop := (wX8_isOutside a1 8 (fun r_3 => ((r_3 = 0 → ((((x 15) 0) = 0 → (1 ≤ bc ∧ 6 ≤ bs ∧ Ψ "java/lang/IllegalStateException" x y g)) ∧ (¬ ((x 15) 0) = 0 → ((((y 5) 0) = 10 → (1 ≤ bc ∧ 6 ≤ bs ∧ Ψ "java/lang/IllegalStateException" x y g)) ∧ (¬ ((y 5) 0) = 10 → (wX0_totalOfEvents x y g a1 a2 (fun r_54 => (Φ r_54)))))))) ∧ (¬ r_3 = 0 → (1 ≤ bc ∧ 6 ≤ bs ∧ Ψ "java/lang/IndexOutOfBoundsException" x y g)))))
set_option maxRecDepth 100000 in
set_option maxHeartbeats 4000000 in
theorem kX8_totalAnew {l : Launch} {D : va_G} {E : va_W} {ad : Nat → Nat → Nat} {wd sk : Nat → Nat} {cI cB cP cT : ClassId} {sz : Nat} (x0 : Nat → Nat → Int32) (y0 : Nat → Nat → Nat) (g0 : Nat → Nat → Nat → Int32) (a1 : Int32) (a2 : Int32) (BC BS : Nat) {Φ : Int32 → Prop} {Ψ : String → (Nat → Nat → Int32) → (Nat → Nat → Nat) → (Nat → Nat → Nat → Int32) → Prop} (hlf : l.stackTraces = false) (h : wX8_totalAnew x0 y0 g0 a1 a2 BC BS Φ Ψ) : vx_Met l yX8_totalAnew (zws yX8_totalAnew cX8_totalAnew 3 (some .int)) { frames := 6, cells := BC, slots := BS, locals := 120 } (zPc D (cTy cI cB cP cT) (cX wd sk) (cW E ad wd cI cB cP cT (x0, y0, g0)) [.ref (ad 0 0), .int a1, .int a2] sz) (zQi D (cTy cI cB cP cT) (cW E ad wd cI cB cP cT) (fun r u => u = (x0, y0, g0) ∧ Φ r) (cW E ad wd cI cB cP cT (x0, y0, g0)) sz) (vx_X (S := cS) (fun _ => True) (fun E2 u t => Ψ E2 u.1 u.2.1 u.2.2 ∧ zB D (cTy cI cB cP cT) (cW E ad wd cI cB cP cT) (va_A (cW E ad wd cI cB cP cT (x0, y0, g0)) sz) u t) (va_A (cW E ad wd cI cB cP cT (x0, y0, g0)) sz)) BC BS (va_A (cW E ad wd cI cB cP cT (x0, y0, g0)) sz) := by
  refine zMetX (by decide) (Nat.le_of_ble_eq_true rfl) ?_
  intro p e s m args below meth c A hx hb hr hml hown hts hlocks hexc hsz hAe hA hS hP hK hD hX ls hl
  subst hsz
  have hF : zFx p s m args c cX8_totalAnew RX8 A D (cTy cI cB cP cT) (cX wd sk) 3 := ⟨hx, hb, hml, hown, hts, hA, hK, cX_cl wd sk, hX⟩
  have hl : lv_has ls 3 [(0, .ref (ad 0 0)), (1, .int a1), (2, .int a2)] := hl
  have hB : 0 + BC ≤ BC ∧ 0 + BS ≤ BS := ⟨by omega, by omega⟩
  unfold wX8_totalAnew at h
  refine lv_iload_n (pc := 0) hx hb dX8_totalAnew_0 rfl (lv_at hl 1 rfl) ?_
  refine lv_bipush (pc := 1) (v := 8) hx hb dX8_totalAnew_1 (by decide) ?_
  refine cSbp (pc := 3) (x := x0) (y := y0) (g := g0) [.int a1, .int 8] hF (kX8_isOutside x0 y0 g0 a1 8 h) (cwX8_X8_isOutside hts ⟨Nat.le_of_ble_eq_true rfl, Nat.le_of_ble_eq_true rfl⟩) hP hD hS rfl rfl hl.1 (Nat.le_of_ble_eq_true rfl) dX8_totalAnew_3 ⟨by show _ ≤ BC; omega, by show _ ≤ BS; omega⟩ (fun r_3 H locs hb_3 h hP hD hS => ?_)
  refine lv_if_eq (pc := 6) (tgt := 17) hx hb dX8_totalAnew_6 (by decide) (fun c_6 => ?_) (fun c_6 => ?_)
  · have h := h.1 c_6
    refine lv_aload_n (pc := 17) hx hb dX8_totalAnew_17 rfl (lv_at hl 0 rfl) ?_
    refine cG_X8_isPlanned (pc := 18) hF hP lkX8_30 (v := ((x0 15) 0)) rfl dX8_totalAnew_18 ?_
    refine lv_if_eq (pc := 21) (tgt := 40) hx hb dX8_totalAnew_21 (by decide) (fun c_21 => ?_) (fun c_21 => ?_)
    · have h := h.1 c_21
      obtain ⟨ec_40, es_40, h⟩ := h
      exact c_throw (pc := 40) hF hP hD hS hlf hexc hlocks hl.1 hAe (names := xn_ISE) (by decide) (by decide) xl_X8_ISE xi_ISE xa_X8_ISE_47 xg_X8_ISE_47 dX8_totalAnew_40 dX8_totalAnew_43 dX8_totalAnew_44 dX8_totalAnew_47 ⟨by show _ < (6 : Nat); decide, Nat.le_of_ble_eq_true rfl, by show _ ≤ BC; omega, by show _ ≤ BS; omega⟩ (by omega) (by omega) h
    · have h := h.2 c_21
      refine lv_aload_n (pc := 24) hx hb dX8_totalAnew_24 rfl (lv_at hl 0 rfl) ?_
      refine cG_X8_loom (pc := 25) hF hP lkX8_19 dX8_totalAnew_25 ?_
      refine cGN_X0_query (pc := 28) hF hP lkX8_71 dX8_totalAnew_28 ?_
      refine cGN_X2_shape (pc := 31) hF hP lkX8_182 dX8_totalAnew_31 ?_
      refine c_word (pc := 34) hF hP hS (k := 10) (by decide) rfl lkX8_186 dX8_totalAnew_34 ?_
      refine c_acmp_ne (pc := 37) (i := ((y0 5) 0)) (j := 10) (tgt := 48) hF hP dX8_totalAnew_37 (by decide) (fun c_37 => ?_) (fun c_37 => ?_)
      · have h := h.2 c_37
        refine lv_aload_n (pc := 48) hx hb dX8_totalAnew_48 rfl (lv_at hl 0 rfl) ?_
        refine cG_X8_loom (pc := 49) hF hP lkX8_19 dX8_totalAnew_49 ?_
        refine lv_iload_n (pc := 52) hx hb dX8_totalAnew_52 rfl (lv_at hl 1 rfl) ?_
        refine lv_iload_n (pc := 53) hx hb dX8_totalAnew_53 rfl (lv_at hl 2 rfl) ?_
        refine cVip (pc := 54) (x := x0) (y := y0) (g := g0) [.int a1, .int a2] hF (kX0_totalOfEvents x0 y0 g0 a1 a2 h) (cwX8_X0_totalOfEvents hts ⟨Nat.le_of_ble_eq_true rfl, Nat.le_of_ble_eq_true rfl⟩) rfl (cA_L ..) hP hD hS rfl rfl hl.1 (Nat.le_of_ble_eq_true rfl) dX8_totalAnew_54 ⟨by show _ ≤ BC; omega, by show _ ≤ BS; omega⟩ (fun r_54 H locs h hP hD hS => ?_)
        exact vx_ret (zirV (pc := 57) (Wd := cW E ad wd cI cB cP cT) (u := (x0, y0, g0)) hx hb hr hlocks hAe hK hP hD hS rfl dX8_totalAnew_57 (by omega) (by omega) ⟨rfl, h⟩)
      · have h := h.1 c_37
        obtain ⟨ec_40, es_40, h⟩ := h
        exact c_throw (pc := 40) hF hP hD hS hlf hexc hlocks hl.1 hAe (names := xn_ISE) (by decide) (by decide) xl_X8_ISE xi_ISE xa_X8_ISE_47 xg_X8_ISE_47 dX8_totalAnew_40 dX8_totalAnew_43 dX8_totalAnew_44 dX8_totalAnew_47 ⟨by show _ < (6 : Nat); decide, Nat.le_of_ble_eq_true rfl, by show _ ≤ BC; omega, by show _ ≤ BS; omega⟩ (by omega) (by omega) h
  · have h := h.2 c_6
    obtain ⟨ec_9, es_9, h⟩ := h
    exact c_throw (pc := 9) hF hP hD hS hlf hexc hlocks hl.1 hAe (names := xn_IOB) (by decide) (by decide) xl_X8_IOB xi_IOB xa_X8_IOB_104 xg_X8_IOB_104 dX8_totalAnew_9 dX8_totalAnew_12 dX8_totalAnew_13 dX8_totalAnew_16 ⟨by show _ < (6 : Nat); decide, Nat.le_of_ble_eq_true rfl, by show _ ≤ BC; omega, by show _ ≤ BS; omega⟩ (by omega) (by omega) h

def wX8_barrier (x : Nat → Nat → Int32) (y : Nat → Nat → Nat) (g : Nat → Nat → Nat → Int32) (bc bs : Nat) (Φ : Int32 → (Nat → Nat → Int32) → (Nat → Nat → Nat) → (Nat → Nat → Nat → Int32) → Prop) (Ψ : String → (Nat → Nat → Int32) → (Nat → Nat → Nat) → (Nat → Nat → Nat → Int32) → Prop) : Prop := ((((x 15) 0) = 0 → (1 ≤ bc ∧ 6 ≤ bs ∧ Ψ "java/lang/IllegalStateException" x y g)) ∧ (¬ ((x 15) 0) = 0 → ((((x 13) 0) < 5 → (∃ kc_47 ks_47 bc_47 bs_47 : Nat, kc_47 + bc_47 ≤ bc ∧ ks_47 + bs_47 ≤ bs ∧ (wX5_take x y g 0 ((x 1) 4) kc_47 ks_47 (fun r_47 x_47 y_47 g_47 => (Φ r_47 x_47 y_47 g_47))))) ∧ (¬ ((x 13) 0) < 5 → (1 ≤ bc ∧ 6 ≤ bs ∧ Ψ "java/lang/IllegalStateException" x y g)))))
set_option maxRecDepth 100000 in
set_option maxHeartbeats 4000000 in
theorem kX8_barrier {l : Launch} {D : va_G} {E : va_W} {ad : Nat → Nat → Nat} {wd sk : Nat → Nat} {cI cB cP cT : ClassId} {sz : Nat} (x0 : Nat → Nat → Int32) (y0 : Nat → Nat → Nat) (g0 : Nat → Nat → Nat → Int32) (BC BS : Nat) {Φ : Int32 → (Nat → Nat → Int32) → (Nat → Nat → Nat) → (Nat → Nat → Nat → Int32) → Prop} {Ψ : String → (Nat → Nat → Int32) → (Nat → Nat → Nat) → (Nat → Nat → Nat → Int32) → Prop} (hlf : l.stackTraces = false) (h : wX8_barrier x0 y0 g0 BC BS Φ Ψ) : vx_Met l yX8_barrier (zws yX8_barrier cX8_barrier 1 (some .int)) { frames := 6, cells := BC, slots := BS, locals := 149 } (zPc D (cTy cI cB cP cT) (cX wd sk) (cW E ad wd cI cB cP cT (x0, y0, g0)) [.ref (ad 0 0)] sz) (zQi D (cTy cI cB cP cT) (cW E ad wd cI cB cP cT) (fun r u => Φ r u.1 u.2.1 u.2.2) (cW E ad wd cI cB cP cT (x0, y0, g0)) sz) (vx_X (S := cS) (fun _ => True) (fun E2 u t => Ψ E2 u.1 u.2.1 u.2.2 ∧ zB D (cTy cI cB cP cT) (cW E ad wd cI cB cP cT) (va_A (cW E ad wd cI cB cP cT (x0, y0, g0)) sz) u t) (va_A (cW E ad wd cI cB cP cT (x0, y0, g0)) sz)) BC BS (va_A (cW E ad wd cI cB cP cT (x0, y0, g0)) sz) := by
  refine zMetX (by decide) (Nat.le_of_ble_eq_true rfl) ?_
  intro p e s m args below meth c A hx hb hr hml hown hts hlocks hexc hsz hAe hA hS hP hK hD hX ls hl
  subst hsz
  have hF : zFx p s m args c cX8_barrier RX8 A D (cTy cI cB cP cT) (cX wd sk) 1 := ⟨hx, hb, hml, hown, hts, hA, hK, cX_cl wd sk, hX⟩
  have hl : lv_has ls 1 [(0, .ref (ad 0 0))] := hl
  have hB : 0 + BC ≤ BC ∧ 0 + BS ≤ BS := ⟨by omega, by omega⟩
  unfold wX8_barrier at h
  refine lv_aload_n (pc := 0) hx hb dX8_barrier_0 rfl (lv_at hl 0 rfl) ?_
  refine cG_X8_isPlanned (pc := 1) hF hP lkX8_30 (v := ((x0 15) 0)) rfl dX8_barrier_1 ?_
  refine lv_if_eq (pc := 4) (tgt := 18) hx hb dX8_barrier_4 (by decide) (fun c_4 => ?_) (fun c_4 => ?_)
  · have h := h.1 c_4
    obtain ⟨ec_18, es_18, h⟩ := h
    exact c_throw (pc := 18) hF hP hD hS hlf hexc hlocks hl.1 hAe (names := xn_ISE) (by decide) (by decide) xl_X8_ISE xi_ISE xa_X8_ISE_47 xg_X8_ISE_47 dX8_barrier_18 dX8_barrier_21 dX8_barrier_22 dX8_barrier_25 ⟨by show _ < (6 : Nat); decide, Nat.le_of_ble_eq_true rfl, by show _ ≤ BC; omega, by show _ ≤ BS; omega⟩ (by omega) (by omega) h
  · have h := h.2 c_4
    refine lv_aload_n (pc := 7) hx hb dX8_barrier_7 rfl (lv_at hl 0 rfl) ?_
    refine cG_X8_snapshots (pc := 8) hF hP lkX8_26 dX8_barrier_8 ?_
    refine cGN_X5_count (pc := 11) hF hP lkX8_194 (v := ((x0 13) 0)) rfl dX8_barrier_11 ?_
    refine lv_iconst (pc := 14) (v := 5) hx hb dX8_barrier_14 (by decide) ?_
    refine lv_icmp_lt (pc := 15) (tgt := 26) hx hb dX8_barrier_15 (by decide) (fun c_15 => ?_) (fun c_15 => ?_)
    · have h := h.1 c_15
      refine lv_aload_n (pc := 26) hx hb dX8_barrier_26 rfl (lv_at hl 0 rfl) ?_
      refine cG_X8_snapshots (pc := 27) hF hP lkX8_26 dX8_barrier_27 ?_
      refine lv_aload_n (pc := 30) hx hb dX8_barrier_30 rfl (lv_at hl 0 rfl) ?_
      refine cG_X8_loom (pc := 31) hF hP lkX8_19 dX8_barrier_31 ?_
      refine cGN_X0_now (pc := 34) hF hP lkX8_83 dX8_barrier_34 ?_
      refine lv_aload_n (pc := 37) hx hb dX8_barrier_37 rfl (lv_at hl 0 rfl) ?_
      refine cG_X8_loom (pc := 38) hF hP lkX8_19 dX8_barrier_38 ?_
      refine cGN_X0_told (pc := 41) hF hP lkX8_143 dX8_barrier_41 ?_
      refine cGN_X4_count (pc := 44) hF hP (i := 4) (by omega) lkX8_93 (v := ((x0 1) 4)) rfl dX8_barrier_44 ?_
      obtain ⟨kc_47, ks_47, bc_47, bs_47, ec_47, es_47, h⟩ := h
      refine cVi (pc := 47) (x := x0) (y := y0) (g := g0) [.ref (ad 6 0), .int ((x0 1) 4)] hF (kX5_take x0 y0 g0 0 ((x0 1) 4) kc_47 ks_47 h (by omega)) (cwX8_X5_take hts ⟨Nat.le_of_ble_eq_true rfl, Nat.le_of_ble_eq_true rfl⟩) rfl (cA_N ..) hP hD hS rfl rfl hl.1 (Nat.le_of_ble_eq_true rfl) dX8_barrier_47 ⟨by show _ ≤ BC; omega, by show _ ≤ BS; omega⟩ (fun r_47 x_47 y_47 g_47 H locs h hP hD hS => ?_)
      have hB : (0 + kc_47) + bc_47 ≤ BC ∧ (0 + ks_47) + bs_47 ≤ BS := ⟨by omega, by omega⟩
      exact vx_ret (zirV (pc := 50) (Wd := cW E ad wd cI cB cP cT) (u := (x_47, y_47, g_47)) hx hb hr hlocks hAe hK hP hD hS rfl dX8_barrier_50 (by omega) (by omega) h)
    · have h := h.2 c_15
      obtain ⟨ec_18, es_18, h⟩ := h
      exact c_throw (pc := 18) hF hP hD hS hlf hexc hlocks hl.1 hAe (names := xn_ISE) (by decide) (by decide) xl_X8_ISE xi_ISE xa_X8_ISE_47 xg_X8_ISE_47 dX8_barrier_18 dX8_barrier_21 dX8_barrier_22 dX8_barrier_25 ⟨by show _ < (6 : Nat); decide, Nat.le_of_ble_eq_true rfl, by show _ ≤ BC; omega, by show _ ≤ BS; omega⟩ (by omega) (by omega) h

def wX8_complete (x : Nat → Nat → Int32) (y : Nat → Nat → Nat) (g : Nat → Nat → Nat → Int32) (a1 : Int32) (bc bs : Nat) (Φ : Int32 → (Nat → Nat → Int32) → (Nat → Nat → Nat) → (Nat → Nat → Nat → Int32) → Prop) (Ψ : String → (Nat → Nat → Int32) → (Nat → Nat → Nat) → (Nat → Nat → Nat → Int32) → Prop) : Prop := (wX5_placeOf x y g a1 (fun r_5 => ((r_5 = (-1) → (1 ≤ bc ∧ 6 ≤ bs ∧ Ψ "java/lang/IndexOutOfBoundsException" x y g)) ∧ (¬ r_5 = (-1) → (∀ v3_32 : Int32, v3_32 = ((x 4) 1) → (∃ kc_38 ks_38 bc_38 bs_38 : Nat, kc_38 + bc_38 ≤ bc ∧ ks_38 + bs_38 ≤ bs ∧ (wX5_completeAt x y g r_5 kc_38 ks_38 (fun x_38 y_38 g_38 => (Φ (((x_38 4) 1) - v3_32) x_38 y_38 g_38)))))))))
set_option maxRecDepth 100000 in
set_option maxHeartbeats 4000000 in
theorem kX8_complete {l : Launch} {D : va_G} {E : va_W} {ad : Nat → Nat → Nat} {wd sk : Nat → Nat} {cI cB cP cT : ClassId} {sz : Nat} (x0 : Nat → Nat → Int32) (y0 : Nat → Nat → Nat) (g0 : Nat → Nat → Nat → Int32) (a1 : Int32) (BC BS : Nat) {Φ : Int32 → (Nat → Nat → Int32) → (Nat → Nat → Nat) → (Nat → Nat → Nat → Int32) → Prop} {Ψ : String → (Nat → Nat → Int32) → (Nat → Nat → Nat) → (Nat → Nat → Nat → Int32) → Prop} (hlf : l.stackTraces = false) (h : wX8_complete x0 y0 g0 a1 BC BS Φ Ψ) : vx_Met l yX8_complete (zws yX8_complete cX8_complete 4 (some .int)) { frames := 6, cells := BC, slots := BS, locals := 150 } (zPc D (cTy cI cB cP cT) (cX wd sk) (cW E ad wd cI cB cP cT (x0, y0, g0)) [.ref (ad 0 0), .int a1] sz) (zQi D (cTy cI cB cP cT) (cW E ad wd cI cB cP cT) (fun r u => Φ r u.1 u.2.1 u.2.2) (cW E ad wd cI cB cP cT (x0, y0, g0)) sz) (vx_X (S := cS) (fun _ => True) (fun E2 u t => Ψ E2 u.1 u.2.1 u.2.2 ∧ zB D (cTy cI cB cP cT) (cW E ad wd cI cB cP cT) (va_A (cW E ad wd cI cB cP cT (x0, y0, g0)) sz) u t) (va_A (cW E ad wd cI cB cP cT (x0, y0, g0)) sz)) BC BS (va_A (cW E ad wd cI cB cP cT (x0, y0, g0)) sz) := by
  refine zMetX (by decide) (Nat.le_of_ble_eq_true rfl) ?_
  intro p e s m args below meth c A hx hb hr hml hown hts hlocks hexc hsz hAe hA hS hP hK hD hX ls hl
  subst hsz
  have hF : zFx p s m args c cX8_complete RX8 A D (cTy cI cB cP cT) (cX wd sk) 4 := ⟨hx, hb, hml, hown, hts, hA, hK, cX_cl wd sk, hX⟩
  have hl : lv_has ls 4 [(0, .ref (ad 0 0)), (1, .int a1)] := hl
  have hB : 0 + BC ≤ BC ∧ 0 + BS ≤ BS := ⟨by omega, by omega⟩
  unfold wX8_complete at h
  refine lv_aload_n (pc := 0) hx hb dX8_complete_0 rfl (lv_at hl 0 rfl) ?_
  refine cG_X8_snapshots (pc := 1) hF hP lkX8_26 dX8_complete_1 ?_
  refine lv_iload_n (pc := 4) hx hb dX8_complete_4 rfl (lv_at hl 1 rfl) ?_
  refine cVip (pc := 5) (x := x0) (y := y0) (g := g0) [.int a1] hF (kX5_placeOf x0 y0 g0 a1 h) (cwX8_X5_placeOf hts ⟨Nat.le_of_ble_eq_true rfl, Nat.le_of_ble_eq_true rfl⟩) rfl (cA_N ..) hP hD hS rfl rfl hl.1 (Nat.le_of_ble_eq_true rfl) dX8_complete_5 ⟨by show _ ≤ BC; omega, by show _ ≤ BS; omega⟩ (fun r_5 H locs h hP hD hS => ?_)
  refine lv_istore_n (pc := 8) (lv' := [(2, .int r_5), (0, .ref (ad 0 0)), (1, .int a1)]) hx hb dX8_complete_8 rfl hl (by decide) rfl (fun ls hl => ?_)
  refine lv_iload_n (pc := 9) hx hb dX8_complete_9 rfl (lv_at hl 0 rfl) ?_
  refine lv_iconst (pc := 10) (v := (-1)) hx hb dX8_complete_10 (by decide) ?_
  refine lv_icmp_ne (pc := 11) (tgt := 22) hx hb dX8_complete_11 (by decide) (fun c_11 => ?_) (fun c_11 => ?_)
  · have h := h.2 c_11
    refine lv_aload_n (pc := 22) hx hb dX8_complete_22 rfl (lv_at hl 1 rfl) ?_
    refine cG_X8_snapshots (pc := 23) hF hP lkX8_26 dX8_complete_23 ?_
    refine cGN_X5_completed (pc := 26) hF hP lkX8_173 dX8_complete_26 ?_
    refine cGN_X6_resultCount (pc := 29) hF hP (i := 1) (by omega) lkX8_176 (v := ((x0 4) 1)) rfl dX8_complete_29 ?_
    refine lv_topi (fun v3_32 e_v3_32 => ?_)
    replace h := h v3_32 e_v3_32
    refine lv_istore_n (pc := 32) (lv' := [(3, .int v3_32), (2, .int r_5), (0, .ref (ad 0 0)), (1, .int a1)]) hx hb dX8_complete_32 rfl hl (by decide) rfl (fun ls hl => ?_)
    refine lv_aload_n (pc := 33) hx hb dX8_complete_33 rfl (lv_at hl 2 rfl) ?_
    refine cG_X8_snapshots (pc := 34) hF hP lkX8_26 dX8_complete_34 ?_
    refine lv_iload_n (pc := 37) hx hb dX8_complete_37 rfl (lv_at hl 1 rfl) ?_
    obtain ⟨kc_38, ks_38, bc_38, bs_38, ec_38, es_38, h⟩ := h
    refine cVv (pc := 38) (x := x0) (y := y0) (g := g0) [.int r_5] hF (kX5_completeAt x0 y0 g0 r_5 kc_38 ks_38 h) (cwX8_X5_completeAt hts ⟨Nat.le_of_ble_eq_true rfl, Nat.le_of_ble_eq_true rfl⟩) rfl (cA_N ..) hP hD hS rfl rfl hl.1 (Nat.le_of_ble_eq_true rfl) dX8_complete_38 ⟨by show _ ≤ BC; omega, by show _ ≤ BS; omega⟩ (fun x_38 y_38 g_38 H locs h hP hD hS => ?_)
    have hB : ((0 + 0) + kc_38) + bc_38 ≤ BC ∧ ((0 + 0) + ks_38) + bs_38 ≤ BS := ⟨by omega, by omega⟩
    refine lv_aload_n (pc := 41) hx hb dX8_complete_41 rfl (lv_at hl 2 rfl) ?_
    refine cG_X8_snapshots (pc := 42) hF hP lkX8_26 dX8_complete_42 ?_
    refine cGN_X5_completed (pc := 45) hF hP lkX8_173 dX8_complete_45 ?_
    refine cGN_X6_resultCount (pc := 48) hF hP (i := 1) (by omega) lkX8_176 (v := ((x_38 4) 1)) rfl dX8_complete_48 ?_
    refine lv_iload_n (pc := 51) hx hb dX8_complete_51 rfl (lv_at hl 0 rfl) ?_
    refine lv_isub (pc := 52) hx hb dX8_complete_52 ?_
    exact vx_ret (zirV (pc := 53) (Wd := cW E ad wd cI cB cP cT) (u := (x_38, y_38, g_38)) hx hb hr hlocks hAe hK hP hD hS rfl dX8_complete_53 (by omega) (by omega) h)
  · have h := h.1 c_11
    obtain ⟨ec_14, es_14, h⟩ := h
    exact c_throw (pc := 14) hF hP hD hS hlf hexc hlocks hl.1 hAe (names := xn_IOB) (by decide) (by decide) xl_X8_IOB xi_IOB xa_X8_IOB_104 xg_X8_IOB_104 dX8_complete_14 dX8_complete_17 dX8_complete_18 dX8_complete_21 ⟨by show _ < (6 : Nat); decide, Nat.le_of_ble_eq_true rfl, by show _ ≤ BC; omega, by show _ ≤ BS; omega⟩ (by omega) (by omega) h

def wX8_doubtful (x : Nat → Nat → Int32) (y : Nat → Nat → Nat) (g : Nat → Nat → Nat → Int32) (Φ : Int32 → Prop) : Prop := (Φ ((x 13) 0))
set_option maxRecDepth 100000 in
set_option maxHeartbeats 4000000 in
theorem kX8_doubtful {l : Launch} {D : va_G} {E : va_W} {ad : Nat → Nat → Nat} {wd sk : Nat → Nat} {cI cB cP cT : ClassId} {sz : Nat} (x0 : Nat → Nat → Int32) (y0 : Nat → Nat → Nat) (g0 : Nat → Nat → Nat → Int32) {Φ : Int32 → Prop} (h : wX8_doubtful x0 y0 g0 Φ) : Met l yX8_doubtful (zws yX8_doubtful cX8_doubtful 1 (some .int)) { frames := 0, cells := 0, slots := 0, locals := 0 } (zPc D (cTy cI cB cP cT) (cX wd sk) (cW E ad wd cI cB cP cT (x0, y0, g0)) [.ref (ad 0 0)] sz) (zQi D (cTy cI cB cP cT) (cW E ad wd cI cB cP cT) (fun r u => u = (x0, y0, g0) ∧ Φ r) (cW E ad wd cI cB cP cT (x0, y0, g0)) sz) 0 0 (va_A (cW E ad wd cI cB cP cT (x0, y0, g0)) sz) := by
  refine zMet (by decide) (Nat.le_of_ble_eq_true rfl) ?_
  intro p e s m args below meth c A hx hb hr hml hown hts hlocks hsz hAe hA hS hP hK hD hX ls hl
  subst hsz
  have hF : zFx p s m args c cX8_doubtful RX8 A D (cTy cI cB cP cT) (cX wd sk) 1 := ⟨hx, hb, hml, hown, hts, hA, hK, cX_cl wd sk, hX⟩
  have hl : lv_has ls 1 [(0, .ref (ad 0 0))] := hl
  unfold wX8_doubtful at h
  refine lv_aload_n (pc := 0) hx hb dX8_doubtful_0 rfl (lv_at hl 0 rfl) ?_
  refine cG_X8_snapshots (pc := 1) hF hP lkX8_26 dX8_doubtful_1 ?_
  refine cGN_X5_count (pc := 4) hF hP lkX8_194 (v := ((x0 13) 0)) rfl dX8_doubtful_4 ?_
  exact zirV (pc := 7) (Wd := cW E ad wd cI cB cP cT) (u := (x0, y0, g0)) hx hb hr hlocks hAe hK hP hD hS rfl dX8_doubtful_7 (Nat.le_refl _) (Nat.le_refl _) ⟨rfl, h⟩

def wX8_crash (x : Nat → Nat → Int32) (y : Nat → Nat → Nat) (g : Nat → Nat → Nat → Int32) (bc bs : Nat) (Φ : Int32 → (Nat → Nat → Int32) → (Nat → Nat → Nat) → (Nat → Nat → Nat → Int32) → Prop) (Ψ : String → (Nat → Nat → Int32) → (Nat → Nat → Nat) → (Nat → Nat → Nat → Int32) → Prop) : Prop := ((((x 15) 0) = 0 → (1 ≤ bc ∧ 6 ≤ bs ∧ Ψ "java/lang/IllegalStateException" x y g)) ∧ (¬ ((x 15) 0) = 0 → (∀ v1_25 : Int32, v1_25 = ((x 1) 4) → (wX5_forgetDoubtful x y g (fun x_30 y_30 g_30 => (∃ kc_47 ks_47 bc_47 bs_47 : Nat, kc_47 + bc_47 ≤ bc ∧ ks_47 + bs_47 ≤ bs ∧ (wX6_copyFrom x_30 y_30 g_30 0 1 kc_47 ks_47 (fun x_47 y_47 g_47 => (wX4_cutTo x_47 y_47 g_47 4 ((x_47 4) 1) (fun x_67 y_67 g_67 => (Φ (v1_25 - ((x_67 1) 4)) x_67 y_67 g_67)))))))))))
set_option maxRecDepth 100000 in
set_option maxHeartbeats 4000000 in
theorem kX8_crash {l : Launch} {D : va_G} {E : va_W} {ad : Nat → Nat → Nat} {wd sk : Nat → Nat} {cI cB cP cT : ClassId} {sz : Nat} (x0 : Nat → Nat → Int32) (y0 : Nat → Nat → Nat) (g0 : Nat → Nat → Nat → Int32) (BC BS : Nat) {Φ : Int32 → (Nat → Nat → Int32) → (Nat → Nat → Nat) → (Nat → Nat → Nat → Int32) → Prop} {Ψ : String → (Nat → Nat → Int32) → (Nat → Nat → Nat) → (Nat → Nat → Nat → Int32) → Prop} (hlf : l.stackTraces = false) (h : wX8_crash x0 y0 g0 BC BS Φ Ψ) : vx_Met l yX8_crash (zws yX8_crash cX8_crash 2 (some .int)) { frames := 6, cells := BC, slots := BS, locals := 126 } (zPc D (cTy cI cB cP cT) (cX wd sk) (cW E ad wd cI cB cP cT (x0, y0, g0)) [.ref (ad 0 0)] sz) (zQi D (cTy cI cB cP cT) (cW E ad wd cI cB cP cT) (fun r u => Φ r u.1 u.2.1 u.2.2) (cW E ad wd cI cB cP cT (x0, y0, g0)) sz) (vx_X (S := cS) (fun _ => True) (fun E2 u t => Ψ E2 u.1 u.2.1 u.2.2 ∧ zB D (cTy cI cB cP cT) (cW E ad wd cI cB cP cT) (va_A (cW E ad wd cI cB cP cT (x0, y0, g0)) sz) u t) (va_A (cW E ad wd cI cB cP cT (x0, y0, g0)) sz)) BC BS (va_A (cW E ad wd cI cB cP cT (x0, y0, g0)) sz) := by
  refine zMetX (by decide) (Nat.le_of_ble_eq_true rfl) ?_
  intro p e s m args below meth c A hx hb hr hml hown hts hlocks hexc hsz hAe hA hS hP hK hD hX ls hl
  subst hsz
  have hF : zFx p s m args c cX8_crash RX8 A D (cTy cI cB cP cT) (cX wd sk) 2 := ⟨hx, hb, hml, hown, hts, hA, hK, cX_cl wd sk, hX⟩
  have hl : lv_has ls 2 [(0, .ref (ad 0 0))] := hl
  have hB : 0 + BC ≤ BC ∧ 0 + BS ≤ BS := ⟨by omega, by omega⟩
  unfold wX8_crash at h
  refine lv_aload_n (pc := 0) hx hb dX8_crash_0 rfl (lv_at hl 0 rfl) ?_
  refine cG_X8_isPlanned (pc := 1) hF hP lkX8_30 (v := ((x0 15) 0)) rfl dX8_crash_1 ?_
  refine lv_if_ne (pc := 4) (tgt := 15) hx hb dX8_crash_4 (by decide) (fun c_4 => ?_) (fun c_4 => ?_)
  · have h := h.2 c_4
    refine lv_aload_n (pc := 15) hx hb dX8_crash_15 rfl (lv_at hl 0 rfl) ?_
    refine cG_X8_loom (pc := 16) hF hP lkX8_19 dX8_crash_16 ?_
    refine cGN_X0_told (pc := 19) hF hP lkX8_143 dX8_crash_19 ?_
    refine cGN_X4_count (pc := 22) hF hP (i := 4) (by omega) lkX8_93 (v := ((x0 1) 4)) rfl dX8_crash_22 ?_
    refine lv_topi (fun v1_25 e_v1_25 => ?_)
    replace h := h v1_25 e_v1_25
    refine lv_istore_n (pc := 25) (lv' := [(1, .int v1_25), (0, .ref (ad 0 0))]) hx hb dX8_crash_25 rfl hl (by decide) rfl (fun ls hl => ?_)
    refine lv_aload_n (pc := 26) hx hb dX8_crash_26 rfl (lv_at hl 1 rfl) ?_
    refine cG_X8_snapshots (pc := 27) hF hP lkX8_26 dX8_crash_27 ?_
    refine cVv (pc := 30) (x := x0) (y := y0) (g := g0) [] hF (kX5_forgetDoubtful x0 y0 g0 h) (cwX8_X5_forgetDoubtful hts ⟨Nat.le_of_ble_eq_true rfl, Nat.le_of_ble_eq_true rfl⟩) rfl (cA_N ..) hP hD hS rfl rfl hl.1 (Nat.le_of_ble_eq_true rfl) dX8_crash_30 ⟨by show _ ≤ BC; omega, by show _ ≤ BS; omega⟩ (fun x_30 y_30 g_30 H locs h hP hD hS => ?_)
    refine lv_aload_n (pc := 33) hx hb dX8_crash_33 rfl (lv_at hl 1 rfl) ?_
    refine cG_X8_loom (pc := 34) hF hP lkX8_19 dX8_crash_34 ?_
    refine cGN_X0_now (pc := 37) hF hP lkX8_83 dX8_crash_37 ?_
    refine lv_aload_n (pc := 40) hx hb dX8_crash_40 rfl (lv_at hl 1 rfl) ?_
    refine cG_X8_snapshots (pc := 41) hF hP lkX8_26 dX8_crash_41 ?_
    refine cGN_X5_completed (pc := 44) hF hP lkX8_173 dX8_crash_44 ?_
    obtain ⟨kc_47, ks_47, bc_47, bs_47, ec_47, es_47, h⟩ := h
    refine cVv (pc := 47) (x := x_30) (y := y_30) (g := g_30) [.ref (ad 6 1)] hF (kX6_copyFrom x_30 y_30 g_30 0 1 kc_47 ks_47 h (by omega) (by omega)) (cwX8_X6_copyFrom hts ⟨Nat.le_of_ble_eq_true rfl, Nat.le_of_ble_eq_true rfl⟩) rfl (cA_T _ _ _ _ _ _ _ _ _ _ (i := 0) (by omega)) hP hD hS rfl rfl hl.1 (Nat.le_of_ble_eq_true rfl) dX8_crash_47 ⟨by show _ ≤ BC; omega, by show _ ≤ BS; omega⟩ (fun x_47 y_47 g_47 H locs h hP hD hS => ?_)
    have hB : ((0 + 0) + kc_47) + bc_47 ≤ BC ∧ ((0 + 0) + ks_47) + bs_47 ≤ BS := ⟨by omega, by omega⟩
    refine lv_aload_n (pc := 50) hx hb dX8_crash_50 rfl (lv_at hl 1 rfl) ?_
    refine cG_X8_loom (pc := 51) hF hP lkX8_19 dX8_crash_51 ?_
    refine cGN_X0_told (pc := 54) hF hP lkX8_143 dX8_crash_54 ?_
    refine lv_aload_n (pc := 57) hx hb dX8_crash_57 rfl (lv_at hl 1 rfl) ?_
    refine cG_X8_snapshots (pc := 58) hF hP lkX8_26 dX8_crash_58 ?_
    refine cGN_X5_completed (pc := 61) hF hP lkX8_173 dX8_crash_61 ?_
    refine cGN_X6_resultCount (pc := 64) hF hP (i := 1) (by omega) lkX8_176 (v := ((x_47 4) 1)) rfl dX8_crash_64 ?_
    refine cVv (pc := 67) (x := x_47) (y := y_47) (g := g_47) [.int ((x_47 4) 1)] hF (kX4_cutTo x_47 y_47 g_47 4 ((x_47 4) 1) h (by omega)) (cwX8_X4_cutTo hts ⟨Nat.le_of_ble_eq_true rfl, Nat.le_of_ble_eq_true rfl⟩) rfl (cA_R _ _ _ _ _ _ _ _ _ _ (i := 4) (by omega)) hP hD hS rfl rfl hl.1 (Nat.le_of_ble_eq_true rfl) dX8_crash_67 ⟨by show _ ≤ BC; omega, by show _ ≤ BS; omega⟩ (fun x_67 y_67 g_67 H locs h hP hD hS => ?_)
    refine lv_iload_n (pc := 70) hx hb dX8_crash_70 rfl (lv_at hl 0 rfl) ?_
    refine lv_aload_n (pc := 71) hx hb dX8_crash_71 rfl (lv_at hl 1 rfl) ?_
    refine cG_X8_loom (pc := 72) hF hP lkX8_19 dX8_crash_72 ?_
    refine cGN_X0_told (pc := 75) hF hP lkX8_143 dX8_crash_75 ?_
    refine cGN_X4_count (pc := 78) hF hP (i := 4) (by omega) lkX8_93 (v := ((x_67 1) 4)) rfl dX8_crash_78 ?_
    refine lv_isub (pc := 81) hx hb dX8_crash_81 ?_
    exact vx_ret (zirV (pc := 82) (Wd := cW E ad wd cI cB cP cT) (u := (x_67, y_67, g_67)) hx hb hr hlocks hAe hK hP hD hS rfl dX8_crash_82 (by omega) (by omega) h)
  · have h := h.1 c_4
    obtain ⟨ec_7, es_7, h⟩ := h
    exact c_throw (pc := 7) hF hP hD hS hlf hexc hlocks hl.1 hAe (names := xn_ISE) (by decide) (by decide) xl_X8_ISE xi_ISE xa_X8_ISE_47 xg_X8_ISE_47 dX8_crash_7 dX8_crash_10 dX8_crash_11 dX8_crash_14 ⟨by show _ < (6 : Nat); decide, Nat.le_of_ble_eq_true rfl, by show _ ≤ BC; omega, by show _ ≤ BS; omega⟩ (by omega) (by omega) h

def wX8_workerOf (a0 : Int32) (a1 : Int32) (Φ : Int32 → Prop) : Prop := (Φ ((a0 * a1) / 8))
set_option maxRecDepth 100000 in
set_option maxHeartbeats 4000000 in
theorem kX8_workerOf {l : Launch} {D : va_G} {E : va_W} {ad : Nat → Nat → Nat} {wd sk : Nat → Nat} {cI cB cP cT : ClassId} {sz : Nat} (x0 : Nat → Nat → Int32) (y0 : Nat → Nat → Nat) (g0 : Nat → Nat → Nat → Int32) (a0 : Int32) (a1 : Int32) {Φ : Int32 → Prop} (h : wX8_workerOf a0 a1 Φ) : Met l yX8_workerOf (zws yX8_workerOf cX8_workerOf 2 (some .int)) { frames := 0, cells := 0, slots := 0, locals := 0 } (zPc D (cTy cI cB cP cT) (cX wd sk) (cW E ad wd cI cB cP cT (x0, y0, g0)) [.int a0, .int a1] sz) (zQi D (cTy cI cB cP cT) (cW E ad wd cI cB cP cT) (fun r u => u = (x0, y0, g0) ∧ Φ r) (cW E ad wd cI cB cP cT (x0, y0, g0)) sz) 0 0 (va_A (cW E ad wd cI cB cP cT (x0, y0, g0)) sz) := by
  refine zMet (by decide) (Nat.le_of_ble_eq_true rfl) ?_
  intro p e s m args below meth c A hx hb hr hml hown hts hlocks hsz hAe hA hS hP hK hD hX ls hl
  subst hsz
  have hF : zFx p s m args c cX8_workerOf RX8 A D (cTy cI cB cP cT) (cX wd sk) 2 := ⟨hx, hb, hml, hown, hts, hA, hK, cX_cl wd sk, hX⟩
  have hl : lv_has ls 2 [(0, .int a0), (1, .int a1)] := hl
  unfold wX8_workerOf at h
  refine lv_iload_n (pc := 0) hx hb dX8_workerOf_0 rfl (lv_at hl 0 rfl) ?_
  refine lv_iload_n (pc := 1) hx hb dX8_workerOf_1 rfl (lv_at hl 1 rfl) ?_
  refine lv_imul (pc := 2) hx hb dX8_workerOf_2 ?_
  refine lv_bipush (pc := 3) (v := 8) hx hb dX8_workerOf_3 (by decide) ?_
  refine lv_idiv (pc := 5) hx hb dX8_workerOf_5 (by decide) ?_
  exact zirV (pc := 6) (Wd := cW E ad wd cI cB cP cT) (u := (x0, y0, g0)) hx hb hr hlocks hAe hK hP hD hS rfl dX8_workerOf_6 (Nat.le_refl _) (Nat.le_refl _) ⟨rfl, h⟩

def lX8_workers_22 (Φ : Int32 → (Nat → Nat → Int32) → (Nat → Nat → Nat) → (Nat → Nat → Nat → Int32) → Prop) (Ψ : String → (Nat → Nat → Int32) → (Nat → Nat → Nat) → (Nat → Nat → Nat → Int32) → Prop) : Nat → (Nat → Nat → Int32) → (Nat → Nat → Nat) → (Nat → Nat → Nat → Int32) → Int32 → Int32 → Int32 → Nat → Nat → Prop
  | 0, _, _, _, _, _, _, _, _ => False
  | n22 + 1, x, y, g, v1, v2, v3, bc, bs => ((((x 1) 5) ≤ v3 → (Φ v2 (va_up x 16 (va_up (x 16) 0 v1)) y g)) ∧ (¬ ((x 1) 5) ≤ v3 → (wX4_get x y g 5 v3 0 (fun r_51 => (wX8_workerOf r_51 v1 (fun r_59 => (wX8_workerOf r_51 ((x 16) 0) (fun r_68 => ((r_59 = r_68 → (∀ v3_77 : Int32, v3_77 = v3 + 1 → ((lX8_workers_22 Φ Ψ n22) x y g v1 v2 v3_77 bc bs))) ∧ (¬ r_59 = r_68 → (∀ v2_74 : Int32, v2_74 = v2 + 1 → (∀ v3_77 : Int32, v3_77 = v3 + 1 → ((lX8_workers_22 Φ Ψ n22) x y g v1 v2_74 v3_77 bc bs)))))))))))))
def wX8_workers (x : Nat → Nat → Int32) (y : Nat → Nat → Nat) (g : Nat → Nat → Nat → Int32) (a1 : Int32) (bc bs : Nat) (Φ : Int32 → (Nat → Nat → Int32) → (Nat → Nat → Nat) → (Nat → Nat → Nat → Int32) → Prop) (Ψ : String → (Nat → Nat → Int32) → (Nat → Nat → Nat) → (Nat → Nat → Nat → Int32) → Prop) : Prop := ((a1 < 1 → (1 ≤ bc ∧ 6 ≤ bs ∧ Ψ "java/lang/IllegalArgumentException" x y g)) ∧ (¬ a1 < 1 → ((a1 ≤ 4 → (∃ n22 : Nat, lX8_workers_22 Φ Ψ n22 x y g a1 0 0 bc bs)) ∧ (¬ a1 ≤ 4 → (1 ≤ bc ∧ 6 ≤ bs ∧ Ψ "java/lang/IllegalArgumentException" x y g)))))
set_option maxRecDepth 100000 in
set_option maxHeartbeats 4000000 in
theorem kX8_workers {l : Launch} {D : va_G} {E : va_W} {ad : Nat → Nat → Nat} {wd sk : Nat → Nat} {cI cB cP cT : ClassId} {sz : Nat} (x0 : Nat → Nat → Int32) (y0 : Nat → Nat → Nat) (g0 : Nat → Nat → Nat → Int32) (a1 : Int32) (BC BS : Nat) {Φ : Int32 → (Nat → Nat → Int32) → (Nat → Nat → Nat) → (Nat → Nat → Nat → Int32) → Prop} {Ψ : String → (Nat → Nat → Int32) → (Nat → Nat → Nat) → (Nat → Nat → Nat → Int32) → Prop} (hlf : l.stackTraces = false) (h : wX8_workers x0 y0 g0 a1 BC BS Φ Ψ) : vx_Met l yX8_workers (zws yX8_workers cX8_workers 5 (some .int)) { frames := 6, cells := BC, slots := BS, locals := 120 } (zPc D (cTy cI cB cP cT) (cX wd sk) (cW E ad wd cI cB cP cT (x0, y0, g0)) [.ref (ad 0 0), .int a1] sz) (zQi D (cTy cI cB cP cT) (cW E ad wd cI cB cP cT) (fun r u => Φ r u.1 u.2.1 u.2.2) (cW E ad wd cI cB cP cT (x0, y0, g0)) sz) (vx_X (S := cS) (fun _ => True) (fun E2 u t => Ψ E2 u.1 u.2.1 u.2.2 ∧ zB D (cTy cI cB cP cT) (cW E ad wd cI cB cP cT) (va_A (cW E ad wd cI cB cP cT (x0, y0, g0)) sz) u t) (va_A (cW E ad wd cI cB cP cT (x0, y0, g0)) sz)) BC BS (va_A (cW E ad wd cI cB cP cT (x0, y0, g0)) sz) := by
  refine zMetX (by decide) (Nat.le_of_ble_eq_true rfl) ?_
  intro p e s m args below meth c A hx hb hr hml hown hts hlocks hexc hsz hAe hA hS hP hK hD hX ls hl
  subst hsz
  have hF : zFx p s m args c cX8_workers RX8 A D (cTy cI cB cP cT) (cX wd sk) 5 := ⟨hx, hb, hml, hown, hts, hA, hK, cX_cl wd sk, hX⟩
  have hl : lv_has ls 5 [(0, .ref (ad 0 0)), (1, .int a1)] := hl
  have hB : 0 + BC ≤ BC ∧ 0 + BS ≤ BS := ⟨by omega, by omega⟩
  have L22 : ∀ n22 : Nat, ∀ (x : Nat → Nat → Int32) (y : Nat → Nat → Nat) (g : Nat → Nat → Nat → Int32) (v1 : Int32) (v2 : Int32) (v3 : Int32) (bc bs : Nat), lX8_workers_22 Φ Ψ n22 x y g v1 v2 v3 bc bs → ∀ (cells slots : Nat), (cells + bc ≤ BC ∧ slots + bs ≤ BS) → ∀ (H : Heap) (locs : List Loc) (ls : Array Slot), va_P D vwCl (cW E ad wd cI cB cP cT (x, y, g)) H → va_D A (cW E ad wd cI cB cP cT (x, y, g)) → va_S A s.heap H locs → lv_has ls 5 [(0, .ref (ad 0 0)), (1, .int v1), (2, .int v2), (3, .int v3)] → W p l e { frames := 6, cells := BC, slots := BS, locals := 120 } s m args below meth c H locs cells slots (vx_MQ below (zQi D (cTy cI cB cP cT) (cW E ad wd cI cB cP cT) (fun r u => Φ r u.1 u.2.1 u.2.2) (cW E ad wd cI cB cP cT (x0, y0, g0)) s.heap.size) (vx_X (S := cS) (fun _ => True) (fun E2 u t => Ψ E2 u.1 u.2.1 u.2.2 ∧ zB D (cTy cI cB cP cT) (cW E ad wd cI cB cP cT) (va_A (cW E ad wd cI cB cP cT (x0, y0, g0)) s.heap.size) u t) (va_A (cW E ad wd cI cB cP cT (x0, y0, g0)) s.heap.size)) args s BC BS (va_A (cW E ad wd cI cB cP cT (x0, y0, g0)) s.heap.size)) (F0 m 22 ls []) := by
    intro n22
    induction n22 with
    | zero => intro x y g v1 v2 v3 bc bs h cells slots hB H locs ls hP hD hS hl; exact h.elim
    | succ n22 ih22 =>
      intro x y g v1 v2 v3 bc bs h cells slots hB H locs ls hP hD hS hl
      unfold lX8_workers_22 at h
      refine lv_iload_n (pc := 22) hx hb dX8_workers_22 rfl (lv_at hl 3 rfl) ?_
      refine lv_aload_n (pc := 23) hx hb dX8_workers_23 rfl (lv_at hl 0 rfl) ?_
      refine cG_X8_loom (pc := 24) hF hP lkX8_19 dX8_workers_24 ?_
      refine cGN_X0_now (pc := 27) hF hP lkX8_83 dX8_workers_27 ?_
      refine cGN_X6_windows (pc := 30) hF hP (i := 0) (by omega) lkX8_87 dX8_workers_30 ?_
      refine cGN_X4_count (pc := 33) hF hP (i := 5) (by omega) lkX8_93 (v := ((x 1) 5)) rfl dX8_workers_33 ?_
      refine lv_icmp_ge (pc := 36) (tgt := 83) hx hb dX8_workers_36 (by decide) (fun c_36 => ?_) (fun c_36 => ?_)
      · have h := h.1 c_36
        refine lv_aload_n (pc := 83) hx hb dX8_workers_83 rfl (lv_at hl 0 rfl) ?_
        refine lv_iload_n (pc := 84) hx hb dX8_workers_84 rfl (lv_at hl 1 rfl) ?_
        refine cP_X8_workerCount (pc := 85) hF hP hD hS lkX8_34 dX8_workers_85 (fun H locs hP hD hS => ?_)
        refine lv_iload_n (pc := 88) hx hb dX8_workers_88 rfl (lv_at hl 2 rfl) ?_
        exact vx_ret (zirV (pc := 89) (Wd := cW E ad wd cI cB cP cT) (u := ((va_up x 16 (va_up (x 16) 0 v1)), y, g)) hx hb hr hlocks hAe hK hP hD hS rfl dX8_workers_89 (by omega) (by omega) h)
      · have h := h.2 c_36
        refine lv_aload_n (pc := 39) hx hb dX8_workers_39 rfl (lv_at hl 0 rfl) ?_
        refine cG_X8_loom (pc := 40) hF hP lkX8_19 dX8_workers_40 ?_
        refine cGN_X0_now (pc := 43) hF hP lkX8_83 dX8_workers_43 ?_
        refine cGN_X6_windows (pc := 46) hF hP (i := 0) (by omega) lkX8_87 dX8_workers_46 ?_
        refine lv_iload_n (pc := 49) hx hb dX8_workers_49 rfl (lv_at hl 3 rfl) ?_
        refine lv_iconst (pc := 50) (v := 0) hx hb dX8_workers_50 (by decide) ?_
        refine cVip (pc := 51) (x := x) (y := y) (g := g) [.int v3, .int 0] hF (kX4_get x y g 5 v3 0 h (by omega)) (cwX8_X4_get hts ⟨Nat.le_of_ble_eq_true rfl, Nat.le_of_ble_eq_true rfl⟩) rfl (cA_R _ _ _ _ _ _ _ _ _ _ (i := 5) (by omega)) hP hD hS rfl rfl hl.1 (Nat.le_of_ble_eq_true rfl) dX8_workers_51 ⟨by show _ ≤ BC; omega, by show _ ≤ BS; omega⟩ (fun r_51 H locs h hP hD hS => ?_)
        refine lv_istore (pc := 54) (lv' := [(4, .int r_51), (0, .ref (ad 0 0)), (1, .int v1), (2, .int v2), (3, .int v3)]) hx hb dX8_workers_54 hl (by decide) rfl (fun ls hl => ?_)
        refine lv_iload (pc := 56) hx hb dX8_workers_56 (lv_at hl 0 rfl) ?_
        refine lv_iload_n (pc := 58) hx hb dX8_workers_58 rfl (lv_at hl 2 rfl) ?_
        refine cSip (pc := 59) (x := x) (y := y) (g := g) [.int r_51, .int v1] hF (kX8_workerOf x y g r_51 v1 h) (cwX8_X8_workerOf hts ⟨Nat.le_of_ble_eq_true rfl, Nat.le_of_ble_eq_true rfl⟩) hP hD hS rfl rfl hl.1 (Nat.le_of_ble_eq_true rfl) dX8_workers_59 ⟨by show _ ≤ BC; omega, by show _ ≤ BS; omega⟩ (fun r_59 H locs h hP hD hS => ?_)
        refine lv_iload (pc := 62) hx hb dX8_workers_62 (lv_at hl 0 rfl) ?_
        refine lv_aload_n (pc := 64) hx hb dX8_workers_64 rfl (lv_at hl 1 rfl) ?_
        refine cG_X8_workerCount (pc := 65) hF hP lkX8_34 (v := ((x 16) 0)) rfl dX8_workers_65 ?_
        refine cSip (pc := 68) (x := x) (y := y) (g := g) [.int r_51, .int ((x 16) 0)] hF (kX8_workerOf x y g r_51 ((x 16) 0) h) (cwX8_X8_workerOf hts ⟨Nat.le_of_ble_eq_true rfl, Nat.le_of_ble_eq_true rfl⟩) hP hD hS rfl rfl hl.1 (Nat.le_of_ble_eq_true rfl) dX8_workers_68 ⟨by show _ ≤ BC; omega, by show _ ≤ BS; omega⟩ (fun r_68 H locs h hP hD hS => ?_)
        refine lv_icmp_eq (pc := 71) (tgt := 77) hx hb dX8_workers_71 (by decide) (fun c_71 => ?_) (fun c_71 => ?_)
        · have h := h.1 c_71
          obtain ⟨v3_77, e_v3_77⟩ : ∃ y : Int32, y = v3 + 1 := ⟨_, rfl⟩
          replace h := h v3_77 e_v3_77
          refine lv_iinc (pc := 77) (v := v3_77) (lv' := [(3, .int v3_77), (4, .int r_51), (0, .ref (ad 0 0)), (1, .int v1), (2, .int v2)]) hx hb dX8_workers_77 hl (k := 4) rfl (by rw [e_v3_77]; rfl) (by decide) rfl (fun ls hl => ?_)
          refine lv_goto (pc := 80) (tgt := 22) hx hb dX8_workers_80 (by decide) ?_
          exact ih22 x y g v1 v2 v3_77 bc bs h _ _ hB _ _ _ hP hD hS (lv_sub hl [2, 3, 4, 0] rfl)
        · have h := h.2 c_71
          obtain ⟨v2_74, e_v2_74⟩ : ∃ y : Int32, y = v2 + 1 := ⟨_, rfl⟩
          replace h := h v2_74 e_v2_74
          refine lv_iinc (pc := 74) (v := v2_74) (lv' := [(2, .int v2_74), (4, .int r_51), (0, .ref (ad 0 0)), (1, .int v1), (3, .int v3)]) hx hb dX8_workers_74 hl (k := 3) rfl (by rw [e_v2_74]; rfl) (by decide) rfl (fun ls hl => ?_)
          obtain ⟨v3_77, e_v3_77⟩ : ∃ y : Int32, y = v3 + 1 := ⟨_, rfl⟩
          replace h := h v3_77 e_v3_77
          refine lv_iinc (pc := 77) (v := v3_77) (lv' := [(3, .int v3_77), (2, .int v2_74), (4, .int r_51), (0, .ref (ad 0 0)), (1, .int v1)]) hx hb dX8_workers_77 hl (k := 4) rfl (by rw [e_v3_77]; rfl) (by decide) rfl (fun ls hl => ?_)
          refine lv_goto (pc := 80) (tgt := 22) hx hb dX8_workers_80 (by decide) ?_
          exact ih22 x y g v1 v2_74 v3_77 bc bs h _ _ hB _ _ _ hP hD hS (lv_sub hl [3, 4, 1, 0] rfl)
  unfold wX8_workers at h
  refine lv_iload_n (pc := 0) hx hb dX8_workers_0 rfl (lv_at hl 1 rfl) ?_
  refine lv_iconst (pc := 1) (v := 1) hx hb dX8_workers_1 (by decide) ?_
  refine lv_icmp_lt (pc := 2) (tgt := 10) hx hb dX8_workers_2 (by decide) (fun c_2 => ?_) (fun c_2 => ?_)
  · have h := h.1 c_2
    obtain ⟨ec_10, es_10, h⟩ := h
    exact c_throw (pc := 10) hF hP hD hS hlf hexc hlocks hl.1 hAe (names := xn_IAE) (by decide) (by decide) xl_X8_IAE xi_IAE xa_X8_IAE_40 xg_X8_IAE_40 dX8_workers_10 dX8_workers_13 dX8_workers_14 dX8_workers_17 ⟨by show _ < (6 : Nat); decide, Nat.le_of_ble_eq_true rfl, by show _ ≤ BC; omega, by show _ ≤ BS; omega⟩ (by omega) (by omega) h
  · have h := h.2 c_2
    refine lv_iload_n (pc := 5) hx hb dX8_workers_5 rfl (lv_at hl 1 rfl) ?_
    refine lv_iconst (pc := 6) (v := 4) hx hb dX8_workers_6 (by decide) ?_
    refine lv_icmp_le (pc := 7) (tgt := 18) hx hb dX8_workers_7 (by decide) (fun c_7 => ?_) (fun c_7 => ?_)
    · have h := h.1 c_7
      refine lv_iconst (pc := 18) (v := 0) hx hb dX8_workers_18 (by decide) ?_
      refine lv_istore_n (pc := 19) (lv' := [(2, .int 0), (0, .ref (ad 0 0)), (1, .int a1)]) hx hb dX8_workers_19 rfl hl (by decide) rfl (fun ls hl => ?_)
      refine lv_iconst (pc := 20) (v := 0) hx hb dX8_workers_20 (by decide) ?_
      refine lv_istore_n (pc := 21) (lv' := [(3, .int 0), (2, .int 0), (0, .ref (ad 0 0)), (1, .int a1)]) hx hb dX8_workers_21 rfl hl (by decide) rfl (fun ls hl => ?_)
      obtain ⟨n22, h⟩ := h
      exact L22 n22 x0 y0 g0 a1 0 0 BC BS h _ _ hB _ _ _ hP hD hS (lv_sub hl [2, 3, 1, 0] rfl)
    · have h := h.2 c_7
      obtain ⟨ec_10, es_10, h⟩ := h
      exact c_throw (pc := 10) hF hP hD hS hlf hexc hlocks hl.1 hAe (names := xn_IAE) (by decide) (by decide) xl_X8_IAE xi_IAE xa_X8_IAE_40 xg_X8_IAE_40 dX8_workers_10 dX8_workers_13 dX8_workers_14 dX8_workers_17 ⟨by show _ < (6 : Nat); decide, Nat.le_of_ble_eq_true rfl, by show _ ≤ BC; omega, by show _ ≤ BS; omega⟩ (by omega) (by omega) h

def lX8_load_23 (Φ : Int32 → Prop) (Ψ : String → (Nat → Nat → Int32) → (Nat → Nat → Nat) → (Nat → Nat → Nat → Int32) → Prop) : Nat → (Nat → Nat → Int32) → (Nat → Nat → Nat) → (Nat → Nat → Nat → Int32) → Int32 → Int32 → Int32 → Nat → Nat → Prop
  | 0, _, _, _, _, _, _, _, _ => False
  | n23 + 1, x, y, g, v1, v2, v3, bc, bs => ((((x 1) 5) ≤ v3 → (Φ v2)) ∧ (¬ ((x 1) 5) ≤ v3 → (wX4_get x y g 5 v3 0 (fun r_52 => (wX8_workerOf r_52 ((x 16) 0) (fun r_59 => ((r_59 = v1 → (∀ v2_66 : Int32, v2_66 = v2 + 1 → (∀ v3_69 : Int32, v3_69 = v3 + 1 → ((lX8_load_23 Φ Ψ n23) x y g v1 v2_66 v3_69 bc bs)))) ∧ (¬ r_59 = v1 → (∀ v3_69 : Int32, v3_69 = v3 + 1 → ((lX8_load_23 Φ Ψ n23) x y g v1 v2 v3_69 bc bs))))))))))
def wX8_load (x : Nat → Nat → Int32) (y : Nat → Nat → Nat) (g : Nat → Nat → Nat → Int32) (a1 : Int32) (bc bs : Nat) (Φ : Int32 → Prop) (Ψ : String → (Nat → Nat → Int32) → (Nat → Nat → Nat) → (Nat → Nat → Nat → Int32) → Prop) : Prop := (wX8_isOutside a1 ((x 16) 0) (fun r_5 => ((r_5 = 0 → (∃ n23 : Nat, lX8_load_23 Φ Ψ n23 x y g a1 0 0 bc bs)) ∧ (¬ r_5 = 0 → (1 ≤ bc ∧ 6 ≤ bs ∧ Ψ "java/lang/IndexOutOfBoundsException" x y g)))))
set_option maxRecDepth 100000 in
set_option maxHeartbeats 4000000 in
theorem kX8_load {l : Launch} {D : va_G} {E : va_W} {ad : Nat → Nat → Nat} {wd sk : Nat → Nat} {cI cB cP cT : ClassId} {sz : Nat} (x0 : Nat → Nat → Int32) (y0 : Nat → Nat → Nat) (g0 : Nat → Nat → Nat → Int32) (a1 : Int32) (BC BS : Nat) {Φ : Int32 → Prop} {Ψ : String → (Nat → Nat → Int32) → (Nat → Nat → Nat) → (Nat → Nat → Nat → Int32) → Prop} (hlf : l.stackTraces = false) (h : wX8_load x0 y0 g0 a1 BC BS Φ Ψ) : vx_Met l yX8_load (zws yX8_load cX8_load 4 (some .int)) { frames := 6, cells := BC, slots := BS, locals := 120 } (zPc D (cTy cI cB cP cT) (cX wd sk) (cW E ad wd cI cB cP cT (x0, y0, g0)) [.ref (ad 0 0), .int a1] sz) (zQi D (cTy cI cB cP cT) (cW E ad wd cI cB cP cT) (fun r u => u = (x0, y0, g0) ∧ Φ r) (cW E ad wd cI cB cP cT (x0, y0, g0)) sz) (vx_X (S := cS) (fun _ => True) (fun E2 u t => Ψ E2 u.1 u.2.1 u.2.2 ∧ zB D (cTy cI cB cP cT) (cW E ad wd cI cB cP cT) (va_A (cW E ad wd cI cB cP cT (x0, y0, g0)) sz) u t) (va_A (cW E ad wd cI cB cP cT (x0, y0, g0)) sz)) BC BS (va_A (cW E ad wd cI cB cP cT (x0, y0, g0)) sz) := by
  refine zMetX (by decide) (Nat.le_of_ble_eq_true rfl) ?_
  intro p e s m args below meth c A hx hb hr hml hown hts hlocks hexc hsz hAe hA hS hP hK hD hX ls hl
  subst hsz
  have hF : zFx p s m args c cX8_load RX8 A D (cTy cI cB cP cT) (cX wd sk) 4 := ⟨hx, hb, hml, hown, hts, hA, hK, cX_cl wd sk, hX⟩
  have hl : lv_has ls 4 [(0, .ref (ad 0 0)), (1, .int a1)] := hl
  have hB : 0 + BC ≤ BC ∧ 0 + BS ≤ BS := ⟨by omega, by omega⟩
  have L23 : ∀ n23 : Nat, ∀ (v1 : Int32) (v2 : Int32) (v3 : Int32) (bc bs : Nat), lX8_load_23 Φ Ψ n23 x0 y0 g0 v1 v2 v3 bc bs → ∀ (cells slots : Nat), (cells + bc ≤ BC ∧ slots + bs ≤ BS) → ∀ (H : Heap) (locs : List Loc) (ls : Array Slot), va_P D vwCl (cW E ad wd cI cB cP cT (x0, y0, g0)) H → va_D A (cW E ad wd cI cB cP cT (x0, y0, g0)) → va_S A s.heap H locs → lv_has ls 4 [(0, .ref (ad 0 0)), (1, .int v1), (2, .int v2), (3, .int v3)] → W p l e { frames := 6, cells := BC, slots := BS, locals := 120 } s m args below meth c H locs cells slots (vx_MQ below (zQi D (cTy cI cB cP cT) (cW E ad wd cI cB cP cT) (fun r u => u = (x0, y0, g0) ∧ Φ r) (cW E ad wd cI cB cP cT (x0, y0, g0)) s.heap.size) (vx_X (S := cS) (fun _ => True) (fun E2 u t => Ψ E2 u.1 u.2.1 u.2.2 ∧ zB D (cTy cI cB cP cT) (cW E ad wd cI cB cP cT) (va_A (cW E ad wd cI cB cP cT (x0, y0, g0)) s.heap.size) u t) (va_A (cW E ad wd cI cB cP cT (x0, y0, g0)) s.heap.size)) args s BC BS (va_A (cW E ad wd cI cB cP cT (x0, y0, g0)) s.heap.size)) (F0 m 23 ls []) := by
    intro n23
    induction n23 with
    | zero => intro v1 v2 v3 bc bs h cells slots hB H locs ls hP hD hS hl; exact h.elim
    | succ n23 ih23 =>
      intro v1 v2 v3 bc bs h cells slots hB H locs ls hP hD hS hl
      unfold lX8_load_23 at h
      refine lv_iload_n (pc := 23) hx hb dX8_load_23 rfl (lv_at hl 3 rfl) ?_
      refine lv_aload_n (pc := 24) hx hb dX8_load_24 rfl (lv_at hl 0 rfl) ?_
      refine cG_X8_loom (pc := 25) hF hP lkX8_19 dX8_load_25 ?_
      refine cGN_X0_now (pc := 28) hF hP lkX8_83 dX8_load_28 ?_
      refine cGN_X6_windows (pc := 31) hF hP (i := 0) (by omega) lkX8_87 dX8_load_31 ?_
      refine cGN_X4_count (pc := 34) hF hP (i := 5) (by omega) lkX8_93 (v := ((x0 1) 5)) rfl dX8_load_34 ?_
      refine lv_icmp_ge (pc := 37) (tgt := 75) hx hb dX8_load_37 (by decide) (fun c_37 => ?_) (fun c_37 => ?_)
      · have h := h.1 c_37
        refine lv_iload_n (pc := 75) hx hb dX8_load_75 rfl (lv_at hl 2 rfl) ?_
        exact vx_ret (zirV (pc := 76) (Wd := cW E ad wd cI cB cP cT) (u := (x0, y0, g0)) hx hb hr hlocks hAe hK hP hD hS rfl dX8_load_76 (by omega) (by omega) ⟨rfl, h⟩)
      · have h := h.2 c_37
        refine lv_aload_n (pc := 40) hx hb dX8_load_40 rfl (lv_at hl 0 rfl) ?_
        refine cG_X8_loom (pc := 41) hF hP lkX8_19 dX8_load_41 ?_
        refine cGN_X0_now (pc := 44) hF hP lkX8_83 dX8_load_44 ?_
        refine cGN_X6_windows (pc := 47) hF hP (i := 0) (by omega) lkX8_87 dX8_load_47 ?_
        refine lv_iload_n (pc := 50) hx hb dX8_load_50 rfl (lv_at hl 3 rfl) ?_
        refine lv_iconst (pc := 51) (v := 0) hx hb dX8_load_51 (by decide) ?_
        refine cVip (pc := 52) (x := x0) (y := y0) (g := g0) [.int v3, .int 0] hF (kX4_get x0 y0 g0 5 v3 0 h (by omega)) (cwX8_X4_get hts ⟨Nat.le_of_ble_eq_true rfl, Nat.le_of_ble_eq_true rfl⟩) rfl (cA_R _ _ _ _ _ _ _ _ _ _ (i := 5) (by omega)) hP hD hS rfl rfl hl.1 (Nat.le_of_ble_eq_true rfl) dX8_load_52 ⟨by show _ ≤ BC; omega, by show _ ≤ BS; omega⟩ (fun r_52 H locs h hP hD hS => ?_)
        refine lv_aload_n (pc := 55) hx hb dX8_load_55 rfl (lv_at hl 0 rfl) ?_
        refine cG_X8_workerCount (pc := 56) hF hP lkX8_34 (v := ((x0 16) 0)) rfl dX8_load_56 ?_
        refine cSip (pc := 59) (x := x0) (y := y0) (g := g0) [.int r_52, .int ((x0 16) 0)] hF (kX8_workerOf x0 y0 g0 r_52 ((x0 16) 0) h) (cwX8_X8_workerOf hts ⟨Nat.le_of_ble_eq_true rfl, Nat.le_of_ble_eq_true rfl⟩) hP hD hS rfl rfl hl.1 (Nat.le_of_ble_eq_true rfl) dX8_load_59 ⟨by show _ ≤ BC; omega, by show _ ≤ BS; omega⟩ (fun r_59 H locs h hP hD hS => ?_)
        refine lv_iload_n (pc := 62) hx hb dX8_load_62 rfl (lv_at hl 1 rfl) ?_
        refine lv_icmp_ne (pc := 63) (tgt := 69) hx hb dX8_load_63 (by decide) (fun c_63 => ?_) (fun c_63 => ?_)
        · have h := h.2 c_63
          obtain ⟨v3_69, e_v3_69⟩ : ∃ y : Int32, y = v3 + 1 := ⟨_, rfl⟩
          replace h := h v3_69 e_v3_69
          refine lv_iinc (pc := 69) (v := v3_69) (lv' := [(3, .int v3_69), (0, .ref (ad 0 0)), (1, .int v1), (2, .int v2)]) hx hb dX8_load_69 hl (k := 3) rfl (by rw [e_v3_69]; rfl) (by decide) rfl (fun ls hl => ?_)
          refine lv_goto (pc := 72) (tgt := 23) hx hb dX8_load_72 (by decide) ?_
          exact ih23 v1 v2 v3_69 bc bs h _ _ hB _ _ _ hP hD hS (lv_sub hl [1, 2, 3, 0] rfl)
        · have h := h.1 c_63
          obtain ⟨v2_66, e_v2_66⟩ : ∃ y : Int32, y = v2 + 1 := ⟨_, rfl⟩
          replace h := h v2_66 e_v2_66
          refine lv_iinc (pc := 66) (v := v2_66) (lv' := [(2, .int v2_66), (0, .ref (ad 0 0)), (1, .int v1), (3, .int v3)]) hx hb dX8_load_66 hl (k := 2) rfl (by rw [e_v2_66]; rfl) (by decide) rfl (fun ls hl => ?_)
          obtain ⟨v3_69, e_v3_69⟩ : ∃ y : Int32, y = v3 + 1 := ⟨_, rfl⟩
          replace h := h v3_69 e_v3_69
          refine lv_iinc (pc := 69) (v := v3_69) (lv' := [(3, .int v3_69), (2, .int v2_66), (0, .ref (ad 0 0)), (1, .int v1)]) hx hb dX8_load_69 hl (k := 3) rfl (by rw [e_v3_69]; rfl) (by decide) rfl (fun ls hl => ?_)
          refine lv_goto (pc := 72) (tgt := 23) hx hb dX8_load_72 (by decide) ?_
          exact ih23 v1 v2_66 v3_69 bc bs h _ _ hB _ _ _ hP hD hS (lv_sub hl [2, 3, 1, 0] rfl)
  unfold wX8_load at h
  refine lv_iload_n (pc := 0) hx hb dX8_load_0 rfl (lv_at hl 1 rfl) ?_
  refine lv_aload_n (pc := 1) hx hb dX8_load_1 rfl (lv_at hl 0 rfl) ?_
  refine cG_X8_workerCount (pc := 2) hF hP lkX8_34 (v := ((x0 16) 0)) rfl dX8_load_2 ?_
  refine cSbp (pc := 5) (x := x0) (y := y0) (g := g0) [.int a1, .int ((x0 16) 0)] hF (kX8_isOutside x0 y0 g0 a1 ((x0 16) 0) h) (cwX8_X8_isOutside hts ⟨Nat.le_of_ble_eq_true rfl, Nat.le_of_ble_eq_true rfl⟩) hP hD hS rfl rfl hl.1 (Nat.le_of_ble_eq_true rfl) dX8_load_5 ⟨by show _ ≤ BC; omega, by show _ ≤ BS; omega⟩ (fun r_5 H locs hb_5 h hP hD hS => ?_)
  refine lv_if_eq (pc := 8) (tgt := 19) hx hb dX8_load_8 (by decide) (fun c_8 => ?_) (fun c_8 => ?_)
  · have h := h.1 c_8
    refine lv_iconst (pc := 19) (v := 0) hx hb dX8_load_19 (by decide) ?_
    refine lv_istore_n (pc := 20) (lv' := [(2, .int 0), (0, .ref (ad 0 0)), (1, .int a1)]) hx hb dX8_load_20 rfl hl (by decide) rfl (fun ls hl => ?_)
    refine lv_iconst (pc := 21) (v := 0) hx hb dX8_load_21 (by decide) ?_
    refine lv_istore_n (pc := 22) (lv' := [(3, .int 0), (2, .int 0), (0, .ref (ad 0 0)), (1, .int a1)]) hx hb dX8_load_22 rfl hl (by decide) rfl (fun ls hl => ?_)
    obtain ⟨n23, h⟩ := h
    exact L23 n23 a1 0 0 BC BS h _ _ hB _ _ _ hP hD hS (lv_sub hl [2, 3, 1, 0] rfl)
  · have h := h.2 c_8
    obtain ⟨ec_11, es_11, h⟩ := h
    exact c_throw (pc := 11) hF hP hD hS hlf hexc hlocks hl.1 hAe (names := xn_IOB) (by decide) (by decide) xl_X8_IOB xi_IOB xa_X8_IOB_104 xg_X8_IOB_104 dX8_load_11 dX8_load_14 dX8_load_15 dX8_load_18 ⟨by show _ < (6 : Nat); decide, Nat.le_of_ble_eq_true rfl, by show _ ≤ BC; omega, by show _ ≤ BS; omega⟩ (by omega) (by omega) h
