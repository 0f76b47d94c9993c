def wX8_type (x : Nat → Nat → Int32) (y : Nat → Nat → Nat) (g : Nat → Nat → Nat → Int32) (a1 : Int32) (bc bs : Nat) (Φ : Int32 → (Nat → Nat → Int32) → (Nat → Nat → Nat) → (Nat → Nat → Nat → Int32) → Prop) (Ψ : String → (Nat → Nat → Int32) → (Nat → Nat → Nat) → (Nat → Nat → Nat → Int32) → Prop) : Prop := ((a1 < 32 → (1 ≤ bc ∧ 6 ≤ bs ∧ Ψ "java/lang/IllegalArgumentException" x y g)) ∧ (¬ a1 < 32 → ((a1 ≤ 126 → (wJ4_length_8abf5 x y g (fun r_24 => ((r_24 < 60 → (∃ kc_45 ks_45 bc_45 bs_45 : Nat, kc_45 + bc_45 ≤ bc ∧ ks_45 + bs_45 ≤ bs ∧ (wJ4_append_cf468 x y g a1 kc_45 ks_45 (fun x_45 y_45 g_45 => (wJ4_length_8abf5 x_45 y_45 g_45 (fun r_53 => (Φ r_53 x_45 y_45 g_45))))))) ∧ (¬ r_24 < 60 → (1 ≤ bc ∧ 6 ≤ bs ∧ Ψ "java/lang/IllegalStateException" x y g)))))) ∧ (¬ a1 ≤ 126 → (1 ≤ bc ∧ 6 ≤ bs ∧ Ψ "java/lang/IllegalArgumentException" x y g)))))
set_option maxRecDepth 100000 in
set_option maxHeartbeats 4000000 in
theorem kX8_type {l : Launch} {D : va_G} {E : va_W} {ad : Nat → Nat → Nat} {wd sk : Nat → Nat} {cI cB cP cT : ClassId} {sz : Nat} (x0 : Nat → Nat → Int32) (y0 : Nat → Nat → Nat) (g0 : Nat → Nat → Nat → Int32) (a1 : Int32) (BC BS : Nat) {Φ : Int32 → (Nat → Nat → Int32) → (Nat → Nat → Nat) → (Nat → Nat → Nat → Int32) → Prop} {Ψ : String → (Nat → Nat → Int32) → (Nat → Nat → Nat) → (Nat → Nat → Nat → Int32) → Prop} (hlf : l.stackTraces = false) (h : wX8_type x0 y0 g0 a1 BC BS Φ Ψ) : vx_Met l yX8_type (zws yX8_type cX8_type 2 (some .int)) { frames := 6, cells := BC, slots := BS, locals := 172 } (zPc D (cTy cI cB cP cT) (cX wd sk) (cW E ad wd cI cB cP cT (x0, y0, g0)) [.ref (ad 0 0), .int a1] sz) (zQi D (cTy cI cB cP cT) (cW E ad wd cI cB cP cT) (fun r u => Φ r u.1 u.2.1 u.2.2) (cW E ad wd cI cB cP cT (x0, y0, g0)) sz) (vx_X (S := cS) (fun _ => True) (fun E2 u t => Ψ E2 u.1 u.2.1 u.2.2 ∧ zB D (cTy cI cB cP cT) (cW E ad wd cI cB cP cT) (va_A (cW E ad wd cI cB cP cT (x0, y0, g0)) sz) u t) (va_A (cW E ad wd cI cB cP cT (x0, y0, g0)) sz)) BC BS (va_A (cW E ad wd cI cB cP cT (x0, y0, g0)) sz) := by
  refine zMetX (by decide) (Nat.le_of_ble_eq_true rfl) ?_
  intro p e s m args below meth c A hx hb hr hml hown hts hlocks hexc hsz hAe hA hS hP hK hD hX ls hl
  subst hsz
  have hF : zFx p s m args c cX8_type RX8 A D (cTy cI cB cP cT) (cX wd sk) 2 := ⟨hx, hb, hml, hown, hts, hA, hK, cX_cl wd sk, hX⟩
  have hl : lv_has ls 2 [(0, .ref (ad 0 0)), (1, .int a1)] := hl
  have hB : 0 + BC ≤ BC ∧ 0 + BS ≤ BS := ⟨by omega, by omega⟩
  unfold wX8_type at h
  refine lv_iload_n (pc := 0) hx hb dX8_type_0 rfl (lv_at hl 1 rfl) ?_
  refine lv_bipush (pc := 1) (v := 32) hx hb dX8_type_1 (by decide) ?_
  refine lv_icmp_lt (pc := 3) (tgt := 12) hx hb dX8_type_3 (by decide) (fun c_3 => ?_) (fun c_3 => ?_)
  · have h := h.1 c_3
    obtain ⟨ec_12, es_12, h⟩ := h
    exact c_throw (pc := 12) hF hP hD hS hlf hexc hlocks hl.1 hAe (names := xn_IAE) (by decide) (by decide) xl_X8_IAE xi_IAE xa_X8_IAE_40 xg_X8_IAE_40 dX8_type_12 dX8_type_15 dX8_type_16 dX8_type_19 ⟨by show _ < (6 : Nat); decide, Nat.le_of_ble_eq_true rfl, by show _ ≤ BC; omega, by show _ ≤ BS; omega⟩ (by (try dsimp only); omega) (by (try dsimp only); omega) h
  · have h := h.2 c_3
    refine lv_iload_n (pc := 6) hx hb dX8_type_6 rfl (lv_at hl 1 rfl) ?_
    refine lv_bipush (pc := 7) (v := 126) hx hb dX8_type_7 (by decide) ?_
    refine lv_icmp_le (pc := 9) (tgt := 20) hx hb dX8_type_9 (by decide) (fun c_9 => ?_) (fun c_9 => ?_)
    · have h := h.1 c_9
      refine lv_aload_n (pc := 20) hx hb dX8_type_20 rfl (lv_at hl 0 rfl) ?_
      refine cG_X8_text (pc := 21) hF hP lkX8_10 dX8_type_21 ?_
      refine dKip (pc := 24) (Wd := cW E ad wd cI cB cP cT) (u0 := (x0, y0, g0)) hF hD hS (zrV [] hF (kJ4_length_8abf5 x0 y0 g0 h) (cwX8_J4_length_8abf5 hts ⟨Nat.le_of_ble_eq_true rfl, Nat.le_of_ble_eq_true rfl⟩) (d_rP hF hP (ci := 1) (q0 := 1) rfl (cA_SB ..)) hP hD hS rfl rfl hl.1 (Nat.le_of_ble_eq_true rfl) dX8_type_24 ⟨by show _ ≤ BC; (try dsimp only); omega, by show _ ≤ BS; (try dsimp only); omega⟩) (fun r_24 H locs h (hP : va_P D vwCl (cW E ad wd cI cB cP cT (x0, y0, g0)) H) (hD : va_D A (cW E ad wd cI cB cP cT (x0, y0, g0))) hS => ?_)
      refine lv_bipush (pc := 27) (v := 60) hx hb dX8_type_27 (by decide) ?_
      refine lv_icmp_lt (pc := 29) (tgt := 40) hx hb dX8_type_29 (by decide) (fun c_29 => ?_) (fun c_29 => ?_)
      · have h := h.1 c_29
        refine lv_aload_n (pc := 40) hx hb dX8_type_40 rfl (lv_at hl 0 rfl) ?_
        refine cG_X8_text (pc := 41) hF hP lkX8_10 dX8_type_41 ?_
        refine lv_iload_n (pc := 44) hx hb dX8_type_44 rfl (lv_at hl 1 rfl) ?_
        obtain ⟨kc_45, ks_45, bc_45, bs_45, ec_45, es_45, h⟩ := h
        refine dKr (pc := 45) (Wd := cW E ad wd cI cB cP cT) (u0 := (x0, y0, g0)) hF hD hS (zrV [.int a1] hF (kJ4_append_cf468 x0 y0 g0 a1 kc_45 ks_45 h) (cwX8_J4_append_cf468 hts ⟨Nat.le_of_ble_eq_true rfl, Nat.le_of_ble_eq_true rfl⟩) (d_rP hF hP (ci := 1) (q0 := 1) rfl (cA_SB ..)) hP hD hS rfl rfl hl.1 (Nat.le_of_ble_eq_true rfl) dX8_type_45 ⟨by show _ ≤ BC; (try dsimp only); omega, by show _ ≤ BS; (try dsimp only); omega⟩) (fun x_45 y_45 g_45 H locs h (hP : va_P D vwCl (cW E ad wd cI cB cP cT (x_45, y_45, g_45)) H) (hD : va_D A (cW E ad wd cI cB cP cT (x_45, y_45, g_45))) hS => ?_)
        have hB : ((0 + 0) + kc_45) + bc_45 ≤ BC ∧ ((0 + 0) + ks_45) + bs_45 ≤ BS := ⟨by (try dsimp only); omega, by (try dsimp only); omega⟩
        refine lv_pop (pc := 48) hx hb dX8_type_48 rfl ?_
        refine lv_aload_n (pc := 49) hx hb dX8_type_49 rfl (lv_at hl 0 rfl) ?_
        refine cG_X8_text (pc := 50) hF hP lkX8_10 dX8_type_50 ?_
        refine dKip (pc := 53) (Wd := cW E ad wd cI cB cP cT) (u0 := (x_45, y_45, g_45)) hF hD hS (zrV [] hF (kJ4_length_8abf5 x_45 y_45 g_45 h) (cwX8_J4_length_8abf5 hts ⟨Nat.le_of_ble_eq_true rfl, Nat.le_of_ble_eq_true rfl⟩) (d_rP hF hP (ci := 1) (q0 := 1) rfl (cA_SB ..)) hP hD hS rfl rfl hl.1 (Nat.le_of_ble_eq_true rfl) dX8_type_53 ⟨by show _ ≤ BC; (try dsimp only); omega, by show _ ≤ BS; (try dsimp only); omega⟩) (fun r_53 H locs h (hP : va_P D vwCl (cW E ad wd cI cB cP cT (x_45, y_45, g_45)) H) (hD : va_D A (cW E ad wd cI cB cP cT (x_45, y_45, g_45))) hS => ?_)
        exact vx_ret (zirV (pc := 56) (Wd := cW E ad wd cI cB cP cT) (u := (x_45, y_45, g_45)) hx hb hr hlocks hAe hK hP hD hS rfl dX8_type_56 (by (try dsimp only); omega) (by (try dsimp only); omega) h)
      · have h := h.2 c_29
        obtain ⟨ec_32, es_32, h⟩ := h
        exact c_throw (pc := 32) hF hP hD hS hlf hexc hlocks hl.1 hAe (names := xn_ISE) (by decide) (by decide) xl_X8_ISE xi_ISE xa_X8_ISE_47 xg_X8_ISE_47 dX8_type_32 dX8_type_35 dX8_type_36 dX8_type_39 ⟨by show _ < (6 : Nat); decide, Nat.le_of_ble_eq_true rfl, by show _ ≤ BC; omega, by show _ ≤ BS; omega⟩ (by (try dsimp only); omega) (by (try dsimp only); omega) h
    · have h := h.2 c_9
      obtain ⟨ec_12, es_12, h⟩ := h
      exact c_throw (pc := 12) hF hP hD hS hlf hexc hlocks hl.1 hAe (names := xn_IAE) (by decide) (by decide) xl_X8_IAE xi_IAE xa_X8_IAE_40 xg_X8_IAE_40 dX8_type_12 dX8_type_15 dX8_type_16 dX8_type_19 ⟨by show _ < (6 : Nat); decide, Nat.le_of_ble_eq_true rfl, by show _ ≤ BC; omega, by show _ ≤ BS; omega⟩ (by (try dsimp only); omega) (by (try dsimp only); omega) h

def wX8_wipe (x : Nat → Nat → Int32) (y : Nat → Nat → Nat) (g : Nat → Nat → Nat → Int32) (bc bs : Nat) (Φ : Int32 → (Nat → Nat → Int32) → (Nat → Nat → Nat) → (Nat → Nat → Nat → Int32) → Prop) : Prop := (wJ4_length_8abf5 x y g (fun r_4 => (∃ kc_13 ks_13 bc_13 bs_13 : Nat, kc_13 + bc_13 ≤ bc ∧ ks_13 + bs_13 ≤ bs ∧ (wJ4_setLength_d00df x y g 0 kc_13 ks_13 (fun x_13 y_13 g_13 => (Φ r_4 x_13 y_13 g_13))))))
set_option maxRecDepth 100000 in
set_option maxHeartbeats 4000000 in
theorem kX8_wipe {l : Launch} {D : va_G} {E : va_W} {ad : Nat → Nat → Nat} {wd sk : Nat → Nat} {cI cB cP cT : ClassId} {sz : Nat} (x0 : Nat → Nat → Int32) (y0 : Nat → Nat → Nat) (g0 : Nat → Nat → Nat → Int32) (BC BS : Nat) {Φ : Int32 → (Nat → Nat → Int32) → (Nat → Nat → Nat) → (Nat → Nat → Nat → Int32) → Prop} (h : wX8_wipe x0 y0 g0 BC BS Φ) : Met l yX8_wipe (zws yX8_wipe cX8_wipe 2 (some .int)) { frames := 6, cells := BC, slots := BS, locals := 172 } (zPc D (cTy cI cB cP cT) (cX wd sk) (cW E ad wd cI cB cP cT (x0, y0, g0)) [.ref (ad 0 0)] sz) (zQi D (cTy cI cB cP cT) (cW E ad wd cI cB cP cT) (fun r u => Φ r u.1 u.2.1 u.2.2) (cW E ad wd cI cB cP cT (x0, y0, g0)) sz) BC BS (va_A (cW E ad wd cI cB cP cT (x0, y0, g0)) sz) := by
  refine zMet (by decide) (Nat.le_of_ble_eq_true rfl) ?_
  intro p e s m args below meth c A hx hb hr hml hown hts hlocks hsz hAe hA hS hP hK hD hX ls hl
  subst hsz
  have hF : zFx p s m args c cX8_wipe RX8 A D (cTy cI cB cP cT) (cX wd sk) 2 := ⟨hx, hb, hml, hown, hts, hA, hK, cX_cl wd sk, hX⟩
  have hl : lv_has ls 2 [(0, .ref (ad 0 0))] := hl
  have hB : 0 + BC ≤ BC ∧ 0 + BS ≤ BS := ⟨by omega, by omega⟩
  unfold wX8_wipe at h
  refine lv_aload_n (pc := 0) hx hb dX8_wipe_0 rfl (lv_at hl 0 rfl) ?_
  refine cG_X8_text (pc := 1) hF hP lkX8_10 dX8_wipe_1 ?_
  refine dKip (pc := 4) (Wd := cW E ad wd cI cB cP cT) (u0 := (x0, y0, g0)) hF hD hS (zrV [] hF (kJ4_length_8abf5 x0 y0 g0 h) (cwX8_J4_length_8abf5 hts ⟨Nat.le_of_ble_eq_true rfl, Nat.le_of_ble_eq_true rfl⟩) (d_rP hF hP (ci := 1) (q0 := 1) rfl (cA_SB ..)) hP hD hS rfl rfl hl.1 (Nat.le_of_ble_eq_true rfl) dX8_wipe_4 ⟨by show _ ≤ BC; (try dsimp only); omega, by show _ ≤ BS; (try dsimp only); omega⟩) (fun r_4 H locs h (hP : va_P D vwCl (cW E ad wd cI cB cP cT (x0, y0, g0)) H) (hD : va_D A (cW E ad wd cI cB cP cT (x0, y0, g0))) hS => ?_)
  refine lv_istore_n (pc := 7) (lv' := [(1, .int r_4), (0, .ref (ad 0 0))]) hx hb dX8_wipe_7 rfl hl (by decide) rfl (fun ls hl => ?_)
  refine lv_aload_n (pc := 8) hx hb dX8_wipe_8 rfl (lv_at hl 1 rfl) ?_
  refine cG_X8_text (pc := 9) hF hP lkX8_10 dX8_wipe_9 ?_
  refine lv_iconst (pc := 12) (v := 0) hx hb dX8_wipe_12 (by decide) ?_
  obtain ⟨kc_13, ks_13, bc_13, bs_13, ec_13, es_13, h⟩ := h
  refine dKv (pc := 13) (Wd := cW E ad wd cI cB cP cT) (u0 := (x0, y0, g0)) hF hD hS (zrV [.int 0] hF (kJ4_setLength_d00df x0 y0 g0 0 kc_13 ks_13 h) (cwX8_J4_setLength_d00df hts ⟨Nat.le_of_ble_eq_true rfl, Nat.le_of_ble_eq_true rfl⟩) (d_rP hF hP (ci := 1) (q0 := 1) rfl (cA_SB ..)) hP hD hS rfl rfl hl.1 (Nat.le_of_ble_eq_true rfl) dX8_wipe_13 ⟨by show _ ≤ BC; (try dsimp only); omega, by show _ ≤ BS; (try dsimp only); omega⟩) (fun x_13 y_13 g_13 H locs h (hP : va_P D vwCl (cW E ad wd cI cB cP cT (x_13, y_13, g_13)) H) (hD : va_D A (cW E ad wd cI cB cP cT (x_13, y_13, g_13))) hS => ?_)
  have hB : ((0 + 0) + kc_13) + bc_13 ≤ BC ∧ ((0 + 0) + ks_13) + bs_13 ≤ BS := ⟨by (try dsimp only); omega, by (try dsimp only); omega⟩
  refine lv_iload_n (pc := 16) hx hb dX8_wipe_16 rfl (lv_at hl 0 rfl) ?_
  exact zirV (pc := 17) (Wd := cW E ad wd cI cB cP cT) (u := (x_13, y_13, g_13)) hx hb hr hlocks hAe hK hP hD hS rfl dX8_wipe_17 (by (try dsimp only); omega) (by (try dsimp only); omega) h
