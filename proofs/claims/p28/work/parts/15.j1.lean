def wJ5_length_8abf5 (x : Nat → Nat → Int32) (y : Nat → Nat → Nat) (g : Nat → Nat → Nat → Int32) (Φ : Int32 → Prop) : Prop := (Φ ((x 19) 0))
set_option maxRecDepth 100000 in
set_option maxHeartbeats 4000000 in
theorem kJ5_length_8abf5 {l : Launch} {D : va_G} {E : va_W} {ad : Nat → Nat → Nat} {wd sk : Nat → Nat} {cI cB cP cT : ClassId} {sz : Nat} (x0 : Nat → Nat → Int32) (y0 : Nat → Nat → Nat) (g0 : Nat → Nat → Nat → Int32) {Φ : Int32 → Prop} (h : wJ5_length_8abf5 x0 y0 g0 Φ) : Met l yJ5_length_8abf5 (zws yJ5_length_8abf5 cJ5_length_8abf5 1 (some .int)) { frames := 0, cells := 0, slots := 0, locals := 0 } (zPc D (cTy cI cB cP cT) (cX wd sk) (cW E ad wd cI cB cP cT (x0, y0, g0)) [.ref (ad 1 0)] sz) (zQi D (cTy cI cB cP cT) (cW E ad wd cI cB cP cT) (fun r u => u = (x0, y0, g0) ∧ Φ r) (cW E ad wd cI cB cP cT (x0, y0, g0)) sz) 0 0 (va_A (cW E ad wd cI cB cP cT (x0, y0, g0)) sz) := by
  refine zMet (by decide) (Nat.le_of_ble_eq_true rfl) ?_
  intro p e s m args below meth c A hx hb hr hml hown hts hlocks hsz hAe hA hS hP hK hD hX ls hl
  subst hsz
  have hF : zFx p s m args c cJ5_length_8abf5 RJ5 A D (cTy cI cB cP cT) (cX wd sk) 1 := ⟨hx, hb, hml, hown, hts, hA, hK, cX_cl wd sk, hX⟩
  have hl : lv_has ls 1 [(0, .ref (ad 1 0))] := hl
  unfold wJ5_length_8abf5 at h
  refine lv_aload_n (pc := 0) hx hb dJ5_length_8abf5_0 rfl (lv_at hl 0 rfl) ?_
  refine dG_count (pc := 1) hF hP lkJ5_79 (v := ((x0 19) 0)) rfl dJ5_length_8abf5_1 ?_
  exact zirV (pc := 4) (Wd := cW E ad wd cI cB cP cT) (u := (x0, y0, g0)) hx hb hr hlocks hAe hK hP hD hS rfl dJ5_length_8abf5_4 (Nat.le_refl _) (Nat.le_refl _) ⟨rfl, h⟩

def wJ4_length_8abf5 (x : Nat → Nat → Int32) (y : Nat → Nat → Nat) (g : Nat → Nat → Nat → Int32) (Φ : Int32 → Prop) : Prop := (wJ5_length_8abf5 x y g (fun r_1 => (Φ r_1)))
set_option maxRecDepth 100000 in
set_option maxHeartbeats 4000000 in
theorem kJ4_length_8abf5 {l : Launch} {D : va_G} {E : va_W} {ad : Nat → Nat → Nat} {wd sk : Nat → Nat} {cI cB cP cT : ClassId} {sz : Nat} (x0 : Nat → Nat → Int32) (y0 : Nat → Nat → Nat) (g0 : Nat → Nat → Nat → Int32) {Φ : Int32 → Prop} (h : wJ4_length_8abf5 x0 y0 g0 Φ) : Met l yJ4_length_8abf5 (zws yJ4_length_8abf5 cJ4_length_8abf5 1 (some .int)) { frames := 1, cells := 0, slots := 0, locals := 20 } (zPc D (cTy cI cB cP cT) (cX wd sk) (cW E ad wd cI cB cP cT (x0, y0, g0)) [.ref (ad 1 0)] sz) (zQi D (cTy cI cB cP cT) (cW E ad wd cI cB cP cT) (fun r u => u = (x0, y0, g0) ∧ Φ r) (cW E ad wd cI cB cP cT (x0, y0, g0)) sz) 0 0 (va_A (cW E ad wd cI cB cP cT (x0, y0, g0)) sz) := by
  refine zMet (by decide) (Nat.le_of_ble_eq_true rfl) ?_
  intro p e s m args below meth c A hx hb hr hml hown hts hlocks hsz hAe hA hS hP hK hD hX ls hl
  subst hsz
  have hF : zFx p s m args c cJ4_length_8abf5 RJ4 A D (cTy cI cB cP cT) (cX wd sk) 1 := ⟨hx, hb, hml, hown, hts, hA, hK, cX_cl wd sk, hX⟩
  have hl : lv_has ls 1 [(0, .ref (ad 1 0))] := hl
  unfold wJ4_length_8abf5 at h
  refine lv_aload_n (pc := 0) hx hb dJ4_length_8abf5_0 rfl (lv_at hl 0 rfl) ?_
  refine dKip (pc := 1) (Wd := cW E ad wd cI cB cP cT) (u0 := (x0, y0, g0)) hF hD hS (zrSU [] (d_at hF) hF (kJ5_length_8abf5 x0 y0 g0 h) (cwJ4_J5_length_8abf5_s hts ⟨Nat.le_of_ble_eq_true rfl, Nat.le_of_ble_eq_true rfl⟩) (d_rP hF hP (ci := 1) (q0 := 1) rfl (cA_SB ..)) hP hD hS rfl rfl hl.1 (Nat.le_of_ble_eq_true rfl) dJ4_length_8abf5_1 ⟨Nat.le_refl _, Nat.le_refl _⟩) (fun r_1 H locs h (hP : va_P D vwCl (cW E ad wd cI cB cP cT (x0, y0, g0)) H) (hD : va_D A (cW E ad wd cI cB cP cT (x0, y0, g0))) hS => ?_)
  exact zirV (pc := 4) (Wd := cW E ad wd cI cB cP cT) (u := (x0, y0, g0)) hx hb hr hlocks hAe hK hP hD hS rfl dJ4_length_8abf5_4 (Nat.le_refl _) (Nat.le_refl _) ⟨rfl, h⟩

def wJ3_checkIndex_8e157 (a0 : Int32) (a1 : Int32) (Φ : Int32 → Prop) : Prop := ((a0 < 0 → False) ∧ (¬ a0 < 0 → ((a0 < a1 → (Φ a0)) ∧ (¬ a0 < a1 → False))))
set_option maxRecDepth 100000 in
set_option maxHeartbeats 4000000 in
theorem kJ3_checkIndex_8e157 {l : Launch} {D : va_G} {E : va_W} {ad : Nat → Nat → Nat} {wd sk : Nat → Nat} {cI cB cP cT : ClassId} {sz : Nat} (x0 : Nat → Nat → Int32) (y0 : Nat → Nat → Nat) (g0 : Nat → Nat → Nat → Int32) (a0 : Int32) (a1 : Int32) (w2 : Option Nat) {Φ : Int32 → Prop} (h : wJ3_checkIndex_8e157 a0 a1 Φ) : Met l yJ3_checkIndex_8e157 (zws yJ3_checkIndex_8e157 cJ3_checkIndex_8e157 3 (some .int)) { frames := 0, cells := 0, slots := 0, locals := 0 } (zPc D (cTy cI cB cP cT) (cX wd sk) (cW E ad wd cI cB cP cT (x0, y0, g0)) [.int a0, .int a1, va_rf w2] sz) (zQi D (cTy cI cB cP cT) (cW E ad wd cI cB cP cT) (fun r u => u = (x0, y0, g0) ∧ Φ r) (cW E ad wd cI cB cP cT (x0, y0, g0)) sz) 0 0 (va_A (cW E ad wd cI cB cP cT (x0, y0, g0)) sz) := by
  cases w2 <;> (
    refine zMet (by decide) (Nat.le_of_ble_eq_true rfl) ?_
    intro p e s m args below meth c A hx hb hr hml hown hts hlocks hsz hAe hA hS hP hK hD hX ls hl
    subst hsz
    have hF : zFx p s m args c cJ3_checkIndex_8e157 RJ3 A D (cTy cI cB cP cT) (cX wd sk) 3 := ⟨hx, hb, hml, hown, hts, hA, hK, cX_cl wd sk, hX⟩
    have hl : lv_has ls 3 [(0, .int a0), (1, .int a1)] := lv_sub hl [0, 1] rfl
    unfold wJ3_checkIndex_8e157 at h
    refine lv_iload_n (pc := 0) hx hb dJ3_checkIndex_8e157_0 rfl (lv_at hl 0 rfl) ?_
    refine lv_if_lt (pc := 1) (tgt := 9) hx hb dJ3_checkIndex_8e157_1 (by decide) (fun c_1 => ?_) (fun c_1 => ?_)
    · have h := h.1 c_1
      exact h.elim
    · have h := h.2 c_1
      refine lv_iload_n (pc := 4) hx hb dJ3_checkIndex_8e157_4 rfl (lv_at hl 0 rfl) ?_
      refine lv_iload_n (pc := 5) hx hb dJ3_checkIndex_8e157_5 rfl (lv_at hl 1 rfl) ?_
      refine lv_icmp_lt (pc := 6) (tgt := 16) hx hb dJ3_checkIndex_8e157_6 (by decide) (fun c_6 => ?_) (fun c_6 => ?_)
      · have h := h.1 c_6
        refine lv_iload_n (pc := 16) hx hb dJ3_checkIndex_8e157_16 rfl (lv_at hl 0 rfl) ?_
        exact zirV (pc := 17) (Wd := cW E ad wd cI cB cP cT) (u := (x0, y0, g0)) hx hb hr hlocks hAe hK hP hD hS rfl dJ3_checkIndex_8e157_17 (Nat.le_refl _) (Nat.le_refl _) ⟨rfl, h⟩
      · have h := h.2 c_6
        exact h.elim
    )

def wJ0_checkIndex_df160 (a0 : Int32) (a1 : Int32) (Φ : Prop) : Prop := (wJ3_checkIndex_8e157 a0 a1 (fun r_5 => Φ))
set_option maxRecDepth 100000 in
set_option maxHeartbeats 4000000 in
theorem kJ0_checkIndex_df160 {l : Launch} {D : va_G} {E : va_W} {ad : Nat → Nat → Nat} {wd sk : Nat → Nat} {cI cB cP cT : ClassId} {sz : Nat} (x0 : Nat → Nat → Int32) (y0 : Nat → Nat → Nat) (g0 : Nat → Nat → Nat → Int32) (a0 : Int32) (a1 : Int32) {Φ : Prop} (h : wJ0_checkIndex_df160 a0 a1 Φ) : Met l yJ0_checkIndex_df160 (zws yJ0_checkIndex_df160 cJ0_checkIndex_df160 2 none) { frames := 1, cells := 0, slots := 0, locals := 22 } (zPc D (cTy cI cB cP cT) (cX wd sk) (cW E ad wd cI cB cP cT (x0, y0, g0)) [.int a0, .int a1] sz) (zQv D (cTy cI cB cP cT) (cW E ad wd cI cB cP cT) (fun u => u = (x0, y0, g0) ∧ Φ) (cW E ad wd cI cB cP cT (x0, y0, g0)) sz) 0 0 (va_A (cW E ad wd cI cB cP cT (x0, y0, g0)) sz) := by
  refine zMet (by decide) (Nat.le_of_ble_eq_true rfl) ?_
  intro p e s m args below meth c A hx hb hr hml hown hts hlocks hsz hAe hA hS hP hK hD hX ls hl
  subst hsz
  have hF : zFx p s m args c cJ0_checkIndex_df160 RJ0 A D (cTy cI cB cP cT) (cX wd sk) 2 := ⟨hx, hb, hml, hown, hts, hA, hK, cX_cl wd sk, hX⟩
  have hl : lv_has ls 2 [(0, .int a0), (1, .int a1)] := hl
  unfold wJ0_checkIndex_df160 at h
  refine lv_iload_n (pc := 0) hx hb dJ0_checkIndex_df160_0 rfl (lv_at hl 0 rfl) ?_
  refine lv_iload_n (pc := 1) hx hb dJ0_checkIndex_df160_1 rfl (lv_at hl 1 rfl) ?_
  obtain ⟨r_2, hz_2⟩ := d_sioR hF
  refine d_static (pc := 2) hF hS hz_2 lkJ0_1053 dJ0_checkIndex_df160_2 ?_
  refine dKip (pc := 5) (Wd := cW E ad wd cI cB cP cT) (u0 := (x0, y0, g0)) hF hD hS (zrS [.int a0, .int a1, va_rf r_2] hF (kJ3_checkIndex_8e157 x0 y0 g0 a0 a1 r_2 h) (cwJ0_J3_checkIndex_8e157 hts ⟨Nat.le_of_ble_eq_true rfl, Nat.le_of_ble_eq_true rfl⟩) hP hD hS rfl rfl hl.1 (Nat.le_of_ble_eq_true rfl) dJ0_checkIndex_df160_5 ⟨Nat.le_refl _, Nat.le_refl _⟩) (fun r_5 H locs h (hP : va_P D vwCl (cW E ad wd cI cB cP cT (x0, y0, g0)) H) (hD : va_D A (cW E ad wd cI cB cP cT (x0, y0, g0))) hS => ?_)
  refine lv_pop (pc := 8) hx hb dJ0_checkIndex_df160_8 rfl ?_
  exact zvr (pc := 9) (Wd := cW E ad wd cI cB cP cT) (u := (x0, y0, g0)) hx hb hr hlocks hAe hK hP hD hS dJ0_checkIndex_df160_9 (Nat.le_refl _) (Nat.le_refl _) ⟨rfl, h⟩

def wJ5_charAt_5068e (x : Nat → Nat → Int32) (y : Nat → Nat → Nat) (g : Nat → Nat → Nat → Int32) (a1 : Int32) (Φ : Int32 → Prop) : Prop := (∀ v2_4 : Int32, v2_4 = ((x 17) 0) → (∀ v4_21 : Int32, v4_21 = (if ((nI ((y 9) 0)) >>> (v2_4 &&& 31)) < ((x 19) 0) then ((nI ((y 9) 0)) >>> (v2_4 &&& 31)) else ((x 19) 0)) → (wJ0_checkIndex_df160 a1 v4_21 (((v2_4 = 0 → (vp_in a1 ((y 9) 0) ∧ (Φ ((((((g 3) 0) a1.toNatClampNeg) &&& 255).toUInt32 % 65536).toInt32)))) ∧ (¬ v2_4 = 0 → False))))))
set_option maxRecDepth 100000 in
set_option maxHeartbeats 4000000 in
theorem kJ5_charAt_5068e {l : Launch} {D : va_G} {E : va_W} {ad : Nat → Nat → Nat} {wd sk : Nat → Nat} {cI cB cP cT : ClassId} {sz : Nat} (x0 : Nat → Nat → Int32) (y0 : Nat → Nat → Nat) (g0 : Nat → Nat → Nat → Int32) (a1 : Int32) {Φ : Int32 → Prop} (h : wJ5_charAt_5068e x0 y0 g0 a1 Φ) : Met l yJ5_charAt_5068e (zws yJ5_charAt_5068e cJ5_charAt_5068e 5 (some .char)) { frames := 2, cells := 0, slots := 0, locals := 60 } (zPc D (cTy cI cB cP cT) (cX wd sk) (cW E ad wd cI cB cP cT (x0, y0, g0)) [.ref (ad 1 0), .int a1] sz) (zQi D (cTy cI cB cP cT) (cW E ad wd cI cB cP cT) (fun r u => u = (x0, y0, g0) ∧ narrow .char (.int r) = .int r ∧ Φ r) (cW E ad wd cI cB cP cT (x0, y0, g0)) sz) 0 0 (va_A (cW E ad wd cI cB cP cT (x0, y0, g0)) sz) := by
  refine zMet (by decide) (Nat.le_of_ble_eq_true rfl) ?_
  intro p e s m args below meth c A hx hb hr hml hown hts hlocks hsz hAe hA hS hP hK hD hX ls hl
  subst hsz
  have hF : zFx p s m args c cJ5_charAt_5068e RJ5 A D (cTy cI cB cP cT) (cX wd sk) 5 := ⟨hx, hb, hml, hown, hts, hA, hK, cX_cl wd sk, hX⟩
  have hl : lv_has ls 5 [(0, .ref (ad 1 0)), (1, .int a1)] := hl
  unfold wJ5_charAt_5068e at h
  refine lv_aload_n (pc := 0) hx hb dJ5_charAt_5068e_0 rfl (lv_at hl 0 rfl) ?_
  refine dG_coder (pc := 1) hF hP lkJ5_22 (v := ((x0 17) 0)) rfl dJ5_charAt_5068e_1 ?_
  refine lv_topi (fun v2_4 e_v2_4 => ?_)
  replace h := h v2_4 e_v2_4
  refine lv_istore_n (pc := 4) (lv' := [(2, .int v2_4), (0, .ref (ad 1 0)), (1, .int a1)]) hx hb dJ5_charAt_5068e_4 rfl hl (by decide) rfl (fun ls hl => ?_)
  refine lv_aload_n (pc := 5) hx hb dJ5_charAt_5068e_5 rfl (lv_at hl 1 rfl) ?_
  refine dG_value (pc := 6) hF hP lkJ5_15 dJ5_charAt_5068e_6 ?_
  refine lv_astore_n (pc := 9) (lv' := [(3, .ref (y0 8 0)), (2, .int v2_4), (0, .ref (ad 1 0)), (1, .int a1)]) hx hb dJ5_charAt_5068e_9 rfl hl (by decide) rfl (fun ls hl => ?_)
  refine lv_aload_n (pc := 10) hx hb dJ5_charAt_5068e_10 rfl (lv_at hl 2 rfl) ?_
  refine dG_count (pc := 11) hF hP lkJ5_79 (v := ((x0 19) 0)) rfl dJ5_charAt_5068e_11 ?_
  refine lv_aload_n (pc := 14) hx hb dJ5_charAt_5068e_14 rfl (lv_at hl 0 rfl) ?_
  refine d_blen (pc := 15) hF hP dJ5_charAt_5068e_15 ?_
  refine lv_iload_n (pc := 16) hx hb dJ5_charAt_5068e_16 rfl (lv_at hl 1 rfl) ?_
  refine lv_ishr (pc := 17) hx hb dJ5_charAt_5068e_17 ?_
  refine c_min (pc := 18) hF hl.1 mlJ5_138 ⟨Nat.le_of_ble_eq_true rfl, Nat.le_of_ble_eq_true rfl⟩ ⟨Nat.le_refl _, Nat.le_refl _⟩ dJ5_charAt_5068e_18 ?_
  refine lv_topi (fun v4_21 e_v4_21 => ?_)
  replace h := h v4_21 e_v4_21
  refine lv_istore (pc := 21) (lv' := [(4, .int v4_21), (3, .ref (y0 8 0)), (2, .int v2_4), (0, .ref (ad 1 0)), (1, .int a1)]) hx hb dJ5_charAt_5068e_21 hl (by decide) rfl (fun ls hl => ?_)
  refine lv_iload_n (pc := 23) hx hb dJ5_charAt_5068e_23 rfl (lv_at hl 4 rfl) ?_
  refine lv_iload (pc := 24) hx hb dJ5_charAt_5068e_24 (lv_at hl 0 rfl) ?_
  refine dKvp (pc := 26) (Wd := cW E ad wd cI cB cP cT) (u0 := (x0, y0, g0)) hF hD hS (zrS [.int a1, .int v4_21] hF (kJ0_checkIndex_df160 x0 y0 g0 a1 v4_21 h) (cwJ5_J0_checkIndex_df160 hts ⟨Nat.le_of_ble_eq_true rfl, Nat.le_of_ble_eq_true rfl⟩) hP hD hS rfl rfl hl.1 (Nat.le_of_ble_eq_true rfl) dJ5_charAt_5068e_26 ⟨Nat.le_refl _, Nat.le_refl _⟩) (fun H locs h (hP : va_P D vwCl (cW E ad wd cI cB cP cT (x0, y0, g0)) H) (hD : va_D A (cW E ad wd cI cB cP cT (x0, y0, g0))) hS => ?_)
  refine lv_iload_n (pc := 29) hx hb dJ5_charAt_5068e_29 rfl (lv_at hl 2 rfl) ?_
  refine lv_if_ne (pc := 30) (tgt := 42) hx hb dJ5_charAt_5068e_30 (by decide) (fun c_30 => ?_) (fun c_30 => ?_)
  · have h := h.2 c_30
    exact h.elim
  · have h := h.1 c_30
    refine lv_aload_n (pc := 33) hx hb dJ5_charAt_5068e_33 rfl (lv_at hl 1 rfl) ?_
    refine lv_iload_n (pc := 34) hx hb dJ5_charAt_5068e_34 rfl (lv_at hl 4 rfl) ?_
    obtain ⟨hi_35, h⟩ := h
    refine dL_BV (pc := 35) hF hP (f := ((g0 3) 0)) rfl hi_35 dJ5_charAt_5068e_35 ?_
    refine lv_sipush (pc := 36) (v := 255) hx hb dJ5_charAt_5068e_36 (by decide) ?_
    refine lv_iand (pc := 39) hx hb dJ5_charAt_5068e_39 ?_
    refine lv_i2c (pc := 40) (v := (((((g0 3) 0) a1.toNatClampNeg) &&& 255).toUInt32 % 65536).toInt32) hx hb dJ5_charAt_5068e_40 rfl ?_
    exact zirV (pc := 41) (Wd := cW E ad wd cI cB cP cT) (u := (x0, y0, g0)) hx hb hr hlocks hAe hK hP hD hS (zChar _) dJ5_charAt_5068e_41 (Nat.le_refl _) (Nat.le_refl _) ⟨rfl, (zChar _), h⟩

def wJ4_charAt_5068e (x : Nat → Nat → Int32) (y : Nat → Nat → Nat) (g : Nat → Nat → Nat → Int32) (a1 : Int32) (Φ : Int32 → Prop) : Prop := (wJ5_charAt_5068e x y g a1 (fun r_2 => (Φ r_2)))
set_option maxRecDepth 100000 in
set_option maxHeartbeats 4000000 in
theorem kJ4_charAt_5068e {l : Launch} {D : va_G} {E : va_W} {ad : Nat → Nat → Nat} {wd sk : Nat → Nat} {cI cB cP cT : ClassId} {sz : Nat} (x0 : Nat → Nat → Int32) (y0 : Nat → Nat → Nat) (g0 : Nat → Nat → Nat → Int32) (a1 : Int32) {Φ : Int32 → Prop} (h : wJ4_charAt_5068e x0 y0 g0 a1 Φ) : Met l yJ4_charAt_5068e (zws yJ4_charAt_5068e cJ4_charAt_5068e 2 (some .char)) { frames := 3, cells := 0, slots := 0, locals := 84 } (zPc D (cTy cI cB cP cT) (cX wd sk) (cW E ad wd cI cB cP cT (x0, y0, g0)) [.ref (ad 1 0), .int a1] sz) (zQi D (cTy cI cB cP cT) (cW E ad wd cI cB cP cT) (fun r u => u = (x0, y0, g0) ∧ narrow .char (.int r) = .int r ∧ Φ r) (cW E ad wd cI cB cP cT (x0, y0, g0)) sz) 0 0 (va_A (cW E ad wd cI cB cP cT (x0, y0, g0)) sz) := by
  refine zMet (by decide) (Nat.le_of_ble_eq_true rfl) ?_
  intro p e s m args below meth c A hx hb hr hml hown hts hlocks hsz hAe hA hS hP hK hD hX ls hl
  subst hsz
  have hF : zFx p s m args c cJ4_charAt_5068e RJ4 A D (cTy cI cB cP cT) (cX wd sk) 2 := ⟨hx, hb, hml, hown, hts, hA, hK, cX_cl wd sk, hX⟩
  have hl : lv_has ls 2 [(0, .ref (ad 1 0)), (1, .int a1)] := hl
  unfold wJ4_charAt_5068e at h
  refine lv_aload_n (pc := 0) hx hb dJ4_charAt_5068e_0 rfl (lv_at hl 0 rfl) ?_
  refine lv_iload_n (pc := 1) hx hb dJ4_charAt_5068e_1 rfl (lv_at hl 1 rfl) ?_
  refine dKcp (pc := 2) (Wd := cW E ad wd cI cB cP cT) (u0 := (x0, y0, g0)) hF hD hS (zrSU [.int a1] (d_at hF) hF (kJ5_charAt_5068e x0 y0 g0 a1 h) (cwJ4_J5_charAt_5068e_s hts ⟨Nat.le_of_ble_eq_true rfl, Nat.le_of_ble_eq_true rfl⟩) (d_rP hF hP (ci := 1) (q0 := 1) rfl (cA_SB ..)) hP hD hS rfl rfl hl.1 (Nat.le_of_ble_eq_true rfl) dJ4_charAt_5068e_2 ⟨Nat.le_refl _, Nat.le_refl _⟩) (fun r_2 H locs hb_2 h (hP : va_P D vwCl (cW E ad wd cI cB cP cT (x0, y0, g0)) H) (hD : va_D A (cW E ad wd cI cB cP cT (x0, y0, g0))) hS => ?_)
  exact zirV (pc := 5) (Wd := cW E ad wd cI cB cP cT) (u := (x0, y0, g0)) hx hb hr hlocks hAe hK hP hD hS hb_2 dJ4_charAt_5068e_5 (Nat.le_refl _) (Nat.le_refl _) ⟨rfl, hb_2, h⟩

def wJ0_coder_7d493 (x : Nat → Nat → Int32) (y : Nat → Nat → Nat) (g : Nat → Nat → Nat → Int32) (q0 : Nat) (Φ : Int32 → Prop) : Prop := (Φ 0)
set_option maxRecDepth 100000 in
set_option maxHeartbeats 4000000 in
theorem kJ0_coder_7d493 {l : Launch} {D : va_G} {E : va_W} {ad : Nat → Nat → Nat} {wd sk : Nat → Nat} {cI cB cP cT : ClassId} {sz : Nat} (x0 : Nat → Nat → Int32) (y0 : Nat → Nat → Nat) (g0 : Nat → Nat → Nat → Int32) (q0 : Nat) {Φ : Int32 → Prop} (h : wJ0_coder_7d493 x0 y0 g0 q0 Φ) (hq0 : q0 < 15) : Met l yJ0_coder_7d493 (zws yJ0_coder_7d493 cJ0_coder_7d493 1 (some .byte)) { frames := 0, cells := 0, slots := 0, locals := 0 } (zPc D (cTy cI cB cP cT) (cX wd sk) (cW E ad wd cI cB cP cT (x0, y0, g0)) [.ref (sk q0)] sz) (zQi D (cTy cI cB cP cT) (cW E ad wd cI cB cP cT) (fun r u => u = (x0, y0, g0) ∧ narrow .byte (.int r) = .int r ∧ Φ r) (cW E ad wd cI cB cP cT (x0, y0, g0)) sz) 0 0 (va_A (cW E ad wd cI cB cP cT (x0, y0, g0)) sz) := by
  refine zMet (by decide) (Nat.le_of_ble_eq_true rfl) ?_
  intro p e s m args below meth c A hx hb hr hml hown hts hlocks hsz hAe hA hS hP hK hD hX ls hl
  subst hsz
  have hF : zFx p s m args c cJ0_coder_7d493 RJ0 A D (cTy cI cB cP cT) (cX wd sk) 1 := ⟨hx, hb, hml, hown, hts, hA, hK, cX_cl wd sk, hX⟩
  have hl : lv_has ls 1 [(0, .ref (sk q0))] := hl
  unfold wJ0_coder_7d493 at h
  refine d_static (pc := 0) hF hS (d_cmp hF) lkJ0_38 dJ0_coder_7d493_0 ?_
  refine lv_if_eq (pc := 3) (tgt := 13) hx hb dJ0_coder_7d493_3 (by decide) (fun c_ => absurd c_ (by decide)) (fun _ => ?_)
  refine lv_aload_n (pc := 6) hx hb dJ0_coder_7d493_6 rfl (lv_at hl 0 rfl) ?_
  refine d_of (pc := 7) hF hS (d_k hF (k := q0) (by omega)).2.2.2.2.2.1 lkJ0_15 dJ0_coder_7d493_7 ?_
  refine lv_goto (pc := 10) (tgt := 14) hx hb dJ0_coder_7d493_10 (by decide) ?_
  exact zirV (pc := 14) (Wd := cW E ad wd cI cB cP cT) (u := (x0, y0, g0)) hx hb hr hlocks hAe hK hP hD hS rfl dJ0_coder_7d493_14 (Nat.le_refl _) (Nat.le_refl _) ⟨rfl, rfl, h⟩

def wJ0_length_8abf5 (x : Nat → Nat → Int32) (y : Nat → Nat → Nat) (g : Nat → Nat → Nat → Int32) (q0 : Nat) (Φ : Int32 → Prop) : Prop := (wJ0_coder_7d493 x y g q0 (fun r_6 => (Φ ((nI (wLen q0)) >>> (r_6 &&& 31)))))
set_option maxRecDepth 100000 in
set_option maxHeartbeats 4000000 in
theorem kJ0_length_8abf5 {l : Launch} {D : va_G} {E : va_W} {ad : Nat → Nat → Nat} {wd sk : Nat → Nat} {cI cB cP cT : ClassId} {sz : Nat} (x0 : Nat → Nat → Int32) (y0 : Nat → Nat → Nat) (g0 : Nat → Nat → Nat → Int32) (q0 : Nat) {Φ : Int32 → Prop} (h : wJ0_length_8abf5 x0 y0 g0 q0 Φ) (hq0 : q0 < 15) : Met l yJ0_length_8abf5 (zws yJ0_length_8abf5 cJ0_length_8abf5 1 (some .int)) { frames := 1, cells := 0, slots := 0, locals := 20 } (zPc D (cTy cI cB cP cT) (cX wd sk) (cW E ad wd cI cB cP cT (x0, y0, g0)) [.ref (sk q0)] sz) (zQi D (cTy cI cB cP cT) (cW E ad wd cI cB cP cT) (fun r u => u = (x0, y0, g0) ∧ Φ r) (cW E ad wd cI cB cP cT (x0, y0, g0)) sz) 0 0 (va_A (cW E ad wd cI cB cP cT (x0, y0, g0)) sz) := by
  refine zMet (by decide) (Nat.le_of_ble_eq_true rfl) ?_
  intro p e s m args below meth c A hx hb hr hml hown hts hlocks hsz hAe hA hS hP hK hD hX ls hl
  subst hsz
  have hF : zFx p s m args c cJ0_length_8abf5 RJ0 A D (cTy cI cB cP cT) (cX wd sk) 1 := ⟨hx, hb, hml, hown, hts, hA, hK, cX_cl wd sk, hX⟩
  have hl : lv_has ls 1 [(0, .ref (sk q0))] := hl
  unfold wJ0_length_8abf5 at h
  refine lv_aload_n (pc := 0) hx hb dJ0_length_8abf5_0 rfl (lv_at hl 0 rfl) ?_
  refine d_of (pc := 1) hF hS (d_k hF (k := q0) (by omega)).2.2.2.2.2.2.1 lkJ0_9 dJ0_length_8abf5_1 ?_
  refine d_len (pc := 4) hF hS (d_k hF (k := q0) (by omega)).2.2.2.2.2.2.2 dJ0_length_8abf5_4 ?_
  refine lv_aload_n (pc := 5) hx hb dJ0_length_8abf5_5 rfl (lv_at hl 0 rfl) ?_
  refine dKyp (pc := 6) (Wd := cW E ad wd cI cB cP cT) (u0 := (x0, y0, g0)) hF hD hS (zrV [] hF (kJ0_coder_7d493 x0 y0 g0 q0 h (by omega)) (cwJ0_J0_coder_7d493 hts ⟨Nat.le_of_ble_eq_true rfl, Nat.le_of_ble_eq_true rfl⟩) (d_rO hF hS (d_k hF (k := q0) (by omega)).2.2.2.2.1) hP hD hS rfl rfl hl.1 (Nat.le_of_ble_eq_true rfl) dJ0_length_8abf5_6 ⟨Nat.le_refl _, Nat.le_refl _⟩) (fun r_6 H locs hb_6 h (hP : va_P D vwCl (cW E ad wd cI cB cP cT (x0, y0, g0)) H) (hD : va_D A (cW E ad wd cI cB cP cT (x0, y0, g0))) hS => ?_)
  refine lv_ishr (pc := 9) hx hb dJ0_length_8abf5_9 ?_
  exact zirV (pc := 10) (Wd := cW E ad wd cI cB cP cT) (u := (x0, y0, g0)) hx hb hr hlocks hAe hK hP hD hS rfl dJ0_length_8abf5_10 (Nat.le_refl _) (Nat.le_refl _) ⟨rfl, h⟩

def wJ0_isLatin1_aae02 (x : Nat → Nat → Int32) (y : Nat → Nat → Nat) (g : Nat → Nat → Nat → Int32) (q0 : Nat) (Φ : Int32 → Prop) : Prop := (Φ 1)
set_option maxRecDepth 100000 in
set_option maxHeartbeats 4000000 in
theorem kJ0_isLatin1_aae02 {l : Launch} {D : va_G} {E : va_W} {ad : Nat → Nat → Nat} {wd sk : Nat → Nat} {cI cB cP cT : ClassId} {sz : Nat} (x0 : Nat → Nat → Int32) (y0 : Nat → Nat → Nat) (g0 : Nat → Nat → Nat → Int32) (q0 : Nat) {Φ : Int32 → Prop} (h : wJ0_isLatin1_aae02 x0 y0 g0 q0 Φ) (hq0 : q0 < 15) : Met l yJ0_isLatin1_aae02 (zws yJ0_isLatin1_aae02 cJ0_isLatin1_aae02 1 (some .boolean)) { frames := 0, cells := 0, slots := 0, locals := 0 } (zPc D (cTy cI cB cP cT) (cX wd sk) (cW E ad wd cI cB cP cT (x0, y0, g0)) [.ref (sk q0)] sz) (zQi D (cTy cI cB cP cT) (cW E ad wd cI cB cP cT) (fun r u => u = (x0, y0, g0) ∧ (r = 0 ∨ r = 1) ∧ Φ r) (cW E ad wd cI cB cP cT (x0, y0, g0)) sz) 0 0 (va_A (cW E ad wd cI cB cP cT (x0, y0, g0)) sz) := by
  refine zMet (by decide) (Nat.le_of_ble_eq_true rfl) ?_
  intro p e s m args below meth c A hx hb hr hml hown hts hlocks hsz hAe hA hS hP hK hD hX ls hl
  subst hsz
  have hF : zFx p s m args c cJ0_isLatin1_aae02 RJ0 A D (cTy cI cB cP cT) (cX wd sk) 1 := ⟨hx, hb, hml, hown, hts, hA, hK, cX_cl wd sk, hX⟩
  have hl : lv_has ls 1 [(0, .ref (sk q0))] := hl
  unfold wJ0_isLatin1_aae02 at h
  refine d_static (pc := 0) hF hS (d_cmp hF) lkJ0_38 dJ0_isLatin1_aae02_0 ?_
  refine lv_if_eq (pc := 3) (tgt := 17) hx hb dJ0_isLatin1_aae02_3 (by decide) (fun c_ => absurd c_ (by decide)) (fun _ => ?_)
  refine lv_aload_n (pc := 6) hx hb dJ0_isLatin1_aae02_6 rfl (lv_at hl 0 rfl) ?_
  refine d_of (pc := 7) hF hS (d_k hF (k := q0) (by omega)).2.2.2.2.2.1 lkJ0_15 dJ0_isLatin1_aae02_7 ?_
  refine lv_if_ne (pc := 10) (tgt := 17) hx hb dJ0_isLatin1_aae02_10 (by decide) (fun c_ => absurd c_ (by decide)) (fun _ => ?_)
  refine lv_iconst (pc := 13) (v := 1) hx hb dJ0_isLatin1_aae02_13 (by decide) ?_
  refine lv_goto (pc := 14) (tgt := 18) hx hb dJ0_isLatin1_aae02_14 (by decide) ?_
  exact zirV (pc := 18) (Wd := cW E ad wd cI cB cP cT) (u := (x0, y0, g0)) hx hb hr hlocks hAe hK hP hD hS rfl dJ0_isLatin1_aae02_18 (Nat.le_refl _) (Nat.le_refl _) ⟨rfl, (Or.inr rfl), h⟩

def wJ1_charAt_3b067 (x : Nat → Nat → Int32) (y : Nat → Nat → Nat) (g : Nat → Nat → Nat → Int32) (q0 : Nat) (a1 : Int32) (Φ : Int32 → Prop) : Prop := (wJ0_checkIndex_df160 a1 (nI (wLen q0)) ((vp_in a1 (wLen q0) ∧ (Φ (((((wSpell q0).getD a1.toNatClampNeg 0) &&& 255).toUInt32 % 65536).toInt32)))))
set_option maxRecDepth 100000 in
set_option maxHeartbeats 4000000 in
theorem kJ1_charAt_3b067 {l : Launch} {D : va_G} {E : va_W} {ad : Nat → Nat → Nat} {wd sk : Nat → Nat} {cI cB cP cT : ClassId} {sz : Nat} (x0 : Nat → Nat → Int32) (y0 : Nat → Nat → Nat) (g0 : Nat → Nat → Nat → Int32) (q0 : Nat) (a1 : Int32) {Φ : Int32 → Prop} (h : wJ1_charAt_3b067 x0 y0 g0 q0 a1 Φ) (hq0 : q0 < 15) : Met l yJ1_charAt_3b067 (zws yJ1_charAt_3b067 cJ1_charAt_3b067 2 (some .char)) { frames := 2, cells := 0, slots := 0, locals := 43 } (zPc D (cTy cI cB cP cT) (cX wd sk) (cW E ad wd cI cB cP cT (x0, y0, g0)) [.ref (sk (100 + q0)), .int a1] sz) (zQi D (cTy cI cB cP cT) (cW E ad wd cI cB cP cT) (fun r u => u = (x0, y0, g0) ∧ narrow .char (.int r) = .int r ∧ Φ r) (cW E ad wd cI cB cP cT (x0, y0, g0)) sz) 0 0 (va_A (cW E ad wd cI cB cP cT (x0, y0, g0)) sz) := by
  refine zMet (by decide) (Nat.le_of_ble_eq_true rfl) ?_
  intro p e s m args below meth c A hx hb hr hml hown hts hlocks hsz hAe hA hS hP hK hD hX ls hl
  subst hsz
  have hF : zFx p s m args c cJ1_charAt_3b067 RJ1 A D (cTy cI cB cP cT) (cX wd sk) 2 := ⟨hx, hb, hml, hown, hts, hA, hK, cX_cl wd sk, hX⟩
  have hl : lv_has ls 2 [(0, .ref (sk (100 + q0))), (1, .int a1)] := hl
  unfold wJ1_charAt_3b067 at h
  refine lv_iload_n (pc := 0) hx hb dJ1_charAt_3b067_0 rfl (lv_at hl 1 rfl) ?_
  refine lv_aload_n (pc := 1) hx hb dJ1_charAt_3b067_1 rfl (lv_at hl 0 rfl) ?_
  refine d_len (pc := 2) hF hS (d_k hF (k := q0) (by omega)).2.2.2.2.2.2.2 dJ1_charAt_3b067_2 ?_
  refine dKvp (pc := 3) (Wd := cW E ad wd cI cB cP cT) (u0 := (x0, y0, g0)) hF hD hS (zrS [.int a1, .int (nI (wLen q0))] hF (kJ0_checkIndex_df160 x0 y0 g0 a1 (nI (wLen q0)) h) (cwJ1_J0_checkIndex_df160 hts ⟨Nat.le_of_ble_eq_true rfl, Nat.le_of_ble_eq_true rfl⟩) hP hD hS rfl rfl hl.1 (Nat.le_of_ble_eq_true rfl) dJ1_charAt_3b067_3 ⟨Nat.le_refl _, Nat.le_refl _⟩) (fun H locs h (hP : va_P D vwCl (cW E ad wd cI cB cP cT (x0, y0, g0)) H) (hD : va_D A (cW E ad wd cI cB cP cT (x0, y0, g0))) hS => ?_)
  refine lv_aload_n (pc := 6) hx hb dJ1_charAt_3b067_6 rfl (lv_at hl 0 rfl) ?_
  refine lv_iload_n (pc := 7) hx hb dJ1_charAt_3b067_7 rfl (lv_at hl 1 rfl) ?_
  obtain ⟨hi_8, h⟩ := h
  refine d_tb (pc := 8) hF hS (d_k hF (k := q0) (by omega)).2.2.2.2.2.2.2 hi_8 dJ1_charAt_3b067_8 ?_
  refine lv_sipush (pc := 9) (v := 255) hx hb dJ1_charAt_3b067_9 (by decide) ?_
  refine lv_iand (pc := 12) hx hb dJ1_charAt_3b067_12 ?_
  refine lv_i2c (pc := 13) (v := ((((wSpell q0).getD a1.toNatClampNeg 0) &&& 255).toUInt32 % 65536).toInt32) hx hb dJ1_charAt_3b067_13 rfl ?_
  exact zirV (pc := 14) (Wd := cW E ad wd cI cB cP cT) (u := (x0, y0, g0)) hx hb hr hlocks hAe hK hP hD hS (zChar _) dJ1_charAt_3b067_14 (Nat.le_refl _) (Nat.le_refl _) ⟨rfl, (zChar _), h⟩

def wJ0_charAt_5068e (x : Nat → Nat → Int32) (y : Nat → Nat → Nat) (g : Nat → Nat → Nat → Int32) (q0 : Nat) (a1 : Int32) (Φ : Int32 → Prop) : Prop := (wJ0_isLatin1_aae02 x y g q0 (fun r_1 => ((r_1 = 0 → False) ∧ (¬ r_1 = 0 → (wJ1_charAt_3b067 x y g q0 a1 (fun r_12 => (Φ r_12)))))))
set_option maxRecDepth 100000 in
set_option maxHeartbeats 4000000 in
theorem kJ0_charAt_5068e {l : Launch} {D : va_G} {E : va_W} {ad : Nat → Nat → Nat} {wd sk : Nat → Nat} {cI cB cP cT : ClassId} {sz : Nat} (x0 : Nat → Nat → Int32) (y0 : Nat → Nat → Nat) (g0 : Nat → Nat → Nat → Int32) (q0 : Nat) (a1 : Int32) {Φ : Int32 → Prop} (h : wJ0_charAt_5068e x0 y0 g0 q0 a1 Φ) (hq0 : q0 < 15) : Met l yJ0_charAt_5068e (zws yJ0_charAt_5068e cJ0_charAt_5068e 2 (some .char)) { frames := 3, cells := 0, slots := 0, locals := 64 } (zPc D (cTy cI cB cP cT) (cX wd sk) (cW E ad wd cI cB cP cT (x0, y0, g0)) [.ref (sk q0), .int a1] sz) (zQi D (cTy cI cB cP cT) (cW E ad wd cI cB cP cT) (fun r u => u = (x0, y0, g0) ∧ narrow .char (.int r) = .int r ∧ Φ r) (cW E ad wd cI cB cP cT (x0, y0, g0)) sz) 0 0 (va_A (cW E ad wd cI cB cP cT (x0, y0, g0)) sz) := by
  refine zMet (by decide) (Nat.le_of_ble_eq_true rfl) ?_
  intro p e s m args below meth c A hx hb hr hml hown hts hlocks hsz hAe hA hS hP hK hD hX ls hl
  subst hsz
  have hF : zFx p s m args c cJ0_charAt_5068e RJ0 A D (cTy cI cB cP cT) (cX wd sk) 2 := ⟨hx, hb, hml, hown, hts, hA, hK, cX_cl wd sk, hX⟩
  have hl : lv_has ls 2 [(0, .ref (sk q0)), (1, .int a1)] := hl
  unfold wJ0_charAt_5068e at h
  refine lv_aload_n (pc := 0) hx hb dJ0_charAt_5068e_0 rfl (lv_at hl 0 rfl) ?_
  refine dKbp (pc := 1) (Wd := cW E ad wd cI cB cP cT) (u0 := (x0, y0, g0)) hF hD hS (zrV [] hF (kJ0_isLatin1_aae02 x0 y0 g0 q0 h (by omega)) (cwJ0_J0_isLatin1_aae02 hts ⟨Nat.le_of_ble_eq_true rfl, Nat.le_of_ble_eq_true rfl⟩) (d_rO hF hS (d_k hF (k := q0) (by omega)).2.2.2.2.1) hP hD hS rfl rfl hl.1 (Nat.le_of_ble_eq_true rfl) dJ0_charAt_5068e_1 ⟨Nat.le_refl _, Nat.le_refl _⟩) (fun r_1 H locs hb_1 h (hP : va_P D vwCl (cW E ad wd cI cB cP cT (x0, y0, g0)) H) (hD : va_D A (cW E ad wd cI cB cP cT (x0, y0, g0))) hS => ?_)
  refine lv_if_eq (pc := 4) (tgt := 16) hx hb dJ0_charAt_5068e_4 (by decide) (fun c_4 => ?_) (fun c_4 => ?_)
  · have h := h.1 c_4
    exact h.elim
  · have h := h.2 c_4
    refine lv_aload_n (pc := 7) hx hb dJ0_charAt_5068e_7 rfl (lv_at hl 0 rfl) ?_
    refine d_of (pc := 8) hF hS (d_k hF (k := q0) (by omega)).2.2.2.2.2.2.1 lkJ0_9 dJ0_charAt_5068e_8 ?_
    refine lv_iload_n (pc := 11) hx hb dJ0_charAt_5068e_11 rfl (lv_at hl 1 rfl) ?_
    refine dKcp (pc := 12) (Wd := cW E ad wd cI cB cP cT) (u0 := (x0, y0, g0)) hF hD hS (zrS [.ref (sk (100 + q0)), .int a1] hF (kJ1_charAt_3b067 x0 y0 g0 q0 a1 h (by omega)) (cwJ0_J1_charAt_3b067 hts ⟨Nat.le_of_ble_eq_true rfl, Nat.le_of_ble_eq_true rfl⟩) hP hD hS rfl rfl hl.1 (Nat.le_of_ble_eq_true rfl) dJ0_charAt_5068e_12 ⟨Nat.le_refl _, Nat.le_refl _⟩) (fun r_12 H locs hb_12 h (hP : va_P D vwCl (cW E ad wd cI cB cP cT (x0, y0, g0)) H) (hD : va_D A (cW E ad wd cI cB cP cT (x0, y0, g0))) hS => ?_)
    exact zirV (pc := 15) (Wd := cW E ad wd cI cB cP cT) (u := (x0, y0, g0)) hx hb hr hlocks hAe hK hP hD hS hb_12 dJ0_charAt_5068e_15 (Nat.le_refl _) (Nat.le_refl _) ⟨rfl, hb_12, h⟩

def wX7_mayStandBehind (x : Nat → Nat → Int32) (y : Nat → Nat → Nat) (g : Nat → Nat → Nat → Int32) (q0 : Nat) (a1 : Int32) (Φ : Int32 → Prop) : Prop := (((((wStages q0) >>> (a1 &&& 31)) &&& 1) = 1 → (Φ 1)) ∧ (¬ (((wStages q0) >>> (a1 &&& 31)) &&& 1) = 1 → (Φ 0)))
set_option maxRecDepth 100000 in
set_option maxHeartbeats 4000000 in
theorem kX7_mayStandBehind {l : Launch} {D : va_G} {E : va_W} {ad : Nat → Nat → Nat} {wd sk : Nat → Nat} {cI cB cP cT : ClassId} {sz : Nat} (x0 : Nat → Nat → Int32) (y0 : Nat → Nat → Nat) (g0 : Nat → Nat → Nat → Int32) (q0 : Nat) (a1 : Int32) {Φ : Int32 → Prop} (h : wX7_mayStandBehind x0 y0 g0 q0 a1 Φ) (hq0 : q0 < 15) : Met l yX7_mayStandBehind (zws yX7_mayStandBehind cX7_mayStandBehind 2 (some .boolean)) { frames := 0, cells := 0, slots := 0, locals := 0 } (zPc D (cTy cI cB cP cT) (cX wd sk) (cW E ad wd cI cB cP cT (x0, y0, g0)) [.ref (wd q0), .int a1] sz) (zQi D (cTy cI cB cP cT) (cW E ad wd cI cB cP cT) (fun r u => u = (x0, y0, g0) ∧ (r = 0 ∨ r = 1) ∧ Φ r) (cW E ad wd cI cB cP cT (x0, y0, g0)) sz) 0 0 (va_A (cW E ad wd cI cB cP cT (x0, y0, g0)) sz) := by
  refine zMet (by decide) (Nat.le_of_ble_eq_true rfl) ?_
  intro p e s m args below meth c A hx hb hr hml hown hts hlocks hsz hAe hA hS hP hK hD hX ls hl
  subst hsz
  have hF : zFx p s m args c cX7_mayStandBehind RX7 A D (cTy cI cB cP cT) (cX wd sk) 2 := ⟨hx, hb, hml, hown, hts, hA, hK, cX_cl wd sk, hX⟩
  have hl : lv_has ls 2 [(0, .ref (wd q0)), (1, .int a1)] := hl
  unfold wX7_mayStandBehind at h
  refine lv_aload_n (pc := 0) hx hb dX7_mayStandBehind_0 rfl (lv_at hl 0 rfl) ?_
  refine d_of (pc := 1) hF hS (d_k hF (k := q0) (by omega)).2.1 lkX7_74 dX7_mayStandBehind_1 ?_
  refine lv_iload_n (pc := 4) hx hb dX7_mayStandBehind_4 rfl (lv_at hl 1 rfl) ?_
  refine lv_ishr (pc := 5) hx hb dX7_mayStandBehind_5 ?_
  refine lv_iconst (pc := 6) (v := 1) hx hb dX7_mayStandBehind_6 (by decide) ?_
  refine lv_iand (pc := 7) hx hb dX7_mayStandBehind_7 ?_
  refine lv_iconst (pc := 8) (v := 1) hx hb dX7_mayStandBehind_8 (by decide) ?_
  refine lv_icmp_ne (pc := 9) (tgt := 16) hx hb dX7_mayStandBehind_9 (by decide) (fun c_9 => ?_) (fun c_9 => ?_)
  · have h := h.2 c_9
    refine lv_iconst (pc := 16) (v := 0) hx hb dX7_mayStandBehind_16 (by decide) ?_
    exact zirV (pc := 17) (Wd := cW E ad wd cI cB cP cT) (u := (x0, y0, g0)) hx hb hr hlocks hAe hK hP hD hS rfl dX7_mayStandBehind_17 (Nat.le_refl _) (Nat.le_refl _) ⟨rfl, (Or.inl rfl), h⟩
  · have h := h.1 c_9
    refine lv_iconst (pc := 12) (v := 1) hx hb dX7_mayStandBehind_12 (by decide) ?_
    refine lv_goto (pc := 13) (tgt := 17) hx hb dX7_mayStandBehind_13 (by decide) ?_
    exact zirV (pc := 17) (Wd := cW E ad wd cI cB cP cT) (u := (x0, y0, g0)) hx hb hr hlocks hAe hK hP hD hS rfl dX7_mayStandBehind_17 (Nat.le_refl _) (Nat.le_refl _) ⟨rfl, (Or.inr rfl), h⟩

def wX3_isNumberDue (x : Nat → Nat → Int32) (y : Nat → Nat → Nat) (g : Nat → Nat → Nat → Int32) (Φ : Int32 → Prop) : Prop := ((((x 21) 0) = 3 → (Φ 1)) ∧ (¬ ((x 21) 0) = 3 → ((((x 21) 0) = 6 → (Φ 1)) ∧ (¬ ((x 21) 0) = 6 → ((((x 21) 0) = 7 → (Φ 1)) ∧ (¬ ((x 21) 0) = 7 → ((((x 21) 0) = 9 → (Φ 1)) ∧ (¬ ((x 21) 0) = 9 → (Φ 0)))))))))
set_option maxRecDepth 100000 in
set_option maxHeartbeats 4000000 in
theorem kX3_isNumberDue {l : Launch} {D : va_G} {E : va_W} {ad : Nat → Nat → Nat} {wd sk : Nat → Nat} {cI cB cP cT : ClassId} {rr rq : Nat} {sz : Nat} (x0 : Nat → Nat → Int32) (y0 : Nat → Nat → Nat) (g0 : Nat → Nat → Nat → Int32) {Φ : Int32 → Prop} (h : wX3_isNumberDue x0 y0 g0 Φ) : Met l yX3_isNumberDue (zws yX3_isNumberDue cX3_isNumberDue 1 (some .boolean)) { frames := 0, cells := 0, slots := 0, locals := 0 } (zPc D (cTy cI cB cP cT) (cX wd sk) (cV E ad wd cI cB cP cT rr rq (x0, y0, g0)) [.ref rr] sz) (zQi D (cTy cI cB cP cT) (cV E ad wd cI cB cP cT rr rq) (fun r u => u = (x0, y0, g0) ∧ (r = 0 ∨ r = 1) ∧ Φ r) (cV E ad wd cI cB cP cT rr rq (x0, y0, g0)) sz) 0 0 (va_A (cV E ad wd cI cB cP cT rr rq (x0, y0, g0)) sz) := by
  refine zMet (by decide) (Nat.le_of_ble_eq_true rfl) ?_
  intro p e s m args below meth c A hx hb hr hml hown hts hlocks hsz hAe hA hS hP hK hD hX ls hl
  subst hsz
  have hF : zFx p s m args c cX3_isNumberDue RX3 A D (cTy cI cB cP cT) (cX wd sk) 1 := ⟨hx, hb, hml, hown, hts, hA, hK, cX_cl wd sk, hX⟩
  have hl : lv_has ls 1 [(0, .ref rr)] := hl
  unfold wX3_isNumberDue at h
  refine lv_aload_n (pc := 0) hx hb dX3_isNumberDue_0 rfl (lv_at hl 0 rfl) ?_
  refine dG_rd_stage (pc := 1) hF hP lkX3_23 (v := ((x0 21) 0)) rfl dX3_isNumberDue_1 ?_
  refine lv_iconst (pc := 4) (v := 3) hx hb dX3_isNumberDue_4 (by decide) ?_
  refine lv_icmp_eq (pc := 5) (tgt := 35) hx hb dX3_isNumberDue_5 (by decide) (fun c_5 => ?_) (fun c_5 => ?_)
  · have h := h.1 c_5
    refine lv_iconst (pc := 35) (v := 1) hx hb dX3_isNumberDue_35 (by decide) ?_
    refine lv_goto (pc := 36) (tgt := 40) hx hb dX3_isNumberDue_36 (by decide) ?_
    exact zirV (pc := 40) (Wd := cV E ad wd cI cB cP cT rr rq) (u := (x0, y0, g0)) hx hb hr hlocks hAe hK hP hD hS rfl dX3_isNumberDue_40 (Nat.le_refl _) (Nat.le_refl _) ⟨rfl, (Or.inr rfl), h⟩
  · have h := h.2 c_5
    refine lv_aload_n (pc := 8) hx hb dX3_isNumberDue_8 rfl (lv_at hl 0 rfl) ?_
    refine dG_rd_stage (pc := 9) hF hP lkX3_23 (v := ((x0 21) 0)) rfl dX3_isNumberDue_9 ?_
    refine lv_bipush (pc := 12) (v := 6) hx hb dX3_isNumberDue_12 (by decide) ?_
    refine lv_icmp_eq (pc := 14) (tgt := 35) hx hb dX3_isNumberDue_14 (by decide) (fun c_14 => ?_) (fun c_14 => ?_)
    · have h := h.1 c_14
      refine lv_iconst (pc := 35) (v := 1) hx hb dX3_isNumberDue_35 (by decide) ?_
      refine lv_goto (pc := 36) (tgt := 40) hx hb dX3_isNumberDue_36 (by decide) ?_
      exact zirV (pc := 40) (Wd := cV E ad wd cI cB cP cT rr rq) (u := (x0, y0, g0)) hx hb hr hlocks hAe hK hP hD hS rfl dX3_isNumberDue_40 (Nat.le_refl _) (Nat.le_refl _) ⟨rfl, (Or.inr rfl), h⟩
    · have h := h.2 c_14
      refine lv_aload_n (pc := 17) hx hb dX3_isNumberDue_17 rfl (lv_at hl 0 rfl) ?_
      refine dG_rd_stage (pc := 18) hF hP lkX3_23 (v := ((x0 21) 0)) rfl dX3_isNumberDue_18 ?_
      refine lv_bipush (pc := 21) (v := 7) hx hb dX3_isNumberDue_21 (by decide) ?_
      refine lv_icmp_eq (pc := 23) (tgt := 35) hx hb dX3_isNumberDue_23 (by decide) (fun c_23 => ?_) (fun c_23 => ?_)
      · have h := h.1 c_23
        refine lv_iconst (pc := 35) (v := 1) hx hb dX3_isNumberDue_35 (by decide) ?_
        refine lv_goto (pc := 36) (tgt := 40) hx hb dX3_isNumberDue_36 (by decide) ?_
        exact zirV (pc := 40) (Wd := cV E ad wd cI cB cP cT rr rq) (u := (x0, y0, g0)) hx hb hr hlocks hAe hK hP hD hS rfl dX3_isNumberDue_40 (Nat.le_refl _) (Nat.le_refl _) ⟨rfl, (Or.inr rfl), h⟩
      · have h := h.2 c_23
        refine lv_aload_n (pc := 26) hx hb dX3_isNumberDue_26 rfl (lv_at hl 0 rfl) ?_
        refine dG_rd_stage (pc := 27) hF hP lkX3_23 (v := ((x0 21) 0)) rfl dX3_isNumberDue_27 ?_
        refine lv_bipush (pc := 30) (v := 9) hx hb dX3_isNumberDue_30 (by decide) ?_
        refine lv_icmp_ne (pc := 32) (tgt := 39) hx hb dX3_isNumberDue_32 (by decide) (fun c_32 => ?_) (fun c_32 => ?_)
        · have h := h.2 c_32
          refine lv_iconst (pc := 39) (v := 0) hx hb dX3_isNumberDue_39 (by decide) ?_
          exact zirV (pc := 40) (Wd := cV E ad wd cI cB cP cT rr rq) (u := (x0, y0, g0)) hx hb hr hlocks hAe hK hP hD hS rfl dX3_isNumberDue_40 (Nat.le_refl _) (Nat.le_refl _) ⟨rfl, (Or.inl rfl), h⟩
        · have h := h.1 c_32
          refine lv_iconst (pc := 35) (v := 1) hx hb dX3_isNumberDue_35 (by decide) ?_
          refine lv_goto (pc := 36) (tgt := 40) hx hb dX3_isNumberDue_36 (by decide) ?_
          exact zirV (pc := 40) (Wd := cV E ad wd cI cB cP cT rr rq) (u := (x0, y0, g0)) hx hb hr hlocks hAe hK hP hD hS rfl dX3_isNumberDue_40 (Nat.le_refl _) (Nat.le_refl _) ⟨rfl, (Or.inr rfl), h⟩

def wX3_signAt (x : Nat → Nat → Int32) (y : Nat → Nat → Nat) (g : Nat → Nat → Nat → Int32) (a1 : Int32) (Φ : Int32 → Prop) : Prop := ((a1 < 0 → (Φ 32)) ∧ (¬ a1 < 0 → (wJ4_length_8abf5 x y g (fun r_9 => ((r_9 ≤ a1 → (Φ 32)) ∧ (¬ r_9 ≤ a1 → (wJ4_charAt_5068e x y g a1 (fun r_20 => (Φ r_20)))))))))
set_option maxRecDepth 100000 in
set_option maxHeartbeats 4000000 in
theorem kX3_signAt {l : Launch} {D : va_G} {E : va_W} {ad : Nat → Nat → Nat} {wd sk : Nat → Nat} {cI cB cP cT : ClassId} {rr rq : Nat} {sz : Nat} (x0 : Nat → Nat → Int32) (y0 : Nat → Nat → Nat) (g0 : Nat → Nat → Nat → Int32) (a1 : Int32) {Φ : Int32 → Prop} (h : wX3_signAt x0 y0 g0 a1 Φ) : Met l yX3_signAt (zws yX3_signAt cX3_signAt 2 (some .char)) { frames := 4, cells := 0, slots := 0, locals := 105 } (zPc D (cTy cI cB cP cT) (cX wd sk) (cV E ad wd cI cB cP cT rr rq (x0, y0, g0)) [.ref rr, .int a1] sz) (zQi D (cTy cI cB cP cT) (cV E ad wd cI cB cP cT rr rq) (fun r u => u = (x0, y0, g0) ∧ narrow .char (.int r) = .int r ∧ Φ r) (cV E ad wd cI cB cP cT rr rq (x0, y0, g0)) sz) 0 0 (va_A (cV E ad wd cI cB cP cT rr rq (x0, y0, g0)) sz) := by
  refine zMet (by decide) (Nat.le_of_ble_eq_true rfl) ?_
  intro p e s m args below meth c A hx hb hr hml hown hts hlocks hsz hAe hA hS hP hK hD hX ls hl
  subst hsz
  have hF : zFx p s m args c cX3_signAt RX3 A D (cTy cI cB cP cT) (cX wd sk) 2 := ⟨hx, hb, hml, hown, hts, hA, hK, cX_cl wd sk, hX⟩
  have hl : lv_has ls 2 [(0, .ref rr), (1, .int a1)] := hl
  unfold wX3_signAt at h
  refine lv_iload_n (pc := 0) hx hb dX3_signAt_0 rfl (lv_at hl 1 rfl) ?_
  refine lv_if_lt (pc := 1) (tgt := 26) hx hb dX3_signAt_1 (by decide) (fun c_1 => ?_) (fun c_1 => ?_)
  · have h := h.1 c_1
    refine lv_bipush (pc := 26) (v := 32) hx hb dX3_signAt_26 (by decide) ?_
    exact zirV (pc := 28) (Wd := cV E ad wd cI cB cP cT rr rq) (u := (x0, y0, g0)) hx hb hr hlocks hAe hK hP hD hS rfl dX3_signAt_28 (Nat.le_refl _) (Nat.le_refl _) ⟨rfl, rfl, h⟩
  · have h := h.2 c_1
    refine lv_iload_n (pc := 4) hx hb dX3_signAt_4 rfl (lv_at hl 1 rfl) ?_
    refine lv_aload_n (pc := 5) hx hb dX3_signAt_5 rfl (lv_at hl 0 rfl) ?_
    refine dG_rd_text (pc := 6) hF hP lkX3_9 dX3_signAt_6 ?_
    refine dKip (pc := 9) (Wd := cW (cExt ad wd rr rq x0 y0 ++ E) ad wd cI cB cP cT) (u0 := (x0, y0, g0)) hF hD hS (zrV [] hF (kJ4_length_8abf5 x0 y0 g0 h) (cwX3_J4_length_8abf5 hts ⟨Nat.le_of_ble_eq_true rfl, Nat.le_of_ble_eq_true rfl⟩) (d_rP hF hP (ci := 1) (q0 := 1) rfl (cA_SB ..)) hP hD hS rfl rfl hl.1 (Nat.le_of_ble_eq_true rfl) dX3_signAt_9 ⟨Nat.le_refl _, Nat.le_refl _⟩) (fun r_9 H locs h (hP : va_P D vwCl (cV E ad wd cI cB cP cT rr rq (x0, y0, g0)) H) (hD : va_D A (cV E ad wd cI cB cP cT rr rq (x0, y0, g0))) hS => ?_)
    refine lv_icmp_ge (pc := 12) (tgt := 26) hx hb dX3_signAt_12 (by decide) (fun c_12 => ?_) (fun c_12 => ?_)
    · have h := h.1 c_12
      refine lv_bipush (pc := 26) (v := 32) hx hb dX3_signAt_26 (by decide) ?_
      exact zirV (pc := 28) (Wd := cV E ad wd cI cB cP cT rr rq) (u := (x0, y0, g0)) hx hb hr hlocks hAe hK hP hD hS rfl dX3_signAt_28 (Nat.le_refl _) (Nat.le_refl _) ⟨rfl, rfl, h⟩
    · have h := h.2 c_12
      refine lv_aload_n (pc := 15) hx hb dX3_signAt_15 rfl (lv_at hl 0 rfl) ?_
      refine dG_rd_text (pc := 16) hF hP lkX3_9 dX3_signAt_16 ?_
      refine lv_iload_n (pc := 19) hx hb dX3_signAt_19 rfl (lv_at hl 1 rfl) ?_
      refine dKcp (pc := 20) (Wd := cW (cExt ad wd rr rq x0 y0 ++ E) ad wd cI cB cP cT) (u0 := (x0, y0, g0)) hF hD hS (zrV [.int a1] hF (kJ4_charAt_5068e x0 y0 g0 a1 h) (cwX3_J4_charAt_5068e hts ⟨Nat.le_of_ble_eq_true rfl, Nat.le_of_ble_eq_true rfl⟩) (d_rP hF hP (ci := 1) (q0 := 1) rfl (cA_SB ..)) hP hD hS rfl rfl hl.1 (Nat.le_of_ble_eq_true rfl) dX3_signAt_20 ⟨Nat.le_refl _, Nat.le_refl _⟩) (fun r_20 H locs hb_20 h (hP : va_P D vwCl (cV E ad wd cI cB cP cT rr rq (x0, y0, g0)) H) (hD : va_D A (cV E ad wd cI cB cP cT rr rq (x0, y0, g0))) hS => ?_)
      refine lv_goto (pc := 23) (tgt := 28) hx hb dX3_signAt_23 (by decide) ?_
      exact zirV (pc := 28) (Wd := cV E ad wd cI cB cP cT rr rq) (u := (x0, y0, g0)) hx hb hr hlocks hAe hK hP hD hS hb_20 dX3_signAt_28 (Nat.le_refl _) (Nat.le_refl _) ⟨rfl, hb_20, h⟩

def wX3_isEndOfPart (x : Nat → Nat → Int32) (y : Nat → Nat → Nat) (g : Nat → Nat → Nat → Int32) (a1 : Int32) (Φ : Int32 → Prop) : Prop := (wX3_signAt x y g a1 (fun r_2 => ((r_2 = 32 → (Φ 1)) ∧ (¬ r_2 = 32 → (Φ 0)))))
set_option maxRecDepth 100000 in
set_option maxHeartbeats 4000000 in
theorem kX3_isEndOfPart {l : Launch} {D : va_G} {E : va_W} {ad : Nat → Nat → Nat} {wd sk : Nat → Nat} {cI cB cP cT : ClassId} {rr rq : Nat} {sz : Nat} (x0 : Nat → Nat → Int32) (y0 : Nat → Nat → Nat) (g0 : Nat → Nat → Nat → Int32) (a1 : Int32) {Φ : Int32 → Prop} (h : wX3_isEndOfPart x0 y0 g0 a1 Φ) : Met l yX3_isEndOfPart (zws yX3_isEndOfPart cX3_isEndOfPart 2 (some .boolean)) { frames := 5, cells := 0, slots := 0, locals := 126 } (zPc D (cTy cI cB cP cT) (cX wd sk) (cV E ad wd cI cB cP cT rr rq (x0, y0, g0)) [.ref rr, .int a1] sz) (zQi D (cTy cI cB cP cT) (cV E ad wd cI cB cP cT rr rq) (fun r u => u = (x0, y0, g0) ∧ (r = 0 ∨ r = 1) ∧ Φ r) (cV E ad wd cI cB cP cT rr rq (x0, y0, g0)) sz) 0 0 (va_A (cV E ad wd cI cB cP cT rr rq (x0, y0, g0)) sz) := by
  refine zMet (by decide) (Nat.le_of_ble_eq_true rfl) ?_
  intro p e s m args below meth c A hx hb hr hml hown hts hlocks hsz hAe hA hS hP hK hD hX ls hl
  subst hsz
  have hF : zFx p s m args c cX3_isEndOfPart RX3 A D (cTy cI cB cP cT) (cX wd sk) 2 := ⟨hx, hb, hml, hown, hts, hA, hK, cX_cl wd sk, hX⟩
  have hl : lv_has ls 2 [(0, .ref rr), (1, .int a1)] := hl
  unfold wX3_isEndOfPart at h
  refine lv_aload_n (pc := 0) hx hb dX3_isEndOfPart_0 rfl (lv_at hl 0 rfl) ?_
  refine lv_iload_n (pc := 1) hx hb dX3_isEndOfPart_1 rfl (lv_at hl 1 rfl) ?_
  refine dKcp (pc := 2) (Wd := cV E ad wd cI cB cP cT rr rq) (u0 := (x0, y0, g0)) hF hD hS (zrV [.int a1] hF (kX3_signAt x0 y0 g0 a1 h) (cwX3_X3_signAt hts ⟨Nat.le_of_ble_eq_true rfl, Nat.le_of_ble_eq_true rfl⟩) (d_rP hF hP (ci := 7) (q0 := 57) rfl (cA_RD ..)) hP hD hS rfl rfl hl.1 (Nat.le_of_ble_eq_true rfl) dX3_isEndOfPart_2 ⟨Nat.le_refl _, Nat.le_refl _⟩) (fun r_2 H locs hb_2 h (hP : va_P D vwCl (cV E ad wd cI cB cP cT rr rq (x0, y0, g0)) H) (hD : va_D A (cV E ad wd cI cB cP cT rr rq (x0, y0, g0))) hS => ?_)
  refine lv_bipush (pc := 5) (v := 32) hx hb dX3_isEndOfPart_5 (by decide) ?_
  refine lv_icmp_ne (pc := 7) (tgt := 14) hx hb dX3_isEndOfPart_7 (by decide) (fun c_7 => ?_) (fun c_7 => ?_)
  · have h := h.2 c_7
    refine lv_iconst (pc := 14) (v := 0) hx hb dX3_isEndOfPart_14 (by decide) ?_
    exact zirV (pc := 15) (Wd := cV E ad wd cI cB cP cT rr rq) (u := (x0, y0, g0)) hx hb hr hlocks hAe hK hP hD hS rfl dX3_isEndOfPart_15 (Nat.le_refl _) (Nat.le_refl _) ⟨rfl, (Or.inl rfl), h⟩
  · have h := h.1 c_7
    refine lv_iconst (pc := 10) (v := 1) hx hb dX3_isEndOfPart_10 (by decide) ?_
    refine lv_goto (pc := 11) (tgt := 15) hx hb dX3_isEndOfPart_11 (by decide) ?_
    exact zirV (pc := 15) (Wd := cV E ad wd cI cB cP cT rr rq) (u := (x0, y0, g0)) hx hb hr hlocks hAe hK hP hD hS rfl dX3_isEndOfPart_15 (Nat.le_refl _) (Nat.le_refl _) ⟨rfl, (Or.inr rfl), h⟩

def wX3_isDigit (a0 : Int32) (Φ : Int32 → Prop) : Prop := ((a0 < 48 → (Φ 0)) ∧ (¬ a0 < 48 → ((57 < a0 → (Φ 0)) ∧ (¬ 57 < a0 → (Φ 1)))))
set_option maxRecDepth 100000 in
set_option maxHeartbeats 4000000 in
theorem kX3_isDigit {l : Launch} {D : va_G} {E : va_W} {ad : Nat → Nat → Nat} {wd sk : Nat → Nat} {cI cB cP cT : ClassId} {rr rq : Nat} {sz : Nat} (x0 : Nat → Nat → Int32) (y0 : Nat → Nat → Nat) (g0 : Nat → Nat → Nat → Int32) (a0 : Int32) {Φ : Int32 → Prop} (h : wX3_isDigit a0 Φ) : Met l yX3_isDigit (zws yX3_isDigit cX3_isDigit 1 (some .boolean)) { frames := 0, cells := 0, slots := 0, locals := 0 } (zPc D (cTy cI cB cP cT) (cX wd sk) (cV E ad wd cI cB cP cT rr rq (x0, y0, g0)) [.int a0] sz) (zQi D (cTy cI cB cP cT) (cV E ad wd cI cB cP cT rr rq) (fun r u => u = (x0, y0, g0) ∧ (r = 0 ∨ r = 1) ∧ Φ r) (cV E ad wd cI cB cP cT rr rq (x0, y0, g0)) sz) 0 0 (va_A (cV E ad wd cI cB cP cT rr rq (x0, y0, g0)) sz) := by
  refine zMet (by decide) (Nat.le_of_ble_eq_true rfl) ?_
  intro p e s m args below meth c A hx hb hr hml hown hts hlocks hsz hAe hA hS hP hK hD hX ls hl
  subst hsz
  have hF : zFx p s m args c cX3_isDigit RX3 A D (cTy cI cB cP cT) (cX wd sk) 1 := ⟨hx, hb, hml, hown, hts, hA, hK, cX_cl wd sk, hX⟩
  have hl : lv_has ls 1 [(0, .int a0)] := hl
  unfold wX3_isDigit at h
  refine lv_iload_n (pc := 0) hx hb dX3_isDigit_0 rfl (lv_at hl 0 rfl) ?_
  refine lv_bipush (pc := 1) (v := 48) hx hb dX3_isDigit_1 (by decide) ?_
  refine lv_icmp_lt (pc := 3) (tgt := 16) hx hb dX3_isDigit_3 (by decide) (fun c_3 => ?_) (fun c_3 => ?_)
  · have h := h.1 c_3
    refine lv_iconst (pc := 16) (v := 0) hx hb dX3_isDigit_16 (by decide) ?_
    exact zirV (pc := 17) (Wd := cV E ad wd cI cB cP cT rr rq) (u := (x0, y0, g0)) hx hb hr hlocks hAe hK hP hD hS rfl dX3_isDigit_17 (Nat.le_refl _) (Nat.le_refl _) ⟨rfl, (Or.inl rfl), h⟩
  · have h := h.2 c_3
    refine lv_iload_n (pc := 6) hx hb dX3_isDigit_6 rfl (lv_at hl 0 rfl) ?_
    refine lv_bipush (pc := 7) (v := 57) hx hb dX3_isDigit_7 (by decide) ?_
    refine lv_icmp_gt (pc := 9) (tgt := 16) hx hb dX3_isDigit_9 (by decide) (fun c_9 => ?_) (fun c_9 => ?_)
    · have h := h.1 c_9
      refine lv_iconst (pc := 16) (v := 0) hx hb dX3_isDigit_16 (by decide) ?_
      exact zirV (pc := 17) (Wd := cV E ad wd cI cB cP cT rr rq) (u := (x0, y0, g0)) hx hb hr hlocks hAe hK hP hD hS rfl dX3_isDigit_17 (Nat.le_refl _) (Nat.le_refl _) ⟨rfl, (Or.inl rfl), h⟩
    · have h := h.2 c_9
      refine lv_iconst (pc := 12) (v := 1) hx hb dX3_isDigit_12 (by decide) ?_
      refine lv_goto (pc := 13) (tgt := 17) hx hb dX3_isDigit_13 (by decide) ?_
      exact zirV (pc := 17) (Wd := cV E ad wd cI cB cP cT rr rq) (u := (x0, y0, g0)) hx hb hr hlocks hAe hK hP hD hS rfl dX3_isDigit_17 (Nat.le_refl _) (Nat.le_refl _) ⟨rfl, (Or.inr rfl), h⟩

def lX3_skipBlanks_0 (Φ : (Nat → Nat → Int32) → (Nat → Nat → Nat) → (Nat → Nat → Nat → Int32) → Prop) : Nat → (Nat → Nat → Int32) → (Nat → Nat → Nat) → (Nat → Nat → Nat → Int32) → Prop
  | 0, _, _, _ => False
  | n0 + 1, x, y, g => (wJ4_length_8abf5 x y g (fun r_8 => ((r_8 ≤ ((x 20) 0) → (Φ x y g)) ∧ (¬ r_8 ≤ ((x 20) 0) → (wJ4_charAt_5068e x y g ((x 20) 0) (fun r_22 => ((r_22 = 32 → ((lX3_skipBlanks_0 Φ n0) (va_up x 20 (va_up (x 20) 0 (((x 20) 0) + 1))) y g)) ∧ (¬ r_22 = 32 → (Φ x y g)))))))))
def wX3_skipBlanks (x : Nat → Nat → Int32) (y : Nat → Nat → Nat) (g : Nat → Nat → Nat → Int32) (Φ : (Nat → Nat → Int32) → (Nat → Nat → Nat) → (Nat → Nat → Nat → Int32) → Prop) : Prop := (∃ n0 : Nat, lX3_skipBlanks_0 Φ n0 x y g)
set_option maxRecDepth 100000 in
set_option maxHeartbeats 4000000 in
theorem kX3_skipBlanks {l : Launch} {D : va_G} {E : va_W} {ad : Nat → Nat → Nat} {wd sk : Nat → Nat} {cI cB cP cT : ClassId} {rr rq : Nat} {sz : Nat} (x0 : Nat → Nat → Int32) (y0 : Nat → Nat → Nat) (g0 : Nat → Nat → Nat → Int32) {Φ : (Nat → Nat → Int32) → (Nat → Nat → Nat) → (Nat → Nat → Nat → Int32) → Prop} (h : wX3_skipBlanks x0 y0 g0 Φ) : Met l yX3_skipBlanks (zws yX3_skipBlanks cX3_skipBlanks 1 none) { frames := 4, cells := 0, slots := 0, locals := 105 } (zPc D (cTy cI cB cP cT) (cX wd sk) (cV E ad wd cI cB cP cT rr rq (x0, y0, g0)) [.ref rr] sz) (zQv D (cTy cI cB cP cT) (cV E ad wd cI cB cP cT rr rq) (fun u => Φ u.1 u.2.1 u.2.2) (cV E ad wd cI cB cP cT rr rq (x0, y0, g0)) sz) 0 0 (va_A (cV E ad wd cI cB cP cT rr rq (x0, y0, g0)) sz) := by
  refine zMet (by decide) (Nat.le_of_ble_eq_true rfl) ?_
  intro p e s m args below meth c A hx hb hr hml hown hts hlocks hsz hAe hA hS hP hK hD hX ls hl
  subst hsz
  have hF : zFx p s m args c cX3_skipBlanks RX3 A D (cTy cI cB cP cT) (cX wd sk) 1 := ⟨hx, hb, hml, hown, hts, hA, hK, cX_cl wd sk, hX⟩
  have hl : lv_has ls 1 [(0, .ref rr)] := hl
  have L0 : ∀ n0 : Nat, ∀ (x : Nat → Nat → Int32) (y : Nat → Nat → Nat) (g : Nat → Nat → Nat → Int32), lX3_skipBlanks_0 Φ n0 x y g → ∀ (H : Heap) (locs : List Loc) (ls : Array Slot), va_P D vwCl (cV E ad wd cI cB cP cT rr rq (x, y, g)) H → va_D A (cV E ad wd cI cB cP cT rr rq (x, y, g)) → va_S A s.heap H locs → lv_has ls 1 [(0, .ref rr)] → W p l e { frames := 4, cells := 0, slots := 0, locals := 105 } s m args below meth c H locs 0 0 (MQ below (zQv D (cTy cI cB cP cT) (cV E ad wd cI cB cP cT rr rq) (fun u => Φ u.1 u.2.1 u.2.2) (cV E ad wd cI cB cP cT rr rq (x0, y0, g0)) s.heap.size) args s 0 0 (va_A (cV E ad wd cI cB cP cT rr rq (x0, y0, g0)) s.heap.size)) (F0 m 0 ls []) := by
    intro n0
    induction n0 with
    | zero => intro x y g  h H locs ls hP hD hS hl; exact h.elim
    | succ n0 ih0 =>
      intro x y g  h H locs ls hP hD hS hl
      unfold lX3_skipBlanks_0 at h
      refine lv_aload_n (pc := 0) hx hb dX3_skipBlanks_0 rfl (lv_at hl 0 rfl) ?_
      refine dG_rd_place (pc := 1) hF hP lkX3_19 (v := ((x 20) 0)) rfl dX3_skipBlanks_1 ?_
      refine lv_aload_n (pc := 4) hx hb dX3_skipBlanks_4 rfl (lv_at hl 0 rfl) ?_
      refine dG_rd_text (pc := 5) hF hP lkX3_9 dX3_skipBlanks_5 ?_
      refine dKip (pc := 8) (Wd := cW (cExt ad wd rr rq x y ++ E) ad wd cI cB cP cT) (u0 := (x, y, g)) hF hD hS (zrV [] hF (kJ4_length_8abf5 x y g h) (cwX3_J4_length_8abf5 hts ⟨Nat.le_of_ble_eq_true rfl, Nat.le_of_ble_eq_true rfl⟩) (d_rP hF hP (ci := 1) (q0 := 1) rfl (cA_SB ..)) hP hD hS rfl rfl hl.1 (Nat.le_of_ble_eq_true rfl) dX3_skipBlanks_8 ⟨Nat.le_refl _, Nat.le_refl _⟩) (fun r_8 H locs h (hP : va_P D vwCl (cV E ad wd cI cB cP cT rr rq (x, y, g)) H) (hD : va_D A (cV E ad wd cI cB cP cT rr rq (x, y, g))) hS => ?_)
      refine lv_icmp_ge (pc := 11) (tgt := 43) hx hb dX3_skipBlanks_11 (by decide) (fun c_11 => ?_) (fun c_11 => ?_)
      · have h := h.1 c_11
        exact zvr (pc := 43) (Wd := cV E ad wd cI cB cP cT rr rq) (u := (x, y, g)) hx hb hr hlocks hAe hK hP hD hS dX3_skipBlanks_43 (Nat.le_refl _) (Nat.le_refl _) h
      · have h := h.2 c_11
        refine lv_aload_n (pc := 14) hx hb dX3_skipBlanks_14 rfl (lv_at hl 0 rfl) ?_
        refine dG_rd_text (pc := 15) hF hP lkX3_9 dX3_skipBlanks_15 ?_
        refine lv_aload_n (pc := 18) hx hb dX3_skipBlanks_18 rfl (lv_at hl 0 rfl) ?_
        refine dG_rd_place (pc := 19) hF hP lkX3_19 (v := ((x 20) 0)) rfl dX3_skipBlanks_19 ?_
        refine dKcp (pc := 22) (Wd := cW (cExt ad wd rr rq x y ++ E) ad wd cI cB cP cT) (u0 := (x, y, g)) hF hD hS (zrV [.int ((x 20) 0)] hF (kJ4_charAt_5068e x y g ((x 20) 0) h) (cwX3_J4_charAt_5068e hts ⟨Nat.le_of_ble_eq_true rfl, Nat.le_of_ble_eq_true rfl⟩) (d_rP hF hP (ci := 1) (q0 := 1) rfl (cA_SB ..)) hP hD hS rfl rfl hl.1 (Nat.le_of_ble_eq_true rfl) dX3_skipBlanks_22 ⟨Nat.le_refl _, Nat.le_refl _⟩) (fun r_22 H locs hb_22 h (hP : va_P D vwCl (cV E ad wd cI cB cP cT rr rq (x, y, g)) H) (hD : va_D A (cV E ad wd cI cB cP cT rr rq (x, y, g))) hS => ?_)
        refine lv_bipush (pc := 25) (v := 32) hx hb dX3_skipBlanks_25 (by decide) ?_
        refine lv_icmp_ne (pc := 27) (tgt := 43) hx hb dX3_skipBlanks_27 (by decide) (fun c_27 => ?_) (fun c_27 => ?_)
        · have h := h.2 c_27
          exact zvr (pc := 43) (Wd := cV E ad wd cI cB cP cT rr rq) (u := (x, y, g)) hx hb hr hlocks hAe hK hP hD hS dX3_skipBlanks_43 (Nat.le_refl _) (Nat.le_refl _) h
        · have h := h.1 c_27
          refine lv_aload_n (pc := 30) hx hb dX3_skipBlanks_30 rfl (lv_at hl 0 rfl) ?_
          refine lv_dup (pc := 31) hx hb dX3_skipBlanks_31 rfl ?_
          refine dG_rd_place (pc := 32) hF hP lkX3_19 (v := ((x 20) 0)) rfl dX3_skipBlanks_32 ?_
          refine lv_iconst (pc := 35) (v := 1) hx hb dX3_skipBlanks_35 (by decide) ?_
          refine lv_iadd (pc := 36) hx hb dX3_skipBlanks_36 ?_
          refine dP_rd_place (pc := 37) hF hP hD hS lkX3_19 dX3_skipBlanks_37 (fun H locs hP hD hS => ?_)
          refine lv_goto (pc := 40) (tgt := 0) hx hb dX3_skipBlanks_40 (by decide) ?_
          exact ih0 (va_up x 20 (va_up (x 20) 0 (((x 20) 0) + 1))) y g h _ _ _ hP hD hS (lv_sub hl [0] rfl)
  unfold wX3_skipBlanks at h
  obtain ⟨n0, h⟩ := h
  exact L0 n0 x0 y0 g0 h _ _ _ hP hD hS (lv_sub hl [0] rfl)

def wX3_takeNumber (x : Nat → Nat → Int32) (y : Nat → Nat → Nat) (g : Nat → Nat → Nat → Int32) (a1 : Int32) (Φ : (Nat → Nat → Int32) → (Nat → Nat → Nat) → (Nat → Nat → Nat → Int32) → Prop) : Prop := ((((x 21) 0) = 3 → (Φ (va_up (va_up x 8 (va_up (x 8) 1 a1)) 21 (va_up (x 21) 0 4)) y g)) ∧ (¬ ((x 21) 0) = 3 → ((((x 21) 0) = 9 → (Φ (va_up (va_up x 12 (va_up (x 12) 1 a1)) 21 (va_up (x 21) 0 10)) y g)) ∧ (¬ ((x 21) 0) = 9 → ((((x 21) 0) = 7 → (Φ (va_up (va_up x 11 (va_up (x 11) 1 a1)) 21 (va_up (x 21) 0 8)) y g)) ∧ (¬ ((x 21) 0) = 7 → ((((y 5) 1) = 9 → (Φ (va_up (va_up (va_up x 10 (va_up (x 10) 1 a1)) 11 (va_up (x 11) 1 a1)) 21 (va_up (x 21) 0 7)) y g)) ∧ (¬ ((y 5) 1) = 9 → (Φ (va_up (va_up (va_up x 10 (va_up (x 10) 1 a1)) 11 (va_up (x 11) 1 a1)) 21 (va_up (x 21) 0 8)) y g)))))))))
set_option maxRecDepth 100000 in
set_option maxHeartbeats 4000000 in
theorem kX3_takeNumber {l : Launch} {D : va_G} {E : va_W} {ad : Nat → Nat → Nat} {wd sk : Nat → Nat} {cI cB cP cT : ClassId} {rr rq : Nat} {sz : Nat} (x0 : Nat → Nat → Int32) (y0 : Nat → Nat → Nat) (g0 : Nat → Nat → Nat → Int32) (a1 : Int32) {Φ : (Nat → Nat → Int32) → (Nat → Nat → Nat) → (Nat → Nat → Nat → Int32) → Prop} (h : wX3_takeNumber x0 y0 g0 a1 Φ) : Met l yX3_takeNumber (zws yX3_takeNumber cX3_takeNumber 2 none) { frames := 0, cells := 0, slots := 0, locals := 0 } (zPc D (cTy cI cB cP cT) (cX wd sk) (cV E ad wd cI cB cP cT rr rq (x0, y0, g0)) [.ref rr, .int a1] sz) (zQv D (cTy cI cB cP cT) (cV E ad wd cI cB cP cT rr rq) (fun u => Φ u.1 u.2.1 u.2.2) (cV E ad wd cI cB cP cT rr rq (x0, y0, g0)) sz) 0 0 (va_A (cV E ad wd cI cB cP cT rr rq (x0, y0, g0)) sz) := by
  refine zMet (by decide) (Nat.le_of_ble_eq_true rfl) ?_
  intro p e s m args below meth c A hx hb hr hml hown hts hlocks hsz hAe hA hS hP hK hD hX ls hl
  subst hsz
  have hF : zFx p s m args c cX3_takeNumber RX3 A D (cTy cI cB cP cT) (cX wd sk) 2 := ⟨hx, hb, hml, hown, hts, hA, hK, cX_cl wd sk, hX⟩
  have hl : lv_has ls 2 [(0, .ref rr), (1, .int a1)] := hl
  unfold wX3_takeNumber at h
  refine lv_aload_n (pc := 0) hx hb dX3_takeNumber_0 rfl (lv_at hl 0 rfl) ?_
  refine dG_rd_stage (pc := 1) hF hP lkX3_23 (v := ((x0 21) 0)) rfl dX3_takeNumber_1 ?_
  refine lv_iconst (pc := 4) (v := 3) hx hb dX3_takeNumber_4 (by decide) ?_
  refine lv_icmp_ne (pc := 5) (tgt := 24) hx hb dX3_takeNumber_5 (by decide) (fun c_5 => ?_) (fun c_5 => ?_)
  · have h := h.2 c_5
    refine lv_aload_n (pc := 24) hx hb dX3_takeNumber_24 rfl (lv_at hl 0 rfl) ?_
    refine dG_rd_stage (pc := 25) hF hP lkX3_23 (v := ((x0 21) 0)) rfl dX3_takeNumber_25 ?_
    refine lv_bipush (pc := 28) (v := 9) hx hb dX3_takeNumber_28 (by decide) ?_
    refine lv_icmp_ne (pc := 30) (tgt := 50) hx hb dX3_takeNumber_30 (by decide) (fun c_30 => ?_) (fun c_30 => ?_)
    · have h := h.2 c_30
      refine lv_aload_n (pc := 50) hx hb dX3_takeNumber_50 rfl (lv_at hl 0 rfl) ?_
      refine dG_rd_stage (pc := 51) hF hP lkX3_23 (v := ((x0 21) 0)) rfl dX3_takeNumber_51 ?_
      refine lv_bipush (pc := 54) (v := 7) hx hb dX3_takeNumber_54 (by decide) ?_
      refine lv_icmp_ne (pc := 56) (tgt := 76) hx hb dX3_takeNumber_56 (by decide) (fun c_56 => ?_) (fun c_56 => ?_)
      · have h := h.2 c_56
        refine lv_aload_n (pc := 76) hx hb dX3_takeNumber_76 rfl (lv_at hl 0 rfl) ?_
        refine dG_rd_query (pc := 77) hF hP lkX3_15 dX3_takeNumber_77 ?_
        refine lv_iload_n (pc := 80) hx hb dX3_takeNumber_80 rfl (lv_at hl 1 rfl) ?_
        refine dPN_q1_size (pc := 81) hF hP hD hS lkX3_129 dX3_takeNumber_81 (fun H locs hP hD hS => ?_)
        refine lv_aload_n (pc := 84) hx hb dX3_takeNumber_84 rfl (lv_at hl 0 rfl) ?_
        refine dG_rd_query (pc := 85) hF hP lkX3_15 dX3_takeNumber_85 ?_
        refine lv_iload_n (pc := 88) hx hb dX3_takeNumber_88 rfl (lv_at hl 1 rfl) ?_
        refine dPN_q1_slide (pc := 89) hF hP hD hS lkX3_126 dX3_takeNumber_89 (fun H locs hP hD hS => ?_)
        refine lv_aload_n (pc := 92) hx hb dX3_takeNumber_92 rfl (lv_at hl 0 rfl) ?_
        refine lv_aload_n (pc := 93) hx hb dX3_takeNumber_93 rfl (lv_at hl 0 rfl) ?_
        refine dG_rd_query (pc := 94) hF hP lkX3_15 dX3_takeNumber_94 ?_
        refine dGN_q1_shape (pc := 97) hF hP lkX3_106 dX3_takeNumber_97 ?_
        refine c_word (pc := 100) hF hP hS (k := 9) (by decide) rfl lkX3_132 dX3_takeNumber_100 ?_
        refine c_acmp_ne (pc := 103) (i := ((y0 5) 1)) (j := 9) (tgt := 111) hF hP dX3_takeNumber_103 (by decide) (fun c_103 => ?_) (fun c_103 => ?_)
        · have h := h.2 c_103
          refine lv_bipush (pc := 111) (v := 8) hx hb dX3_takeNumber_111 (by decide) ?_
          refine dP_rd_stage (pc := 113) hF hP hD hS lkX3_23 dX3_takeNumber_113 (fun H locs hP hD hS => ?_)
          exact zvr (pc := 116) (Wd := cV E ad wd cI cB cP cT rr rq) (u := ((va_up (va_up (va_up x0 10 (va_up (x0 10) 1 a1)) 11 (va_up (x0 11) 1 a1)) 21 (va_up (x0 21) 0 8)), y0, g0)) hx hb hr hlocks hAe hK hP hD hS dX3_takeNumber_116 (Nat.le_refl _) (Nat.le_refl _) h
        · have h := h.1 c_103
          refine lv_bipush (pc := 106) (v := 7) hx hb dX3_takeNumber_106 (by decide) ?_
          refine lv_goto (pc := 108) (tgt := 113) hx hb dX3_takeNumber_108 (by decide) ?_
          refine dP_rd_stage (pc := 113) hF hP hD hS lkX3_23 dX3_takeNumber_113 (fun H locs hP hD hS => ?_)
          exact zvr (pc := 116) (Wd := cV E ad wd cI cB cP cT rr rq) (u := ((va_up (va_up (va_up x0 10 (va_up (x0 10) 1 a1)) 11 (va_up (x0 11) 1 a1)) 21 (va_up (x0 21) 0 7)), y0, g0)) hx hb hr hlocks hAe hK hP hD hS dX3_takeNumber_116 (Nat.le_refl _) (Nat.le_refl _) h
      · have h := h.1 c_56
        refine lv_aload_n (pc := 59) hx hb dX3_takeNumber_59 rfl (lv_at hl 0 rfl) ?_
        refine dG_rd_query (pc := 60) hF hP lkX3_15 dX3_takeNumber_60 ?_
        refine lv_iload_n (pc := 63) hx hb dX3_takeNumber_63 rfl (lv_at hl 1 rfl) ?_
        refine dPN_q1_slide (pc := 64) hF hP hD hS lkX3_126 dX3_takeNumber_64 (fun H locs hP hD hS => ?_)
        refine lv_aload_n (pc := 67) hx hb dX3_takeNumber_67 rfl (lv_at hl 0 rfl) ?_
        refine lv_bipush (pc := 68) (v := 8) hx hb dX3_takeNumber_68 (by decide) ?_
        refine dP_rd_stage (pc := 70) hF hP hD hS lkX3_23 dX3_takeNumber_70 (fun H locs hP hD hS => ?_)
        refine lv_goto (pc := 73) (tgt := 116) hx hb dX3_takeNumber_73 (by decide) ?_
        exact zvr (pc := 116) (Wd := cV E ad wd cI cB cP cT rr rq) (u := ((va_up (va_up x0 11 (va_up (x0 11) 1 a1)) 21 (va_up (x0 21) 0 8)), y0, g0)) hx hb hr hlocks hAe hK hP hD hS dX3_takeNumber_116 (Nat.le_refl _) (Nat.le_refl _) h
    · have h := h.1 c_30
      refine lv_aload_n (pc := 33) hx hb dX3_takeNumber_33 rfl (lv_at hl 0 rfl) ?_
      refine dG_rd_query (pc := 34) hF hP lkX3_15 dX3_takeNumber_34 ?_
      refine lv_iload_n (pc := 37) hx hb dX3_takeNumber_37 rfl (lv_at hl 1 rfl) ?_
      refine dPN_q1_lateness (pc := 38) hF hP hD hS lkX3_123 dX3_takeNumber_38 (fun H locs hP hD hS => ?_)
      refine lv_aload_n (pc := 41) hx hb dX3_takeNumber_41 rfl (lv_at hl 0 rfl) ?_
      refine lv_bipush (pc := 42) (v := 10) hx hb dX3_takeNumber_42 (by decide) ?_
      refine dP_rd_stage (pc := 44) hF hP hD hS lkX3_23 dX3_takeNumber_44 (fun H locs hP hD hS => ?_)
      refine lv_goto (pc := 47) (tgt := 116) hx hb dX3_takeNumber_47 (by decide) ?_
      exact zvr (pc := 116) (Wd := cV E ad wd cI cB cP cT rr rq) (u := ((va_up (va_up x0 12 (va_up (x0 12) 1 a1)) 21 (va_up (x0 21) 0 10)), y0, g0)) hx hb hr hlocks hAe hK hP hD hS dX3_takeNumber_116 (Nat.le_refl _) (Nat.le_refl _) h
  · have h := h.1 c_5
    refine lv_aload_n (pc := 8) hx hb dX3_takeNumber_8 rfl (lv_at hl 0 rfl) ?_
    refine dG_rd_query (pc := 9) hF hP lkX3_15 dX3_takeNumber_9 ?_
    refine lv_iload_n (pc := 12) hx hb dX3_takeNumber_12 rfl (lv_at hl 1 rfl) ?_
    refine dPN_q1_limit (pc := 13) hF hP hD hS lkX3_120 dX3_takeNumber_13 (fun H locs hP hD hS => ?_)
    refine lv_aload_n (pc := 16) hx hb dX3_takeNumber_16 rfl (lv_at hl 0 rfl) ?_
    refine lv_iconst (pc := 17) (v := 4) hx hb dX3_takeNumber_17 (by decide) ?_
    refine dP_rd_stage (pc := 18) hF hP hD hS lkX3_23 dX3_takeNumber_18 (fun H locs hP hD hS => ?_)
    refine lv_goto (pc := 21) (tgt := 116) hx hb dX3_takeNumber_21 (by decide) ?_
    exact zvr (pc := 116) (Wd := cV E ad wd cI cB cP cT rr rq) (u := ((va_up (va_up x0 8 (va_up (x0 8) 1 a1)) 21 (va_up (x0 21) 0 4)), y0, g0)) hx hb hr hlocks hAe hK hP hD hS dX3_takeNumber_116 (Nat.le_refl _) (Nat.le_refl _) h

def wX3_takeWord (x : Nat → Nat → Int32) (y : Nat → Nat → Nat) (g : Nat → Nat → Nat → Int32) (q1 : Nat) (Φ : (Nat → Nat → Int32) → (Nat → Nat → Nat) → (Nat → Nat → Nat → Int32) → Prop) : Prop := ((((x 21) 0) = 0 → (Φ (va_up x 21 (va_up (x 21) 0 (wNext q1))) (va_up y 3 (va_up (y 3) 1 q1)) g)) ∧ (¬ ((x 21) 0) = 0 → ((((x 21) 0) = 2 → (Φ (va_up x 21 (va_up (x 21) 0 (wNext q1))) (va_up y 4 (va_up (y 4) 1 q1)) g)) ∧ (¬ ((x 21) 0) = 2 → ((q1 = 7 → (Φ (va_up (va_up x 9 (va_up (x 9) 1 1)) 21 (va_up (x 21) 0 (wNext q1))) y g)) ∧ (¬ q1 = 7 → (((wNext q1) = 6 → (Φ (va_up x 21 (va_up (x 21) 0 (wNext q1))) (va_up y 5 (va_up (y 5) 1 q1)) g)) ∧ (¬ (wNext q1) = 6 → (((wNext q1) = 11 → (Φ (va_up x 21 (va_up (x 21) 0 (wNext q1))) (va_up y 6 (va_up (y 6) 1 q1)) g)) ∧ (¬ (wNext q1) = 11 → (Φ (va_up x 21 (va_up (x 21) 0 (wNext q1))) y g)))))))))))
set_option maxRecDepth 100000 in
set_option maxHeartbeats 4000000 in
theorem kX3_takeWord {l : Launch} {D : va_G} {E : va_W} {ad : Nat → Nat → Nat} {wd sk : Nat → Nat} {cI cB cP cT : ClassId} {rr rq : Nat} {sz : Nat} (x0 : Nat → Nat → Int32) (y0 : Nat → Nat → Nat) (g0 : Nat → Nat → Nat → Int32) (q1 : Nat) {Φ : (Nat → Nat → Int32) → (Nat → Nat → Nat) → (Nat → Nat → Nat → Int32) → Prop} (h : wX3_takeWord x0 y0 g0 q1 Φ) (hq1 : q1 < 15) : Met l yX3_takeWord (zws yX3_takeWord cX3_takeWord 2 none) { frames := 0, cells := 0, slots := 0, locals := 0 } (zPc D (cTy cI cB cP cT) (cX wd sk) (cV E ad wd cI cB cP cT rr rq (x0, y0, g0)) [.ref rr, .ref (wd q1)] sz) (zQv D (cTy cI cB cP cT) (cV E ad wd cI cB cP cT rr rq) (fun u => Φ u.1 u.2.1 u.2.2) (cV E ad wd cI cB cP cT rr rq (x0, y0, g0)) sz) 0 0 (va_A (cV E ad wd cI cB cP cT rr rq (x0, y0, g0)) sz) := by
  refine zMet (by decide) (Nat.le_of_ble_eq_true rfl) ?_
  intro p e s m args below meth c A hx hb hr hml hown hts hlocks hsz hAe hA hS hP hK hD hX ls hl
  subst hsz
  have hF : zFx p s m args c cX3_takeWord RX3 A D (cTy cI cB cP cT) (cX wd sk) 2 := ⟨hx, hb, hml, hown, hts, hA, hK, cX_cl wd sk, hX⟩
  have hl : lv_has ls 2 [(0, .ref rr), (1, .ref (wd q1))] := hl
  unfold wX3_takeWord at h
  refine lv_aload_n (pc := 0) hx hb dX3_takeWord_0 rfl (lv_at hl 0 rfl) ?_
  refine dG_rd_stage (pc := 1) hF hP lkX3_23 (v := ((x0 21) 0)) rfl dX3_takeWord_1 ?_
  refine lv_if_ne (pc := 4) (tgt := 18) hx hb dX3_takeWord_4 (by decide) (fun c_4 => ?_) (fun c_4 => ?_)
  · have h := h.2 c_4
    refine lv_aload_n (pc := 18) hx hb dX3_takeWord_18 rfl (lv_at hl 0 rfl) ?_
    refine dG_rd_stage (pc := 19) hF hP lkX3_23 (v := ((x0 21) 0)) rfl dX3_takeWord_19 ?_
    refine lv_iconst (pc := 22) (v := 2) hx hb dX3_takeWord_22 (by decide) ?_
    refine lv_icmp_ne (pc := 23) (tgt := 37) hx hb dX3_takeWord_23 (by decide) (fun c_23 => ?_) (fun c_23 => ?_)
    · have h := h.2 c_23
      refine lv_aload_n (pc := 37) hx hb dX3_takeWord_37 rfl (lv_at hl 1 rfl) ?_
      refine c_word (pc := 38) hF hP hS (k := 7) (by decide) rfl lkX3_96 dX3_takeWord_38 ?_
      refine c_acmp_ne (pc := 41) (i := q1) (j := 7) (tgt := 55) hF hP dX3_takeWord_41 (by decide) (fun c_41 => ?_) (fun c_41 => ?_)
      · have h := h.2 c_41
        refine lv_aload_n (pc := 55) hx hb dX3_takeWord_55 rfl (lv_at hl 1 rfl) ?_
        refine d_ofN (pc := 56) hF hS (d_k hF (k := q1) (by omega)).2.2.1 lkX3_103 dX3_takeWord_56 ?_
        refine lv_bipush (pc := 59) (v := 6) hx hb dX3_takeWord_59 (by decide) ?_
        refine lv_icmp_ne (pc := 61) (tgt := 75) hx hb dX3_takeWord_61 (by decide) (fun c_61 => ?_) (fun c_61 => ?_)
        · have h := h.2 c_61
          refine lv_aload_n (pc := 75) hx hb dX3_takeWord_75 rfl (lv_at hl 1 rfl) ?_
          refine d_ofN (pc := 76) hF hS (d_k hF (k := q1) (by omega)).2.2.1 lkX3_103 dX3_takeWord_76 ?_
          refine lv_bipush (pc := 79) (v := 11) hx hb dX3_takeWord_79 (by decide) ?_
          refine lv_icmp_ne (pc := 81) (tgt := 92) hx hb dX3_takeWord_81 (by decide) (fun c_81 => ?_) (fun c_81 => ?_)
          · have h := h.2 c_81
            refine lv_aload_n (pc := 92) hx hb dX3_takeWord_92 rfl (lv_at hl 0 rfl) ?_
            refine lv_aload_n (pc := 93) hx hb dX3_takeWord_93 rfl (lv_at hl 1 rfl) ?_
            refine d_ofN (pc := 94) hF hS (d_k hF (k := q1) (by omega)).2.2.1 lkX3_103 dX3_takeWord_94 ?_
            refine dP_rd_stage (pc := 97) hF hP hD hS lkX3_23 dX3_takeWord_97 (fun H locs hP hD hS => ?_)
            exact zvr (pc := 100) (Wd := cV E ad wd cI cB cP cT rr rq) (u := ((va_up x0 21 (va_up (x0 21) 0 (wNext q1))), y0, g0)) hx hb hr hlocks hAe hK hP hD hS dX3_takeWord_100 (Nat.le_refl _) (Nat.le_refl _) h
          · have h := h.1 c_81
            refine lv_aload_n (pc := 84) hx hb dX3_takeWord_84 rfl (lv_at hl 0 rfl) ?_
            refine dG_rd_query (pc := 85) hF hP lkX3_15 dX3_takeWord_85 ?_
            refine lv_aload_n (pc := 88) hx hb dX3_takeWord_88 rfl (lv_at hl 1 rfl) ?_
            refine dPN_q1_mode (pc := 89) hF hP hD hS lkX3_109 (v := q1) dX3_takeWord_89 (fun H locs hP hD hS => ?_)
            refine lv_aload_n (pc := 92) hx hb dX3_takeWord_92 rfl (lv_at hl 0 rfl) ?_
            refine lv_aload_n (pc := 93) hx hb dX3_takeWord_93 rfl (lv_at hl 1 rfl) ?_
            refine d_ofN (pc := 94) hF hS (d_k hF (k := q1) (by omega)).2.2.1 lkX3_103 dX3_takeWord_94 ?_
            refine dP_rd_stage (pc := 97) hF hP hD hS lkX3_23 dX3_takeWord_97 (fun H locs hP hD hS => ?_)
            exact zvr (pc := 100) (Wd := cV E ad wd cI cB cP cT rr rq) (u := ((va_up x0 21 (va_up (x0 21) 0 (wNext q1))), (va_up y0 6 (va_up (y0 6) 1 q1)), g0)) hx hb hr hlocks hAe hK hP hD hS dX3_takeWord_100 (Nat.le_refl _) (Nat.le_refl _) h
        · have h := h.1 c_61
          refine lv_aload_n (pc := 64) hx hb dX3_takeWord_64 rfl (lv_at hl 0 rfl) ?_
          refine dG_rd_query (pc := 65) hF hP lkX3_15 dX3_takeWord_65 ?_
          refine lv_aload_n (pc := 68) hx hb dX3_takeWord_68 rfl (lv_at hl 1 rfl) ?_
          refine dPN_q1_shape (pc := 69) hF hP hD hS lkX3_106 (v := q1) dX3_takeWord_69 (fun H locs hP hD hS => ?_)
          refine lv_goto (pc := 72) (tgt := 92) hx hb dX3_takeWord_72 (by decide) ?_
          refine lv_aload_n (pc := 92) hx hb dX3_takeWord_92 rfl (lv_at hl 0 rfl) ?_
          refine lv_aload_n (pc := 93) hx hb dX3_takeWord_93 rfl (lv_at hl 1 rfl) ?_
          refine d_ofN (pc := 94) hF hS (d_k hF (k := q1) (by omega)).2.2.1 lkX3_103 dX3_takeWord_94 ?_
          refine dP_rd_stage (pc := 97) hF hP hD hS lkX3_23 dX3_takeWord_97 (fun H locs hP hD hS => ?_)
          exact zvr (pc := 100) (Wd := cV E ad wd cI cB cP cT rr rq) (u := ((va_up x0 21 (va_up (x0 21) 0 (wNext q1))), (va_up y0 5 (va_up (y0 5) 1 q1)), g0)) hx hb hr hlocks hAe hK hP hD hS dX3_takeWord_100 (Nat.le_refl _) (Nat.le_refl _) h
      · have h := h.1 c_41
        refine lv_aload_n (pc := 44) hx hb dX3_takeWord_44 rfl (lv_at hl 0 rfl) ?_
        refine dG_rd_query (pc := 45) hF hP lkX3_15 dX3_takeWord_45 ?_
        refine lv_iconst (pc := 48) (v := 1) hx hb dX3_takeWord_48 (by decide) ?_
        refine dPN_q1_isJoined (pc := 49) hF hP hD hS lkX3_99 rfl rfl dX3_takeWord_49 (fun H locs hP hD hS => ?_)
        refine lv_goto (pc := 52) (tgt := 92) hx hb dX3_takeWord_52 (by decide) ?_
        refine lv_aload_n (pc := 92) hx hb dX3_takeWord_92 rfl (lv_at hl 0 rfl) ?_
        refine lv_aload_n (pc := 93) hx hb dX3_takeWord_93 rfl (lv_at hl 1 rfl) ?_
        refine d_ofN (pc := 94) hF hS (d_k hF (k := q1) (by omega)).2.2.1 lkX3_103 dX3_takeWord_94 ?_
        refine dP_rd_stage (pc := 97) hF hP hD hS lkX3_23 dX3_takeWord_97 (fun H locs hP hD hS => ?_)
        exact zvr (pc := 100) (Wd := cV E ad wd cI cB cP cT rr rq) (u := ((va_up (va_up x0 9 (va_up (x0 9) 1 1)) 21 (va_up (x0 21) 0 (wNext q1))), y0, g0)) hx hb hr hlocks hAe hK hP hD hS dX3_takeWord_100 (Nat.le_refl _) (Nat.le_refl _) h
    · have h := h.1 c_23
      refine lv_aload_n (pc := 26) hx hb dX3_takeWord_26 rfl (lv_at hl 0 rfl) ?_
      refine dG_rd_query (pc := 27) hF hP lkX3_15 dX3_takeWord_27 ?_
      refine lv_aload_n (pc := 30) hx hb dX3_takeWord_30 rfl (lv_at hl 1 rfl) ?_
      refine dPN_q1_comparison (pc := 31) hF hP hD hS lkX3_93 (v := q1) dX3_takeWord_31 (fun H locs hP hD hS => ?_)
      refine lv_goto (pc := 34) (tgt := 92) hx hb dX3_takeWord_34 (by decide) ?_
      refine lv_aload_n (pc := 92) hx hb dX3_takeWord_92 rfl (lv_at hl 0 rfl) ?_
      refine lv_aload_n (pc := 93) hx hb dX3_takeWord_93 rfl (lv_at hl 1 rfl) ?_
      refine d_ofN (pc := 94) hF hS (d_k hF (k := q1) (by omega)).2.2.1 lkX3_103 dX3_takeWord_94 ?_
      refine dP_rd_stage (pc := 97) hF hP hD hS lkX3_23 dX3_takeWord_97 (fun H locs hP hD hS => ?_)
      exact zvr (pc := 100) (Wd := cV E ad wd cI cB cP cT rr rq) (u := ((va_up x0 21 (va_up (x0 21) 0 (wNext q1))), (va_up y0 4 (va_up (y0 4) 1 q1)), g0)) hx hb hr hlocks hAe hK hP hD hS dX3_takeWord_100 (Nat.le_refl _) (Nat.le_refl _) h
  · have h := h.1 c_4
    refine lv_aload_n (pc := 7) hx hb dX3_takeWord_7 rfl (lv_at hl 0 rfl) ?_
    refine dG_rd_query (pc := 8) hF hP lkX3_15 dX3_takeWord_8 ?_
    refine lv_aload_n (pc := 11) hx hb dX3_takeWord_11 rfl (lv_at hl 1 rfl) ?_
    refine dPN_q1_fold (pc := 12) hF hP hD hS lkX3_87 (v := q1) dX3_takeWord_12 (fun H locs hP hD hS => ?_)
    refine lv_goto (pc := 15) (tgt := 92) hx hb dX3_takeWord_15 (by decide) ?_
    refine lv_aload_n (pc := 92) hx hb dX3_takeWord_92 rfl (lv_at hl 0 rfl) ?_
    refine lv_aload_n (pc := 93) hx hb dX3_takeWord_93 rfl (lv_at hl 1 rfl) ?_
    refine d_ofN (pc := 94) hF hS (d_k hF (k := q1) (by omega)).2.2.1 lkX3_103 dX3_takeWord_94 ?_
    refine dP_rd_stage (pc := 97) hF hP hD hS lkX3_23 dX3_takeWord_97 (fun H locs hP hD hS => ?_)
    exact zvr (pc := 100) (Wd := cV E ad wd cI cB cP cT rr rq) (u := ((va_up x0 21 (va_up (x0 21) 0 (wNext q1))), (va_up y0 3 (va_up (y0 3) 1 q1)), g0)) hx hb hr hlocks hAe hK hP hD hS dX3_takeWord_100 (Nat.le_refl _) (Nat.le_refl _) h

def lX3_howFarAlike_2 (Φ : Int32 → Prop) : Nat → (Nat → Nat → Int32) → (Nat → Nat → Nat) → (Nat → Nat → Nat → Int32) → Nat → Int32 → Prop
  | 0, _, _, _, _, _ => False
  | n2 + 1, x, y, g, q1, v2 => (wJ0_length_8abf5 x y g q1 (fun r_4 => ((r_4 ≤ v2 → (Φ v2)) ∧ (¬ r_4 ≤ v2 → (wX3_signAt x y g (((x 20) 0) + v2) (fun r_17 => (wJ0_charAt_5068e x y g q1 v2 (fun r_22 => ((r_17 = r_22 → (∀ v2_28 : Int32, v2_28 = v2 + 1 → ((lX3_howFarAlike_2 Φ n2) x y g q1 v2_28))) ∧ (¬ r_17 = r_22 → (Φ v2)))))))))))
def wX3_howFarAlike (x : Nat → Nat → Int32) (y : Nat → Nat → Nat) (g : Nat → Nat → Nat → Int32) (q1 : Nat) (Φ : Int32 → Prop) : Prop := (∃ n2 : Nat, lX3_howFarAlike_2 Φ n2 x y g q1 0)
set_option maxRecDepth 100000 in
set_option maxHeartbeats 4000000 in
theorem kX3_howFarAlike {l : Launch} {D : va_G} {E : va_W} {ad : Nat → Nat → Nat} {wd sk : Nat → Nat} {cI cB cP cT : ClassId} {rr rq : Nat} {sz : Nat} (x0 : Nat → Nat → Int32) (y0 : Nat → Nat → Nat) (g0 : Nat → Nat → Nat → Int32) (q1 : Nat) {Φ : Int32 → Prop} (h : wX3_howFarAlike x0 y0 g0 q1 Φ) (hq1 : q1 < 15) : Met l yX3_howFarAlike (zws yX3_howFarAlike cX3_howFarAlike 3 (some .int)) { frames := 5, cells := 0, slots := 0, locals := 126 } (zPc D (cTy cI cB cP cT) (cX wd sk) (cV E ad wd cI cB cP cT rr rq (x0, y0, g0)) [.ref rr, .ref (sk q1)] sz) (zQi D (cTy cI cB cP cT) (cV E ad wd cI cB cP cT rr rq) (fun r u => u = (x0, y0, g0) ∧ Φ r) (cV E ad wd cI cB cP cT rr rq (x0, y0, g0)) sz) 0 0 (va_A (cV E ad wd cI cB cP cT rr rq (x0, y0, g0)) sz) := by
  refine zMet (by decide) (Nat.le_of_ble_eq_true rfl) ?_
  intro p e s m args below meth c A hx hb hr hml hown hts hlocks hsz hAe hA hS hP hK hD hX ls hl
  subst hsz
  have hF : zFx p s m args c cX3_howFarAlike RX3 A D (cTy cI cB cP cT) (cX wd sk) 3 := ⟨hx, hb, hml, hown, hts, hA, hK, cX_cl wd sk, hX⟩
  have hl : lv_has ls 3 [(0, .ref rr), (1, .ref (sk q1))] := hl
  have L2 : ∀ n2 : Nat, ∀ (q1 : Nat) (v2 : Int32), lX3_howFarAlike_2 Φ n2 x0 y0 g0 q1 v2 → q1 < 15 → ∀ (H : Heap) (locs : List Loc) (ls : Array Slot), va_P D vwCl (cV E ad wd cI cB cP cT rr rq (x0, y0, g0)) H → va_D A (cV E ad wd cI cB cP cT rr rq (x0, y0, g0)) → va_S A s.heap H locs → lv_has ls 3 [(0, .ref rr), (1, .ref (sk q1)), (2, .int v2)] → W p l e { frames := 5, cells := 0, slots := 0, locals := 126 } s m args below meth c H locs 0 0 (MQ below (zQi D (cTy cI cB cP cT) (cV E ad wd cI cB cP cT rr rq) (fun r u => u = (x0, y0, g0) ∧ Φ r) (cV E ad wd cI cB cP cT rr rq (x0, y0, g0)) s.heap.size) args s 0 0 (va_A (cV E ad wd cI cB cP cT rr rq (x0, y0, g0)) s.heap.size)) (F0 m 2 ls []) := by
    intro n2
    induction n2 with
    | zero => intro q1 v2 h hcq1 H locs ls hP hD hS hl; exact h.elim
    | succ n2 ih2 =>
      intro q1 v2 h hcq1 H locs ls hP hD hS hl
      unfold lX3_howFarAlike_2 at h
      refine lv_iload_n (pc := 2) hx hb dX3_howFarAlike_2 rfl (lv_at hl 2 rfl) ?_
      refine lv_aload_n (pc := 3) hx hb dX3_howFarAlike_3 rfl (lv_at hl 1 rfl) ?_
      refine dKip (pc := 4) (Wd := cW (cExt ad wd rr rq x0 y0 ++ E) ad wd cI cB cP cT) (u0 := (x0, y0, g0)) hF hD hS (zrV [] hF (kJ0_length_8abf5 x0 y0 g0 q1 h (by omega)) (cwX3_J0_length_8abf5 hts ⟨Nat.le_of_ble_eq_true rfl, Nat.le_of_ble_eq_true rfl⟩) (d_rO hF hS (d_k hF (k := q1) (by omega)).2.2.2.2.1) hP hD hS rfl rfl hl.1 (Nat.le_of_ble_eq_true rfl) dX3_howFarAlike_4 ⟨Nat.le_refl _, Nat.le_refl _⟩) (fun r_4 H locs h (hP : va_P D vwCl (cV E ad wd cI cB cP cT rr rq (x0, y0, g0)) H) (hD : va_D A (cV E ad wd cI cB cP cT rr rq (x0, y0, g0))) hS => ?_)
      refine lv_icmp_ge (pc := 7) (tgt := 34) hx hb dX3_howFarAlike_7 (by decide) (fun c_7 => ?_) (fun c_7 => ?_)
      · have h := h.1 c_7
        refine lv_iload_n (pc := 34) hx hb dX3_howFarAlike_34 rfl (lv_at hl 2 rfl) ?_
        exact zirV (pc := 35) (Wd := cV E ad wd cI cB cP cT rr rq) (u := (x0, y0, g0)) hx hb hr hlocks hAe hK hP hD hS rfl dX3_howFarAlike_35 (Nat.le_refl _) (Nat.le_refl _) ⟨rfl, h⟩
      · have h := h.2 c_7
        refine lv_aload_n (pc := 10) hx hb dX3_howFarAlike_10 rfl (lv_at hl 0 rfl) ?_
        refine lv_aload_n (pc := 11) hx hb dX3_howFarAlike_11 rfl (lv_at hl 0 rfl) ?_
        refine dG_rd_place (pc := 12) hF hP lkX3_19 (v := ((x0 20) 0)) rfl dX3_howFarAlike_12 ?_
        refine lv_iload_n (pc := 15) hx hb dX3_howFarAlike_15 rfl (lv_at hl 2 rfl) ?_
        refine lv_iadd (pc := 16) hx hb dX3_howFarAlike_16 ?_
        refine dKcp (pc := 17) (Wd := cV E ad wd cI cB cP cT rr rq) (u0 := (x0, y0, g0)) hF hD hS (zrV [.int (((x0 20) 0) + v2)] hF (kX3_signAt x0 y0 g0 (((x0 20) 0) + v2) h) (cwX3_X3_signAt hts ⟨Nat.le_of_ble_eq_true rfl, Nat.le_of_ble_eq_true rfl⟩) (d_rP hF hP (ci := 7) (q0 := 57) rfl (cA_RD ..)) hP hD hS rfl rfl hl.1 (Nat.le_of_ble_eq_true rfl) dX3_howFarAlike_17 ⟨Nat.le_refl _, Nat.le_refl _⟩) (fun r_17 H locs hb_17 h (hP : va_P D vwCl (cV E ad wd cI cB cP cT rr rq (x0, y0, g0)) H) (hD : va_D A (cV E ad wd cI cB cP cT rr rq (x0, y0, g0))) hS => ?_)
        refine lv_aload_n (pc := 20) hx hb dX3_howFarAlike_20 rfl (lv_at hl 1 rfl) ?_
        refine lv_iload_n (pc := 21) hx hb dX3_howFarAlike_21 rfl (lv_at hl 2 rfl) ?_
        refine dKcp (pc := 22) (Wd := cW (cExt ad wd rr rq x0 y0 ++ E) ad wd cI cB cP cT) (u0 := (x0, y0, g0)) hF hD hS (zrV [.int v2] hF (kJ0_charAt_5068e x0 y0 g0 q1 v2 h (by omega)) (cwX3_J0_charAt_5068e hts ⟨Nat.le_of_ble_eq_true rfl, Nat.le_of_ble_eq_true rfl⟩) (d_rO hF hS (d_k hF (k := q1) (by omega)).2.2.2.2.1) hP hD hS rfl rfl hl.1 (Nat.le_of_ble_eq_true rfl) dX3_howFarAlike_22 ⟨Nat.le_refl _, Nat.le_refl _⟩) (fun r_22 H locs hb_22 h (hP : va_P D vwCl (cV E ad wd cI cB cP cT rr rq (x0, y0, g0)) H) (hD : va_D A (cV E ad wd cI cB cP cT rr rq (x0, y0, g0))) hS => ?_)
        refine lv_icmp_ne (pc := 25) (tgt := 34) hx hb dX3_howFarAlike_25 (by decide) (fun c_25 => ?_) (fun c_25 => ?_)
        · have h := h.2 c_25
          refine lv_iload_n (pc := 34) hx hb dX3_howFarAlike_34 rfl (lv_at hl 2 rfl) ?_
          exact zirV (pc := 35) (Wd := cV E ad wd cI cB cP cT rr rq) (u := (x0, y0, g0)) hx hb hr hlocks hAe hK hP hD hS rfl dX3_howFarAlike_35 (Nat.le_refl _) (Nat.le_refl _) ⟨rfl, h⟩
        · have h := h.1 c_25
          obtain ⟨v2_28, e_v2_28⟩ : ∃ y : Int32, y = v2 + 1 := ⟨_, rfl⟩
          replace h := h v2_28 e_v2_28
          refine lv_iinc (pc := 28) (v := v2_28) (lv' := [(2, .int v2_28), (0, .ref rr), (1, .ref (sk q1))]) hx hb dX3_howFarAlike_28 hl (k := 2) rfl (by rw [e_v2_28]; rfl) (by decide) rfl (fun ls hl => ?_)
          refine lv_goto (pc := 31) (tgt := 2) hx hb dX3_howFarAlike_31 (by decide) ?_
          exact ih2 q1 v2_28 h (by omega) _ _ _ hP hD hS (lv_sub hl [1, 2, 0] rfl)
  unfold wX3_howFarAlike at h
  refine lv_iconst (pc := 0) (v := 0) hx hb dX3_howFarAlike_0 (by decide) ?_
  refine lv_istore_n (pc := 1) (lv' := [(2, .int 0), (0, .ref rr), (1, .ref (sk q1))]) hx hb dX3_howFarAlike_1 rfl hl (by decide) rfl (fun ls hl => ?_)
  obtain ⟨n2, h⟩ := h
  exact L2 n2 q1 0 h (by omega) _ _ _ hP hD hS (lv_sub hl [1, 2, 0] rfl)

def lX3_readWord_4 (Φ : Int32 → (Nat → Nat → Int32) → (Nat → Nat → Nat) → (Nat → Nat → Nat → Int32) → Prop) : Nat → (Nat → Nat → Int32) → (Nat → Nat → Nat) → (Nat → Nat → Nat → Int32) → Int32 → Int32 → Prop
  | 0, _, _, _, _, _ => False
  | n4 + 1, x, y, g, v1, v2 => (((nI 15) ≤ v2 → (Φ (((x 20) 0) + v1) x y g)) ∧ (¬ (nI 15) ≤ v2 → (vp_in v2 15 ∧ (wX7_mayStandBehind x y g (v2.toNatClampNeg) ((x 21) 0) (fun r_23 => ((r_23 = 0 → (∀ v2_90 : Int32, v2_90 = v2 + 1 → ((lX3_readWord_4 Φ n4) x y g v1 v2_90))) ∧ (¬ r_23 = 0 → (wX3_howFarAlike x y g (v2.toNatClampNeg) (fun r_34 => (wJ0_length_8abf5 x y g (v2.toNatClampNeg) (fun r_45 => ((r_34 = r_45 → (wX3_isEndOfPart x y g (((x 20) 0) + r_34) (fun r_59 => ((r_59 = 0 → (∀ v1_89 : Int32, v1_89 = (if v1 < r_34 then r_34 else v1) → (∀ v2_90 : Int32, v2_90 = v2 + 1 → ((lX3_readWord_4 Φ n4) x y g v1_89 v2_90)))) ∧ (¬ r_59 = 0 → (wX3_takeWord (va_up x 20 (va_up (x 20) 0 (((x 20) 0) + r_34))) y g (v2.toNatClampNeg) (fun x_78 y_78 g_78 => (Φ (-1) x_78 y_78 g_78)))))))) ∧ (¬ r_34 = r_45 → (∀ v1_89 : Int32, v1_89 = (if v1 < r_34 then r_34 else v1) → (∀ v2_90 : Int32, v2_90 = v2 + 1 → ((lX3_readWord_4 Φ n4) x y g v1_89 v2_90))))))))))))))))
def wX3_readWord (x : Nat → Nat → Int32) (y : Nat → Nat → Nat) (g : Nat → Nat → Nat → Int32) (Φ : Int32 → (Nat → Nat → Int32) → (Nat → Nat → Nat) → (Nat → Nat → Nat → Int32) → Prop) : Prop := (∃ n4 : Nat, lX3_readWord_4 Φ n4 x y g 0 0)
set_option maxRecDepth 100000 in
set_option maxHeartbeats 4000000 in
theorem kX3_readWord {l : Launch} {D : va_G} {E : va_W} {ad : Nat → Nat → Nat} {wd sk : Nat → Nat} {cI cB cP cT : ClassId} {rr rq : Nat} {sz : Nat} (x0 : Nat → Nat → Int32) (y0 : Nat → Nat → Nat) (g0 : Nat → Nat → Nat → Int32) {Φ : Int32 → (Nat → Nat → Int32) → (Nat → Nat → Nat) → (Nat → Nat → Nat → Int32) → Prop} (h : wX3_readWord x0 y0 g0 Φ) : Met l yX3_readWord (zws yX3_readWord cX3_readWord 5 (some .int)) { frames := 6, cells := 0, slots := 0, locals := 148 } (zPc D (cTy cI cB cP cT) (cX wd sk) (cV E ad wd cI cB cP cT rr rq (x0, y0, g0)) [.ref rr] sz) (zQi D (cTy cI cB cP cT) (cV E ad wd cI cB cP cT rr rq) (fun r u => Φ r u.1 u.2.1 u.2.2) (cV E ad wd cI cB cP cT rr rq (x0, y0, g0)) sz) 0 0 (va_A (cV E ad wd cI cB cP cT rr rq (x0, y0, g0)) sz) := by
  refine zMet (by decide) (Nat.le_of_ble_eq_true rfl) ?_
  intro p e s m args below meth c A hx hb hr hml hown hts hlocks hsz hAe hA hS hP hK hD hX ls hl
  subst hsz
  have hF : zFx p s m args c cX3_readWord RX3 A D (cTy cI cB cP cT) (cX wd sk) 5 := ⟨hx, hb, hml, hown, hts, hA, hK, cX_cl wd sk, hX⟩
  have hl : lv_has ls 5 [(0, .ref rr)] := hl
  have L4 : ∀ n4 : Nat, ∀ (x : Nat → Nat → Int32) (y : Nat → Nat → Nat) (g : Nat → Nat → Nat → Int32) (v1 : Int32) (v2 : Int32), lX3_readWord_4 Φ n4 x y g v1 v2 → ∀ (H : Heap) (locs : List Loc) (ls : Array Slot), va_P D vwCl (cV E ad wd cI cB cP cT rr rq (x, y, g)) H → va_D A (cV E ad wd cI cB cP cT rr rq (x, y, g)) → va_S A s.heap H locs → lv_has ls 5 [(0, .ref rr), (1, .int v1), (2, .int v2)] → W p l e { frames := 6, cells := 0, slots := 0, locals := 148 } s m args below meth c H locs 0 0 (MQ below (zQi D (cTy cI cB cP cT) (cV E ad wd cI cB cP cT rr rq) (fun r u => Φ r u.1 u.2.1 u.2.2) (cV E ad wd cI cB cP cT rr rq (x0, y0, g0)) s.heap.size) args s 0 0 (va_A (cV E ad wd cI cB cP cT rr rq (x0, y0, g0)) s.heap.size)) (F0 m 4 ls []) := by
    intro n4
    induction n4 with
    | zero => intro x y g v1 v2 h H locs ls hP hD hS hl; exact h.elim
    | succ n4 ih4 =>
      intro x y g v1 v2 h H locs ls hP hD hS hl
      unfold lX3_readWord_4 at h
      refine lv_iload_n (pc := 4) hx hb dX3_readWord_4 rfl (lv_at hl 2 rfl) ?_
      refine d_staticN (pc := 5) hF hS (d_allZ hF) lkX3_49 dX3_readWord_5 ?_
      refine d_len (pc := 8) hF hS (d_all hF) dX3_readWord_8 ?_
      refine lv_icmp_ge (pc := 9) (tgt := 96) hx hb dX3_readWord_9 (by decide) (fun c_9 => ?_) (fun c_9 => ?_)
      · have h := h.1 c_9
        refine lv_aload_n (pc := 96) hx hb dX3_readWord_96 rfl (lv_at hl 0 rfl) ?_
        refine dG_rd_place (pc := 97) hF hP lkX3_19 (v := ((x 20) 0)) rfl dX3_readWord_97 ?_
        refine lv_iload_n (pc := 100) hx hb dX3_readWord_100 rfl (lv_at hl 1 rfl) ?_
        refine lv_iadd (pc := 101) hx hb dX3_readWord_101 ?_
        exact zirV (pc := 102) (Wd := cV E ad wd cI cB cP cT rr rq) (u := (x, y, g)) hx hb hr hlocks hAe hK hP hD hS rfl dX3_readWord_102 (Nat.le_refl _) (Nat.le_refl _) h
      · have h := h.2 c_9
        refine d_staticN (pc := 12) hF hS (d_allZ hF) lkX3_49 dX3_readWord_12 ?_
        refine lv_iload_n (pc := 15) hx hb dX3_readWord_15 rfl (lv_at hl 2 rfl) ?_
        obtain ⟨hi_16, h⟩ := h
        have hj_16 := vp_lt hi_16
        refine d_tq (pc := 16) hF hS (d_all hF) hi_16 dX3_readWord_16 ?_
        refine lv_astore_n (pc := 17) (lv' := [(3, .ref (wd (v2.toNatClampNeg))), (0, .ref rr), (1, .int v1), (2, .int v2)]) hx hb dX3_readWord_17 rfl hl (by decide) rfl (fun ls hl => ?_)
        refine lv_aload_n (pc := 18) hx hb dX3_readWord_18 rfl (lv_at hl 0 rfl) ?_
        refine lv_aload_n (pc := 19) hx hb dX3_readWord_19 rfl (lv_at hl 1 rfl) ?_
        refine dG_rd_stage (pc := 20) hF hP lkX3_23 (v := ((x 21) 0)) rfl dX3_readWord_20 ?_
        refine dKbp (pc := 23) (Wd := cW (cExt ad wd rr rq x y ++ E) ad wd cI cB cP cT) (u0 := (x, y, g)) hF hD hS (zrV [.int ((x 21) 0)] hF (kX7_mayStandBehind x y g (v2.toNatClampNeg) ((x 21) 0) h (by omega)) (cwX3_X7_mayStandBehind hts ⟨Nat.le_of_ble_eq_true rfl, Nat.le_of_ble_eq_true rfl⟩) (d_rO hF hS (d_k hF (k := (v2.toNatClampNeg)) (by omega)).1) hP hD hS rfl rfl hl.1 (Nat.le_of_ble_eq_true rfl) dX3_readWord_23 ⟨Nat.le_refl _, Nat.le_refl _⟩) (fun r_23 H locs hb_23 h (hP : va_P D vwCl (cV E ad wd cI cB cP cT rr rq (x, y, g)) H) (hD : va_D A (cV E ad wd cI cB cP cT rr rq (x, y, g))) hS => ?_)
        refine lv_if_eq (pc := 26) (tgt := 90) hx hb dX3_readWord_26 (by decide) (fun c_26 => ?_) (fun c_26 => ?_)
        · have h := h.1 c_26
          obtain ⟨v2_90, e_v2_90⟩ : ∃ y : Int32, y = v2 + 1 := ⟨_, rfl⟩
          replace h := h v2_90 e_v2_90
          refine lv_iinc (pc := 90) (v := v2_90) (lv' := [(2, .int v2_90), (3, .ref (wd (v2.toNatClampNeg))), (0, .ref rr), (1, .int v1)]) hx hb dX3_readWord_90 hl (k := 3) rfl (by rw [e_v2_90]; rfl) (by decide) rfl (fun ls hl => ?_)
          refine lv_goto (pc := 93) (tgt := 4) hx hb dX3_readWord_93 (by decide) ?_
          exact ih4 x y g v1 v2_90 h _ _ _ hP hD hS (lv_sub hl [2, 3, 0] rfl)
        · have h := h.2 c_26
          refine lv_aload_n (pc := 29) hx hb dX3_readWord_29 rfl (lv_at hl 1 rfl) ?_
          refine lv_aload_n (pc := 30) hx hb dX3_readWord_30 rfl (lv_at hl 0 rfl) ?_
          refine d_ofN (pc := 31) hF hS (d_k hF (k := (v2.toNatClampNeg)) (by omega)).2.2.2.1 lkX3_59 dX3_readWord_31 ?_
          refine dKip (pc := 34) (Wd := cV E ad wd cI cB cP cT rr rq) (u0 := (x, y, g)) hF hD hS (zrV [.ref (sk (v2.toNatClampNeg))] hF (kX3_howFarAlike x y g (v2.toNatClampNeg) h (by omega)) (cwX3_X3_howFarAlike hts ⟨Nat.le_of_ble_eq_true rfl, Nat.le_of_ble_eq_true rfl⟩) (d_rP hF hP (ci := 7) (q0 := 57) rfl (cA_RD ..)) hP hD hS rfl rfl hl.1 (Nat.le_of_ble_eq_true rfl) dX3_readWord_34 ⟨Nat.le_refl _, Nat.le_refl _⟩) (fun r_34 H locs h (hP : va_P D vwCl (cV E ad wd cI cB cP cT rr rq (x, y, g)) H) (hD : va_D A (cV E ad wd cI cB cP cT rr rq (x, y, g))) hS => ?_)
          refine lv_istore (pc := 37) (lv' := [(4, .int r_34), (3, .ref (wd (v2.toNatClampNeg))), (0, .ref rr), (1, .int v1), (2, .int v2)]) hx hb dX3_readWord_37 hl (by decide) rfl (fun ls hl => ?_)
          refine lv_iload (pc := 39) hx hb dX3_readWord_39 (lv_at hl 0 rfl) ?_
          refine lv_aload_n (pc := 41) hx hb dX3_readWord_41 rfl (lv_at hl 1 rfl) ?_
          refine d_ofN (pc := 42) hF hS (d_k hF (k := (v2.toNatClampNeg)) (by omega)).2.2.2.1 lkX3_59 dX3_readWord_42 ?_
          refine dKip (pc := 45) (Wd := cW (cExt ad wd rr rq x y ++ E) ad wd cI cB cP cT) (u0 := (x, y, g)) hF hD hS (zrV [] hF (kJ0_length_8abf5 x y g (v2.toNatClampNeg) h (by omega)) (cwX3_J0_length_8abf5 hts ⟨Nat.le_of_ble_eq_true rfl, Nat.le_of_ble_eq_true rfl⟩) (d_rO hF hS (d_k hF (k := (v2.toNatClampNeg)) (by omega)).2.2.2.2.1) hP hD hS rfl rfl hl.1 (Nat.le_of_ble_eq_true rfl) dX3_readWord_45 ⟨Nat.le_refl _, Nat.le_refl _⟩) (fun r_45 H locs h (hP : va_P D vwCl (cV E ad wd cI cB cP cT rr rq (x, y, g)) H) (hD : va_D A (cV E ad wd cI cB cP cT rr rq (x, y, g))) hS => ?_)
          refine lv_icmp_ne (pc := 48) (tgt := 83) hx hb dX3_readWord_48 (by decide) (fun c_48 => ?_) (fun c_48 => ?_)
          · have h := h.2 c_48
            refine lv_iload_n (pc := 83) hx hb dX3_readWord_83 rfl (lv_at hl 3 rfl) ?_
            refine lv_iload (pc := 84) hx hb dX3_readWord_84 (lv_at hl 0 rfl) ?_
            refine c_max (pc := 86) hF hl.1 mlX3_77 ⟨Nat.le_of_ble_eq_true rfl, Nat.le_of_ble_eq_true rfl⟩ ⟨Nat.le_refl _, Nat.le_refl _⟩ dX3_readWord_86 ?_
            refine lv_topi (fun v1_89 e_v1_89 => ?_)
            replace h := h v1_89 e_v1_89
            refine lv_istore_n (pc := 89) (lv' := [(1, .int v1_89), (4, .int r_34), (3, .ref (wd (v2.toNatClampNeg))), (0, .ref rr), (2, .int v2)]) hx hb dX3_readWord_89 rfl hl (by decide) rfl (fun ls hl => ?_)
            obtain ⟨v2_90, e_v2_90⟩ : ∃ y : Int32, y = v2 + 1 := ⟨_, rfl⟩
            replace h := h v2_90 e_v2_90
            refine lv_iinc (pc := 90) (v := v2_90) (lv' := [(2, .int v2_90), (1, .int v1_89), (4, .int r_34), (3, .ref (wd (v2.toNatClampNeg))), (0, .ref rr)]) hx hb dX3_readWord_90 hl (k := 4) rfl (by rw [e_v2_90]; rfl) (by decide) rfl (fun ls hl => ?_)
            refine lv_goto (pc := 93) (tgt := 4) hx hb dX3_readWord_93 (by decide) ?_
            exact ih4 x y g v1_89 v2_90 h _ _ _ hP hD hS (lv_sub hl [4, 1, 0] rfl)
          · have h := h.1 c_48
            refine lv_aload_n (pc := 51) hx hb dX3_readWord_51 rfl (lv_at hl 2 rfl) ?_
            refine lv_aload_n (pc := 52) hx hb dX3_readWord_52 rfl (lv_at hl 2 rfl) ?_
            refine dG_rd_place (pc := 53) hF hP lkX3_19 (v := ((x 20) 0)) rfl dX3_readWord_53 ?_
            refine lv_iload (pc := 56) hx hb dX3_readWord_56 (lv_at hl 0 rfl) ?_
            refine lv_iadd (pc := 58) hx hb dX3_readWord_58 ?_
            refine dKbp (pc := 59) (Wd := cV E ad wd cI cB cP cT rr rq) (u0 := (x, y, g)) hF hD hS (zrV [.int (((x 20) 0) + r_34)] hF (kX3_isEndOfPart x y g (((x 20) 0) + r_34) h) (cwX3_X3_isEndOfPart hts ⟨Nat.le_of_ble_eq_true rfl, Nat.le_of_ble_eq_true rfl⟩) (d_rP hF hP (ci := 7) (q0 := 57) rfl (cA_RD ..)) hP hD hS rfl rfl hl.1 (Nat.le_of_ble_eq_true rfl) dX3_readWord_59 ⟨Nat.le_refl _, Nat.le_refl _⟩) (fun r_59 H locs hb_59 h (hP : va_P D vwCl (cV E ad wd cI cB cP cT rr rq (x, y, g)) H) (hD : va_D A (cV E ad wd cI cB cP cT rr rq (x, y, g))) hS => ?_)
            refine lv_if_eq (pc := 62) (tgt := 83) hx hb dX3_readWord_62 (by decide) (fun c_62 => ?_) (fun c_62 => ?_)
            · have h := h.1 c_62
              refine lv_iload_n (pc := 83) hx hb dX3_readWord_83 rfl (lv_at hl 3 rfl) ?_
              refine lv_iload (pc := 84) hx hb dX3_readWord_84 (lv_at hl 0 rfl) ?_
              refine c_max (pc := 86) hF hl.1 mlX3_77 ⟨Nat.le_of_ble_eq_true rfl, Nat.le_of_ble_eq_true rfl⟩ ⟨Nat.le_refl _, Nat.le_refl _⟩ dX3_readWord_86 ?_
              refine lv_topi (fun v1_89 e_v1_89 => ?_)
              replace h := h v1_89 e_v1_89
              refine lv_istore_n (pc := 89) (lv' := [(1, .int v1_89), (4, .int r_34), (3, .ref (wd (v2.toNatClampNeg))), (0, .ref rr), (2, .int v2)]) hx hb dX3_readWord_89 rfl hl (by decide) rfl (fun ls hl => ?_)
              obtain ⟨v2_90, e_v2_90⟩ : ∃ y : Int32, y = v2 + 1 := ⟨_, rfl⟩
              replace h := h v2_90 e_v2_90
              refine lv_iinc (pc := 90) (v := v2_90) (lv' := [(2, .int v2_90), (1, .int v1_89), (4, .int r_34), (3, .ref (wd (v2.toNatClampNeg))), (0, .ref rr)]) hx hb dX3_readWord_90 hl (k := 4) rfl (by rw [e_v2_90]; rfl) (by decide) rfl (fun ls hl => ?_)
              refine lv_goto (pc := 93) (tgt := 4) hx hb dX3_readWord_93 (by decide) ?_
              exact ih4 x y g v1_89 v2_90 h _ _ _ hP hD hS (lv_sub hl [4, 1, 0] rfl)
            · have h := h.2 c_62
              refine lv_aload_n (pc := 65) hx hb dX3_readWord_65 rfl (lv_at hl 2 rfl) ?_
              refine lv_dup (pc := 66) hx hb dX3_readWord_66 rfl ?_
              refine dG_rd_place (pc := 67) hF hP lkX3_19 (v := ((x 20) 0)) rfl dX3_readWord_67 ?_
              refine lv_iload (pc := 70) hx hb dX3_readWord_70 (lv_at hl 0 rfl) ?_
              refine lv_iadd (pc := 72) hx hb dX3_readWord_72 ?_
              refine dP_rd_place (pc := 73) hF hP hD hS lkX3_19 dX3_readWord_73 (fun H locs hP hD hS => ?_)
              refine lv_aload_n (pc := 76) hx hb dX3_readWord_76 rfl (lv_at hl 2 rfl) ?_
              refine lv_aload_n (pc := 77) hx hb dX3_readWord_77 rfl (lv_at hl 1 rfl) ?_
              refine dKv (pc := 78) (Wd := cV E ad wd cI cB cP cT rr rq) (u0 := ((va_up x 20 (va_up (x 20) 0 (((x 20) 0) + r_34))), y, g)) hF hD hS (zrV [.ref (wd (v2.toNatClampNeg))] hF (kX3_takeWord (va_up x 20 (va_up (x 20) 0 (((x 20) 0) + r_34))) y g (v2.toNatClampNeg) h (by omega)) (cwX3_X3_takeWord hts ⟨Nat.le_of_ble_eq_true rfl, Nat.le_of_ble_eq_true rfl⟩) (d_rP hF hP (ci := 7) (q0 := 57) rfl (cA_RD ..)) hP hD hS rfl rfl hl.1 (Nat.le_of_ble_eq_true rfl) dX3_readWord_78 ⟨Nat.le_refl _, Nat.le_refl _⟩) (fun x_78 y_78 g_78 H locs h (hP : va_P D vwCl (cV E ad wd cI cB cP cT rr rq (x_78, y_78, g_78)) H) (hD : va_D A (cV E ad wd cI cB cP cT rr rq (x_78, y_78, g_78))) hS => ?_)
              refine lv_iconst (pc := 81) (v := (-1)) hx hb dX3_readWord_81 (by decide) ?_
              exact zirV (pc := 82) (Wd := cV E ad wd cI cB cP cT rr rq) (u := (x_78, y_78, g_78)) hx hb hr hlocks hAe hK hP hD hS rfl dX3_readWord_82 (Nat.le_refl _) (Nat.le_refl _) h
  unfold wX3_readWord at h
  refine lv_iconst (pc := 0) (v := 0) hx hb dX3_readWord_0 (by decide) ?_
  refine lv_istore_n (pc := 1) (lv' := [(1, .int 0), (0, .ref rr)]) hx hb dX3_readWord_1 rfl hl (by decide) rfl (fun ls hl => ?_)
  refine lv_iconst (pc := 2) (v := 0) hx hb dX3_readWord_2 (by decide) ?_
  refine lv_istore_n (pc := 3) (lv' := [(2, .int 0), (1, .int 0), (0, .ref rr)]) hx hb dX3_readWord_3 rfl hl (by decide) rfl (fun ls hl => ?_)
  obtain ⟨n4, h⟩ := h
  exact L4 n4 x0 y0 g0 0 0 h _ _ _ hP hD hS (lv_sub hl [2, 1, 0] rfl)

def jX3_readNumber_143 (Φ : Int32 → (Nat → Nat → Int32) → (Nat → Nat → Nat) → (Nat → Nat → Nat → Int32) → Prop) (x : Nat → Nat → Int32) (y : Nat → Nat → Nat) (g : Nat → Nat → Nat → Int32) (v1 : Int32) (v2 : Int32) (v4 : Int32) : Prop := (wX3_isEndOfPart x y g v2 (fun r_145 => ((r_145 = 0 → (Φ v2 x y g)) ∧ (¬ r_145 = 0 → ((v1 = 0 → (wX3_takeNumber (va_up x 20 (va_up (x 20) 0 v2)) y g v4 (fun x_171 y_171 g_171 => (Φ (-1) x_171 y_171 g_171)))) ∧ (¬ v1 = 0 → (wX3_takeNumber (va_up x 20 (va_up (x 20) 0 v2)) y g (-v4) (fun x_171 y_171 g_171 => (Φ (-1) x_171 y_171 g_171)))))))))
def jX3_readNumber_95 (Φ : Int32 → (Nat → Nat → Int32) → (Nat → Nat → Nat) → (Nat → Nat → Nat → Int32) → Prop) (x : Nat → Nat → Int32) (y : Nat → Nat → Nat) (g : Nat → Nat → Nat → Int32) (v1 : Int32) (v2 : Int32) : Prop := (wX3_signAt x y g v2 (fun r_97 => (∀ v4_103 : Int32, v4_103 = (r_97 - 48) → (∀ v2_105 : Int32, v2_105 = v2 + 1 → ((v4_103 ≤ 0 → (jX3_readNumber_143 Φ x y g v1 v2_105 v4_103)) ∧ (¬ v4_103 ≤ 0 → (wX3_signAt x y g v2_105 (fun r_115 => (wX3_isDigit r_115 (fun r_118 => ((r_118 = 0 → (jX3_readNumber_143 Φ x y g v1 v2_105 v4_103)) ∧ (¬ r_118 = 0 → (wX3_signAt x y g v2_105 (fun r_131 => (∀ v4_138 : Int32, v4_138 = (((v4_103 * 10) + r_131) - 48) → (∀ v2_140 : Int32, v2_140 = v2_105 + 1 → (jX3_readNumber_143 Φ x y g v1 v2_140 v4_138)))))))))))))))))
def jX3_readNumber_67 (Φ : Int32 → (Nat → Nat → Int32) → (Nat → Nat → Nat) → (Nat → Nat → Nat → Int32) → Prop) (x : Nat → Nat → Int32) (y : Nat → Nat → Nat) (g : Nat → Nat → Nat → Int32) (v1 : Int32) (v2 : Int32) (s0 : Int32) : Prop := (wX3_signAt x y g v2 (fun r_70 => (wX3_isDigit r_70 (fun r_73 => ((r_73 = 0 → (Φ v2 x y g)) ∧ (¬ r_73 = 0 → (wX3_signAt x y g v2 (fun r_81 => ((r_81 = 48 → ((s0 = 0 → (Φ v2 x y g)) ∧ (¬ s0 = 0 → (jX3_readNumber_95 Φ x y g v1 v2)))) ∧ (¬ r_81 = 48 → (jX3_readNumber_95 Φ x y g v1 v2)))))))))))
def jX3_readNumber_62 (Φ : Int32 → (Nat → Nat → Int32) → (Nat → Nat → Nat) → (Nat → Nat → Nat → Int32) → Prop) (x : Nat → Nat → Int32) (y : Nat → Nat → Nat) (g : Nat → Nat → Nat → Int32) (v1 : Int32) (v2 : Int32) : Prop := (jX3_readNumber_67 Φ x y g v1 v2 1)
def jX3_readNumber_44 (Φ : Int32 → (Nat → Nat → Int32) → (Nat → Nat → Nat) → (Nat → Nat → Nat → Int32) → Prop) (x : Nat → Nat → Int32) (y : Nat → Nat → Nat) (g : Nat → Nat → Nat → Int32) (v1 : Int32) (s0 : Int32) : Prop := ((((x 21) 0) = 3 → (jX3_readNumber_62 Φ x y g v1 s0)) ∧ (¬ ((x 21) 0) = 3 → ((((x 21) 0) = 9 → (jX3_readNumber_62 Φ x y g v1 s0)) ∧ (¬ ((x 21) 0) = 9 → (jX3_readNumber_67 Φ x y g v1 s0 0)))))
def jX3_readNumber_26 (Φ : Int32 → (Nat → Nat → Int32) → (Nat → Nat → Nat) → (Nat → Nat → Nat → Int32) → Prop) (x : Nat → Nat → Int32) (y : Nat → Nat → Nat) (g : Nat → Nat → Nat → Int32) (s0 : Int32) : Prop := ((s0 = 0 → (jX3_readNumber_44 Φ x y g s0 ((x 20) 0))) ∧ (¬ s0 = 0 → (jX3_readNumber_44 Φ x y g s0 (((x 20) 0) + 1))))
def jX3_readNumber_25 (Φ : Int32 → (Nat → Nat → Int32) → (Nat → Nat → Nat) → (Nat → Nat → Nat → Int32) → Prop) (x : Nat → Nat → Int32) (y : Nat → Nat → Nat) (g : Nat → Nat → Nat → Int32) : Prop := (jX3_readNumber_26 Φ x y g 0)
def wX3_readNumber (x : Nat → Nat → Int32) (y : Nat → Nat → Nat) (g : Nat → Nat → Nat → Int32) (Φ : Int32 → (Nat → Nat → Int32) → (Nat → Nat → Nat) → (Nat → Nat → Nat → Int32) → Prop) : Prop := ((((x 21) 0) = 3 → (wX3_signAt x y g ((x 20) 0) (fun r_13 => ((r_13 = 45 → (jX3_readNumber_26 Φ x y g 1)) ∧ (¬ r_13 = 45 → (jX3_readNumber_25 Φ x y g)))))) ∧ (¬ ((x 21) 0) = 3 → (jX3_readNumber_25 Φ x y g)))
set_option maxRecDepth 100000 in
set_option maxHeartbeats 4000000 in
theorem kX3_readNumber {l : Launch} {D : va_G} {E : va_W} {ad : Nat → Nat → Nat} {wd sk : Nat → Nat} {cI cB cP cT : ClassId} {rr rq : Nat} {sz : Nat} (x0 : Nat → Nat → Int32) (y0 : Nat → Nat → Nat) (g0 : Nat → Nat → Nat → Int32) {Φ : Int32 → (Nat → Nat → Int32) → (Nat → Nat → Nat) → (Nat → Nat → Nat → Int32) → Prop} (h : wX3_readNumber x0 y0 g0 Φ) : Met l yX3_readNumber (zws yX3_readNumber cX3_readNumber 5 (some .int)) { frames := 6, cells := 0, slots := 0, locals := 147 } (zPc D (cTy cI cB cP cT) (cX wd sk) (cV E ad wd cI cB cP cT rr rq (x0, y0, g0)) [.ref rr] sz) (zQi D (cTy cI cB cP cT) (cV E ad wd cI cB cP cT rr rq) (fun r u => Φ r u.1 u.2.1 u.2.2) (cV E ad wd cI cB cP cT rr rq (x0, y0, g0)) sz) 0 0 (va_A (cV E ad wd cI cB cP cT rr rq (x0, y0, g0)) sz) := by
  refine zMet (by decide) (Nat.le_of_ble_eq_true rfl) ?_
  intro p e s m args below meth c A hx hb hr hml hown hts hlocks hsz hAe hA hS hP hK hD hX ls hl
  subst hsz
  have hF : zFx p s m args c cX3_readNumber RX3 A D (cTy cI cB cP cT) (cX wd sk) 5 := ⟨hx, hb, hml, hown, hts, hA, hK, cX_cl wd sk, hX⟩
  have hl : lv_has ls 5 [(0, .ref rr)] := hl
  have J143 : ∀ (x : Nat → Nat → Int32) (y : Nat → Nat → Nat) (g : Nat → Nat → Nat → Int32) (v1 : Int32) (v2 : Int32) (v4 : Int32), jX3_readNumber_143 Φ x y g v1 v2 v4 → ∀ (H : Heap) (locs : List Loc) (ls : Array Slot), va_P D vwCl (cV E ad wd cI cB cP cT rr rq (x, y, g)) H → va_D A (cV E ad wd cI cB cP cT rr rq (x, y, g)) → va_S A s.heap H locs → lv_has ls 5 [(0, .ref rr), (1, .int v1), (2, .int v2), (4, .int v4)] → W p l e { frames := 6, cells := 0, slots := 0, locals := 147 } s m args below meth c H locs 0 0 (MQ below (zQi D (cTy cI cB cP cT) (cV E ad wd cI cB cP cT rr rq) (fun r u => Φ r u.1 u.2.1 u.2.2) (cV E ad wd cI cB cP cT rr rq (x0, y0, g0)) s.heap.size) args s 0 0 (va_A (cV E ad wd cI cB cP cT rr rq (x0, y0, g0)) s.heap.size)) (F0 m 143 ls []) := by
    intro x y g v1 v2 v4 h H locs ls hP hD hS hl
    unfold jX3_readNumber_143 at h
    refine lv_aload_n (pc := 143) hx hb dX3_readNumber_143 rfl (lv_at hl 0 rfl) ?_
    refine lv_iload_n (pc := 144) hx hb dX3_readNumber_144 rfl (lv_at hl 2 rfl) ?_
    refine dKbp (pc := 145) (Wd := cV E ad wd cI cB cP cT rr rq) (u0 := (x, y, g)) hF hD hS (zrV [.int v2] hF (kX3_isEndOfPart x y g v2 h) (cwX3_X3_isEndOfPart hts ⟨Nat.le_of_ble_eq_true rfl, Nat.le_of_ble_eq_true rfl⟩) (d_rP hF hP (ci := 7) (q0 := 57) rfl (cA_RD ..)) hP hD hS rfl rfl hl.1 (Nat.le_of_ble_eq_true rfl) dX3_readNumber_145 ⟨Nat.le_refl _, Nat.le_refl _⟩) (fun r_145 H locs hb_145 h (hP : va_P D vwCl (cV E ad wd cI cB cP cT rr rq (x, y, g)) H) (hD : va_D A (cV E ad wd cI cB cP cT rr rq (x, y, g))) hS => ?_)
    refine lv_if_ne (pc := 148) (tgt := 153) hx hb dX3_readNumber_148 (by decide) (fun c_148 => ?_) (fun c_148 => ?_)
    · have h := h.2 c_148
      refine lv_aload_n (pc := 153) hx hb dX3_readNumber_153 rfl (lv_at hl 0 rfl) ?_
      refine lv_iload_n (pc := 154) hx hb dX3_readNumber_154 rfl (lv_at hl 2 rfl) ?_
      refine dP_rd_place (pc := 155) hF hP hD hS lkX3_19 dX3_readNumber_155 (fun H locs hP hD hS => ?_)
      refine lv_aload_n (pc := 158) hx hb dX3_readNumber_158 rfl (lv_at hl 0 rfl) ?_
      refine lv_iload_n (pc := 159) hx hb dX3_readNumber_159 rfl (lv_at hl 1 rfl) ?_
      refine lv_if_eq (pc := 160) (tgt := 169) hx hb dX3_readNumber_160 (by decide) (fun c_160 => ?_) (fun c_160 => ?_)
      · have h := h.1 c_160
        refine lv_iload (pc := 169) hx hb dX3_readNumber_169 (lv_at hl 3 rfl) ?_
        refine dKv (pc := 171) (Wd := cV E ad wd cI cB cP cT rr rq) (u0 := ((va_up x 20 (va_up (x 20) 0 v2)), y, g)) hF hD hS (zrV [.int v4] hF (kX3_takeNumber (va_up x 20 (va_up (x 20) 0 v2)) y g v4 h) (cwX3_X3_takeNumber hts ⟨Nat.le_of_ble_eq_true rfl, Nat.le_of_ble_eq_true rfl⟩) (d_rP hF hP (ci := 7) (q0 := 57) rfl (cA_RD ..)) hP hD hS rfl rfl hl.1 (Nat.le_of_ble_eq_true rfl) dX3_readNumber_171 ⟨Nat.le_refl _, Nat.le_refl _⟩) (fun x_171 y_171 g_171 H locs h (hP : va_P D vwCl (cV E ad wd cI cB cP cT rr rq (x_171, y_171, g_171)) H) (hD : va_D A (cV E ad wd cI cB cP cT rr rq (x_171, y_171, g_171))) hS => ?_)
        refine lv_iconst (pc := 174) (v := (-1)) hx hb dX3_readNumber_174 (by decide) ?_
        exact zirV (pc := 175) (Wd := cV E ad wd cI cB cP cT rr rq) (u := (x_171, y_171, g_171)) hx hb hr hlocks hAe hK hP hD hS rfl dX3_readNumber_175 (Nat.le_refl _) (Nat.le_refl _) h
      · have h := h.2 c_160
        refine lv_iload (pc := 163) hx hb dX3_readNumber_163 (lv_at hl 3 rfl) ?_
        refine lv_ineg (pc := 165) hx hb dX3_readNumber_165 ?_
        refine lv_goto (pc := 166) (tgt := 171) hx hb dX3_readNumber_166 (by decide) ?_
        refine dKv (pc := 171) (Wd := cV E ad wd cI cB cP cT rr rq) (u0 := ((va_up x 20 (va_up (x 20) 0 v2)), y, g)) hF hD hS (zrV [.int (-v4)] hF (kX3_takeNumber (va_up x 20 (va_up (x 20) 0 v2)) y g (-v4) h) (cwX3_X3_takeNumber hts ⟨Nat.le_of_ble_eq_true rfl, Nat.le_of_ble_eq_true rfl⟩) (d_rP hF hP (ci := 7) (q0 := 57) rfl (cA_RD ..)) hP hD hS rfl rfl hl.1 (Nat.le_of_ble_eq_true rfl) dX3_readNumber_171 ⟨Nat.le_refl _, Nat.le_refl _⟩) (fun x_171 y_171 g_171 H locs h (hP : va_P D vwCl (cV E ad wd cI cB cP cT rr rq (x_171, y_171, g_171)) H) (hD : va_D A (cV E ad wd cI cB cP cT rr rq (x_171, y_171, g_171))) hS => ?_)
        refine lv_iconst (pc := 174) (v := (-1)) hx hb dX3_readNumber_174 (by decide) ?_
        exact zirV (pc := 175) (Wd := cV E ad wd cI cB cP cT rr rq) (u := (x_171, y_171, g_171)) hx hb hr hlocks hAe hK hP hD hS rfl dX3_readNumber_175 (Nat.le_refl _) (Nat.le_refl _) h
    · have h := h.1 c_148
      refine lv_iload_n (pc := 151) hx hb dX3_readNumber_151 rfl (lv_at hl 2 rfl) ?_
      exact zirV (pc := 152) (Wd := cV E ad wd cI cB cP cT rr rq) (u := (x, y, g)) hx hb hr hlocks hAe hK hP hD hS rfl dX3_readNumber_152 (Nat.le_refl _) (Nat.le_refl _) h
  have J95 : ∀ (x : Nat → Nat → Int32) (y : Nat → Nat → Nat) (g : Nat → Nat → Nat → Int32) (v1 : Int32) (v2 : Int32), jX3_readNumber_95 Φ x y g v1 v2 → ∀ (H : Heap) (locs : List Loc) (ls : Array Slot), va_P D vwCl (cV E ad wd cI cB cP cT rr rq (x, y, g)) H → va_D A (cV E ad wd cI cB cP cT rr rq (x, y, g)) → va_S A s.heap H locs → lv_has ls 5 [(0, .ref rr), (1, .int v1), (2, .int v2)] → W p l e { frames := 6, cells := 0, slots := 0, locals := 147 } s m args below meth c H locs 0 0 (MQ below (zQi D (cTy cI cB cP cT) (cV E ad wd cI cB cP cT rr rq) (fun r u => Φ r u.1 u.2.1 u.2.2) (cV E ad wd cI cB cP cT rr rq (x0, y0, g0)) s.heap.size) args s 0 0 (va_A (cV E ad wd cI cB cP cT rr rq (x0, y0, g0)) s.heap.size)) (F0 m 95 ls []) := by
    intro x y g v1 v2 h H locs ls hP hD hS hl
    unfold jX3_readNumber_95 at h
    refine lv_aload_n (pc := 95) hx hb dX3_readNumber_95 rfl (lv_at hl 0 rfl) ?_
    refine lv_iload_n (pc := 96) hx hb dX3_readNumber_96 rfl (lv_at hl 2 rfl) ?_
    refine dKcp (pc := 97) (Wd := cV E ad wd cI cB cP cT rr rq) (u0 := (x, y, g)) hF hD hS (zrV [.int v2] hF (kX3_signAt x y g v2 h) (cwX3_X3_signAt hts ⟨Nat.le_of_ble_eq_true rfl, Nat.le_of_ble_eq_true rfl⟩) (d_rP hF hP (ci := 7) (q0 := 57) rfl (cA_RD ..)) hP hD hS rfl rfl hl.1 (Nat.le_of_ble_eq_true rfl) dX3_readNumber_97 ⟨Nat.le_refl _, Nat.le_refl _⟩) (fun r_97 H locs hb_97 h (hP : va_P D vwCl (cV E ad wd cI cB cP cT rr rq (x, y, g)) H) (hD : va_D A (cV E ad wd cI cB cP cT rr rq (x, y, g))) hS => ?_)
    refine lv_bipush (pc := 100) (v := 48) hx hb dX3_readNumber_100 (by decide) ?_
    refine lv_isub (pc := 102) hx hb dX3_readNumber_102 ?_
    refine lv_topi (fun v4_103 e_v4_103 => ?_)
    replace h := h v4_103 e_v4_103
    refine lv_istore (pc := 103) (lv' := [(4, .int v4_103), (0, .ref rr), (1, .int v1), (2, .int v2)]) hx hb dX3_readNumber_103 hl (by decide) rfl (fun ls hl => ?_)
    obtain ⟨v2_105, e_v2_105⟩ : ∃ y : Int32, y = v2 + 1 := ⟨_, rfl⟩
    replace h := h v2_105 e_v2_105
    refine lv_iinc (pc := 105) (v := v2_105) (lv' := [(2, .int v2_105), (4, .int v4_103), (0, .ref rr), (1, .int v1)]) hx hb dX3_readNumber_105 hl (k := 3) rfl (by rw [e_v2_105]; rfl) (by decide) rfl (fun ls hl => ?_)
    refine lv_iload (pc := 108) hx hb dX3_readNumber_108 (lv_at hl 1 rfl) ?_
    refine lv_if_le (pc := 110) (tgt := 143) hx hb dX3_readNumber_110 (by decide) (fun c_110 => ?_) (fun c_110 => ?_)
    · have h := h.1 c_110
      exact J143 x y g v1 v2_105 v4_103 h _ _ _ hP hD hS (lv_sub hl [2, 3, 0, 1] rfl)
    · have h := h.2 c_110
      refine lv_aload_n (pc := 113) hx hb dX3_readNumber_113 rfl (lv_at hl 2 rfl) ?_
      refine lv_iload_n (pc := 114) hx hb dX3_readNumber_114 rfl (lv_at hl 0 rfl) ?_
      refine dKcp (pc := 115) (Wd := cV E ad wd cI cB cP cT rr rq) (u0 := (x, y, g)) hF hD hS (zrV [.int v2_105] hF (kX3_signAt x y g v2_105 h) (cwX3_X3_signAt hts ⟨Nat.le_of_ble_eq_true rfl, Nat.le_of_ble_eq_true rfl⟩) (d_rP hF hP (ci := 7) (q0 := 57) rfl (cA_RD ..)) hP hD hS rfl rfl hl.1 (Nat.le_of_ble_eq_true rfl) dX3_readNumber_115 ⟨Nat.le_refl _, Nat.le_refl _⟩) (fun r_115 H locs hb_115 h (hP : va_P D vwCl (cV E ad wd cI cB cP cT rr rq (x, y, g)) H) (hD : va_D A (cV E ad wd cI cB cP cT rr rq (x, y, g))) hS => ?_)
      refine dKbp (pc := 118) (Wd := cV E ad wd cI cB cP cT rr rq) (u0 := (x, y, g)) hF hD hS (zrS [.int r_115] hF (kX3_isDigit x y g r_115 h) (cwX3_X3_isDigit hts ⟨Nat.le_of_ble_eq_true rfl, Nat.le_of_ble_eq_true rfl⟩) hP hD hS rfl rfl hl.1 (Nat.le_of_ble_eq_true rfl) dX3_readNumber_118 ⟨Nat.le_refl _, Nat.le_refl _⟩) (fun r_118 H locs hb_118 h (hP : va_P D vwCl (cV E ad wd cI cB cP cT rr rq (x, y, g)) H) (hD : va_D A (cV E ad wd cI cB cP cT rr rq (x, y, g))) hS => ?_)
      refine lv_if_eq (pc := 121) (tgt := 143) hx hb dX3_readNumber_121 (by decide) (fun c_121 => ?_) (fun c_121 => ?_)
      · have h := h.1 c_121
        exact J143 x y g v1 v2_105 v4_103 h _ _ _ hP hD hS (lv_sub hl [2, 3, 0, 1] rfl)
      · have h := h.2 c_121
        refine lv_iload (pc := 124) hx hb dX3_readNumber_124 (lv_at hl 1 rfl) ?_
        refine lv_bipush (pc := 126) (v := 10) hx hb dX3_readNumber_126 (by decide) ?_
        refine lv_imul (pc := 128) hx hb dX3_readNumber_128 ?_
        refine lv_aload_n (pc := 129) hx hb dX3_readNumber_129 rfl (lv_at hl 2 rfl) ?_
        refine lv_iload_n (pc := 130) hx hb dX3_readNumber_130 rfl (lv_at hl 0 rfl) ?_
        refine dKcp (pc := 131) (Wd := cV E ad wd cI cB cP cT rr rq) (u0 := (x, y, g)) hF hD hS (zrV [.int v2_105] hF (kX3_signAt x y g v2_105 h) (cwX3_X3_signAt hts ⟨Nat.le_of_ble_eq_true rfl, Nat.le_of_ble_eq_true rfl⟩) (d_rP hF hP (ci := 7) (q0 := 57) rfl (cA_RD ..)) hP hD hS rfl rfl hl.1 (Nat.le_of_ble_eq_true rfl) dX3_readNumber_131 ⟨Nat.le_refl _, Nat.le_refl _⟩) (fun r_131 H locs hb_131 h (hP : va_P D vwCl (cV E ad wd cI cB cP cT rr rq (x, y, g)) H) (hD : va_D A (cV E ad wd cI cB cP cT rr rq (x, y, g))) hS => ?_)
        refine lv_iadd (pc := 134) hx hb dX3_readNumber_134 ?_
        refine lv_bipush (pc := 135) (v := 48) hx hb dX3_readNumber_135 (by decide) ?_
        refine lv_isub (pc := 137) hx hb dX3_readNumber_137 ?_
        refine lv_topi (fun v4_138 e_v4_138 => ?_)
        replace h := h v4_138 e_v4_138
        refine lv_istore (pc := 138) (lv' := [(4, .int v4_138), (2, .int v2_105), (0, .ref rr), (1, .int v1)]) hx hb dX3_readNumber_138 hl (by decide) rfl (fun ls hl => ?_)
        obtain ⟨v2_140, e_v2_140⟩ : ∃ y : Int32, y = v2_105 + 1 := ⟨_, rfl⟩
        replace h := h v2_140 e_v2_140
        refine lv_iinc (pc := 140) (v := v2_140) (lv' := [(2, .int v2_140), (4, .int v4_138), (0, .ref rr), (1, .int v1)]) hx hb dX3_readNumber_140 hl (k := 1) rfl (by rw [e_v2_140]; rfl) (by decide) rfl (fun ls hl => ?_)
        exact J143 x y g v1 v2_140 v4_138 h _ _ _ hP hD hS (lv_sub hl [2, 3, 0, 1] rfl)
  have J67 : ∀ (x : Nat → Nat → Int32) (y : Nat → Nat → Nat) (g : Nat → Nat → Nat → Int32) (v1 : Int32) (v2 : Int32) (s0 : Int32), jX3_readNumber_67 Φ x y g v1 v2 s0 → ∀ (H : Heap) (locs : List Loc) (ls : Array Slot), va_P D vwCl (cV E ad wd cI cB cP cT rr rq (x, y, g)) H → va_D A (cV E ad wd cI cB cP cT rr rq (x, y, g)) → va_S A s.heap H locs → lv_has ls 5 [(0, .ref rr), (1, .int v1), (2, .int v2)] → W p l e { frames := 6, cells := 0, slots := 0, locals := 147 } s m args below meth c H locs 0 0 (MQ below (zQi D (cTy cI cB cP cT) (cV E ad wd cI cB cP cT rr rq) (fun r u => Φ r u.1 u.2.1 u.2.2) (cV E ad wd cI cB cP cT rr rq (x0, y0, g0)) s.heap.size) args s 0 0 (va_A (cV E ad wd cI cB cP cT rr rq (x0, y0, g0)) s.heap.size)) (F0 m 67 ls [.int s0]) := by
    intro x y g v1 v2 s0 h H locs ls hP hD hS hl
    unfold jX3_readNumber_67 at h
    refine lv_istore_n (pc := 67) (lv' := [(3, .int s0), (0, .ref rr), (1, .int v1), (2, .int v2)]) hx hb dX3_readNumber_67 rfl hl (by decide) rfl (fun ls hl => ?_)
    refine lv_aload_n (pc := 68) hx hb dX3_readNumber_68 rfl (lv_at hl 1 rfl) ?_
    refine lv_iload_n (pc := 69) hx hb dX3_readNumber_69 rfl (lv_at hl 3 rfl) ?_
    refine dKcp (pc := 70) (Wd := cV E ad wd cI cB cP cT rr rq) (u0 := (x, y, g)) hF hD hS (zrV [.int v2] hF (kX3_signAt x y g v2 h) (cwX3_X3_signAt hts ⟨Nat.le_of_ble_eq_true rfl, Nat.le_of_ble_eq_true rfl⟩) (d_rP hF hP (ci := 7) (q0 := 57) rfl (cA_RD ..)) hP hD hS rfl rfl hl.1 (Nat.le_of_ble_eq_true rfl) dX3_readNumber_70 ⟨Nat.le_refl _, Nat.le_refl _⟩) (fun r_70 H locs hb_70 h (hP : va_P D vwCl (cV E ad wd cI cB cP cT rr rq (x, y, g)) H) (hD : va_D A (cV E ad wd cI cB cP cT rr rq (x, y, g))) hS => ?_)
    refine dKbp (pc := 73) (Wd := cV E ad wd cI cB cP cT rr rq) (u0 := (x, y, g)) hF hD hS (zrS [.int r_70] hF (kX3_isDigit x y g r_70 h) (cwX3_X3_isDigit hts ⟨Nat.le_of_ble_eq_true rfl, Nat.le_of_ble_eq_true rfl⟩) hP hD hS rfl rfl hl.1 (Nat.le_of_ble_eq_true rfl) dX3_readNumber_73 ⟨Nat.le_refl _, Nat.le_refl _⟩) (fun r_73 H locs hb_73 h (hP : va_P D vwCl (cV E ad wd cI cB cP cT rr rq (x, y, g)) H) (hD : va_D A (cV E ad wd cI cB cP cT rr rq (x, y, g))) hS => ?_)
    refine lv_if_eq (pc := 76) (tgt := 93) hx hb dX3_readNumber_76 (by decide) (fun c_76 => ?_) (fun c_76 => ?_)
    · have h := h.1 c_76
      refine lv_iload_n (pc := 93) hx hb dX3_readNumber_93 rfl (lv_at hl 3 rfl) ?_
      exact zirV (pc := 94) (Wd := cV E ad wd cI cB cP cT rr rq) (u := (x, y, g)) hx hb hr hlocks hAe hK hP hD hS rfl dX3_readNumber_94 (Nat.le_refl _) (Nat.le_refl _) h
    · have h := h.2 c_76
      refine lv_aload_n (pc := 79) hx hb dX3_readNumber_79 rfl (lv_at hl 1 rfl) ?_
      refine lv_iload_n (pc := 80) hx hb dX3_readNumber_80 rfl (lv_at hl 3 rfl) ?_
      refine dKcp (pc := 81) (Wd := cV E ad wd cI cB cP cT rr rq) (u0 := (x, y, g)) hF hD hS (zrV [.int v2] hF (kX3_signAt x y g v2 h) (cwX3_X3_signAt hts ⟨Nat.le_of_ble_eq_true rfl, Nat.le_of_ble_eq_true rfl⟩) (d_rP hF hP (ci := 7) (q0 := 57) rfl (cA_RD ..)) hP hD hS rfl rfl hl.1 (Nat.le_of_ble_eq_true rfl) dX3_readNumber_81 ⟨Nat.le_refl _, Nat.le_refl _⟩) (fun r_81 H locs hb_81 h (hP : va_P D vwCl (cV E ad wd cI cB cP cT rr rq (x, y, g)) H) (hD : va_D A (cV E ad wd cI cB cP cT rr rq (x, y, g))) hS => ?_)
      refine lv_bipush (pc := 84) (v := 48) hx hb dX3_readNumber_84 (by decide) ?_
      refine lv_icmp_ne (pc := 86) (tgt := 95) hx hb dX3_readNumber_86 (by decide) (fun c_86 => ?_) (fun c_86 => ?_)
      · have h := h.2 c_86
        exact J95 x y g v1 v2 h _ _ _ hP hD hS (lv_sub hl [1, 2, 3] rfl)
      · have h := h.1 c_86
        refine lv_iload_n (pc := 89) hx hb dX3_readNumber_89 rfl (lv_at hl 0 rfl) ?_
        refine lv_if_ne (pc := 90) (tgt := 95) hx hb dX3_readNumber_90 (by decide) (fun c_90 => ?_) (fun c_90 => ?_)
        · have h := h.2 c_90
          exact J95 x y g v1 v2 h _ _ _ hP hD hS (lv_sub hl [1, 2, 3] rfl)
        · have h := h.1 c_90
          refine lv_iload_n (pc := 93) hx hb dX3_readNumber_93 rfl (lv_at hl 3 rfl) ?_
          exact zirV (pc := 94) (Wd := cV E ad wd cI cB cP cT rr rq) (u := (x, y, g)) hx hb hr hlocks hAe hK hP hD hS rfl dX3_readNumber_94 (Nat.le_refl _) (Nat.le_refl _) h
  have J62 : ∀ (x : Nat → Nat → Int32) (y : Nat → Nat → Nat) (g : Nat → Nat → Nat → Int32) (v1 : Int32) (v2 : Int32), jX3_readNumber_62 Φ x y g v1 v2 → ∀ (H : Heap) (locs : List Loc) (ls : Array Slot), va_P D vwCl (cV E ad wd cI cB cP cT rr rq (x, y, g)) H → va_D A (cV E ad wd cI cB cP cT rr rq (x, y, g)) → va_S A s.heap H locs → lv_has ls 5 [(0, .ref rr), (1, .int v1), (2, .int v2)] → W p l e { frames := 6, cells := 0, slots := 0, locals := 147 } s m args below meth c H locs 0 0 (MQ below (zQi D (cTy cI cB cP cT) (cV E ad wd cI cB cP cT rr rq) (fun r u => Φ r u.1 u.2.1 u.2.2) (cV E ad wd cI cB cP cT rr rq (x0, y0, g0)) s.heap.size) args s 0 0 (va_A (cV E ad wd cI cB cP cT rr rq (x0, y0, g0)) s.heap.size)) (F0 m 62 ls []) := by
    intro x y g v1 v2 h H locs ls hP hD hS hl
    unfold jX3_readNumber_62 at h
    refine lv_iconst (pc := 62) (v := 1) hx hb dX3_readNumber_62 (by decide) ?_
    refine lv_goto (pc := 63) (tgt := 67) hx hb dX3_readNumber_63 (by decide) ?_
    exact J67 x y g v1 v2 1 h _ _ _ hP hD hS (lv_sub hl [0, 1, 2] rfl)
  have J44 : ∀ (x : Nat → Nat → Int32) (y : Nat → Nat → Nat) (g : Nat → Nat → Nat → Int32) (v1 : Int32) (s0 : Int32), jX3_readNumber_44 Φ x y g v1 s0 → ∀ (H : Heap) (locs : List Loc) (ls : Array Slot), va_P D vwCl (cV E ad wd cI cB cP cT rr rq (x, y, g)) H → va_D A (cV E ad wd cI cB cP cT rr rq (x, y, g)) → va_S A s.heap H locs → lv_has ls 5 [(0, .ref rr), (1, .int v1)] → W p l e { frames := 6, cells := 0, slots := 0, locals := 147 } s m args below meth c H locs 0 0 (MQ below (zQi D (cTy cI cB cP cT) (cV E ad wd cI cB cP cT rr rq) (fun r u => Φ r u.1 u.2.1 u.2.2) (cV E ad wd cI cB cP cT rr rq (x0, y0, g0)) s.heap.size) args s 0 0 (va_A (cV E ad wd cI cB cP cT rr rq (x0, y0, g0)) s.heap.size)) (F0 m 44 ls [.int s0]) := by
    intro x y g v1 s0 h H locs ls hP hD hS hl
    unfold jX3_readNumber_44 at h
    refine lv_istore_n (pc := 44) (lv' := [(2, .int s0), (0, .ref rr), (1, .int v1)]) hx hb dX3_readNumber_44 rfl hl (by decide) rfl (fun ls hl => ?_)
    refine lv_aload_n (pc := 45) hx hb dX3_readNumber_45 rfl (lv_at hl 1 rfl) ?_
    refine dG_rd_stage (pc := 46) hF hP lkX3_23 (v := ((x 21) 0)) rfl dX3_readNumber_46 ?_
    refine lv_iconst (pc := 49) (v := 3) hx hb dX3_readNumber_49 (by decide) ?_
    refine lv_icmp_eq (pc := 50) (tgt := 62) hx hb dX3_readNumber_50 (by decide) (fun c_50 => ?_) (fun c_50 => ?_)
    · have h := h.1 c_50
      exact J62 x y g v1 s0 h _ _ _ hP hD hS (lv_sub hl [1, 2, 0] rfl)
    · have h := h.2 c_50
      refine lv_aload_n (pc := 53) hx hb dX3_readNumber_53 rfl (lv_at hl 1 rfl) ?_
      refine dG_rd_stage (pc := 54) hF hP lkX3_23 (v := ((x 21) 0)) rfl dX3_readNumber_54 ?_
      refine lv_bipush (pc := 57) (v := 9) hx hb dX3_readNumber_57 (by decide) ?_
      refine lv_icmp_ne (pc := 59) (tgt := 66) hx hb dX3_readNumber_59 (by decide) (fun c_59 => ?_) (fun c_59 => ?_)
      · have h := h.2 c_59
        refine lv_iconst (pc := 66) (v := 0) hx hb dX3_readNumber_66 (by decide) ?_
        exact J67 x y g v1 s0 0 h _ _ _ hP hD hS (lv_sub hl [1, 2, 0] rfl)
      · have h := h.1 c_59
        exact J62 x y g v1 s0 h _ _ _ hP hD hS (lv_sub hl [1, 2, 0] rfl)
  have J26 : ∀ (x : Nat → Nat → Int32) (y : Nat → Nat → Nat) (g : Nat → Nat → Nat → Int32) (s0 : Int32), jX3_readNumber_26 Φ x y g s0 → ∀ (H : Heap) (locs : List Loc) (ls : Array Slot), va_P D vwCl (cV E ad wd cI cB cP cT rr rq (x, y, g)) H → va_D A (cV E ad wd cI cB cP cT rr rq (x, y, g)) → va_S A s.heap H locs → lv_has ls 5 [(0, .ref rr)] → W p l e { frames := 6, cells := 0, slots := 0, locals := 147 } s m args below meth c H locs 0 0 (MQ below (zQi D (cTy cI cB cP cT) (cV E ad wd cI cB cP cT rr rq) (fun r u => Φ r u.1 u.2.1 u.2.2) (cV E ad wd cI cB cP cT rr rq (x0, y0, g0)) s.heap.size) args s 0 0 (va_A (cV E ad wd cI cB cP cT rr rq (x0, y0, g0)) s.heap.size)) (F0 m 26 ls [.int s0]) := by
    intro x y g s0 h H locs ls hP hD hS hl
    unfold jX3_readNumber_26 at h
    refine lv_istore_n (pc := 26) (lv' := [(1, .int s0), (0, .ref rr)]) hx hb dX3_readNumber_26 rfl hl (by decide) rfl (fun ls hl => ?_)
    refine lv_iload_n (pc := 27) hx hb dX3_readNumber_27 rfl (lv_at hl 0 rfl) ?_
    refine lv_if_eq (pc := 28) (tgt := 40) hx hb dX3_readNumber_28 (by decide) (fun c_28 => ?_) (fun c_28 => ?_)
    · have h := h.1 c_28
      refine lv_aload_n (pc := 40) hx hb dX3_readNumber_40 rfl (lv_at hl 1 rfl) ?_
      refine dG_rd_place (pc := 41) hF hP lkX3_19 (v := ((x 20) 0)) rfl dX3_readNumber_41 ?_
      exact J44 x y g s0 ((x 20) 0) h _ _ _ hP hD hS (lv_sub hl [1, 0] rfl)
    · have h := h.2 c_28
      refine lv_aload_n (pc := 31) hx hb dX3_readNumber_31 rfl (lv_at hl 1 rfl) ?_
      refine dG_rd_place (pc := 32) hF hP lkX3_19 (v := ((x 20) 0)) rfl dX3_readNumber_32 ?_
      refine lv_iconst (pc := 35) (v := 1) hx hb dX3_readNumber_35 (by decide) ?_
      refine lv_iadd (pc := 36) hx hb dX3_readNumber_36 ?_
      refine lv_goto (pc := 37) (tgt := 44) hx hb dX3_readNumber_37 (by decide) ?_
      exact J44 x y g s0 (((x 20) 0) + 1) h _ _ _ hP hD hS (lv_sub hl [1, 0] rfl)
  have J25 : ∀ (x : Nat → Nat → Int32) (y : Nat → Nat → Nat) (g : Nat → Nat → Nat → Int32), jX3_readNumber_25 Φ x y g → ∀ (H : Heap) (locs : List Loc) (ls : Array Slot), va_P D vwCl (cV E ad wd cI cB cP cT rr rq (x, y, g)) H → va_D A (cV E ad wd cI cB cP cT rr rq (x, y, g)) → va_S A s.heap H locs → lv_has ls 5 [(0, .ref rr)] → W p l e { frames := 6, cells := 0, slots := 0, locals := 147 } s m args below meth c H locs 0 0 (MQ below (zQi D (cTy cI cB cP cT) (cV E ad wd cI cB cP cT rr rq) (fun r u => Φ r u.1 u.2.1 u.2.2) (cV E ad wd cI cB cP cT rr rq (x0, y0, g0)) s.heap.size) args s 0 0 (va_A (cV E ad wd cI cB cP cT rr rq (x0, y0, g0)) s.heap.size)) (F0 m 25 ls []) := by
    intro x y g  h H locs ls hP hD hS hl
    unfold jX3_readNumber_25 at h
    refine lv_iconst (pc := 25) (v := 0) hx hb dX3_readNumber_25 (by decide) ?_
    exact J26 x y g 0 h _ _ _ hP hD hS (lv_sub hl [0] rfl)
  unfold wX3_readNumber at h
  refine lv_aload_n (pc := 0) hx hb dX3_readNumber_0 rfl (lv_at hl 0 rfl) ?_
  refine dG_rd_stage (pc := 1) hF hP lkX3_23 (v := ((x0 21) 0)) rfl dX3_readNumber_1 ?_
  refine lv_iconst (pc := 4) (v := 3) hx hb dX3_readNumber_4 (by decide) ?_
  refine lv_icmp_ne (pc := 5) (tgt := 25) hx hb dX3_readNumber_5 (by decide) (fun c_5 => ?_) (fun c_5 => ?_)
  · have h := h.2 c_5
    exact J25 x0 y0 g0 h _ _ _ hP hD hS (lv_sub hl [0] rfl)
  · have h := h.1 c_5
    refine lv_aload_n (pc := 8) hx hb dX3_readNumber_8 rfl (lv_at hl 0 rfl) ?_
    refine lv_aload_n (pc := 9) hx hb dX3_readNumber_9 rfl (lv_at hl 0 rfl) ?_
    refine dG_rd_place (pc := 10) hF hP lkX3_19 (v := ((x0 20) 0)) rfl dX3_readNumber_10 ?_
    refine dKcp (pc := 13) (Wd := cV E ad wd cI cB cP cT rr rq) (u0 := (x0, y0, g0)) hF hD hS (zrV [.int ((x0 20) 0)] hF (kX3_signAt x0 y0 g0 ((x0 20) 0) h) (cwX3_X3_signAt hts ⟨Nat.le_of_ble_eq_true rfl, Nat.le_of_ble_eq_true rfl⟩) (d_rP hF hP (ci := 7) (q0 := 57) rfl (cA_RD ..)) hP hD hS rfl rfl hl.1 (Nat.le_of_ble_eq_true rfl) dX3_readNumber_13 ⟨Nat.le_refl _, Nat.le_refl _⟩) (fun r_13 H locs hb_13 h (hP : va_P D vwCl (cV E ad wd cI cB cP cT rr rq (x0, y0, g0)) H) (hD : va_D A (cV E ad wd cI cB cP cT rr rq (x0, y0, g0))) hS => ?_)
    refine lv_bipush (pc := 16) (v := 45) hx hb dX3_readNumber_16 (by decide) ?_
    refine lv_icmp_ne (pc := 18) (tgt := 25) hx hb dX3_readNumber_18 (by decide) (fun c_18 => ?_) (fun c_18 => ?_)
    · have h := h.2 c_18
      exact J25 x0 y0 g0 h _ _ _ hP hD hS (lv_sub hl [0] rfl)
    · have h := h.1 c_18
      refine lv_iconst (pc := 21) (v := 1) hx hb dX3_readNumber_21 (by decide) ?_
      refine lv_goto (pc := 22) (tgt := 26) hx hb dX3_readNumber_22 (by decide) ?_
      exact J26 x0 y0 g0 1 h _ _ _ hP hD hS (lv_sub hl [0] rfl)

def jX3_readAll_90 (Φ : Int32 → (Nat → Nat → Int32) → (Nat → Nat → Nat) → (Nat → Nat → Nat → Int32) → Prop) (x : Nat → Nat → Int32) (y : Nat → Nat → Nat) (g : Nat → Nat → Nat → Int32) (s0 : Int32) : Prop := ((s0 = 0 → (wJ4_length_8abf5 x y g (fun r_103 => (Φ r_103 x y g)))) ∧ (¬ s0 = 0 → (Φ (-1) x y g)))
def jX3_readAll_85 (Φ : Int32 → (Nat → Nat → Int32) → (Nat → Nat → Nat) → (Nat → Nat → Nat → Int32) → Prop) (x : Nat → Nat → Int32) (y : Nat → Nat → Nat) (g : Nat → Nat → Nat → Int32) : Prop := (jX3_readAll_90 Φ x y g 1)
def jX3_readAll_58 (Φ : Int32 → (Nat → Nat → Int32) → (Nat → Nat → Nat) → (Nat → Nat → Nat → Int32) → Prop) (x : Nat → Nat → Int32) (y : Nat → Nat → Nat) (g : Nat → Nat → Nat → Int32) : Prop := ((((x 21) 0) = 8 → (jX3_readAll_85 Φ x y g)) ∧ (¬ ((x 21) 0) = 8 → ((((x 21) 0) = 10 → (jX3_readAll_85 Φ x y g)) ∧ (¬ ((x 21) 0) = 10 → ((((x 21) 0) = 11 → (jX3_readAll_85 Φ x y g)) ∧ (¬ ((x 21) 0) = 11 → (jX3_readAll_90 Φ x y g 0)))))))
def jX3_readAll_40 (W2 : (Nat → Nat → Int32) → (Nat → Nat → Nat) → (Nat → Nat → Nat → Int32) → Int32 → Prop) (Φ : Int32 → (Nat → Nat → Int32) → (Nat → Nat → Nat) → (Nat → Nat → Nat → Int32) → Prop) (x : Nat → Nat → Int32) (y : Nat → Nat → Nat) (g : Nat → Nat → Nat → Int32) (v1 : Int32) (s0 : Int32) : Prop := ((s0 = (-1) → (wX3_skipBlanks x y g (fun x_49 y_49 g_49 => (∀ v1_52 : Int32, v1_52 = v1 + 1 → (W2 x_49 y_49 g_49 v1_52))))) ∧ (¬ s0 = (-1) → (Φ s0 x y g)))
def lX3_readAll_2 (Φ : Int32 → (Nat → Nat → Int32) → (Nat → Nat → Nat) → (Nat → Nat → Nat → Int32) → Prop) : Nat → (Nat → Nat → Int32) → (Nat → Nat → Nat) → (Nat → Nat → Nat → Int32) → Int32 → Prop
  | 0, _, _, _, _ => False
  | n2 + 1, x, y, g, v1 => ((60 < v1 → (jX3_readAll_58 Φ x y g)) ∧ (¬ 60 < v1 → (wJ4_length_8abf5 x y g (fun r_16 => ((r_16 ≤ ((x 20) 0) → (jX3_readAll_58 Φ x y g)) ∧ (¬ r_16 ≤ ((x 20) 0) → (wX3_isNumberDue x y g (fun r_23 => ((r_23 = 0 → (wX3_readWord x y g (fun r_37 x_37 y_37 g_37 => (jX3_readAll_40 (lX3_readAll_2 Φ n2) Φ x_37 y_37 g_37 v1 r_37)))) ∧ (¬ r_23 = 0 → (wX3_readNumber x y g (fun r_30 x_30 y_30 g_30 => (jX3_readAll_40 (lX3_readAll_2 Φ n2) Φ x_30 y_30 g_30 v1 r_30)))))))))))))
def wX3_readAll (x : Nat → Nat → Int32) (y : Nat → Nat → Nat) (g : Nat → Nat → Nat → Int32) (Φ : Int32 → (Nat → Nat → Int32) → (Nat → Nat → Nat) → (Nat → Nat → Nat → Int32) → Prop) : Prop := (∃ n2 : Nat, lX3_readAll_2 Φ n2 x y g 0)
set_option maxRecDepth 100000 in
set_option maxHeartbeats 4000000 in
theorem kX3_readAll {l : Launch} {D : va_G} {E : va_W} {ad : Nat → Nat → Nat} {wd sk : Nat → Nat} {cI cB cP cT : ClassId} {rr rq : Nat} {sz : Nat} (x0 : Nat → Nat → Int32) (y0 : Nat → Nat → Nat) (g0 : Nat → Nat → Nat → Int32) {Φ : Int32 → (Nat → Nat → Int32) → (Nat → Nat → Nat) → (Nat → Nat → Nat → Int32) → Prop} (h : wX3_readAll x0 y0 g0 Φ) : Met l yX3_readAll (zws yX3_readAll cX3_readAll 3 (some .int)) { frames := 7, cells := 0, slots := 0, locals := 172 } (zPc D (cTy cI cB cP cT) (cX wd sk) (cV E ad wd cI cB cP cT rr rq (x0, y0, g0)) [.ref rr] sz) (zQi D (cTy cI cB cP cT) (cV E ad wd cI cB cP cT rr rq) (fun r u => Φ r u.1 u.2.1 u.2.2) (cV E ad wd cI cB cP cT rr rq (x0, y0, g0)) sz) 0 0 (va_A (cV E ad wd cI cB cP cT rr rq (x0, y0, g0)) sz) := by
  refine zMet (by decide) (Nat.le_of_ble_eq_true rfl) ?_
  intro p e s m args below meth c A hx hb hr hml hown hts hlocks hsz hAe hA hS hP hK hD hX ls hl
  subst hsz
  have hF : zFx p s m args c cX3_readAll RX3 A D (cTy cI cB cP cT) (cX wd sk) 3 := ⟨hx, hb, hml, hown, hts, hA, hK, cX_cl wd sk, hX⟩
  have hl : lv_has ls 3 [(0, .ref rr)] := hl
  have J90 : ∀ (x : Nat → Nat → Int32) (y : Nat → Nat → Nat) (g : Nat → Nat → Nat → Int32) (s0 : Int32), jX3_readAll_90 Φ x y g s0 → ∀ (H : Heap) (locs : List Loc) (ls : Array Slot), va_P D vwCl (cV E ad wd cI cB cP cT rr rq (x, y, g)) H → va_D A (cV E ad wd cI cB cP cT rr rq (x, y, g)) → va_S A s.heap H locs → lv_has ls 3 [(0, .ref rr)] → W p l e { frames := 7, cells := 0, slots := 0, locals := 172 } s m args below meth c H locs 0 0 (MQ below (zQi D (cTy cI cB cP cT) (cV E ad wd cI cB cP cT rr rq) (fun r u => Φ r u.1 u.2.1 u.2.2) (cV E ad wd cI cB cP cT rr rq (x0, y0, g0)) s.heap.size) args s 0 0 (va_A (cV E ad wd cI cB cP cT rr rq (x0, y0, g0)) s.heap.size)) (F0 m 90 ls [.int s0]) := by
    intro x y g s0 h H locs ls hP hD hS hl
    unfold jX3_readAll_90 at h
    refine lv_istore_n (pc := 90) (lv' := [(1, .int s0), (0, .ref rr)]) hx hb dX3_readAll_90 rfl hl (by decide) rfl (fun ls hl => ?_)
    refine lv_iload_n (pc := 91) hx hb dX3_readAll_91 rfl (lv_at hl 0 rfl) ?_
    refine lv_if_eq (pc := 92) (tgt := 99) hx hb dX3_readAll_92 (by decide) (fun c_92 => ?_) (fun c_92 => ?_)
    · have h := h.1 c_92
      refine lv_aload_n (pc := 99) hx hb dX3_readAll_99 rfl (lv_at hl 1 rfl) ?_
      refine dG_rd_text (pc := 100) hF hP lkX3_9 dX3_readAll_100 ?_
      refine dKip (pc := 103) (Wd := cW (cExt ad wd rr rq x y ++ E) ad wd cI cB cP cT) (u0 := (x, y, g)) hF hD hS (zrV [] hF (kJ4_length_8abf5 x y g h) (cwX3_J4_length_8abf5 hts ⟨Nat.le_of_ble_eq_true rfl, Nat.le_of_ble_eq_true rfl⟩) (d_rP hF hP (ci := 1) (q0 := 1) rfl (cA_SB ..)) hP hD hS rfl rfl hl.1 (Nat.le_of_ble_eq_true rfl) dX3_readAll_103 ⟨Nat.le_refl _, Nat.le_refl _⟩) (fun r_103 H locs h (hP : va_P D vwCl (cV E ad wd cI cB cP cT rr rq (x, y, g)) H) (hD : va_D A (cV E ad wd cI cB cP cT rr rq (x, y, g))) hS => ?_)
      exact zirV (pc := 106) (Wd := cV E ad wd cI cB cP cT rr rq) (u := (x, y, g)) hx hb hr hlocks hAe hK hP hD hS rfl dX3_readAll_106 (Nat.le_refl _) (Nat.le_refl _) h
    · have h := h.2 c_92
      refine lv_iconst (pc := 95) (v := (-1)) hx hb dX3_readAll_95 (by decide) ?_
      refine lv_goto (pc := 96) (tgt := 106) hx hb dX3_readAll_96 (by decide) ?_
      exact zirV (pc := 106) (Wd := cV E ad wd cI cB cP cT rr rq) (u := (x, y, g)) hx hb hr hlocks hAe hK hP hD hS rfl dX3_readAll_106 (Nat.le_refl _) (Nat.le_refl _) h
  have J85 : ∀ (x : Nat → Nat → Int32) (y : Nat → Nat → Nat) (g : Nat → Nat → Nat → Int32), jX3_readAll_85 Φ x y g → ∀ (H : Heap) (locs : List Loc) (ls : Array Slot), va_P D vwCl (cV E ad wd cI cB cP cT rr rq (x, y, g)) H → va_D A (cV E ad wd cI cB cP cT rr rq (x, y, g)) → va_S A s.heap H locs → lv_has ls 3 [(0, .ref rr)] → W p l e { frames := 7, cells := 0, slots := 0, locals := 172 } s m args below meth c H locs 0 0 (MQ below (zQi D (cTy cI cB cP cT) (cV E ad wd cI cB cP cT rr rq) (fun r u => Φ r u.1 u.2.1 u.2.2) (cV E ad wd cI cB cP cT rr rq (x0, y0, g0)) s.heap.size) args s 0 0 (va_A (cV E ad wd cI cB cP cT rr rq (x0, y0, g0)) s.heap.size)) (F0 m 85 ls []) := by
    intro x y g  h H locs ls hP hD hS hl
    unfold jX3_readAll_85 at h
    refine lv_iconst (pc := 85) (v := 1) hx hb dX3_readAll_85 (by decide) ?_
    refine lv_goto (pc := 86) (tgt := 90) hx hb dX3_readAll_86 (by decide) ?_
    exact J90 x y g 1 h _ _ _ hP hD hS (lv_sub hl [0] rfl)
  have J58 : ∀ (x : Nat → Nat → Int32) (y : Nat → Nat → Nat) (g : Nat → Nat → Nat → Int32), jX3_readAll_58 Φ x y g → ∀ (H : Heap) (locs : List Loc) (ls : Array Slot), va_P D vwCl (cV E ad wd cI cB cP cT rr rq (x, y, g)) H → va_D A (cV E ad wd cI cB cP cT rr rq (x, y, g)) → va_S A s.heap H locs → lv_has ls 3 [(0, .ref rr)] → W p l e { frames := 7, cells := 0, slots := 0, locals := 172 } s m args below meth c H locs 0 0 (MQ below (zQi D (cTy cI cB cP cT) (cV E ad wd cI cB cP cT rr rq) (fun r u => Φ r u.1 u.2.1 u.2.2) (cV E ad wd cI cB cP cT rr rq (x0, y0, g0)) s.heap.size) args s 0 0 (va_A (cV E ad wd cI cB cP cT rr rq (x0, y0, g0)) s.heap.size)) (F0 m 58 ls []) := by
    intro x y g  h H locs ls hP hD hS hl
    unfold jX3_readAll_58 at h
    refine lv_aload_n (pc := 58) hx hb dX3_readAll_58 rfl (lv_at hl 0 rfl) ?_
    refine dG_rd_stage (pc := 59) hF hP lkX3_23 (v := ((x 21) 0)) rfl dX3_readAll_59 ?_
    refine lv_bipush (pc := 62) (v := 8) hx hb dX3_readAll_62 (by decide) ?_
    refine lv_icmp_eq (pc := 64) (tgt := 85) hx hb dX3_readAll_64 (by decide) (fun c_64 => ?_) (fun c_64 => ?_)
    · have h := h.1 c_64
      exact J85 x y g h _ _ _ hP hD hS (lv_sub hl [0] rfl)
    · have h := h.2 c_64
      refine lv_aload_n (pc := 67) hx hb dX3_readAll_67 rfl (lv_at hl 0 rfl) ?_
      refine dG_rd_stage (pc := 68) hF hP lkX3_23 (v := ((x 21) 0)) rfl dX3_readAll_68 ?_
      refine lv_bipush (pc := 71) (v := 10) hx hb dX3_readAll_71 (by decide) ?_
      refine lv_icmp_eq (pc := 73) (tgt := 85) hx hb dX3_readAll_73 (by decide) (fun c_73 => ?_) (fun c_73 => ?_)
      · have h := h.1 c_73
        exact J85 x y g h _ _ _ hP hD hS (lv_sub hl [0] rfl)
      · have h := h.2 c_73
        refine lv_aload_n (pc := 76) hx hb dX3_readAll_76 rfl (lv_at hl 0 rfl) ?_
        refine dG_rd_stage (pc := 77) hF hP lkX3_23 (v := ((x 21) 0)) rfl dX3_readAll_77 ?_
        refine lv_bipush (pc := 80) (v := 11) hx hb dX3_readAll_80 (by decide) ?_
        refine lv_icmp_ne (pc := 82) (tgt := 89) hx hb dX3_readAll_82 (by decide) (fun c_82 => ?_) (fun c_82 => ?_)
        · have h := h.2 c_82
          refine lv_iconst (pc := 89) (v := 0) hx hb dX3_readAll_89 (by decide) ?_
          exact J90 x y g 0 h _ _ _ hP hD hS (lv_sub hl [0] rfl)
        · have h := h.1 c_82
          exact J85 x y g h _ _ _ hP hD hS (lv_sub hl [0] rfl)
  have L2 : ∀ n2 : Nat, ∀ (x : Nat → Nat → Int32) (y : Nat → Nat → Nat) (g : Nat → Nat → Nat → Int32) (v1 : Int32), lX3_readAll_2 Φ n2 x y g v1 → ∀ (H : Heap) (locs : List Loc) (ls : Array Slot), va_P D vwCl (cV E ad wd cI cB cP cT rr rq (x, y, g)) H → va_D A (cV E ad wd cI cB cP cT rr rq (x, y, g)) → va_S A s.heap H locs → lv_has ls 3 [(0, .ref rr), (1, .int v1)] → W p l e { frames := 7, cells := 0, slots := 0, locals := 172 } s m args below meth c H locs 0 0 (MQ below (zQi D (cTy cI cB cP cT) (cV E ad wd cI cB cP cT rr rq) (fun r u => Φ r u.1 u.2.1 u.2.2) (cV E ad wd cI cB cP cT rr rq (x0, y0, g0)) s.heap.size) args s 0 0 (va_A (cV E ad wd cI cB cP cT rr rq (x0, y0, g0)) s.heap.size)) (F0 m 2 ls []) := by
    intro n2
    induction n2 with
    | zero => intro x y g v1 h H locs ls hP hD hS hl; exact h.elim
    | succ n2 ih2 =>
      have J40 : ∀ (x : Nat → Nat → Int32) (y : Nat → Nat → Nat) (g : Nat → Nat → Nat → Int32) (v1 : Int32) (s0 : Int32), jX3_readAll_40 (lX3_readAll_2 Φ n2) Φ x y g v1 s0 → ∀ (H : Heap) (locs : List Loc) (ls : Array Slot), va_P D vwCl (cV E ad wd cI cB cP cT rr rq (x, y, g)) H → va_D A (cV E ad wd cI cB cP cT rr rq (x, y, g)) → va_S A s.heap H locs → lv_has ls 3 [(0, .ref rr), (1, .int v1)] → W p l e { frames := 7, cells := 0, slots := 0, locals := 172 } s m args below meth c H locs 0 0 (MQ below (zQi D (cTy cI cB cP cT) (cV E ad wd cI cB cP cT rr rq) (fun r u => Φ r u.1 u.2.1 u.2.2) (cV E ad wd cI cB cP cT rr rq (x0, y0, g0)) s.heap.size) args s 0 0 (va_A (cV E ad wd cI cB cP cT rr rq (x0, y0, g0)) s.heap.size)) (F0 m 40 ls [.int s0]) := by
        intro x y g v1 s0 h H locs ls hP hD hS hl
        unfold jX3_readAll_40 at h
        refine lv_istore_n (pc := 40) (lv' := [(2, .int s0), (0, .ref rr), (1, .int v1)]) hx hb dX3_readAll_40 rfl hl (by decide) rfl (fun ls hl => ?_)
        refine lv_iload_n (pc := 41) hx hb dX3_readAll_41 rfl (lv_at hl 0 rfl) ?_
        refine lv_iconst (pc := 42) (v := (-1)) hx hb dX3_readAll_42 (by decide) ?_
        refine lv_icmp_eq (pc := 43) (tgt := 48) hx hb dX3_readAll_43 (by decide) (fun c_43 => ?_) (fun c_43 => ?_)
        · have h := h.1 c_43
          refine lv_aload_n (pc := 48) hx hb dX3_readAll_48 rfl (lv_at hl 1 rfl) ?_
          refine dKv (pc := 49) (Wd := cV E ad wd cI cB cP cT rr rq) (u0 := (x, y, g)) hF hD hS (zrV [] hF (kX3_skipBlanks x y g h) (cwX3_X3_skipBlanks hts ⟨Nat.le_of_ble_eq_true rfl, Nat.le_of_ble_eq_true rfl⟩) (d_rP hF hP (ci := 7) (q0 := 57) rfl (cA_RD ..)) hP hD hS rfl rfl hl.1 (Nat.le_of_ble_eq_true rfl) dX3_readAll_49 ⟨Nat.le_refl _, Nat.le_refl _⟩) (fun x_49 y_49 g_49 H locs h (hP : va_P D vwCl (cV E ad wd cI cB cP cT rr rq (x_49, y_49, g_49)) H) (hD : va_D A (cV E ad wd cI cB cP cT rr rq (x_49, y_49, g_49))) hS => ?_)
          obtain ⟨v1_52, e_v1_52⟩ : ∃ y : Int32, y = v1 + 1 := ⟨_, rfl⟩
          replace h := h v1_52 e_v1_52
          refine lv_iinc (pc := 52) (v := v1_52) (lv' := [(1, .int v1_52), (2, .int s0), (0, .ref rr)]) hx hb dX3_readAll_52 hl (k := 2) rfl (by rw [e_v1_52]; rfl) (by decide) rfl (fun ls hl => ?_)
          refine lv_goto (pc := 55) (tgt := 2) hx hb dX3_readAll_55 (by decide) ?_
          exact ih2 x_49 y_49 g_49 v1_52 h _ _ _ hP hD hS (lv_sub hl [2, 0] rfl)
        · have h := h.2 c_43
          refine lv_iload_n (pc := 46) hx hb dX3_readAll_46 rfl (lv_at hl 0 rfl) ?_
          exact zirV (pc := 47) (Wd := cV E ad wd cI cB cP cT rr rq) (u := (x, y, g)) hx hb hr hlocks hAe hK hP hD hS rfl dX3_readAll_47 (Nat.le_refl _) (Nat.le_refl _) h
      intro x y g v1 h H locs ls hP hD hS hl
      unfold lX3_readAll_2 at h
      refine lv_iload_n (pc := 2) hx hb dX3_readAll_2 rfl (lv_at hl 1 rfl) ?_
      refine lv_bipush (pc := 3) (v := 60) hx hb dX3_readAll_3 (by decide) ?_
      refine lv_icmp_gt (pc := 5) (tgt := 58) hx hb dX3_readAll_5 (by decide) (fun c_5 => ?_) (fun c_5 => ?_)
      · have h := h.1 c_5
        exact J58 x y g h _ _ _ hP hD hS (lv_sub hl [0] rfl)
      · have h := h.2 c_5
        refine lv_aload_n (pc := 8) hx hb dX3_readAll_8 rfl (lv_at hl 0 rfl) ?_
        refine dG_rd_place (pc := 9) hF hP lkX3_19 (v := ((x 20) 0)) rfl dX3_readAll_9 ?_
        refine lv_aload_n (pc := 12) hx hb dX3_readAll_12 rfl (lv_at hl 0 rfl) ?_
        refine dG_rd_text (pc := 13) hF hP lkX3_9 dX3_readAll_13 ?_
        refine dKip (pc := 16) (Wd := cW (cExt ad wd rr rq x y ++ E) ad wd cI cB cP cT) (u0 := (x, y, g)) hF hD hS (zrV [] hF (kJ4_length_8abf5 x y g h) (cwX3_J4_length_8abf5 hts ⟨Nat.le_of_ble_eq_true rfl, Nat.le_of_ble_eq_true rfl⟩) (d_rP hF hP (ci := 1) (q0 := 1) rfl (cA_SB ..)) hP hD hS rfl rfl hl.1 (Nat.le_of_ble_eq_true rfl) dX3_readAll_16 ⟨Nat.le_refl _, Nat.le_refl _⟩) (fun r_16 H locs h (hP : va_P D vwCl (cV E ad wd cI cB cP cT rr rq (x, y, g)) H) (hD : va_D A (cV E ad wd cI cB cP cT rr rq (x, y, g))) hS => ?_)
        refine lv_icmp_ge (pc := 19) (tgt := 58) hx hb dX3_readAll_19 (by decide) (fun c_19 => ?_) (fun c_19 => ?_)
        · have h := h.1 c_19
          exact J58 x y g h _ _ _ hP hD hS (lv_sub hl [0] rfl)
        · have h := h.2 c_19
          refine lv_aload_n (pc := 22) hx hb dX3_readAll_22 rfl (lv_at hl 0 rfl) ?_
          refine dKbp (pc := 23) (Wd := cV E ad wd cI cB cP cT rr rq) (u0 := (x, y, g)) hF hD hS (zrV [] hF (kX3_isNumberDue x y g h) (cwX3_X3_isNumberDue hts ⟨Nat.le_of_ble_eq_true rfl, Nat.le_of_ble_eq_true rfl⟩) (d_rP hF hP (ci := 7) (q0 := 57) rfl (cA_RD ..)) hP hD hS rfl rfl hl.1 (Nat.le_of_ble_eq_true rfl) dX3_readAll_23 ⟨Nat.le_refl _, Nat.le_refl _⟩) (fun r_23 H locs hb_23 h (hP : va_P D vwCl (cV E ad wd cI cB cP cT rr rq (x, y, g)) H) (hD : va_D A (cV E ad wd cI cB cP cT rr rq (x, y, g))) hS => ?_)
          refine lv_if_eq (pc := 26) (tgt := 36) hx hb dX3_readAll_26 (by decide) (fun c_26 => ?_) (fun c_26 => ?_)
          · have h := h.1 c_26
            refine lv_aload_n (pc := 36) hx hb dX3_readAll_36 rfl (lv_at hl 0 rfl) ?_
            refine dKi (pc := 37) (Wd := cV E ad wd cI cB cP cT rr rq) (u0 := (x, y, g)) hF hD hS (zrV [] hF (kX3_readWord x y g h) (cwX3_X3_readWord hts ⟨Nat.le_of_ble_eq_true rfl, Nat.le_of_ble_eq_true rfl⟩) (d_rP hF hP (ci := 7) (q0 := 57) rfl (cA_RD ..)) hP hD hS rfl rfl hl.1 (Nat.le_of_ble_eq_true rfl) dX3_readAll_37 ⟨Nat.le_refl _, Nat.le_refl _⟩) (fun r_37 x_37 y_37 g_37 H locs h (hP : va_P D vwCl (cV E ad wd cI cB cP cT rr rq (x_37, y_37, g_37)) H) (hD : va_D A (cV E ad wd cI cB cP cT rr rq (x_37, y_37, g_37))) hS => ?_)
            exact J40 x_37 y_37 g_37 v1 r_37 h _ _ _ hP hD hS (lv_sub hl [0, 1] rfl)
          · have h := h.2 c_26
            refine lv_aload_n (pc := 29) hx hb dX3_readAll_29 rfl (lv_at hl 0 rfl) ?_
            refine dKi (pc := 30) (Wd := cV E ad wd cI cB cP cT rr rq) (u0 := (x, y, g)) hF hD hS (zrV [] hF (kX3_readNumber x y g h) (cwX3_X3_readNumber hts ⟨Nat.le_of_ble_eq_true rfl, Nat.le_of_ble_eq_true rfl⟩) (d_rP hF hP (ci := 7) (q0 := 57) rfl (cA_RD ..)) hP hD hS rfl rfl hl.1 (Nat.le_of_ble_eq_true rfl) dX3_readAll_30 ⟨Nat.le_refl _, Nat.le_refl _⟩) (fun r_30 x_30 y_30 g_30 H locs h (hP : va_P D vwCl (cV E ad wd cI cB cP cT rr rq (x_30, y_30, g_30)) H) (hD : va_D A (cV E ad wd cI cB cP cT rr rq (x_30, y_30, g_30))) hS => ?_)
            refine lv_goto (pc := 33) (tgt := 40) hx hb dX3_readAll_33 (by decide) ?_
            exact J40 x_30 y_30 g_30 v1 r_30 h _ _ _ hP hD hS (lv_sub hl [0, 1] rfl)
  unfold wX3_readAll at h
  refine lv_iconst (pc := 0) (v := 0) hx hb dX3_readAll_0 (by decide) ?_
  refine lv_istore_n (pc := 1) (lv' := [(1, .int 0), (0, .ref rr)]) hx hb dX3_readAll_1 rfl hl (by decide) rfl (fun ls hl => ?_)
  obtain ⟨n2, h⟩ := h
  exact L2 n2 x0 y0 g0 0 h _ _ _ hP hD hS (lv_sub hl [1, 0] rfl)

def wX2_isFit (x : Nat → Nat → Int32) (y : Nat → Nat → Nat) (g : Nat → Nat → Nat → Int32) (Φ : Int32 → Prop) : Prop := ((((y 5) 1) = 9 → ((((x 11) 1) ≤ 0 → (Φ 0)) ∧ (¬ ((x 11) 1) ≤ 0 → (¬ ((x 11) 1) = 0 ∧ (((((x 10) 1) - ((x 10) 1) / ((x 11) 1) * ((x 11) 1)) = 0 → (((4 * ((x 11) 1)) < ((x 10) 1) → (Φ 0)) ∧ (¬ (4 * ((x 11) 1)) < ((x 10) 1) → (Φ 1)))) ∧ (¬ (((x 10) 1) - ((x 10) 1) / ((x 11) 1) * ((x 11) 1)) = 0 → (Φ 0))))))) ∧ (¬ ((y 5) 1) = 9 → (Φ 1)))
set_option maxRecDepth 100000 in
set_option maxHeartbeats 4000000 in
theorem kX2_isFit {l : Launch} {D : va_G} {E : va_W} {ad : Nat → Nat → Nat} {wd sk : Nat → Nat} {cI cB cP cT : ClassId} {rr rq : Nat} {sz : Nat} (x0 : Nat → Nat → Int32) (y0 : Nat → Nat → Nat) (g0 : Nat → Nat → Nat → Int32) {Φ : Int32 → Prop} (h : wX2_isFit x0 y0 g0 Φ) : Met l yX2_isFit (zws yX2_isFit cX2_isFit 1 (some .boolean)) { frames := 0, cells := 0, slots := 0, locals := 0 } (zPc D (cTy cI cB cP cT) (cX wd sk) (cV E ad wd cI cB cP cT rr rq (x0, y0, g0)) [.ref rq] sz) (zQi D (cTy cI cB cP cT) (cV E ad wd cI cB cP cT rr rq) (fun r u => u = (x0, y0, g0) ∧ (r = 0 ∨ r = 1) ∧ Φ r) (cV E ad wd cI cB cP cT rr rq (x0, y0, g0)) sz) 0 0 (va_A (cV E ad wd cI cB cP cT rr rq (x0, y0, g0)) sz) := by
  refine zMet (by decide) (Nat.le_of_ble_eq_true rfl) ?_
  intro p e s m args below meth c A hx hb hr hml hown hts hlocks hsz hAe hA hS hP hK hD hX ls hl
  subst hsz
  have hF : zFx p s m args c cX2_isFit RX2 A D (cTy cI cB cP cT) (cX wd sk) 1 := ⟨hx, hb, hml, hown, hts, hA, hK, cX_cl wd sk, hX⟩
  have hl : lv_has ls 1 [(0, .ref rq)] := hl
  unfold wX2_isFit at h
  refine lv_aload_n (pc := 0) hx hb dX2_isFit_0 rfl (lv_at hl 0 rfl) ?_
  refine dG_q1_shape (pc := 1) hF hP lkX2_37 dX2_isFit_1 ?_
  refine c_word (pc := 4) hF hP hS (k := 9) (by decide) rfl lkX2_55 dX2_isFit_4 ?_
  refine c_acmp_eq (pc := 7) (i := ((y0 5) 1)) (j := 9) (tgt := 12) hF hP dX2_isFit_7 (by decide) (fun c_7 => ?_) (fun c_7 => ?_)
  · have h := h.1 c_7
    refine lv_aload_n (pc := 12) hx hb dX2_isFit_12 rfl (lv_at hl 0 rfl) ?_
    refine dG_q1_slide (pc := 13) hF hP lkX2_43 (v := ((x0 11) 1)) rfl dX2_isFit_13 ?_
    refine lv_if_le (pc := 16) (tgt := 48) hx hb dX2_isFit_16 (by decide) (fun c_16 => ?_) (fun c_16 => ?_)
    · have h := h.1 c_16
      refine lv_iconst (pc := 48) (v := 0) hx hb dX2_isFit_48 (by decide) ?_
      exact zirV (pc := 49) (Wd := cV E ad wd cI cB cP cT rr rq) (u := (x0, y0, g0)) hx hb hr hlocks hAe hK hP hD hS rfl dX2_isFit_49 (Nat.le_refl _) (Nat.le_refl _) ⟨rfl, (Or.inl rfl), h⟩
    · have h := h.2 c_16
      refine lv_aload_n (pc := 19) hx hb dX2_isFit_19 rfl (lv_at hl 0 rfl) ?_
      refine dG_q1_size (pc := 20) hF hP lkX2_40 (v := ((x0 10) 1)) rfl dX2_isFit_20 ?_
      refine lv_aload_n (pc := 23) hx hb dX2_isFit_23 rfl (lv_at hl 0 rfl) ?_
      refine dG_q1_slide (pc := 24) hF hP lkX2_43 (v := ((x0 11) 1)) rfl dX2_isFit_24 ?_
      obtain ⟨h0_27, h⟩ := h
      refine lv_irem (pc := 27) hx hb dX2_isFit_27 h0_27 ?_
      refine lv_if_ne (pc := 28) (tgt := 48) hx hb dX2_isFit_28 (by decide) (fun c_28 => ?_) (fun c_28 => ?_)
      · have h := h.2 c_28
        refine lv_iconst (pc := 48) (v := 0) hx hb dX2_isFit_48 (by decide) ?_
        exact zirV (pc := 49) (Wd := cV E ad wd cI cB cP cT rr rq) (u := (x0, y0, g0)) hx hb hr hlocks hAe hK hP hD hS rfl dX2_isFit_49 (Nat.le_refl _) (Nat.le_refl _) ⟨rfl, (Or.inl rfl), h⟩
      · have h := h.1 c_28
        refine lv_aload_n (pc := 31) hx hb dX2_isFit_31 rfl (lv_at hl 0 rfl) ?_
        refine dG_q1_size (pc := 32) hF hP lkX2_40 (v := ((x0 10) 1)) rfl dX2_isFit_32 ?_
        refine lv_iconst (pc := 35) (v := 4) hx hb dX2_isFit_35 (by decide) ?_
        refine lv_aload_n (pc := 36) hx hb dX2_isFit_36 rfl (lv_at hl 0 rfl) ?_
        refine dG_q1_slide (pc := 37) hF hP lkX2_43 (v := ((x0 11) 1)) rfl dX2_isFit_37 ?_
        refine lv_imul (pc := 40) hx hb dX2_isFit_40 ?_
        refine lv_icmp_gt (pc := 41) (tgt := 48) hx hb dX2_isFit_41 (by decide) (fun c_41 => ?_) (fun c_41 => ?_)
        · have h := h.1 c_41
          refine lv_iconst (pc := 48) (v := 0) hx hb dX2_isFit_48 (by decide) ?_
          exact zirV (pc := 49) (Wd := cV E ad wd cI cB cP cT rr rq) (u := (x0, y0, g0)) hx hb hr hlocks hAe hK hP hD hS rfl dX2_isFit_49 (Nat.le_refl _) (Nat.le_refl _) ⟨rfl, (Or.inl rfl), h⟩
        · have h := h.2 c_41
          refine lv_iconst (pc := 44) (v := 1) hx hb dX2_isFit_44 (by decide) ?_
          refine lv_goto (pc := 45) (tgt := 49) hx hb dX2_isFit_45 (by decide) ?_
          exact zirV (pc := 49) (Wd := cV E ad wd cI cB cP cT rr rq) (u := (x0, y0, g0)) hx hb hr hlocks hAe hK hP hD hS rfl dX2_isFit_49 (Nat.le_refl _) (Nat.le_refl _) ⟨rfl, (Or.inr rfl), h⟩
  · have h := h.2 c_7
    refine lv_iconst (pc := 10) (v := 1) hx hb dX2_isFit_10 (by decide) ?_
    exact zirV (pc := 11) (Wd := cV E ad wd cI cB cP cT rr rq) (u := (x0, y0, g0)) hx hb hr hlocks hAe hK hP hD hS rfl dX2_isFit_11 (Nat.le_refl _) (Nat.le_refl _) ⟨rfl, (Or.inr rfl), h⟩

def wX2_canFollow (x : Nat → Nat → Int32) (y : Nat → Nat → Nat) (g : Nat → Nat → Nat → Int32) (Φ : Int32 → Prop) : Prop := ((((y 3) 1) = ((y 3) 0) → ((((y 5) 1) = ((y 5) 0) → ((((x 10) 1) = ((x 10) 0) → ((((x 11) 1) = ((x 11) 0) → ((((x 12) 0) < ((x 12) 1) → (Φ 0)) ∧ (¬ ((x 12) 0) < ((x 12) 1) → (Φ 1)))) ∧ (¬ ((x 11) 1) = ((x 11) 0) → (Φ 0)))) ∧ (¬ ((x 10) 1) = ((x 10) 0) → (Φ 0)))) ∧ (¬ ((y 5) 1) = ((y 5) 0) → (Φ 0)))) ∧ (¬ ((y 3) 1) = ((y 3) 0) → (Φ 0)))
set_option maxRecDepth 100000 in
set_option maxHeartbeats 4000000 in
theorem kX2_canFollow {l : Launch} {D : va_G} {E : va_W} {ad : Nat → Nat → Nat} {wd sk : Nat → Nat} {cI cB cP cT : ClassId} {rr rq : Nat} {sz : Nat} (x0 : Nat → Nat → Int32) (y0 : Nat → Nat → Nat) (g0 : Nat → Nat → Nat → Int32) {Φ : Int32 → Prop} (h : wX2_canFollow x0 y0 g0 Φ) : Met l yX2_canFollow (zws yX2_canFollow cX2_canFollow 2 (some .boolean)) { frames := 0, cells := 0, slots := 0, locals := 0 } (zPc D (cTy cI cB cP cT) (cX wd sk) (cV E ad wd cI cB cP cT rr rq (x0, y0, g0)) [.ref rq, .ref (y0 2 0)] sz) (zQi D (cTy cI cB cP cT) (cV E ad wd cI cB cP cT rr rq) (fun r u => u = (x0, y0, g0) ∧ (r = 0 ∨ r = 1) ∧ Φ r) (cV E ad wd cI cB cP cT rr rq (x0, y0, g0)) sz) 0 0 (va_A (cV E ad wd cI cB cP cT rr rq (x0, y0, g0)) sz) := by
  refine zMet (by decide) (Nat.le_of_ble_eq_true rfl) ?_
  intro p e s m args below meth c A hx hb hr hml hown hts hlocks hsz hAe hA hS hP hK hD hX ls hl
  subst hsz
  have hF : zFx p s m args c cX2_canFollow RX2 A D (cTy cI cB cP cT) (cX wd sk) 2 := ⟨hx, hb, hml, hown, hts, hA, hK, cX_cl wd sk, hX⟩
  have hl : lv_has ls 2 [(0, .ref rq), (1, .ref (y0 2 0))] := hl
  unfold wX2_canFollow at h
  refine lv_aload_n (pc := 0) hx hb dX2_canFollow_0 rfl (lv_at hl 0 rfl) ?_
  refine dG_q1_fold (pc := 1) hF hP lkX2_15 dX2_canFollow_1 ?_
  refine lv_aload_n (pc := 4) hx hb dX2_canFollow_4 rfl (lv_at hl 1 rfl) ?_
  refine cG_X2_fold (pc := 5) hF hP lkX2_15 dX2_canFollow_5 ?_
  refine c_acmp_ne (pc := 8) (i := ((y0 3) 1)) (j := ((y0 3) 0)) (tgt := 59) hF hP dX2_canFollow_8 (by decide) (fun c_8 => ?_) (fun c_8 => ?_)
  · have h := h.2 c_8
    refine lv_iconst (pc := 59) (v := 0) hx hb dX2_canFollow_59 (by decide) ?_
    exact zirV (pc := 60) (Wd := cV E ad wd cI cB cP cT rr rq) (u := (x0, y0, g0)) hx hb hr hlocks hAe hK hP hD hS rfl dX2_canFollow_60 (Nat.le_refl _) (Nat.le_refl _) ⟨rfl, (Or.inl rfl), h⟩
  · have h := h.1 c_8
    refine lv_aload_n (pc := 11) hx hb dX2_canFollow_11 rfl (lv_at hl 0 rfl) ?_
    refine dG_q1_shape (pc := 12) hF hP lkX2_37 dX2_canFollow_12 ?_
    refine lv_aload_n (pc := 15) hx hb dX2_canFollow_15 rfl (lv_at hl 1 rfl) ?_
    refine cG_X2_shape (pc := 16) hF hP lkX2_37 dX2_canFollow_16 ?_
    refine c_acmp_ne (pc := 19) (i := ((y0 5) 1)) (j := ((y0 5) 0)) (tgt := 59) hF hP dX2_canFollow_19 (by decide) (fun c_19 => ?_) (fun c_19 => ?_)
    · have h := h.2 c_19
      refine lv_iconst (pc := 59) (v := 0) hx hb dX2_canFollow_59 (by decide) ?_
      exact zirV (pc := 60) (Wd := cV E ad wd cI cB cP cT rr rq) (u := (x0, y0, g0)) hx hb hr hlocks hAe hK hP hD hS rfl dX2_canFollow_60 (Nat.le_refl _) (Nat.le_refl _) ⟨rfl, (Or.inl rfl), h⟩
    · have h := h.1 c_19
      refine lv_aload_n (pc := 22) hx hb dX2_canFollow_22 rfl (lv_at hl 0 rfl) ?_
      refine dG_q1_size (pc := 23) hF hP lkX2_40 (v := ((x0 10) 1)) rfl dX2_canFollow_23 ?_
      refine lv_aload_n (pc := 26) hx hb dX2_canFollow_26 rfl (lv_at hl 1 rfl) ?_
      refine cG_X2_size (pc := 27) hF hP lkX2_40 (v := ((x0 10) 0)) rfl dX2_canFollow_27 ?_
      refine lv_icmp_ne (pc := 30) (tgt := 59) hx hb dX2_canFollow_30 (by decide) (fun c_30 => ?_) (fun c_30 => ?_)
      · have h := h.2 c_30
        refine lv_iconst (pc := 59) (v := 0) hx hb dX2_canFollow_59 (by decide) ?_
        exact zirV (pc := 60) (Wd := cV E ad wd cI cB cP cT rr rq) (u := (x0, y0, g0)) hx hb hr hlocks hAe hK hP hD hS rfl dX2_canFollow_60 (Nat.le_refl _) (Nat.le_refl _) ⟨rfl, (Or.inl rfl), h⟩
      · have h := h.1 c_30
        refine lv_aload_n (pc := 33) hx hb dX2_canFollow_33 rfl (lv_at hl 0 rfl) ?_
        refine dG_q1_slide (pc := 34) hF hP lkX2_43 (v := ((x0 11) 1)) rfl dX2_canFollow_34 ?_
        refine lv_aload_n (pc := 37) hx hb dX2_canFollow_37 rfl (lv_at hl 1 rfl) ?_
        refine cG_X2_slide (pc := 38) hF hP lkX2_43 (v := ((x0 11) 0)) rfl dX2_canFollow_38 ?_
        refine lv_icmp_ne (pc := 41) (tgt := 59) hx hb dX2_canFollow_41 (by decide) (fun c_41 => ?_) (fun c_41 => ?_)
        · have h := h.2 c_41
          refine lv_iconst (pc := 59) (v := 0) hx hb dX2_canFollow_59 (by decide) ?_
          exact zirV (pc := 60) (Wd := cV E ad wd cI cB cP cT rr rq) (u := (x0, y0, g0)) hx hb hr hlocks hAe hK hP hD hS rfl dX2_canFollow_60 (Nat.le_refl _) (Nat.le_refl _) ⟨rfl, (Or.inl rfl), h⟩
        · have h := h.1 c_41
          refine lv_aload_n (pc := 44) hx hb dX2_canFollow_44 rfl (lv_at hl 0 rfl) ?_
          refine dG_q1_lateness (pc := 45) hF hP lkX2_46 (v := ((x0 12) 1)) rfl dX2_canFollow_45 ?_
          refine lv_aload_n (pc := 48) hx hb dX2_canFollow_48 rfl (lv_at hl 1 rfl) ?_
          refine cG_X2_lateness (pc := 49) hF hP lkX2_46 (v := ((x0 12) 0)) rfl dX2_canFollow_49 ?_
          refine lv_icmp_gt (pc := 52) (tgt := 59) hx hb dX2_canFollow_52 (by decide) (fun c_52 => ?_) (fun c_52 => ?_)
          · have h := h.1 c_52
            refine lv_iconst (pc := 59) (v := 0) hx hb dX2_canFollow_59 (by decide) ?_
            exact zirV (pc := 60) (Wd := cV E ad wd cI cB cP cT rr rq) (u := (x0, y0, g0)) hx hb hr hlocks hAe hK hP hD hS rfl dX2_canFollow_60 (Nat.le_refl _) (Nat.le_refl _) ⟨rfl, (Or.inl rfl), h⟩
          · have h := h.2 c_52
            refine lv_iconst (pc := 55) (v := 1) hx hb dX2_canFollow_55 (by decide) ?_
            refine lv_goto (pc := 56) (tgt := 60) hx hb dX2_canFollow_56 (by decide) ?_
            exact zirV (pc := 60) (Wd := cV E ad wd cI cB cP cT rr rq) (u := (x0, y0, g0)) hx hb hr hlocks hAe hK hP hD hS rfl dX2_canFollow_60 (Nat.le_refl _) (Nat.le_refl _) ⟨rfl, (Or.inr rfl), h⟩

def wJ5_isLatin1_aae02 (x : Nat → Nat → Int32) (y : Nat → Nat → Nat) (g : Nat → Nat → Nat → Int32) (Φ : Int32 → Prop) : Prop := ((((x 17) 0) = 0 → (Φ 1)) ∧ (¬ ((x 17) 0) = 0 → False))
set_option maxRecDepth 100000 in
set_option maxHeartbeats 4000000 in
theorem kJ5_isLatin1_aae02 {l : Launch} {D : va_G} {E : va_W} {ad : Nat → Nat → Nat} {wd sk : Nat → Nat} {cI cB cP cT : ClassId} {sz : Nat} (x0 : Nat → Nat → Int32) (y0 : Nat → Nat → Nat) (g0 : Nat → Nat → Nat → Int32) {Φ : Int32 → Prop} (h : wJ5_isLatin1_aae02 x0 y0 g0 Φ) : Met l yJ5_isLatin1_aae02 (zws yJ5_isLatin1_aae02 cJ5_isLatin1_aae02 1 (some .boolean)) { frames := 0, cells := 0, slots := 0, locals := 0 } (zPc D (cTy cI cB cP cT) (cX wd sk) (cW E ad wd cI cB cP cT (x0, y0, g0)) [.ref (ad 1 0)] sz) (zQi D (cTy cI cB cP cT) (cW E ad wd cI cB cP cT) (fun r u => u = (x0, y0, g0) ∧ (r = 0 ∨ r = 1) ∧ Φ r) (cW E ad wd cI cB cP cT (x0, y0, g0)) sz) 0 0 (va_A (cW E ad wd cI cB cP cT (x0, y0, g0)) sz) := by
  refine zMet (by decide) (Nat.le_of_ble_eq_true rfl) ?_
  intro p e s m args below meth c A hx hb hr hml hown hts hlocks hsz hAe hA hS hP hK hD hX ls hl
  subst hsz
  have hF : zFx p s m args c cJ5_isLatin1_aae02 RJ5 A D (cTy cI cB cP cT) (cX wd sk) 1 := ⟨hx, hb, hml, hown, hts, hA, hK, cX_cl wd sk, hX⟩
  have hl : lv_has ls 1 [(0, .ref (ad 1 0))] := hl
  unfold wJ5_isLatin1_aae02 at h
  refine d_static (pc := 0) hF hS (d_cmp hF) lkJ5_18 dJ5_isLatin1_aae02_0 ?_
  refine lv_if_eq (pc := 3) (tgt := 17) hx hb dJ5_isLatin1_aae02_3 (by decide) (fun c_ => absurd c_ (by decide)) (fun _ => ?_)
  refine lv_aload_n (pc := 6) hx hb dJ5_isLatin1_aae02_6 rfl (lv_at hl 0 rfl) ?_
  refine dG_coder (pc := 7) hF hP lkJ5_22 (v := ((x0 17) 0)) rfl dJ5_isLatin1_aae02_7 ?_
  refine lv_if_ne (pc := 10) (tgt := 17) hx hb dJ5_isLatin1_aae02_10 (by decide) (fun c_10 => ?_) (fun c_10 => ?_)
  · have h := h.2 c_10
    exact h.elim
  · have h := h.1 c_10
    refine lv_iconst (pc := 13) (v := 1) hx hb dJ5_isLatin1_aae02_13 (by decide) ?_
    refine lv_goto (pc := 14) (tgt := 18) hx hb dJ5_isLatin1_aae02_14 (by decide) ?_
    exact zirV (pc := 18) (Wd := cW E ad wd cI cB cP cT) (u := (x0, y0, g0)) hx hb hr hlocks hAe hK hP hD hS rfl dJ5_isLatin1_aae02_18 (Nat.le_refl _) (Nat.le_refl _) ⟨rfl, (Or.inr rfl), h⟩

def wJ1_canEncode_fc78d (a0 : Int32) (Φ : Int32 → Prop) : Prop := ((255 < a0 → (Φ 0)) ∧ (¬ 255 < a0 → (Φ 1)))
set_option maxRecDepth 100000 in
set_option maxHeartbeats 4000000 in
theorem kJ1_canEncode_fc78d {l : Launch} {D : va_G} {E : va_W} {ad : Nat → Nat → Nat} {wd sk : Nat → Nat} {cI cB cP cT : ClassId} {sz : Nat} (x0 : Nat → Nat → Int32) (y0 : Nat → Nat → Nat) (g0 : Nat → Nat → Nat → Int32) (a0 : Int32) {Φ : Int32 → Prop} (h : wJ1_canEncode_fc78d a0 Φ) : Met l yJ1_canEncode_fc78d (zws yJ1_canEncode_fc78d cJ1_canEncode_fc78d 1 (some .boolean)) { frames := 0, cells := 0, slots := 0, locals := 0 } (zPc D (cTy cI cB cP cT) (cX wd sk) (cW E ad wd cI cB cP cT (x0, y0, g0)) [.int a0] sz) (zQi D (cTy cI cB cP cT) (cW E ad wd cI cB cP cT) (fun r u => u = (x0, y0, g0) ∧ (r = 0 ∨ r = 1) ∧ Φ r) (cW E ad wd cI cB cP cT (x0, y0, g0)) sz) 0 0 (va_A (cW E ad wd cI cB cP cT (x0, y0, g0)) sz) := by
  refine zMet (by decide) (Nat.le_of_ble_eq_true rfl) ?_
  intro p e s m args below meth c A hx hb hr hml hown hts hlocks hsz hAe hA hS hP hK hD hX ls hl
  subst hsz
  have hF : zFx p s m args c cJ1_canEncode_fc78d RJ1 A D (cTy cI cB cP cT) (cX wd sk) 1 := ⟨hx, hb, hml, hown, hts, hA, hK, cX_cl wd sk, hX⟩
  have hl : lv_has ls 1 [(0, .int a0)] := hl
  unfold wJ1_canEncode_fc78d at h
  refine lv_iload_n (pc := 0) hx hb dJ1_canEncode_fc78d_0 rfl (lv_at hl 0 rfl) ?_
  refine lv_sipush (pc := 1) (v := 255) hx hb dJ1_canEncode_fc78d_1 (by decide) ?_
  refine lv_icmp_gt (pc := 4) (tgt := 11) hx hb dJ1_canEncode_fc78d_4 (by decide) (fun c_4 => ?_) (fun c_4 => ?_)
  · have h := h.1 c_4
    refine lv_iconst (pc := 11) (v := 0) hx hb dJ1_canEncode_fc78d_11 (by decide) ?_
    exact zirV (pc := 12) (Wd := cW E ad wd cI cB cP cT) (u := (x0, y0, g0)) hx hb hr hlocks hAe hK hP hD hS rfl dJ1_canEncode_fc78d_12 (Nat.le_refl _) (Nat.le_refl _) ⟨rfl, (Or.inl rfl), h⟩
  · have h := h.2 c_4
    refine lv_iconst (pc := 7) (v := 1) hx hb dJ1_canEncode_fc78d_7 (by decide) ?_
    refine lv_goto (pc := 8) (tgt := 12) hx hb dJ1_canEncode_fc78d_8 (by decide) ?_
    exact zirV (pc := 12) (Wd := cW E ad wd cI cB cP cT) (u := (x0, y0, g0)) hx hb hr hlocks hAe hK hP hD hS rfl dJ1_canEncode_fc78d_12 (Nat.le_refl _) (Nat.le_refl _) ⟨rfl, (Or.inr rfl), h⟩

def wJ8_newLength_cabcc (a0 : Int32) (a1 : Int32) (a2 : Int32) (Φ : Int32 → Prop) : Prop := (∀ v3_7 : Int32, v3_7 = (a0 + (if a1 < a2 then a2 else a1)) → ((v3_7 ≤ 0 → False) ∧ (¬ v3_7 ≤ 0 → ((2147483639 < v3_7 → False) ∧ (¬ 2147483639 < v3_7 → (Φ v3_7))))))
set_option maxRecDepth 100000 in
set_option maxHeartbeats 4000000 in
theorem kJ8_newLength_cabcc {l : Launch} {D : va_G} {E : va_W} {ad : Nat → Nat → Nat} {wd sk : Nat → Nat} {cI cB cP cT : ClassId} {sz : Nat} (x0 : Nat → Nat → Int32) (y0 : Nat → Nat → Nat) (g0 : Nat → Nat → Nat → Int32) (a0 : Int32) (a1 : Int32) (a2 : Int32) {Φ : Int32 → Prop} (h : wJ8_newLength_cabcc a0 a1 a2 Φ) : Met l yJ8_newLength_cabcc (zws yJ8_newLength_cabcc cJ8_newLength_cabcc 4 (some .int)) { frames := 1, cells := 0, slots := 0, locals := 60 } (zPc D (cTy cI cB cP cT) (cX wd sk) (cW E ad wd cI cB cP cT (x0, y0, g0)) [.int a0, .int a1, .int a2] sz) (zQi D (cTy cI cB cP cT) (cW E ad wd cI cB cP cT) (fun r u => u = (x0, y0, g0) ∧ Φ r) (cW E ad wd cI cB cP cT (x0, y0, g0)) sz) 0 0 (va_A (cW E ad wd cI cB cP cT (x0, y0, g0)) sz) := by
  refine zMet (by decide) (Nat.le_of_ble_eq_true rfl) ?_
  intro p e s m args below meth c A hx hb hr hml hown hts hlocks hsz hAe hA hS hP hK hD hX ls hl
  subst hsz
  have hF : zFx p s m args c cJ8_newLength_cabcc RJ8 A D (cTy cI cB cP cT) (cX wd sk) 4 := ⟨hx, hb, hml, hown, hts, hA, hK, cX_cl wd sk, hX⟩
  have hl : lv_has ls 4 [(0, .int a0), (1, .int a1), (2, .int a2)] := hl
  unfold wJ8_newLength_cabcc at h
  refine lv_iload_n (pc := 0) hx hb dJ8_newLength_cabcc_0 rfl (lv_at hl 0 rfl) ?_
  refine lv_iload_n (pc := 1) hx hb dJ8_newLength_cabcc_1 rfl (lv_at hl 1 rfl) ?_
  refine lv_iload_n (pc := 2) hx hb dJ8_newLength_cabcc_2 rfl (lv_at hl 2 rfl) ?_
  refine c_max (pc := 3) hF hl.1 mlJ8_194 ⟨Nat.le_of_ble_eq_true rfl, Nat.le_of_ble_eq_true rfl⟩ ⟨Nat.le_refl _, Nat.le_refl _⟩ dJ8_newLength_cabcc_3 ?_
  refine lv_iadd (pc := 6) hx hb dJ8_newLength_cabcc_6 ?_
  refine lv_topi (fun v3_7 e_v3_7 => ?_)
  replace h := h v3_7 e_v3_7
  refine lv_istore_n (pc := 7) (lv' := [(3, .int v3_7), (0, .int a0), (1, .int a1), (2, .int a2)]) hx hb dJ8_newLength_cabcc_7 rfl hl (by decide) rfl (fun ls hl => ?_)
  refine lv_iconst (pc := 8) (v := 0) hx hb dJ8_newLength_cabcc_8 (by decide) ?_
  refine lv_iload_n (pc := 9) hx hb dJ8_newLength_cabcc_9 rfl (lv_at hl 0 rfl) ?_
  refine lv_icmp_ge (pc := 10) (tgt := 21) hx hb dJ8_newLength_cabcc_10 (by decide) (fun c_10 => ?_) (fun c_10 => ?_)
  · have h := h.1 c_10
    exact h.elim
  · have h := h.2 c_10
    refine lv_iload_n (pc := 13) hx hb dJ8_newLength_cabcc_13 rfl (lv_at hl 0 rfl) ?_
    refine lv_ldc (pc := 14) (v := 2147483639) hx hb hown (hts _ knJ8_200) dJ8_newLength_cabcc_14 ?_
    refine lv_icmp_gt (pc := 16) (tgt := 21) hx hb dJ8_newLength_cabcc_16 (by decide) (fun c_16 => ?_) (fun c_16 => ?_)
    · have h := h.1 c_16
      exact h.elim
    · have h := h.2 c_16
      refine lv_iload_n (pc := 19) hx hb dJ8_newLength_cabcc_19 rfl (lv_at hl 0 rfl) ?_
      exact zirV (pc := 20) (Wd := cW E ad wd cI cB cP cT) (u := (x0, y0, g0)) hx hb hr hlocks hAe hK hP hD hS rfl dJ8_newLength_cabcc_20 (Nat.le_refl _) (Nat.le_refl _) ⟨rfl, h⟩

def wJ5_newCapacity_0f7a4 (x : Nat → Nat → Int32) (y : Nat → Nat → Nat) (g : Nat → Nat → Nat → Int32) (a1 : Int32) (Φ : Int32 → Prop) : Prop := (∀ v2_5 : Int32, v2_5 = (nI ((y 9) 0)) → (∀ v3_12 : Int32, v3_12 = (a1 <<< (((x 17) 0) &&& 31)) → (∀ v4_16 : Int32, v4_16 = (v3_12 - v2_5) → (wJ8_newLength_cabcc v2_5 v4_16 (v2_5 + ((2 : Int32) <<< (((x 17) 0) &&& 31))) (fun r_29 => ((r_29 = 2147483647 → False) ∧ (¬ r_29 = 2147483647 → (Φ (r_29 >>> (((x 17) 0) &&& 31))))))))))
set_option maxRecDepth 100000 in
set_option maxHeartbeats 4000000 in
theorem kJ5_newCapacity_0f7a4 {l : Launch} {D : va_G} {E : va_W} {ad : Nat → Nat → Nat} {wd sk : Nat → Nat} {cI cB cP cT : ClassId} {sz : Nat} (x0 : Nat → Nat → Int32) (y0 : Nat → Nat → Nat) (g0 : Nat → Nat → Nat → Int32) (a1 : Int32) {Φ : Int32 → Prop} (h : wJ5_newCapacity_0f7a4 x0 y0 g0 a1 Φ) : Met l yJ5_newCapacity_0f7a4 (zws yJ5_newCapacity_0f7a4 cJ5_newCapacity_0f7a4 6 (some .int)) { frames := 2, cells := 0, slots := 0, locals := 83 } (zPc D (cTy cI cB cP cT) (cX wd sk) (cW E ad wd cI cB cP cT (x0, y0, g0)) [.ref (ad 1 0), .int a1] sz) (zQi D (cTy cI cB cP cT) (cW E ad wd cI cB cP cT) (fun r u => u = (x0, y0, g0) ∧ Φ r) (cW E ad wd cI cB cP cT (x0, y0, g0)) sz) 0 0 (va_A (cW E ad wd cI cB cP cT (x0, y0, g0)) sz) := by
  refine zMet (by decide) (Nat.le_of_ble_eq_true rfl) ?_
  intro p e s m args below meth c A hx hb hr hml hown hts hlocks hsz hAe hA hS hP hK hD hX ls hl
  subst hsz
  have hF : zFx p s m args c cJ5_newCapacity_0f7a4 RJ5 A D (cTy cI cB cP cT) (cX wd sk) 6 := ⟨hx, hb, hml, hown, hts, hA, hK, cX_cl wd sk, hX⟩
  have hl : lv_has ls 6 [(0, .ref (ad 1 0)), (1, .int a1)] := hl
  unfold wJ5_newCapacity_0f7a4 at h
  refine lv_aload_n (pc := 0) hx hb dJ5_newCapacity_0f7a4_0 rfl (lv_at hl 0 rfl) ?_
  refine dG_value (pc := 1) hF hP lkJ5_15 dJ5_newCapacity_0f7a4_1 ?_
  refine d_blen (pc := 4) hF hP dJ5_newCapacity_0f7a4_4 ?_
  refine lv_topi (fun v2_5 e_v2_5 => ?_)
  replace h := h v2_5 e_v2_5
  refine lv_istore_n (pc := 5) (lv' := [(2, .int v2_5), (0, .ref (ad 1 0)), (1, .int a1)]) hx hb dJ5_newCapacity_0f7a4_5 rfl hl (by decide) rfl (fun ls hl => ?_)
  refine lv_iload_n (pc := 6) hx hb dJ5_newCapacity_0f7a4_6 rfl (lv_at hl 2 rfl) ?_
  refine lv_aload_n (pc := 7) hx hb dJ5_newCapacity_0f7a4_7 rfl (lv_at hl 1 rfl) ?_
  refine dG_coder (pc := 8) hF hP lkJ5_22 (v := ((x0 17) 0)) rfl dJ5_newCapacity_0f7a4_8 ?_
  refine lv_ishl (pc := 11) hx hb dJ5_newCapacity_0f7a4_11 ?_
  refine lv_topi (fun v3_12 e_v3_12 => ?_)
  replace h := h v3_12 e_v3_12
  refine lv_istore_n (pc := 12) (lv' := [(3, .int v3_12), (2, .int v2_5), (0, .ref (ad 1 0)), (1, .int a1)]) hx hb dJ5_newCapacity_0f7a4_12 rfl hl (by decide) rfl (fun ls hl => ?_)
  refine lv_iload_n (pc := 13) hx hb dJ5_newCapacity_0f7a4_13 rfl (lv_at hl 0 rfl) ?_
  refine lv_iload_n (pc := 14) hx hb dJ5_newCapacity_0f7a4_14 rfl (lv_at hl 1 rfl) ?_
  refine lv_isub (pc := 15) hx hb dJ5_newCapacity_0f7a4_15 ?_
  refine lv_topi (fun v4_16 e_v4_16 => ?_)
  replace h := h v4_16 e_v4_16
  refine lv_istore (pc := 16) (lv' := [(4, .int v4_16), (3, .int v3_12), (2, .int v2_5), (0, .ref (ad 1 0)), (1, .int a1)]) hx hb dJ5_newCapacity_0f7a4_16 hl (by decide) rfl (fun ls hl => ?_)
  refine lv_iload_n (pc := 18) hx hb dJ5_newCapacity_0f7a4_18 rfl (lv_at hl 2 rfl) ?_
  refine lv_iload (pc := 19) hx hb dJ5_newCapacity_0f7a4_19 (lv_at hl 0 rfl) ?_
  refine lv_iload_n (pc := 21) hx hb dJ5_newCapacity_0f7a4_21 rfl (lv_at hl 2 rfl) ?_
  refine lv_iconst (pc := 22) (v := 2) hx hb dJ5_newCapacity_0f7a4_22 (by decide) ?_
  refine lv_aload_n (pc := 23) hx hb dJ5_newCapacity_0f7a4_23 rfl (lv_at hl 3 rfl) ?_
  refine dG_coder (pc := 24) hF hP lkJ5_22 (v := ((x0 17) 0)) rfl dJ5_newCapacity_0f7a4_24 ?_
  refine lv_ishl (pc := 27) hx hb dJ5_newCapacity_0f7a4_27 ?_
  refine lv_iadd (pc := 28) hx hb dJ5_newCapacity_0f7a4_28 ?_
  refine dKip (pc := 29) (Wd := cW E ad wd cI cB cP cT) (u0 := (x0, y0, g0)) hF hD hS (zrS [.int v2_5, .int v4_16, .int (v2_5 + ((2 : Int32) <<< (((x0 17) 0) &&& 31)))] hF (kJ8_newLength_cabcc x0 y0 g0 v2_5 v4_16 (v2_5 + ((2 : Int32) <<< (((x0 17) 0) &&& 31))) h) (cwJ5_J8_newLength_cabcc hts ⟨Nat.le_of_ble_eq_true rfl, Nat.le_of_ble_eq_true rfl⟩) hP hD hS rfl rfl hl.1 (Nat.le_of_ble_eq_true rfl) dJ5_newCapacity_0f7a4_29 ⟨Nat.le_refl _, Nat.le_refl _⟩) (fun r_29 H locs h (hP : va_P D vwCl (cW E ad wd cI cB cP cT (x0, y0, g0)) H) (hD : va_D A (cW E ad wd cI cB cP cT (x0, y0, g0))) hS => ?_)
  refine lv_istore (pc := 32) (lv' := [(5, .int r_29), (4, .int v4_16), (3, .int v3_12), (2, .int v2_5), (0, .ref (ad 1 0)), (1, .int a1)]) hx hb dJ5_newCapacity_0f7a4_32 hl (by decide) rfl (fun ls hl => ?_)
  refine lv_iload (pc := 34) hx hb dJ5_newCapacity_0f7a4_34 (lv_at hl 0 rfl) ?_
  refine lv_ldc (pc := 36) (v := 2147483647) hx hb hown (hts _ knJ5_39) dJ5_newCapacity_0f7a4_36 ?_
  refine lv_icmp_ne (pc := 38) (tgt := 51) hx hb dJ5_newCapacity_0f7a4_38 (by decide) (fun c_38 => ?_) (fun c_38 => ?_)
  · have h := h.2 c_38
    refine lv_iload (pc := 51) hx hb dJ5_newCapacity_0f7a4_51 (lv_at hl 0 rfl) ?_
    refine lv_aload_n (pc := 53) hx hb dJ5_newCapacity_0f7a4_53 rfl (lv_at hl 4 rfl) ?_
    refine dG_coder (pc := 54) hF hP lkJ5_22 (v := ((x0 17) 0)) rfl dJ5_newCapacity_0f7a4_54 ?_
    refine lv_ishr (pc := 57) hx hb dJ5_newCapacity_0f7a4_57 ?_
    exact zirV (pc := 58) (Wd := cW E ad wd cI cB cP cT) (u := (x0, y0, g0)) hx hb hr hlocks hAe hK hP hD hS rfl dJ5_newCapacity_0f7a4_58 (Nat.le_refl _) (Nat.le_refl _) ⟨rfl, h⟩
  · have h := h.1 c_38
    exact h.elim

def wJ7_copyOf_9075b (x : Nat → Nat → Int32) (y : Nat → Nat → Nat) (g : Nat → Nat → Nat → Int32) (a1 : Int32) (bc bs : Nat) (Φ : Nat → (Nat → Int32) → Prop) : Prop := ((a1 = (nI ((y 9) 0)) → False) ∧ (¬ a1 = (nI ((y 9) 0)) → (¬ a1 < 0 ∧ a1.toNatClampNeg * 1 ≤ 536870912 ∧ ∃ bc_15 bs_15 : Nat, 1 + bc_15 ≤ bc ∧ a1.toNatClampNeg + bs_15 ≤ bs ∧ (¬ (0 : Int32) < 0 ∧ ¬ (0 : Int32) < 0 ∧ ¬ (if a1 < (nI ((y 9) 0)) then a1 else (nI ((y 9) 0))) < 0 ∧ (0 : Int32).toNatClampNeg + (if a1 < (nI ((y 9) 0)) then a1 else (nI ((y 9) 0))).toNatClampNeg ≤ ((y 9) 0) ∧ (0 : Int32).toNatClampNeg + (if a1 < (nI ((y 9) 0)) then a1 else (nI ((y 9) 0))).toNatClampNeg ≤ a1.toNatClampNeg ∧ (∀ i, i < (if a1 < (nI ((y 9) 0)) then a1 else (nI ((y 9) 0))).toNatClampNeg → fits .byte (.int (((g 3) 0) ((0 : Int32).toNatClampNeg + i))) = true) ∧ (Φ a1.toNatClampNeg (va_cpy ((g 3) 0) (fun _ => 0) (0 : Int32).toNatClampNeg (0 : Int32).toNatClampNeg (if a1 < (nI ((y 9) 0)) then a1 else (nI ((y 9) 0))).toNatClampNeg))))))
set_option maxRecDepth 100000 in
set_option maxHeartbeats 4000000 in
theorem kJ7_copyOf_9075b {l : Launch} {D : va_G} {E : va_W} {ad : Nat → Nat → Nat} {wd sk : Nat → Nat} {cI cB cP cT : ClassId} {sz : Nat} (x0 : Nat → Nat → Int32) (y0 : Nat → Nat → Nat) (g0 : Nat → Nat → Nat → Int32) (a1 : Int32) (BC BS : Nat) {Φ : Nat → (Nat → Int32) → Prop} (h : wJ7_copyOf_9075b x0 y0 g0 a1 BC BS Φ) : Met l yJ7_copyOf_9075b (zws yJ7_copyOf_9075b cJ7_copyOf_9075b 3 (some (.array .byte))) { frames := 1, cells := BC, slots := BS, locals := 60 } (zPc D (cTy cI cB cP cT) (cX wd sk) (cW E ad wd cI cB cP cT (x0, y0, g0)) [.ref (y0 8 0), .int a1] sz) (zQx D (cTy cI cB cP cT) (fun q N f => cW (E ++ [(q, .inl (cB, N, .inl f))]) ad wd cI cB cP cT (x0, y0, g0)) Φ (cW E ad wd cI cB cP cT (x0, y0, g0)) sz) BC BS (va_A (cW E ad wd cI cB cP cT (x0, y0, g0)) sz) := by
  refine zMet (by decide) (Nat.le_of_ble_eq_true rfl) ?_
  intro p e s m args below meth c A hx hb hr hml hown hts hlocks hsz hAe hA hS hP hK hD hX ls hl
  subst hsz
  have hF : zFx p s m args c cJ7_copyOf_9075b RJ7 A D (cTy cI cB cP cT) (cX wd sk) 3 := ⟨hx, hb, hml, hown, hts, hA, hK, cX_cl wd sk, hX⟩
  have hl : lv_has ls 3 [(0, .ref (y0 8 0)), (1, .int a1)] := hl
  have hB : 0 + BC ≤ BC ∧ 0 + BS ≤ BS := ⟨by omega, by omega⟩
  unfold wJ7_copyOf_9075b at h
  refine lv_iload_n (pc := 0) hx hb dJ7_copyOf_9075b_0 rfl (lv_at hl 1 rfl) ?_
  refine lv_aload_n (pc := 1) hx hb dJ7_copyOf_9075b_1 rfl (lv_at hl 0 rfl) ?_
  refine d_blen (pc := 2) hF hP dJ7_copyOf_9075b_2 ?_
  refine lv_icmp_ne (pc := 3) (tgt := 14) hx hb dJ7_copyOf_9075b_3 (by decide) (fun c_3 => ?_) (fun c_3 => ?_)
  · have h := h.2 c_3
    refine lv_iload_n (pc := 14) hx hb dJ7_copyOf_9075b_14 rfl (lv_at hl 1 rfl) ?_
    obtain ⟨hn_15, hm_15, bc_15, bs_15, ec_15, es_15, h⟩ := h
    refine c_newB (pc := 15) hF hP hD hS hn_15 hm_15 (by show _ ≤ BC; (try dsimp only); omega) (by show _ ≤ BS; (try dsimp only); omega) dJ7_copyOf_9075b_15 (fun q_15 H hP hD hS => ?_)
    have hB : (0 + 1) + bc_15 ≤ BC ∧ (0 + a1.toNatClampNeg) + bs_15 ≤ BS := ⟨by (try dsimp only); omega, by (try dsimp only); omega⟩
    refine lv_astore_n (pc := 17) (lv' := [(2, .ref q_15), (0, .ref (y0 8 0)), (1, .int a1)]) hx hb dJ7_copyOf_9075b_17 rfl hl (by decide) rfl (fun ls hl => ?_)
    refine lv_aload_n (pc := 18) hx hb dJ7_copyOf_9075b_18 rfl (lv_at hl 1 rfl) ?_
    refine lv_iconst (pc := 19) (v := 0) hx hb dJ7_copyOf_9075b_19 (by decide) ?_
    refine lv_aload_n (pc := 20) hx hb dJ7_copyOf_9075b_20 rfl (lv_at hl 0 rfl) ?_
    refine lv_iconst (pc := 21) (v := 0) hx hb dJ7_copyOf_9075b_21 (by decide) ?_
    refine lv_aload_n (pc := 22) hx hb dJ7_copyOf_9075b_22 rfl (lv_at hl 1 rfl) ?_
    refine d_blen (pc := 23) hF hP dJ7_copyOf_9075b_23 ?_
    refine lv_iload_n (pc := 24) hx hb dJ7_copyOf_9075b_24 rfl (lv_at hl 2 rfl) ?_
    refine c_min (pc := 25) hF hl.1 mlJ7_304 ⟨Nat.le_of_ble_eq_true rfl, Nat.le_of_ble_eq_true rfl⟩ ⟨by show _ ≤ BC; omega, by show _ ≤ BS; omega⟩ dJ7_copyOf_9075b_25 ?_
    obtain ⟨h1_28, h2_28, h3_28, h4_28, h5_28, h6_28, h⟩ := h
    refine c_copyBX (pc := 28) hF hP hD hS hl.1 (f := ((g0 3) 0)) rfl h1_28 h2_28 h3_28 h4_28 h5_28 h6_28 mlJ7_150 ⟨Nat.le_of_ble_eq_true rfl, by show _ ≤ (60 : Nat); decide⟩ dJ7_copyOf_9075b_28 (fun H locs hP hD hS => ?_)
    refine lv_aload_n (pc := 31) hx hb dJ7_copyOf_9075b_31 rfl (lv_at hl 0 rfl) ?_
    exact zaxr (pc := 32) (q := q_15) (N := a1.toNatClampNeg) (f := (va_cpy ((g0 3) 0) (fun _ => 0) (0 : Int32).toNatClampNeg (0 : Int32).toNatClampNeg (if a1 < (nI ((y0 9) 0)) then a1 else (nI ((y0 9) 0))).toNatClampNeg)) hx hb hr hlocks hAe hK hP hD hS dJ7_copyOf_9075b_32 (by (try dsimp only); omega) (by (try dsimp only); omega) h
  · have h := h.1 c_3
    exact h.elim

def wJ5_ensureCapacityInternal_d00df (x : Nat → Nat → Int32) (y : Nat → Nat → Nat) (g : Nat → Nat → Nat → Int32) (a1 : Int32) (bc bs : Nat) (Φ : (Nat → Nat → Int32) → (Nat → Nat → Nat) → (Nat → Nat → Nat → Int32) → Prop) : Prop := (∀ v2_10 : Int32, v2_10 = ((nI ((y 9) 0)) >>> (((x 17) 0) &&& 31)) → (((a1 - v2_10) ≤ 0 → (Φ x y g)) ∧ (¬ (a1 - v2_10) ≤ 0 → (wJ5_newCapacity_0f7a4 x y g a1 (fun r_24 => (∃ kc_32 ks_32 bc_32 bs_32 : Nat, kc_32 + bc_32 ≤ bc ∧ ks_32 + bs_32 ≤ bs ∧ (wJ7_copyOf_9075b x y g (r_24 <<< (((x 17) 0) &&& 31)) kc_32 ks_32 (fun N_32 f_32 => ∀ q_32 : Nat, (Φ x (va_up (va_up y 8 (va_up (y 8) 0 q_32)) 9 (va_up (y 9) 0 N_32)) (va_up g 3 (va_up (g 3) 0 f_32)))))))))))
set_option maxRecDepth 100000 in
set_option maxHeartbeats 4000000 in
theorem kJ5_ensureCapacityInternal_d00df {l : Launch} {D : va_G} {E : va_W} {ad : Nat → Nat → Nat} {wd sk : Nat → Nat} {cI cB cP cT : ClassId} {sz : Nat} (x0 : Nat → Nat → Int32) (y0 : Nat → Nat → Nat) (g0 : Nat → Nat → Nat → Int32) (a1 : Int32) (BC BS : Nat) {Φ : (Nat → Nat → Int32) → (Nat → Nat → Nat) → (Nat → Nat → Nat → Int32) → Prop} (h : wJ5_ensureCapacityInternal_d00df x0 y0 g0 a1 BC BS Φ) : Met l yJ5_ensureCapacityInternal_d00df (zws yJ5_ensureCapacityInternal_d00df cJ5_ensureCapacityInternal_d00df 3 none) { frames := 3, cells := BC, slots := BS, locals := 108 } (zPc D (cTy cI cB cP cT) (cX wd sk) (cW E ad wd cI cB cP cT (x0, y0, g0)) [.ref (ad 1 0), .int a1] sz) (zQv D (cTy cI cB cP cT) (cW E ad wd cI cB cP cT) (fun u => Φ u.1 u.2.1 u.2.2) (cW E ad wd cI cB cP cT (x0, y0, g0)) sz) BC BS (va_A (cW E ad wd cI cB cP cT (x0, y0, g0)) sz) := by
  refine zMet (by decide) (Nat.le_of_ble_eq_true rfl) ?_
  intro p e s m args below meth c A hx hb hr hml hown hts hlocks hsz hAe hA hS hP hK hD hX ls hl
  subst hsz
  have hF : zFx p s m args c cJ5_ensureCapacityInternal_d00df RJ5 A D (cTy cI cB cP cT) (cX wd sk) 3 := ⟨hx, hb, hml, hown, hts, hA, hK, cX_cl wd sk, hX⟩
  have hl : lv_has ls 3 [(0, .ref (ad 1 0)), (1, .int a1)] := hl
  have hB : 0 + BC ≤ BC ∧ 0 + BS ≤ BS := ⟨by omega, by omega⟩
  unfold wJ5_ensureCapacityInternal_d00df at h
  refine lv_aload_n (pc := 0) hx hb dJ5_ensureCapacityInternal_d00df_0 rfl (lv_at hl 0 rfl) ?_
  refine dG_value (pc := 1) hF hP lkJ5_15 dJ5_ensureCapacityInternal_d00df_1 ?_
  refine d_blen (pc := 4) hF hP dJ5_ensureCapacityInternal_d00df_4 ?_
  refine lv_aload_n (pc := 5) hx hb dJ5_ensureCapacityInternal_d00df_5 rfl (lv_at hl 0 rfl) ?_
  refine dG_coder (pc := 6) hF hP lkJ5_22 (v := ((x0 17) 0)) rfl dJ5_ensureCapacityInternal_d00df_6 ?_
  refine lv_ishr (pc := 9) hx hb dJ5_ensureCapacityInternal_d00df_9 ?_
  refine lv_topi (fun v2_10 e_v2_10 => ?_)
  replace h := h v2_10 e_v2_10
  refine lv_istore_n (pc := 10) (lv' := [(2, .int v2_10), (0, .ref (ad 1 0)), (1, .int a1)]) hx hb dJ5_ensureCapacityInternal_d00df_10 rfl hl (by decide) rfl (fun ls hl => ?_)
  refine lv_iload_n (pc := 11) hx hb dJ5_ensureCapacityInternal_d00df_11 rfl (lv_at hl 2 rfl) ?_
  refine lv_iload_n (pc := 12) hx hb dJ5_ensureCapacityInternal_d00df_12 rfl (lv_at hl 0 rfl) ?_
  refine lv_isub (pc := 13) hx hb dJ5_ensureCapacityInternal_d00df_13 ?_
  refine lv_if_le (pc := 14) (tgt := 38) hx hb dJ5_ensureCapacityInternal_d00df_14 (by decide) (fun c_14 => ?_) (fun c_14 => ?_)
  · have h := h.1 c_14
    exact zvr (pc := 38) (Wd := cW E ad wd cI cB cP cT) (u := (x0, y0, g0)) hx hb hr hlocks hAe hK hP hD hS dJ5_ensureCapacityInternal_d00df_38 (by (try dsimp only); omega) (by (try dsimp only); omega) h
  · have h := h.2 c_14
    refine lv_aload_n (pc := 17) hx hb dJ5_ensureCapacityInternal_d00df_17 rfl (lv_at hl 1 rfl) ?_
    refine lv_aload_n (pc := 18) hx hb dJ5_ensureCapacityInternal_d00df_18 rfl (lv_at hl 1 rfl) ?_
    refine dG_value (pc := 19) hF hP lkJ5_15 dJ5_ensureCapacityInternal_d00df_19 ?_
    refine lv_aload_n (pc := 22) hx hb dJ5_ensureCapacityInternal_d00df_22 rfl (lv_at hl 1 rfl) ?_
    refine lv_iload_n (pc := 23) hx hb dJ5_ensureCapacityInternal_d00df_23 rfl (lv_at hl 2 rfl) ?_
    refine dKip (pc := 24) (Wd := cW E ad wd cI cB cP cT) (u0 := (x0, y0, g0)) hF hD hS (zrU [.int a1] hF (kJ5_newCapacity_0f7a4 x0 y0 g0 a1 h) (cwJ5_J5_newCapacity_0f7a4_u hts ⟨Nat.le_of_ble_eq_true rfl, Nat.le_of_ble_eq_true rfl⟩ (d_selN hF)) (d_rP hF hP (ci := 1) (q0 := 1) rfl (cA_SB ..)) hP hD hS rfl rfl hl.1 (Nat.le_of_ble_eq_true rfl) dJ5_ensureCapacityInternal_d00df_24 ⟨by show _ ≤ BC; (try dsimp only); omega, by show _ ≤ BS; (try dsimp only); omega⟩) (fun r_24 H locs h (hP : va_P D vwCl (cW E ad wd cI cB cP cT (x0, y0, g0)) H) (hD : va_D A (cW E ad wd cI cB cP cT (x0, y0, g0))) hS => ?_)
    refine lv_aload_n (pc := 27) hx hb dJ5_ensureCapacityInternal_d00df_27 rfl (lv_at hl 1 rfl) ?_
    refine dG_coder (pc := 28) hF hP lkJ5_22 (v := ((x0 17) 0)) rfl dJ5_ensureCapacityInternal_d00df_28 ?_
    refine lv_ishl (pc := 31) hx hb dJ5_ensureCapacityInternal_d00df_31 ?_
    obtain ⟨kc_32, ks_32, bc_32, bs_32, ec_32, es_32, h⟩ := h
    refine dKx (pc := 32) (u0 := (x0, y0, g0)) hF hD hS (zrS [.ref (y0 8 0), .int (r_24 <<< (((x0 17) 0) &&& 31))] hF (kJ7_copyOf_9075b x0 y0 g0 (r_24 <<< (((x0 17) 0) &&& 31)) kc_32 ks_32 h) (cwJ5_J7_copyOf_9075b hts ⟨Nat.le_of_ble_eq_true rfl, Nat.le_of_ble_eq_true rfl⟩) hP hD hS rfl rfl hl.1 (Nat.le_of_ble_eq_true rfl) dJ5_ensureCapacityInternal_d00df_32 ⟨by show _ ≤ BC; (try dsimp only); omega, by show _ ≤ BS; (try dsimp only); omega⟩) (fun N_32 f_32 q_32 H locs h hP hD hS => ?_)
    replace h := h q_32
    have hB : ((0 + 0) + kc_32) + bc_32 ≤ BC ∧ ((0 + 0) + ks_32) + bs_32 ≤ BS := ⟨by (try dsimp only); omega, by (try dsimp only); omega⟩
    refine d_value (pc := 35) hF hP hD hS lkJ5_15 dJ5_ensureCapacityInternal_d00df_35 (fun H locs hP hD hS => ?_)
    exact zvr (pc := 38) (Wd := cW E ad wd cI cB cP cT) (u := (x0, (va_up (va_up y0 8 (va_up (y0 8) 0 q_32)) 9 (va_up (y0 9) 0 N_32)), (va_up g0 3 (va_up (g0 3) 0 f_32)))) hx hb hr hlocks hAe hK hP hD hS dJ5_ensureCapacityInternal_d00df_38 (by (try dsimp only); omega) (by (try dsimp only); omega) h

def jJ5_append_3fe6f_45 (Φ : (Nat → Nat → Int32) → (Nat → Nat → Nat) → (Nat → Nat → Nat → Int32) → Prop) (x : Nat → Nat → Int32) (y : Nat → Nat → Nat) (g : Nat → Nat → Nat → Int32) (v1 : Int32) (bc bs : Nat) : Prop := False
def wJ5_append_3fe6f (x : Nat → Nat → Int32) (y : Nat → Nat → Nat) (g : Nat → Nat → Nat → Int32) (a1 : Int32) (bc bs : Nat) (Φ : (Nat → Nat → Int32) → (Nat → Nat → Nat) → (Nat → Nat → Nat → Int32) → Prop) : Prop := (∃ kc_7 ks_7 bc_7 bs_7 : Nat, kc_7 + bc_7 ≤ bc ∧ ks_7 + bs_7 ≤ bs ∧ (wJ5_ensureCapacityInternal_d00df x y g (((x 19) 0) + 1) kc_7 ks_7 (fun x_7 y_7 g_7 => (wJ5_isLatin1_aae02 x_7 y_7 g_7 (fun r_11 => ((r_11 = 0 → (jJ5_append_3fe6f_45 Φ x_7 y_7 g_7 a1 bc_7 bs_7)) ∧ (¬ r_11 = 0 → (wJ1_canEncode_fc78d a1 (fun r_18 => ((r_18 = 0 → (jJ5_append_3fe6f_45 Φ x_7 y_7 g_7 a1 bc_7 bs_7)) ∧ (¬ r_18 = 0 → (vp_in ((x_7 19) 0) ((y_7 9) 0) ∧ (Φ (va_up x_7 19 (va_up (x_7 19) 0 (((x_7 19) 0) + 1))) y_7 (va_up g_7 3 (va_up (g_7 3) 0 (upd ((g_7 3) 0) ((x_7 19) 0).toNatClampNeg (vp_nar .byte (a1.toInt8.toInt32))))))))))))))))))
set_option maxRecDepth 100000 in
set_option maxHeartbeats 4000000 in
theorem kJ5_append_3fe6f {l : Launch} {D : va_G} {E : va_W} {ad : Nat → Nat → Nat} {wd sk : Nat → Nat} {cI cB cP cT : ClassId} {sz : Nat} (x0 : Nat → Nat → Int32) (y0 : Nat → Nat → Nat) (g0 : Nat → Nat → Nat → Int32) (a1 : Int32) (BC BS : Nat) {Φ : (Nat → Nat → Int32) → (Nat → Nat → Nat) → (Nat → Nat → Nat → Int32) → Prop} (h : wJ5_append_3fe6f x0 y0 g0 a1 BC BS Φ) : Met l yJ5_append_3fe6f (zws yJ5_append_3fe6f cJ5_append_3fe6f 2 (some (.object "java/lang/AbstractStringBuilder"))) { frames := 4, cells := BC, slots := BS, locals := 130 } (zPc D (cTy cI cB cP cT) (cX wd sk) (cW E ad wd cI cB cP cT (x0, y0, g0)) [.ref (ad 1 0), .int a1] sz) (zQr D (cTy cI cB cP cT) (cW E ad wd cI cB cP cT) (fun u => Φ u.1 u.2.1 u.2.2) (cW E ad wd cI cB cP cT (x0, y0, g0)) sz (ad 1 0)) BC BS (va_A (cW E ad wd cI cB cP cT (x0, y0, g0)) sz) := by
  refine zMet (by decide) (Nat.le_of_ble_eq_true rfl) ?_
  intro p e s m args below meth c A hx hb hr hml hown hts hlocks hsz hAe hA hS hP hK hD hX ls hl
  subst hsz
  have hF : zFx p s m args c cJ5_append_3fe6f RJ5 A D (cTy cI cB cP cT) (cX wd sk) 2 := ⟨hx, hb, hml, hown, hts, hA, hK, cX_cl wd sk, hX⟩
  have hl : lv_has ls 2 [(0, .ref (ad 1 0)), (1, .int a1)] := hl
  have hB : 0 + BC ≤ BC ∧ 0 + BS ≤ BS := ⟨by omega, by omega⟩
  have J45 : ∀ (x : Nat → Nat → Int32) (y : Nat → Nat → Nat) (g : Nat → Nat → Nat → Int32) (v1 : Int32) (bc bs : Nat), jJ5_append_3fe6f_45 Φ x y g v1 bc bs → ∀ (cells slots : Nat), (cells + bc ≤ BC ∧ slots + bs ≤ BS) → ∀ (H : Heap) (locs : List Loc) (ls : Array Slot), va_P D vwCl (cW E ad wd cI cB cP cT (x, y, g)) H → va_D A (cW E ad wd cI cB cP cT (x, y, g)) → va_S A s.heap H locs → lv_has ls 2 [(0, .ref (ad 1 0)), (1, .int v1)] → W p l e { frames := 4, cells := BC, slots := BS, locals := 130 } s m args below meth c H locs cells slots (MQ below (zQr D (cTy cI cB cP cT) (cW E ad wd cI cB cP cT) (fun u => Φ u.1 u.2.1 u.2.2) (cW E ad wd cI cB cP cT (x0, y0, g0)) s.heap.size (ad 1 0)) args s BC BS (va_A (cW E ad wd cI cB cP cT (x0, y0, g0)) s.heap.size)) (F0 m 45 ls []) := by
    intro x y g v1 bc bs h cells slots hB H locs ls hP hD hS hl
    unfold jJ5_append_3fe6f_45 at h
    exact h.elim
  unfold wJ5_append_3fe6f at h
  refine lv_aload_n (pc := 0) hx hb dJ5_append_3fe6f_0 rfl (lv_at hl 0 rfl) ?_
  refine lv_aload_n (pc := 1) hx hb dJ5_append_3fe6f_1 rfl (lv_at hl 0 rfl) ?_
  refine dG_count (pc := 2) hF hP lkJ5_79 (v := ((x0 19) 0)) rfl dJ5_append_3fe6f_2 ?_
  refine lv_iconst (pc := 5) (v := 1) hx hb dJ5_append_3fe6f_5 (by decide) ?_
  refine lv_iadd (pc := 6) hx hb dJ5_append_3fe6f_6 ?_
  obtain ⟨kc_7, ks_7, bc_7, bs_7, ec_7, es_7, h⟩ := h
  refine dKv (pc := 7) (Wd := cW E ad wd cI cB cP cT) (u0 := (x0, y0, g0)) hF hD hS (zrU [.int (((x0 19) 0) + 1)] hF (kJ5_ensureCapacityInternal_d00df x0 y0 g0 (((x0 19) 0) + 1) kc_7 ks_7 h) (cwJ5_J5_ensureCapacityInternal_d00df_u hts ⟨Nat.le_of_ble_eq_true rfl, Nat.le_of_ble_eq_true rfl⟩ (d_selE hF)) (d_rP hF hP (ci := 1) (q0 := 1) rfl (cA_SB ..)) hP hD hS rfl rfl hl.1 (Nat.le_of_ble_eq_true rfl) dJ5_append_3fe6f_7 ⟨by show _ ≤ BC; (try dsimp only); omega, by show _ ≤ BS; (try dsimp only); omega⟩) (fun x_7 y_7 g_7 H locs h (hP : va_P D vwCl (cW E ad wd cI cB cP cT (x_7, y_7, g_7)) H) (hD : va_D A (cW E ad wd cI cB cP cT (x_7, y_7, g_7))) hS => ?_)
  have hB : (0 + kc_7) + bc_7 ≤ BC ∧ (0 + ks_7) + bs_7 ≤ BS := ⟨by (try dsimp only); omega, by (try dsimp only); omega⟩
  refine lv_aload_n (pc := 10) hx hb dJ5_append_3fe6f_10 rfl (lv_at hl 0 rfl) ?_
  refine dKbp (pc := 11) (Wd := cW E ad wd cI cB cP cT) (u0 := (x_7, y_7, g_7)) hF hD hS (zrU [] hF (kJ5_isLatin1_aae02 x_7 y_7 g_7 h) (cwJ5_J5_isLatin1_aae02_u hts ⟨Nat.le_of_ble_eq_true rfl, Nat.le_of_ble_eq_true rfl⟩) (d_rP hF hP (ci := 1) (q0 := 1) rfl (cA_SB ..)) hP hD hS rfl rfl hl.1 (Nat.le_of_ble_eq_true rfl) dJ5_append_3fe6f_11 ⟨by show _ ≤ BC; (try dsimp only); omega, by show _ ≤ BS; (try dsimp only); omega⟩) (fun r_11 H locs hb_11 h (hP : va_P D vwCl (cW E ad wd cI cB cP cT (x_7, y_7, g_7)) H) (hD : va_D A (cW E ad wd cI cB cP cT (x_7, y_7, g_7))) hS => ?_)
  refine lv_if_eq (pc := 14) (tgt := 45) hx hb dJ5_append_3fe6f_14 (by decide) (fun c_14 => ?_) (fun c_14 => ?_)
  · have h := h.1 c_14
    exact J45 x_7 y_7 g_7 a1 bc_7 bs_7 h _ _ hB _ _ _ hP hD hS (lv_sub hl [0, 1] rfl)
  · have h := h.2 c_14
    refine lv_iload_n (pc := 17) hx hb dJ5_append_3fe6f_17 rfl (lv_at hl 1 rfl) ?_
    refine dKbp (pc := 18) (Wd := cW E ad wd cI cB cP cT) (u0 := (x_7, y_7, g_7)) hF hD hS (zrS [.int a1] hF (kJ1_canEncode_fc78d x_7 y_7 g_7 a1 h) (cwJ5_J1_canEncode_fc78d hts ⟨Nat.le_of_ble_eq_true rfl, Nat.le_of_ble_eq_true rfl⟩) hP hD hS rfl rfl hl.1 (Nat.le_of_ble_eq_true rfl) dJ5_append_3fe6f_18 ⟨by show _ ≤ BC; (try dsimp only); omega, by show _ ≤ BS; (try dsimp only); omega⟩) (fun r_18 H locs hb_18 h (hP : va_P D vwCl (cW E ad wd cI cB cP cT (x_7, y_7, g_7)) H) (hD : va_D A (cW E ad wd cI cB cP cT (x_7, y_7, g_7))) hS => ?_)
    refine lv_if_eq (pc := 21) (tgt := 45) hx hb dJ5_append_3fe6f_21 (by decide) (fun c_21 => ?_) (fun c_21 => ?_)
    · have h := h.1 c_21
      exact J45 x_7 y_7 g_7 a1 bc_7 bs_7 h _ _ hB _ _ _ hP hD hS (lv_sub hl [0, 1] rfl)
    · have h := h.2 c_21
      refine lv_aload_n (pc := 24) hx hb dJ5_append_3fe6f_24 rfl (lv_at hl 0 rfl) ?_
      refine dG_value (pc := 25) hF hP lkJ5_15 dJ5_append_3fe6f_25 ?_
      refine lv_aload_n (pc := 28) hx hb dJ5_append_3fe6f_28 rfl (lv_at hl 0 rfl) ?_
      refine lv_dup (pc := 29) hx hb dJ5_append_3fe6f_29 rfl ?_
      refine dG_count (pc := 30) hF hP lkJ5_79 (v := ((x_7 19) 0)) rfl dJ5_append_3fe6f_30 ?_
      refine lv_dup_x1 (pc := 33) hx hb dJ5_append_3fe6f_33 rfl rfl ?_
      refine lv_iconst (pc := 34) (v := 1) hx hb dJ5_append_3fe6f_34 (by decide) ?_
      refine lv_iadd (pc := 35) hx hb dJ5_append_3fe6f_35 ?_
      refine dP_count (pc := 36) hF hP hD hS lkJ5_79 dJ5_append_3fe6f_36 (fun H locs hP hD hS => ?_)
      refine lv_iload_n (pc := 39) hx hb dJ5_append_3fe6f_39 rfl (lv_at hl 1 rfl) ?_
      refine lv_i2b (pc := 40) (v := (a1.toInt8.toInt32)) hx hb dJ5_append_3fe6f_40 rfl ?_
      obtain ⟨hi_41, h⟩ := h
      refine dT_BV (pc := 41) hF hP hD hS (f := ((g_7 3) 0)) rfl hi_41 dJ5_append_3fe6f_41 (fun H locs hP hD hS => ?_)
      refine lv_goto (pc := 42) (tgt := 75) hx hb dJ5_append_3fe6f_42 (by decide) ?_
      refine lv_aload_n (pc := 75) hx hb dJ5_append_3fe6f_75 rfl (lv_at hl 0 rfl) ?_
      exact zar (pc := 76) (Wd := cW E ad wd cI cB cP cT) (u := ((va_up x_7 19 (va_up (x_7 19) 0 (((x_7 19) 0) + 1))), y_7, (va_up g_7 3 (va_up (g_7 3) 0 (upd ((g_7 3) 0) ((x_7 19) 0).toNatClampNeg (vp_nar .byte (a1.toInt8.toInt32))))))) hx hb hr hlocks hAe hK hP hD hS dJ5_append_3fe6f_76 (by (try dsimp only); omega) (by (try dsimp only); omega) h

def wJ4_append_cf468 (x : Nat → Nat → Int32) (y : Nat → Nat → Nat) (g : Nat → Nat → Nat → Int32) (a1 : Int32) (bc bs : Nat) (Φ : (Nat → Nat → Int32) → (Nat → Nat → Nat) → (Nat → Nat → Nat → Int32) → Prop) : Prop := (∃ kc_2 ks_2 bc_2 bs_2 : Nat, kc_2 + bc_2 ≤ bc ∧ ks_2 + bs_2 ≤ bs ∧ (wJ5_append_3fe6f x y g a1 kc_2 ks_2 (fun x_2 y_2 g_2 => (Φ x_2 y_2 g_2))))
set_option maxRecDepth 100000 in
set_option maxHeartbeats 4000000 in
theorem kJ4_append_cf468 {l : Launch} {D : va_G} {E : va_W} {ad : Nat → Nat → Nat} {wd sk : Nat → Nat} {cI cB cP cT : ClassId} {sz : Nat} (x0 : Nat → Nat → Int32) (y0 : Nat → Nat → Nat) (g0 : Nat → Nat → Nat → Int32) (a1 : Int32) (BC BS : Nat) {Φ : (Nat → Nat → Int32) → (Nat → Nat → Nat) → (Nat → Nat → Nat → Int32) → Prop} (h : wJ4_append_cf468 x0 y0 g0 a1 BC BS Φ) : Met l yJ4_append_cf468 (zws yJ4_append_cf468 cJ4_append_cf468 2 (some (.object "java/lang/StringBuilder"))) { frames := 5, cells := BC, slots := BS, locals := 151 } (zPc D (cTy cI cB cP cT) (cX wd sk) (cW E ad wd cI cB cP cT (x0, y0, g0)) [.ref (ad 1 0), .int a1] sz) (zQr D (cTy cI cB cP cT) (cW E ad wd cI cB cP cT) (fun u => Φ u.1 u.2.1 u.2.2) (cW E ad wd cI cB cP cT (x0, y0, g0)) sz (ad 1 0)) BC BS (va_A (cW E ad wd cI cB cP cT (x0, y0, g0)) sz) := by
  refine zMet (by decide) (Nat.le_of_ble_eq_true rfl) ?_
  intro p e s m args below meth c A hx hb hr hml hown hts hlocks hsz hAe hA hS hP hK hD hX ls hl
  subst hsz
  have hF : zFx p s m args c cJ4_append_cf468 RJ4 A D (cTy cI cB cP cT) (cX wd sk) 2 := ⟨hx, hb, hml, hown, hts, hA, hK, cX_cl wd sk, hX⟩
  have hl : lv_has ls 2 [(0, .ref (ad 1 0)), (1, .int a1)] := hl
  have hB : 0 + BC ≤ BC ∧ 0 + BS ≤ BS := ⟨by omega, by omega⟩
  unfold wJ4_append_cf468 at h
  refine lv_aload_n (pc := 0) hx hb dJ4_append_cf468_0 rfl (lv_at hl 0 rfl) ?_
  refine lv_iload_n (pc := 1) hx hb dJ4_append_cf468_1 rfl (lv_at hl 1 rfl) ?_
  obtain ⟨kc_2, ks_2, bc_2, bs_2, ec_2, es_2, h⟩ := h
  refine dKr (pc := 2) (Wd := cW E ad wd cI cB cP cT) (u0 := (x0, y0, g0)) hF hD hS (zrSU [.int a1] (d_at hF) hF (kJ5_append_3fe6f x0 y0 g0 a1 kc_2 ks_2 h) (cwJ4_J5_append_3fe6f_s hts ⟨Nat.le_of_ble_eq_true rfl, Nat.le_of_ble_eq_true rfl⟩) (d_rP hF hP (ci := 1) (q0 := 1) rfl (cA_SB ..)) hP hD hS rfl rfl hl.1 (Nat.le_of_ble_eq_true rfl) dJ4_append_cf468_2 ⟨by show _ ≤ BC; (try dsimp only); omega, by show _ ≤ BS; (try dsimp only); omega⟩) (fun x_2 y_2 g_2 H locs h (hP : va_P D vwCl (cW E ad wd cI cB cP cT (x_2, y_2, g_2)) H) (hD : va_D A (cW E ad wd cI cB cP cT (x_2, y_2, g_2))) hS => ?_)
  have hB : (0 + kc_2) + bc_2 ≤ BC ∧ (0 + ks_2) + bs_2 ≤ BS := ⟨by (try dsimp only); omega, by (try dsimp only); omega⟩
  refine lv_pop (pc := 5) hx hb dJ4_append_cf468_5 rfl ?_
  refine lv_aload_n (pc := 6) hx hb dJ4_append_cf468_6 rfl (lv_at hl 0 rfl) ?_
  exact zar (pc := 7) (Wd := cW E ad wd cI cB cP cT) (u := (x_2, y_2, g_2)) hx hb hr hlocks hAe hK hP hD hS dJ4_append_cf468_7 (by (try dsimp only); omega) (by (try dsimp only); omega) h

def wJ5_setLength_d00df (x : Nat → Nat → Int32) (y : Nat → Nat → Nat) (g : Nat → Nat → Nat → Int32) (a1 : Int32) (bc bs : Nat) (Φ : (Nat → Nat → Int32) → (Nat → Nat → Nat) → (Nat → Nat → Nat → Int32) → Prop) : Prop := ((0 ≤ a1 → (∃ kc_15 ks_15 bc_15 bs_15 : Nat, kc_15 + bc_15 ≤ bc ∧ ks_15 + bs_15 ≤ bs ∧ (wJ5_ensureCapacityInternal_d00df x y g a1 kc_15 ks_15 (fun x_15 y_15 g_15 => ((a1 ≤ ((x_15 19) 0) → ((((x_15 19) 0) ≤ a1 → (Φ (va_up x_15 19 (va_up (x_15 19) 0 a1)) y_15 g_15)) ∧ (¬ ((x_15 19) 0) ≤ a1 → (Φ (va_up (va_up x_15 18 (va_up (x_15 18) 0 1)) 19 (va_up (x_15 19) 0 a1)) y_15 g_15)))) ∧ (¬ a1 ≤ ((x_15 19) 0) → False)))))) ∧ (¬ 0 ≤ a1 → False))
set_option maxRecDepth 100000 in
set_option maxHeartbeats 4000000 in
theorem kJ5_setLength_d00df {l : Launch} {D : va_G} {E : va_W} {ad : Nat → Nat → Nat} {wd sk : Nat → Nat} {cI cB cP cT : ClassId} {sz : Nat} (x0 : Nat → Nat → Int32) (y0 : Nat → Nat → Nat) (g0 : Nat → Nat → Nat → Int32) (a1 : Int32) (BC BS : Nat) {Φ : (Nat → Nat → Int32) → (Nat → Nat → Nat) → (Nat → Nat → Nat → Int32) → Prop} (h : wJ5_setLength_d00df x0 y0 g0 a1 BC BS Φ) : Met l yJ5_setLength_d00df (zws yJ5_setLength_d00df cJ5_setLength_d00df 2 none) { frames := 4, cells := BC, slots := BS, locals := 130 } (zPc D (cTy cI cB cP cT) (cX wd sk) (cW E ad wd cI cB cP cT (x0, y0, g0)) [.ref (ad 1 0), .int a1] sz) (zQv D (cTy cI cB cP cT) (cW E ad wd cI cB cP cT) (fun u => Φ u.1 u.2.1 u.2.2) (cW E ad wd cI cB cP cT (x0, y0, g0)) sz) BC BS (va_A (cW E ad wd cI cB cP cT (x0, y0, g0)) sz) := by
  refine zMet (by decide) (Nat.le_of_ble_eq_true rfl) ?_
  intro p e s m args below meth c A hx hb hr hml hown hts hlocks hsz hAe hA hS hP hK hD hX ls hl
  subst hsz
  have hF : zFx p s m args c cJ5_setLength_d00df RJ5 A D (cTy cI cB cP cT) (cX wd sk) 2 := ⟨hx, hb, hml, hown, hts, hA, hK, cX_cl wd sk, hX⟩
  have hl : lv_has ls 2 [(0, .ref (ad 1 0)), (1, .int a1)] := hl
  have hB : 0 + BC ≤ BC ∧ 0 + BS ≤ BS := ⟨by omega, by omega⟩
  unfold wJ5_setLength_d00df at h
  refine lv_iload_n (pc := 0) hx hb dJ5_setLength_d00df_0 rfl (lv_at hl 1 rfl) ?_
  refine lv_if_ge (pc := 1) (tgt := 13) hx hb dJ5_setLength_d00df_1 (by decide) (fun c_1 => ?_) (fun c_1 => ?_)
  · have h := h.1 c_1
    refine lv_aload_n (pc := 13) hx hb dJ5_setLength_d00df_13 rfl (lv_at hl 0 rfl) ?_
    refine lv_iload_n (pc := 14) hx hb dJ5_setLength_d00df_14 rfl (lv_at hl 1 rfl) ?_
    obtain ⟨kc_15, ks_15, bc_15, bs_15, ec_15, es_15, h⟩ := h
    refine dKv (pc := 15) (Wd := cW E ad wd cI cB cP cT) (u0 := (x0, y0, g0)) hF hD hS (zrU [.int a1] hF (kJ5_ensureCapacityInternal_d00df x0 y0 g0 a1 kc_15 ks_15 h) (cwJ5_J5_ensureCapacityInternal_d00df_u hts ⟨Nat.le_of_ble_eq_true rfl, Nat.le_of_ble_eq_true rfl⟩ (d_selE hF)) (d_rP hF hP (ci := 1) (q0 := 1) rfl (cA_SB ..)) hP hD hS rfl rfl hl.1 (Nat.le_of_ble_eq_true rfl) dJ5_setLength_d00df_15 ⟨by show _ ≤ BC; (try dsimp only); omega, by show _ ≤ BS; (try dsimp only); omega⟩) (fun x_15 y_15 g_15 H locs h (hP : va_P D vwCl (cW E ad wd cI cB cP cT (x_15, y_15, g_15)) H) (hD : va_D A (cW E ad wd cI cB cP cT (x_15, y_15, g_15))) hS => ?_)
    have hB : (0 + kc_15) + bc_15 ≤ BC ∧ (0 + ks_15) + bs_15 ≤ BS := ⟨by (try dsimp only); omega, by (try dsimp only); omega⟩
    refine lv_aload_n (pc := 18) hx hb dJ5_setLength_d00df_18 rfl (lv_at hl 0 rfl) ?_
    refine dG_count (pc := 19) hF hP lkJ5_79 (v := ((x_15 19) 0)) rfl dJ5_setLength_d00df_19 ?_
    refine lv_iload_n (pc := 22) hx hb dJ5_setLength_d00df_22 rfl (lv_at hl 1 rfl) ?_
    refine lv_icmp_ge (pc := 23) (tgt := 63) hx hb dJ5_setLength_d00df_23 (by decide) (fun c_23 => ?_) (fun c_23 => ?_)
    · have h := h.1 c_23
      refine lv_aload_n (pc := 63) hx hb dJ5_setLength_d00df_63 rfl (lv_at hl 0 rfl) ?_
      refine dG_count (pc := 64) hF hP lkJ5_79 (v := ((x_15 19) 0)) rfl dJ5_setLength_d00df_64 ?_
      refine lv_iload_n (pc := 67) hx hb dJ5_setLength_d00df_67 rfl (lv_at hl 1 rfl) ?_
      refine lv_icmp_le (pc := 68) (tgt := 76) hx hb dJ5_setLength_d00df_68 (by decide) (fun c_68 => ?_) (fun c_68 => ?_)
      · have h := h.1 c_68
        refine lv_aload_n (pc := 76) hx hb dJ5_setLength_d00df_76 rfl (lv_at hl 0 rfl) ?_
        refine lv_iload_n (pc := 77) hx hb dJ5_setLength_d00df_77 rfl (lv_at hl 1 rfl) ?_
        refine dP_count (pc := 78) hF hP hD hS lkJ5_79 dJ5_setLength_d00df_78 (fun H locs hP hD hS => ?_)
        exact zvr (pc := 81) (Wd := cW E ad wd cI cB cP cT) (u := ((va_up x_15 19 (va_up (x_15 19) 0 a1)), y_15, g_15)) hx hb hr hlocks hAe hK hP hD hS dJ5_setLength_d00df_81 (by (try dsimp only); omega) (by (try dsimp only); omega) h
      · have h := h.2 c_68
        refine lv_aload_n (pc := 71) hx hb dJ5_setLength_d00df_71 rfl (lv_at hl 0 rfl) ?_
        refine lv_iconst (pc := 72) (v := 1) hx hb dJ5_setLength_d00df_72 (by decide) ?_
        refine dP_maybeLatin1 (pc := 73) hF hP hD hS lkJ5_73 rfl rfl dJ5_setLength_d00df_73 (fun H locs hP hD hS => ?_)
        refine lv_aload_n (pc := 76) hx hb dJ5_setLength_d00df_76 rfl (lv_at hl 0 rfl) ?_
        refine lv_iload_n (pc := 77) hx hb dJ5_setLength_d00df_77 rfl (lv_at hl 1 rfl) ?_
        refine dP_count (pc := 78) hF hP hD hS lkJ5_79 dJ5_setLength_d00df_78 (fun H locs hP hD hS => ?_)
        exact zvr (pc := 81) (Wd := cW E ad wd cI cB cP cT) (u := ((va_up (va_up x_15 18 (va_up (x_15 18) 0 1)) 19 (va_up (x_15 19) 0 a1)), y_15, g_15)) hx hb hr hlocks hAe hK hP hD hS dJ5_setLength_d00df_81 (by (try dsimp only); omega) (by (try dsimp only); omega) h
    · have h := h.2 c_23
      exact h.elim
  · have h := h.2 c_1
    exact h.elim

def wJ4_setLength_d00df (x : Nat → Nat → Int32) (y : Nat → Nat → Nat) (g : Nat → Nat → Nat → Int32) (a1 : Int32) (bc bs : Nat) (Φ : (Nat → Nat → Int32) → (Nat → Nat → Nat) → (Nat → Nat → Nat → Int32) → Prop) : Prop := (∃ kc_2 ks_2 bc_2 bs_2 : Nat, kc_2 + bc_2 ≤ bc ∧ ks_2 + bs_2 ≤ bs ∧ (wJ5_setLength_d00df x y g a1 kc_2 ks_2 (fun x_2 y_2 g_2 => (Φ x_2 y_2 g_2))))
set_option maxRecDepth 100000 in
set_option maxHeartbeats 4000000 in
theorem kJ4_setLength_d00df {l : Launch} {D : va_G} {E : va_W} {ad : Nat → Nat → Nat} {wd sk : Nat → Nat} {cI cB cP cT : ClassId} {sz : Nat} (x0 : Nat → Nat → Int32) (y0 : Nat → Nat → Nat) (g0 : Nat → Nat → Nat → Int32) (a1 : Int32) (BC BS : Nat) {Φ : (Nat → Nat → Int32) → (Nat → Nat → Nat) → (Nat → Nat → Nat → Int32) → Prop} (h : wJ4_setLength_d00df x0 y0 g0 a1 BC BS Φ) : Met l yJ4_setLength_d00df (zws yJ4_setLength_d00df cJ4_setLength_d00df 2 none) { frames := 5, cells := BC, slots := BS, locals := 151 } (zPc D (cTy cI cB cP cT) (cX wd sk) (cW E ad wd cI cB cP cT (x0, y0, g0)) [.ref (ad 1 0), .int a1] sz) (zQv D (cTy cI cB cP cT) (cW E ad wd cI cB cP cT) (fun u => Φ u.1 u.2.1 u.2.2) (cW E ad wd cI cB cP cT (x0, y0, g0)) sz) BC BS (va_A (cW E ad wd cI cB cP cT (x0, y0, g0)) sz) := by
  refine zMet (by decide) (Nat.le_of_ble_eq_true rfl) ?_
  intro p e s m args below meth c A hx hb hr hml hown hts hlocks hsz hAe hA hS hP hK hD hX ls hl
  subst hsz
  have hF : zFx p s m args c cJ4_setLength_d00df RJ4 A D (cTy cI cB cP cT) (cX wd sk) 2 := ⟨hx, hb, hml, hown, hts, hA, hK, cX_cl wd sk, hX⟩
  have hl : lv_has ls 2 [(0, .ref (ad 1 0)), (1, .int a1)] := hl
  have hB : 0 + BC ≤ BC ∧ 0 + BS ≤ BS := ⟨by omega, by omega⟩
  unfold wJ4_setLength_d00df at h
  refine lv_aload_n (pc := 0) hx hb dJ4_setLength_d00df_0 rfl (lv_at hl 0 rfl) ?_
  refine lv_iload_n (pc := 1) hx hb dJ4_setLength_d00df_1 rfl (lv_at hl 1 rfl) ?_
  obtain ⟨kc_2, ks_2, bc_2, bs_2, ec_2, es_2, h⟩ := h
  refine dKv (pc := 2) (Wd := cW E ad wd cI cB cP cT) (u0 := (x0, y0, g0)) hF hD hS (zrSU [.int a1] (d_at hF) hF (kJ5_setLength_d00df x0 y0 g0 a1 kc_2 ks_2 h) (cwJ4_J5_setLength_d00df_s hts ⟨Nat.le_of_ble_eq_true rfl, Nat.le_of_ble_eq_true rfl⟩) (d_rP hF hP (ci := 1) (q0 := 1) rfl (cA_SB ..)) hP hD hS rfl rfl hl.1 (Nat.le_of_ble_eq_true rfl) dJ4_setLength_d00df_2 ⟨by show _ ≤ BC; (try dsimp only); omega, by show _ ≤ BS; (try dsimp only); omega⟩) (fun x_2 y_2 g_2 H locs h (hP : va_P D vwCl (cW E ad wd cI cB cP cT (x_2, y_2, g_2)) H) (hD : va_D A (cW E ad wd cI cB cP cT (x_2, y_2, g_2))) hS => ?_)
  have hB : (0 + kc_2) + bc_2 ≤ BC ∧ (0 + ks_2) + bs_2 ≤ BS := ⟨by (try dsimp only); omega, by (try dsimp only); omega⟩
  exact zvr (pc := 5) (Wd := cW E ad wd cI cB cP cT) (u := (x_2, y_2, g_2)) hx hb hr hlocks hAe hK hP hD hS dJ4_setLength_d00df_5 (by (try dsimp only); omega) (by (try dsimp only); omega) h
