def jL_steps_162 (Φ : Int32 → (Nat → Nat → Int32) → (Nat → Nat → Nat) → (Nat → Nat → Nat → Int32) → (Nat → Int32) → (Nat → Int32) → Prop) (x : Nat → Nat → Int32) (y : Nat → Nat → Nat) (g : Nat → Nat → Nat → Int32) (qf cf : Nat → Int32) (s0 : Int32) (bc bs : Nat) : Prop := (wX8_watermark x y g (fun r_168 => (∀ cf_171 : Nat → Int32, cf_171 = (upd cf 8 r_168) → ((s0 = 0 ∨ s0 = 1) ∧ (Φ s0 x y g qf cf_171)))))
def jL_steps_161 (Φ : Int32 → (Nat → Nat → Int32) → (Nat → Nat → Nat) → (Nat → Nat → Nat → Int32) → (Nat → Int32) → (Nat → Int32) → Prop) (x : Nat → Nat → Int32) (y : Nat → Nat → Nat) (g : Nat → Nat → Nat → Int32) (qf cf : Nat → Int32) (bc bs : Nat) : Prop := (jL_steps_162 Φ x y g qf cf 0 bc bs)
def wL_steps (x : Nat → Nat → Int32) (y : Nat → Nat → Nat) (g : Nat → Nat → Nat → Int32) (qf cf : Nat → Int32) (a1 : Int32) (bc bs : Nat) (Φ : Int32 → (Nat → Nat → Int32) → (Nat → Nat → Nat) → (Nat → Nat → Nat → Int32) → (Nat → Int32) → (Nat → Int32) → Prop) : Prop := (∃ kc_2 ks_2 bc_2 bs_2 : Nat, kc_2 + bc_2 ≤ bc ∧ ks_2 + bs_2 ≤ bs ∧ (wX8_read x y g a1 kc_2 ks_2 (fun r_2 => (wX8_results x y g (fun r_7 => (wX8_tooLate x y g (fun r_13 => (∃ kc_22 ks_22 bc_22 bs_22 : Nat, kc_22 + bc_22 ≤ bc_2 ∧ ks_22 + bs_22 ≤ bs_2 ∧ (wL_asks x y g qf cf 0 a1 0 kc_22 ks_22 (fun r_22 x_22 y_22 g_22 qf_22 cf_22 => (((cf_22 6) = 0 → ((r_22 = (-70008) → (Φ 1 x_22 y_22 g_22 qf_22 cf_22)) ∧ (¬ r_22 = (-70008) → (Φ 0 x_22 y_22 g_22 qf_22 cf_22)))) ∧ (¬ (cf_22 6) = 0 → ((r_22 = (-70008) → (((r_7 - (cf_22 4)) < 30 → (Φ 0 x_22 y_22 g_22 qf_22 cf_22)) ∧ (¬ (r_7 - (cf_22 4)) < 30 → (∃ kc_67 ks_67 bc_67 bs_67 : Nat, kc_67 + bc_67 ≤ bc_22 ∧ ks_67 + bs_67 ≤ bs_22 ∧ (wX8_read x_22 y_22 g_22 a1 kc_67 ks_67 (fun r_67 => ((r_67 = r_2 → (Φ 1 x_22 y_22 g_22 qf_22 cf_22)) ∧ (¬ r_67 = r_2 → (Φ 0 x_22 y_22 g_22 qf_22 cf_22)))) (fun _ _ _ _ => False)))))) ∧ (¬ r_22 = (-70008) → (vp_in a1 9 ∧ ((r_2 = (cf_22 a1.toNatClampNeg) → ((r_22 = (-70006) → (wX8_results x_22 y_22 g_22 (fun r_95 => ((r_95 = r_7 → (Φ 1 x_22 y_22 g_22 qf_22 cf_22)) ∧ (¬ r_95 = r_7 → (Φ 0 x_22 y_22 g_22 qf_22 cf_22)))))) ∧ (¬ r_22 = (-70006) → (Φ 0 x_22 y_22 g_22 qf_22 cf_22)))) ∧ (¬ r_2 = (cf_22 a1.toNatClampNeg) → ((r_22 < 0 → (jL_steps_161 Φ x_22 y_22 g_22 qf_22 cf_22 bc_22 bs_22)) ∧ (¬ r_22 < 0 → (wX8_results x_22 y_22 g_22 (fun r_115 => ((r_115 = (r_7 + r_22) → (∃ kc_128 ks_128 bc_128 bs_128 : Nat, kc_128 + bc_128 ≤ bc_22 ∧ ks_128 + bs_128 ≤ bs_22 ∧ (wX8_read x_22 y_22 g_22 a1 kc_128 ks_128 (fun r_128 => ((r_128 = (r_2 + 1) → (wX8_tooLate x_22 y_22 g_22 (fun r_138 => ((r_138 < r_13 → (jL_steps_161 Φ x_22 y_22 g_22 qf_22 cf_22 bc_128 bs_128)) ∧ (¬ r_138 < r_13 → (wX8_watermark x_22 y_22 g_22 (fun r_147 => ((r_147 < (cf_22 8) → (jL_steps_161 Φ x_22 y_22 g_22 qf_22 cf_22 bc_128 bs_128)) ∧ (¬ r_147 < (cf_22 8) → (jL_steps_162 Φ x_22 y_22 g_22 qf_22 cf_22 1 bc_128 bs_128)))))))))) ∧ (¬ r_128 = (r_2 + 1) → (jL_steps_161 Φ x_22 y_22 g_22 qf_22 cf_22 bc_128 bs_128)))) (fun _ _ _ _ => False)))) ∧ (¬ r_115 = (r_7 + r_22) → (jL_steps_161 Φ x_22 y_22 g_22 qf_22 cf_22 bc_22 bs_22)))))))))))))))))))))) (fun _ _ _ _ => False)))
set_option maxRecDepth 100000 in
set_option maxHeartbeats 4000000 in
theorem kL_steps {l : Launch} {D : va_G} {E : va_W} {qa ca : Nat} {ad : Nat → Nat → Nat} {wd sk : Nat → Nat} {cI cB cP cT : ClassId} {sz : Nat} (x0 : Nat → Nat → Int32) (y0 : Nat → Nat → Nat) (g0 : Nat → Nat → Nat → Int32) (qf0 cf0 : Nat → Int32) (a1 : Int32) (BC BS : Nat) {Φ : Int32 → (Nat → Nat → Int32) → (Nat → Nat → Nat) → (Nat → Nat → Nat → Int32) → (Nat → Int32) → (Nat → Int32) → Prop} (hlf : l.stackTraces = false) (h : wL_steps x0 y0 g0 qf0 cf0 a1 BC BS Φ) : Met l yL_steps (zws yL_steps cL_steps 8 (some .boolean)) { frames := 9, cells := BC, slots := BS, locals := 259 } (zPc D (cTy cI cB cP cT) (lX wd sk) (cW (LE qa ca cI qf0 cf0 E) ad wd cI cB cP cT (x0, y0, g0)) [.ref (ad 0 0), .int a1, .ref ca] sz) (zQi D (cTy cI cB cP cT) (WL E qa ca ad wd cI cB cP cT) (fun r u => Φ r u.1.1 u.1.2.1 u.1.2.2 u.2.1 u.2.2) (cW (LE qa ca cI qf0 cf0 E) ad wd cI cB cP cT (x0, y0, g0)) sz) BC BS (va_A (cW (LE qa ca cI qf0 cf0 E) ad wd cI cB cP cT (x0, y0, g0)) sz) := by
  refine zMet (by decide) (Nat.le_of_ble_eq_true rfl) ?_
  intro p e s m args below meth c A hx hb hr hml hown hts hlocks hsz hAe hA hS hP hK hD hX ls hl
  subst hsz
  have hF : zFx p s m args c cL_steps RL A D (cTy cI cB cP cT) (lX wd sk) 8 := ⟨hx, hb, hml, hown, hts, hA, hK, lX_cl wd sk, hX⟩
  have hFc : zFx p s m args c cL_steps RL A D (cTy cI cB cP cT) (cX wd sk) 8 := ⟨hx, hb, hml, hown, hts, hA, hK, cX_cl wd sk, hX.1⟩
  have hl : lv_has ls 8 [(0, .ref (ad 0 0)), (1, .int a1), (2, .ref ca)] := hl
  have hB : 0 + BC ≤ BC ∧ 0 + BS ≤ BS := ⟨by omega, by omega⟩
  have J162 : ∀ (x : Nat → Nat → Int32) (y : Nat → Nat → Nat) (g : Nat → Nat → Nat → Int32) (qf cf : Nat → Int32) (s0 : Int32) (bc bs : Nat), jL_steps_162 Φ x y g qf cf s0 bc bs → ∀ (cells slots : Nat), (cells + bc ≤ BC ∧ slots + bs ≤ BS) → ∀ (H : Heap) (locs : List Loc) (ls : Array Slot), va_P D vwCl (cW (LE qa ca cI qf cf E) ad wd cI cB cP cT (x, y, g)) H → va_D A (cW (LE qa ca cI qf cf E) ad wd cI cB cP cT (x, y, g)) → va_S A s.heap H locs → lv_has ls 8 [(0, .ref (ad 0 0)), (2, .ref ca)] → W p l e { frames := 9, cells := BC, slots := BS, locals := 259 } s m args below meth c H locs cells slots (MQ below (zQi D (cTy cI cB cP cT) (WL E qa ca ad wd cI cB cP cT) (fun r u => Φ r u.1.1 u.1.2.1 u.1.2.2 u.2.1 u.2.2) (cW (LE qa ca cI qf0 cf0 E) ad wd cI cB cP cT (x0, y0, g0)) s.heap.size) args s BC BS (va_A (cW (LE qa ca cI qf0 cf0 E) ad wd cI cB cP cT (x0, y0, g0)) s.heap.size)) (F0 m 162 ls [.int s0]) := by
    intro x y g qf cf s0 bc bs h cells slots hB H locs ls hP hD hS hl
    unfold jL_steps_162 at h
    refine lv_istore (pc := 162) (lv' := [(7, .int s0), (0, .ref (ad 0 0)), (2, .ref ca)]) hx hb dL_steps_162 hl (by decide) rfl (fun ls hl => ?_)
    refine lv_aload_n (pc := 164) hx hb dL_steps_164 rfl (lv_at hl 2 rfl) ?_
    refine lv_bipush (pc := 165) (v := 8) hx hb dL_steps_165 (by decide) ?_
    refine lv_aload_n (pc := 167) hx hb dL_steps_167 rfl (lv_at hl 1 rfl) ?_
    refine cVip (pc := 168) (E := LE qa ca cI qf cf E) (x := x) (y := y) (g := g) [] hFc (kX8_watermark x y g h) (cwL_X8_watermark hts ⟨Nat.le_of_ble_eq_true rfl, Nat.le_of_ble_eq_true rfl⟩) rfl (cA_S ..) hP hD hS rfl rfl hl.1 (Nat.le_of_ble_eq_true rfl) dL_steps_168 ⟨by show _ ≤ BC; (try dsimp only); omega, by show _ ≤ BS; (try dsimp only); omega⟩ (fun r_168 H locs h hP hD hS => ?_)
    obtain ⟨cf_171, e_cf_171⟩ : ∃ z : Nat → Int32, z = (upd cf 8 r_168) := ⟨_, rfl⟩
    replace h := h cf_171 e_cf_171
    refine lc_set (pc := 171) (v := r_168) (f := cf_171) hF hP hD hS e_cf_171.symm (vp_in_iff.mpr (by decide)) dL_steps_171 (fun H locs hP hD hS => ?_)
    refine lv_iload (pc := 172) hx hb dL_steps_172 (lv_at hl 0 rfl) ?_
    obtain ⟨hz_174, h⟩ := h
    exact zirV (pc := 174) (Wd := WL E qa ca ad wd cI cB cP cT) (u := ((x, y, g), qf, cf_171)) hx hb hr hlocks hAe hK hP hD hS (znB hz_174) dL_steps_174 (by (try dsimp only); omega) (by (try dsimp only); omega) h
  have J161 : ∀ (x : Nat → Nat → Int32) (y : Nat → Nat → Nat) (g : Nat → Nat → Nat → Int32) (qf cf : Nat → Int32) (bc bs : Nat), jL_steps_161 Φ x y g qf cf bc bs → ∀ (cells slots : Nat), (cells + bc ≤ BC ∧ slots + bs ≤ BS) → ∀ (H : Heap) (locs : List Loc) (ls : Array Slot), va_P D vwCl (cW (LE qa ca cI qf cf E) ad wd cI cB cP cT (x, y, g)) H → va_D A (cW (LE qa ca cI qf cf E) ad wd cI cB cP cT (x, y, g)) → va_S A s.heap H locs → lv_has ls 8 [(0, .ref (ad 0 0)), (2, .ref ca)] → W p l e { frames := 9, cells := BC, slots := BS, locals := 259 } s m args below meth c H locs cells slots (MQ below (zQi D (cTy cI cB cP cT) (WL E qa ca ad wd cI cB cP cT) (fun r u => Φ r u.1.1 u.1.2.1 u.1.2.2 u.2.1 u.2.2) (cW (LE qa ca cI qf0 cf0 E) ad wd cI cB cP cT (x0, y0, g0)) s.heap.size) args s BC BS (va_A (cW (LE qa ca cI qf0 cf0 E) ad wd cI cB cP cT (x0, y0, g0)) s.heap.size)) (F0 m 161 ls []) := by
    intro x y g qf cf  bc bs h cells slots hB H locs ls hP hD hS hl
    unfold jL_steps_161 at h
    refine lv_iconst (pc := 161) (v := 0) hx hb dL_steps_161 (by decide) ?_
    exact J162 x y g qf cf 0 bc bs h _ _ hB _ _ _ hP hD hS (lv_sub hl [0, 1] rfl)
  unfold wL_steps at h
  refine lv_aload_n (pc := 0) hx hb dL_steps_0 rfl (lv_at hl 0 rfl) ?_
  refine lv_iload_n (pc := 1) hx hb dL_steps_1 rfl (lv_at hl 1 rfl) ?_
  obtain ⟨kc_2, ks_2, bc_2, bs_2, ec_2, es_2, h⟩ := h
  refine lCallp (pc := 2) (E := LE qa ca cI qf0 cf0 E) (x := x0) (y := y0) (g := g0) [.int a1] hFc (kX8_read x0 y0 g0 a1 kc_2 ks_2 hlf h) (cwL_X8_read hts ⟨Nat.le_of_ble_eq_true rfl, Nat.le_of_ble_eq_true rfl⟩) (lRo hFc hP) hP hD hS rfl rfl hl.1 (Nat.le_of_ble_eq_true rfl) dL_steps_2 ⟨by show _ ≤ BC; (try dsimp only); omega, by show _ ≤ BS; (try dsimp only); omega⟩ (fun E2 ce q9 x1 y1 g1 H locs h hP hD hS hce hcv hcl => h.elim) (fun r_2 H locs h hP hD hS => ?_)
  have hB : (0 + kc_2) + bc_2 ≤ BC ∧ (0 + ks_2) + bs_2 ≤ BS := ⟨by omega, by omega⟩
  refine lv_istore_n (pc := 5) (lv' := [(3, .int r_2), (0, .ref (ad 0 0)), (1, .int a1), (2, .ref ca)]) hx hb dL_steps_5 rfl hl (by decide) rfl (fun ls hl => ?_)
  refine lv_aload_n (pc := 6) hx hb dL_steps_6 rfl (lv_at hl 1 rfl) ?_
  refine cVip (pc := 7) (E := LE qa ca cI qf0 cf0 E) (x := x0) (y := y0) (g := g0) [] hFc (kX8_results x0 y0 g0 h) (cwL_X8_results hts ⟨Nat.le_of_ble_eq_true rfl, Nat.le_of_ble_eq_true rfl⟩) rfl (cA_S ..) hP hD hS rfl rfl hl.1 (Nat.le_of_ble_eq_true rfl) dL_steps_7 ⟨by show _ ≤ BC; (try dsimp only); omega, by show _ ≤ BS; (try dsimp only); omega⟩ (fun r_7 H locs h hP hD hS => ?_)
  refine lv_istore (pc := 10) (lv' := [(4, .int r_7), (3, .int r_2), (0, .ref (ad 0 0)), (1, .int a1), (2, .ref ca)]) hx hb dL_steps_10 hl (by decide) rfl (fun ls hl => ?_)
  refine lv_aload_n (pc := 12) hx hb dL_steps_12 rfl (lv_at hl 2 rfl) ?_
  refine cVip (pc := 13) (E := LE qa ca cI qf0 cf0 E) (x := x0) (y := y0) (g := g0) [] hFc (kX8_tooLate x0 y0 g0 h) (cwL_X8_tooLate hts ⟨Nat.le_of_ble_eq_true rfl, Nat.le_of_ble_eq_true rfl⟩) rfl (cA_S ..) hP hD hS rfl rfl hl.1 (Nat.le_of_ble_eq_true rfl) dL_steps_13 ⟨by show _ ≤ BC; (try dsimp only); omega, by show _ ≤ BS; (try dsimp only); omega⟩ (fun r_13 H locs h hP hD hS => ?_)
  refine lv_istore (pc := 16) (lv' := [(5, .int r_13), (4, .int r_7), (3, .int r_2), (0, .ref (ad 0 0)), (1, .int a1), (2, .ref ca)]) hx hb dL_steps_16 hl (by decide) rfl (fun ls hl => ?_)
  refine lv_aload_n (pc := 18) hx hb dL_steps_18 rfl (lv_at hl 3 rfl) ?_
  refine lv_iconst (pc := 19) (v := 0) hx hb dL_steps_19 (by decide) ?_
  refine lv_iload_n (pc := 20) hx hb dL_steps_20 rfl (lv_at hl 4 rfl) ?_
  refine lv_iconst (pc := 21) (v := 0) hx hb dL_steps_21 (by decide) ?_
  obtain ⟨kc_22, ks_22, bc_22, bs_22, ec_22, es_22, h⟩ := h
  refine lJi (pc := 22) (L := []) (wc := WL E qa ca ad wd cI cB cP cT ((x0, y0, g0), qf0, cf0)) (Wd := (WL E qa ca ad wd cI cB cP cT)) hA hP hD hS (lS (L := []) [.ref (ad 0 0), .int 0, .int a1, .int 0] hF (kL_asks x0 y0 g0 qf0 cf0 0 a1 0 kc_22 ks_22 hlf h) (cwL_L_asks hts ⟨Nat.le_of_ble_eq_true rfl, Nat.le_of_ble_eq_true rfl⟩) hP hD hS rfl rfl hl.1 (Nat.le_of_ble_eq_true rfl) dL_steps_22 ⟨by show _ ≤ BC; (try dsimp only); omega, by show _ ≤ BS; (try dsimp only); omega⟩) (fun r_22 u H locs h hP hD hS => ?_)
  obtain ⟨⟨x_22, y_22, g_22⟩, qf_22, cf_22⟩ := u
  have hP : va_P D vwCl (cW (LE qa ca cI qf_22 cf_22 E) ad wd cI cB cP cT (x_22, y_22, g_22)) H := hP
  have hD : va_D A (cW (LE qa ca cI qf_22 cf_22 E) ad wd cI cB cP cT (x_22, y_22, g_22)) := hD
  have hB : ((((0 + kc_2) + 0) + 0) + kc_22) + bc_22 ≤ BC ∧ ((((0 + ks_2) + 0) + 0) + ks_22) + bs_22 ≤ BS := ⟨by omega, by omega⟩
  refine lv_istore (pc := 25) (lv' := [(6, .int r_22), (5, .int r_13), (4, .int r_7), (3, .int r_2), (0, .ref (ad 0 0)), (1, .int a1), (2, .ref ca)]) hx hb dL_steps_25 hl (by decide) rfl (fun ls hl => ?_)
  refine lv_aload_n (pc := 27) hx hb dL_steps_27 rfl (lv_at hl 6 rfl) ?_
  refine lv_bipush (pc := 28) (v := 6) hx hb dL_steps_28 (by decide) ?_
  refine lc_get (pc := 30) (v := (cf_22 6)) hF hP rfl (vp_in_iff.mpr (by decide)) dL_steps_30 ?_
  refine lv_if_ne (pc := 31) (tgt := 47) hx hb dL_steps_31 (by decide) (fun c_31 => ?_) (fun c_31 => ?_)
  · have h := h.2 c_31
    refine lv_iload (pc := 47) hx hb dL_steps_47 (lv_at hl 0 rfl) ?_
    refine lv_ldc (pc := 49) (v := (-70008)) hx hb hown (hts _ lK_47) dL_steps_49 ?_
    refine lv_icmp_ne (pc := 51) (tgt := 80) hx hb dL_steps_51 (by decide) (fun c_51 => ?_) (fun c_51 => ?_)
    · have h := h.2 c_51
      refine lv_iload_n (pc := 80) hx hb dL_steps_80 rfl (lv_at hl 3 rfl) ?_
      refine lv_aload_n (pc := 81) hx hb dL_steps_81 rfl (lv_at hl 6 rfl) ?_
      refine lv_iload_n (pc := 82) hx hb dL_steps_82 rfl (lv_at hl 5 rfl) ?_
      obtain ⟨hi_83, h⟩ := h
      refine lc_get (pc := 83) (v := (cf_22 a1.toNatClampNeg)) hF hP rfl hi_83 dL_steps_83 ?_
      refine lv_icmp_ne (pc := 84) (tgt := 109) hx hb dL_steps_84 (by decide) (fun c_84 => ?_) (fun c_84 => ?_)
      · have h := h.2 c_84
        refine lv_iload (pc := 109) hx hb dL_steps_109 (lv_at hl 0 rfl) ?_
        refine lv_if_lt (pc := 111) (tgt := 161) hx hb dL_steps_111 (by decide) (fun c_111 => ?_) (fun c_111 => ?_)
        · have h := h.1 c_111
          exact J161 x_22 y_22 g_22 qf_22 cf_22 bc_22 bs_22 h _ _ hB _ _ _ hP hD hS (lv_sub hl [4, 6] rfl)
        · have h := h.2 c_111
          refine lv_aload_n (pc := 114) hx hb dL_steps_114 rfl (lv_at hl 4 rfl) ?_
          refine cVip (pc := 115) (E := LE qa ca cI qf_22 cf_22 E) (x := x_22) (y := y_22) (g := g_22) [] hFc (kX8_results x_22 y_22 g_22 h) (cwL_X8_results hts ⟨Nat.le_of_ble_eq_true rfl, Nat.le_of_ble_eq_true rfl⟩) rfl (cA_S ..) hP hD hS rfl rfl hl.1 (Nat.le_of_ble_eq_true rfl) dL_steps_115 ⟨by show _ ≤ BC; (try dsimp only); omega, by show _ ≤ BS; (try dsimp only); omega⟩ (fun r_115 H locs h hP hD hS => ?_)
          refine lv_iload (pc := 118) hx hb dL_steps_118 (lv_at hl 2 rfl) ?_
          refine lv_iload (pc := 120) hx hb dL_steps_120 (lv_at hl 0 rfl) ?_
          refine lv_iadd (pc := 122) hx hb dL_steps_122 ?_
          refine lv_icmp_ne (pc := 123) (tgt := 161) hx hb dL_steps_123 (by decide) (fun c_123 => ?_) (fun c_123 => ?_)
          · have h := h.2 c_123
            exact J161 x_22 y_22 g_22 qf_22 cf_22 bc_22 bs_22 h _ _ hB _ _ _ hP hD hS (lv_sub hl [4, 6] rfl)
          · have h := h.1 c_123
            refine lv_aload_n (pc := 126) hx hb dL_steps_126 rfl (lv_at hl 4 rfl) ?_
            refine lv_iload_n (pc := 127) hx hb dL_steps_127 rfl (lv_at hl 5 rfl) ?_
            obtain ⟨kc_128, ks_128, bc_128, bs_128, ec_128, es_128, h⟩ := h
            refine lCallp (pc := 128) (E := LE qa ca cI qf_22 cf_22 E) (x := x_22) (y := y_22) (g := g_22) [.int a1] hFc (kX8_read x_22 y_22 g_22 a1 kc_128 ks_128 hlf h) (cwL_X8_read hts ⟨Nat.le_of_ble_eq_true rfl, Nat.le_of_ble_eq_true rfl⟩) (lRo hFc hP) hP hD hS rfl rfl hl.1 (Nat.le_of_ble_eq_true rfl) dL_steps_128 ⟨by show _ ≤ BC; (try dsimp only); omega, by show _ ≤ BS; (try dsimp only); omega⟩ (fun E2 ce q9 x1 y1 g1 H locs h hP hD hS hce hcv hcl => h.elim) (fun r_128 H locs h hP hD hS => ?_)
            have hB : ((((((0 + kc_2) + 0) + 0) + kc_22) + 0) + kc_128) + bc_128 ≤ BC ∧ ((((((0 + ks_2) + 0) + 0) + ks_22) + 0) + ks_128) + bs_128 ≤ BS := ⟨by omega, by omega⟩
            refine lv_iload_n (pc := 131) hx hb dL_steps_131 rfl (lv_at hl 3 rfl) ?_
            refine lv_iconst (pc := 132) (v := 1) hx hb dL_steps_132 (by decide) ?_
            refine lv_iadd (pc := 133) hx hb dL_steps_133 ?_
            refine lv_icmp_ne (pc := 134) (tgt := 161) hx hb dL_steps_134 (by decide) (fun c_134 => ?_) (fun c_134 => ?_)
            · have h := h.2 c_134
              exact J161 x_22 y_22 g_22 qf_22 cf_22 bc_128 bs_128 h _ _ hB _ _ _ hP hD hS (lv_sub hl [4, 6] rfl)
            · have h := h.1 c_134
              refine lv_aload_n (pc := 137) hx hb dL_steps_137 rfl (lv_at hl 4 rfl) ?_
              refine cVip (pc := 138) (E := LE qa ca cI qf_22 cf_22 E) (x := x_22) (y := y_22) (g := g_22) [] hFc (kX8_tooLate x_22 y_22 g_22 h) (cwL_X8_tooLate hts ⟨Nat.le_of_ble_eq_true rfl, Nat.le_of_ble_eq_true rfl⟩) rfl (cA_S ..) hP hD hS rfl rfl hl.1 (Nat.le_of_ble_eq_true rfl) dL_steps_138 ⟨by show _ ≤ BC; (try dsimp only); omega, by show _ ≤ BS; (try dsimp only); omega⟩ (fun r_138 H locs h hP hD hS => ?_)
              refine lv_iload (pc := 141) hx hb dL_steps_141 (lv_at hl 1 rfl) ?_
              refine lv_icmp_lt (pc := 143) (tgt := 161) hx hb dL_steps_143 (by decide) (fun c_143 => ?_) (fun c_143 => ?_)
              · have h := h.1 c_143
                exact J161 x_22 y_22 g_22 qf_22 cf_22 bc_128 bs_128 h _ _ hB _ _ _ hP hD hS (lv_sub hl [4, 6] rfl)
              · have h := h.2 c_143
                refine lv_aload_n (pc := 146) hx hb dL_steps_146 rfl (lv_at hl 4 rfl) ?_
                refine cVip (pc := 147) (E := LE qa ca cI qf_22 cf_22 E) (x := x_22) (y := y_22) (g := g_22) [] hFc (kX8_watermark x_22 y_22 g_22 h) (cwL_X8_watermark hts ⟨Nat.le_of_ble_eq_true rfl, Nat.le_of_ble_eq_true rfl⟩) rfl (cA_S ..) hP hD hS rfl rfl hl.1 (Nat.le_of_ble_eq_true rfl) dL_steps_147 ⟨by show _ ≤ BC; (try dsimp only); omega, by show _ ≤ BS; (try dsimp only); omega⟩ (fun r_147 H locs h hP hD hS => ?_)
                refine lv_aload_n (pc := 150) hx hb dL_steps_150 rfl (lv_at hl 6 rfl) ?_
                refine lv_bipush (pc := 151) (v := 8) hx hb dL_steps_151 (by decide) ?_
                refine lc_get (pc := 153) (v := (cf_22 8)) hF hP rfl (vp_in_iff.mpr (by decide)) dL_steps_153 ?_
                refine lv_icmp_lt (pc := 154) (tgt := 161) hx hb dL_steps_154 (by decide) (fun c_154 => ?_) (fun c_154 => ?_)
                · have h := h.1 c_154
                  exact J161 x_22 y_22 g_22 qf_22 cf_22 bc_128 bs_128 h _ _ hB _ _ _ hP hD hS (lv_sub hl [4, 6] rfl)
                · have h := h.2 c_154
                  refine lv_iconst (pc := 157) (v := 1) hx hb dL_steps_157 (by decide) ?_
                  refine lv_goto (pc := 158) (tgt := 162) hx hb dL_steps_158 (by decide) ?_
                  exact J162 x_22 y_22 g_22 qf_22 cf_22 1 bc_128 bs_128 h _ _ hB _ _ _ hP hD hS (lv_sub hl [4, 6] rfl)
      · have h := h.1 c_84
        refine lv_iload (pc := 87) hx hb dL_steps_87 (lv_at hl 0 rfl) ?_
        refine lv_ldc (pc := 89) (v := (-70006)) hx hb hown (hts _ lK_41) dL_steps_89 ?_
        refine lv_icmp_ne (pc := 91) (tgt := 107) hx hb dL_steps_91 (by decide) (fun c_91 => ?_) (fun c_91 => ?_)
        · have h := h.2 c_91
          refine lv_iconst (pc := 107) (v := 0) hx hb dL_steps_107 (by decide) ?_
          exact zirV (pc := 108) (Wd := WL E qa ca ad wd cI cB cP cT) (u := ((x_22, y_22, g_22), qf_22, cf_22)) hx hb hr hlocks hAe hK hP hD hS rfl dL_steps_108 (by (try dsimp only); omega) (by (try dsimp only); omega) h
        · have h := h.1 c_91
          refine lv_aload_n (pc := 94) hx hb dL_steps_94 rfl (lv_at hl 4 rfl) ?_
          refine cVip (pc := 95) (E := LE qa ca cI qf_22 cf_22 E) (x := x_22) (y := y_22) (g := g_22) [] hFc (kX8_results x_22 y_22 g_22 h) (cwL_X8_results hts ⟨Nat.le_of_ble_eq_true rfl, Nat.le_of_ble_eq_true rfl⟩) rfl (cA_S ..) hP hD hS rfl rfl hl.1 (Nat.le_of_ble_eq_true rfl) dL_steps_95 ⟨by show _ ≤ BC; (try dsimp only); omega, by show _ ≤ BS; (try dsimp only); omega⟩ (fun r_95 H locs h hP hD hS => ?_)
          refine lv_iload (pc := 98) hx hb dL_steps_98 (lv_at hl 2 rfl) ?_
          refine lv_icmp_ne (pc := 100) (tgt := 107) hx hb dL_steps_100 (by decide) (fun c_100 => ?_) (fun c_100 => ?_)
          · have h := h.2 c_100
            refine lv_iconst (pc := 107) (v := 0) hx hb dL_steps_107 (by decide) ?_
            exact zirV (pc := 108) (Wd := WL E qa ca ad wd cI cB cP cT) (u := ((x_22, y_22, g_22), qf_22, cf_22)) hx hb hr hlocks hAe hK hP hD hS rfl dL_steps_108 (by (try dsimp only); omega) (by (try dsimp only); omega) h
          · have h := h.1 c_100
            refine lv_iconst (pc := 103) (v := 1) hx hb dL_steps_103 (by decide) ?_
            refine lv_goto (pc := 104) (tgt := 108) hx hb dL_steps_104 (by decide) ?_
            exact zirV (pc := 108) (Wd := WL E qa ca ad wd cI cB cP cT) (u := ((x_22, y_22, g_22), qf_22, cf_22)) hx hb hr hlocks hAe hK hP hD hS rfl dL_steps_108 (by (try dsimp only); omega) (by (try dsimp only); omega) h
    · have h := h.1 c_51
      refine lv_iload (pc := 54) hx hb dL_steps_54 (lv_at hl 2 rfl) ?_
      refine lv_aload_n (pc := 56) hx hb dL_steps_56 rfl (lv_at hl 6 rfl) ?_
      refine lv_iconst (pc := 57) (v := 4) hx hb dL_steps_57 (by decide) ?_
      refine lc_get (pc := 58) (v := (cf_22 4)) hF hP rfl (vp_in_iff.mpr (by decide)) dL_steps_58 ?_
      refine lv_isub (pc := 59) hx hb dL_steps_59 ?_
      refine lv_bipush (pc := 60) (v := 30) hx hb dL_steps_60 (by decide) ?_
      refine lv_icmp_lt (pc := 62) (tgt := 78) hx hb dL_steps_62 (by decide) (fun c_62 => ?_) (fun c_62 => ?_)
      · have h := h.1 c_62
        refine lv_iconst (pc := 78) (v := 0) hx hb dL_steps_78 (by decide) ?_
        exact zirV (pc := 79) (Wd := WL E qa ca ad wd cI cB cP cT) (u := ((x_22, y_22, g_22), qf_22, cf_22)) hx hb hr hlocks hAe hK hP hD hS rfl dL_steps_79 (by (try dsimp only); omega) (by (try dsimp only); omega) h
      · have h := h.2 c_62
        refine lv_aload_n (pc := 65) hx hb dL_steps_65 rfl (lv_at hl 4 rfl) ?_
        refine lv_iload_n (pc := 66) hx hb dL_steps_66 rfl (lv_at hl 5 rfl) ?_
        obtain ⟨kc_67, ks_67, bc_67, bs_67, ec_67, es_67, h⟩ := h
        refine lCallp (pc := 67) (E := LE qa ca cI qf_22 cf_22 E) (x := x_22) (y := y_22) (g := g_22) [.int a1] hFc (kX8_read x_22 y_22 g_22 a1 kc_67 ks_67 hlf h) (cwL_X8_read hts ⟨Nat.le_of_ble_eq_true rfl, Nat.le_of_ble_eq_true rfl⟩) (lRo hFc hP) hP hD hS rfl rfl hl.1 (Nat.le_of_ble_eq_true rfl) dL_steps_67 ⟨by show _ ≤ BC; (try dsimp only); omega, by show _ ≤ BS; (try dsimp only); omega⟩ (fun E2 ce q9 x1 y1 g1 H locs h hP hD hS hce hcv hcl => h.elim) (fun r_67 H locs h hP hD hS => ?_)
        have hB : (((((0 + kc_2) + 0) + 0) + kc_22) + kc_67) + bc_67 ≤ BC ∧ (((((0 + ks_2) + 0) + 0) + ks_22) + ks_67) + bs_67 ≤ BS := ⟨by omega, by omega⟩
        refine lv_iload_n (pc := 70) hx hb dL_steps_70 rfl (lv_at hl 3 rfl) ?_
        refine lv_icmp_ne (pc := 71) (tgt := 78) hx hb dL_steps_71 (by decide) (fun c_71 => ?_) (fun c_71 => ?_)
        · have h := h.2 c_71
          refine lv_iconst (pc := 78) (v := 0) hx hb dL_steps_78 (by decide) ?_
          exact zirV (pc := 79) (Wd := WL E qa ca ad wd cI cB cP cT) (u := ((x_22, y_22, g_22), qf_22, cf_22)) hx hb hr hlocks hAe hK hP hD hS rfl dL_steps_79 (by (try dsimp only); omega) (by (try dsimp only); omega) h
        · have h := h.1 c_71
          refine lv_iconst (pc := 74) (v := 1) hx hb dL_steps_74 (by decide) ?_
          refine lv_goto (pc := 75) (tgt := 79) hx hb dL_steps_75 (by decide) ?_
          exact zirV (pc := 79) (Wd := WL E qa ca ad wd cI cB cP cT) (u := ((x_22, y_22, g_22), qf_22, cf_22)) hx hb hr hlocks hAe hK hP hD hS rfl dL_steps_79 (by (try dsimp only); omega) (by (try dsimp only); omega) h
  · have h := h.1 c_31
    refine lv_iload (pc := 34) hx hb dL_steps_34 (lv_at hl 0 rfl) ?_
    refine lv_ldc (pc := 36) (v := (-70008)) hx hb hown (hts _ lK_47) dL_steps_36 ?_
    refine lv_icmp_ne (pc := 38) (tgt := 45) hx hb dL_steps_38 (by decide) (fun c_38 => ?_) (fun c_38 => ?_)
    · have h := h.2 c_38
      refine lv_iconst (pc := 45) (v := 0) hx hb dL_steps_45 (by decide) ?_
      exact zirV (pc := 46) (Wd := WL E qa ca ad wd cI cB cP cT) (u := ((x_22, y_22, g_22), qf_22, cf_22)) hx hb hr hlocks hAe hK hP hD hS rfl dL_steps_46 (by (try dsimp only); omega) (by (try dsimp only); omega) h
    · have h := h.1 c_38
      refine lv_iconst (pc := 41) (v := 1) hx hb dL_steps_41 (by decide) ?_
      refine lv_goto (pc := 42) (tgt := 46) hx hb dL_steps_42 (by decide) ?_
      exact zirV (pc := 46) (Wd := WL E qa ca ad wd cI cB cP cT) (u := ((x_22, y_22, g_22), qf_22, cf_22)) hx hb hr hlocks hAe hK hP hD hS rfl dL_steps_46 (by (try dsimp only); omega) (by (try dsimp only); omega) h

def jL_snaps_146 (Φ : Int32 → (Nat → Nat → Int32) → (Nat → Nat → Nat) → (Nat → Nat → Nat → Int32) → (Nat → Int32) → (Nat → Int32) → Prop) (x : Nat → Nat → Int32) (y : Nat → Nat → Nat) (g : Nat → Nat → Nat → Int32) (qf cf : Nat → Int32) (v3 : Int32) (s0 : Int32) (bc bs : Nat) : Prop := (∃ kc_152 ks_152 bc_152 bs_152 : Nat, kc_152 + bc_152 ≤ bc ∧ ks_152 + bs_152 ≤ bs ∧ (wL_asks x y g qf cf 2 v3 0 kc_152 ks_152 (fun r_152 x_152 y_152 g_152 qf_152 cf_152 => ((s0 = 0 → ((r_152 = (-70007) → (Φ 1 x_152 y_152 g_152 qf_152 cf_152)) ∧ (¬ r_152 = (-70007) → (Φ 0 x_152 y_152 g_152 qf_152 cf_152)))) ∧ (¬ s0 = 0 → (∀ cf_191 : Nat → Int32, cf_191 = (upd cf_152 5 ((cf_152 5) &&& (((((1 : Int32) <<< ((v3 &&& 31) : Int32)) - 1) ||| ((1 : Int32) <<< ((v3 &&& 31) : Int32))) ^^^ (-1)))) → (∀ cf_199 : Nat → Int32, cf_199 = (upd cf_191 4 ((cf_191 4) + r_152)) → ((r_152 < 0 → (Φ 0 x_152 y_152 g_152 qf_152 cf_199)) ∧ (¬ r_152 < 0 → (wX8_committed x_152 y_152 g_152 (fun r_206 => ((r_206 = (cf_199 4) → (wX8_doubtful x_152 y_152 g_152 (fun r_216 => (∃ kc_222 ks_222 bc_222 bs_222 : Nat, kc_222 + bc_222 ≤ bc_152 ∧ ks_222 + bs_222 ≤ bs_152 ∧ (wL_bits x_152 y_152 g_152 qf_152 cf_199 (cf_199 5) kc_222 ks_222 (fun r_222 x_222 y_222 g_222 qf_222 cf_222 => ((r_216 = r_222 → (Φ 1 x_222 y_222 g_222 qf_222 cf_222)) ∧ (¬ r_216 = r_222 → (Φ 0 x_222 y_222 g_222 qf_222 cf_222))))))))) ∧ (¬ r_206 = (cf_199 4) → (Φ 0 x_152 y_152 g_152 qf_152 cf_199))))))))))))))
def jL_snaps_129 (Φ : Int32 → (Nat → Nat → Int32) → (Nat → Nat → Nat) → (Nat → Nat → Nat → Int32) → (Nat → Int32) → (Nat → Int32) → Prop) (x : Nat → Nat → Int32) (y : Nat → Nat → Nat) (g : Nat → Nat → Nat → Int32) (qf cf : Nat → Int32) (s0 : Int32) (bc bs : Nat) : Prop := ((((((cf 5) : Int32) >>> ((s0 &&& 31) : Int32)) &&& 1) = 1 → (jL_snaps_146 Φ x y g qf cf s0 1 bc bs)) ∧ (¬ ((((cf 5) : Int32) >>> ((s0 &&& 31) : Int32)) &&& 1) = 1 → (jL_snaps_146 Φ x y g qf cf s0 0 bc bs)))
def jL_snaps_16 (Φ : Int32 → (Nat → Nat → Int32) → (Nat → Nat → Nat) → (Nat → Nat → Nat → Int32) → (Nat → Int32) → (Nat → Int32) → Prop) (x : Nat → Nat → Int32) (y : Nat → Nat → Nat) (g : Nat → Nat → Nat → Int32) (qf cf : Nat → Int32) (v1 : Int32) (bc bs : Nat) : Prop := (((v1 - v1 / 3 * 3) = 0 → (∃ kc_26 ks_26 bc_26 bs_26 : Nat, kc_26 + bc_26 ≤ bc ∧ ks_26 + bs_26 ≤ bs ∧ (wL_asks x y g qf cf 1 0 0 kc_26 ks_26 (fun r_26 x_26 y_26 g_26 qf_26 cf_26 => (((cf_26 6) = 0 → ((r_26 = (-70008) → (Φ 1 x_26 y_26 g_26 qf_26 cf_26)) ∧ (¬ r_26 = (-70008) → (Φ 0 x_26 y_26 g_26 qf_26 cf_26)))) ∧ (¬ (cf_26 6) = 0 → (∃ kc_40 ks_40 bc_40 bs_40 : Nat, kc_40 + bc_40 ≤ bc_26 ∧ ks_40 + bs_40 ≤ bs_26 ∧ (wL_bits x_26 y_26 g_26 qf_26 cf_26 (cf_26 5) kc_40 ks_40 (fun r_40 x_40 y_40 g_40 qf_40 cf_40 => ((r_40 = 5 → ((r_26 = (-70008) → (Φ 1 x_40 y_40 g_40 qf_40 cf_40)) ∧ (¬ r_26 = (-70008) → (Φ 0 x_40 y_40 g_40 qf_40 cf_40)))) ∧ (¬ r_40 = 5 → (∀ cf_69 : Nat → Int32, cf_69 = (upd cf_40 5 ((cf_40 5) ||| ((1 : Int32) <<< (((cf_40 3) &&& 31) : Int32)))) → (∀ cf_76 : Nat → Int32, cf_76 = (upd cf_69 3 ((cf_69 3) + 1)) → ((r_26 = ((cf_76 3) - 1) → (wX8_doubtful x_40 y_40 g_40 (fun r_87 => (∃ kc_93 ks_93 bc_93 bs_93 : Nat, kc_93 + bc_93 ≤ bc_40 ∧ ks_93 + bs_93 ≤ bs_40 ∧ (wL_bits x_40 y_40 g_40 qf_40 cf_76 (cf_76 5) kc_93 ks_93 (fun r_93 x_93 y_93 g_93 qf_93 cf_93 => ((r_87 = r_93 → (Φ 1 x_93 y_93 g_93 qf_93 cf_93)) ∧ (¬ r_87 = r_93 → (Φ 0 x_93 y_93 g_93 qf_93 cf_93))))))))) ∧ (¬ r_26 = ((cf_76 3) - 1) → (Φ 0 x_40 y_40 g_40 qf_40 cf_76)))))))))))))))) ∧ (¬ (v1 - v1 / 3 * 3) = 0 → (((v1 - v1 / 3 * 3) = 1 → (((cf 3) = 0 → (jL_snaps_129 Φ x y g qf cf 0 bc bs)) ∧ (¬ (cf 3) = 0 → (¬ (cf 3) = 0 ∧ (jL_snaps_129 Φ x y g qf cf ((v1 / 3) - (v1 / 3) / (cf 3) * (cf 3)) bc bs))))) ∧ (¬ (v1 - v1 / 3 * 3) = 1 → (wX8_results x y g (fun r_235 => (∃ kc_243 ks_243 bc_243 bs_243 : Nat, kc_243 + bc_243 ≤ bc ∧ ks_243 + bs_243 ≤ bs ∧ (wL_asks x y g qf cf 3 0 0 kc_243 ks_243 (fun r_243 x_243 y_243 g_243 qf_243 cf_243 => (((cf_243 6) = 0 → ((r_243 = (-70008) → (Φ 1 x_243 y_243 g_243 qf_243 cf_243)) ∧ (¬ r_243 = (-70008) → (Φ 0 x_243 y_243 g_243 qf_243 cf_243)))) ∧ (¬ (cf_243 6) = 0 → (∀ cf_271 : Nat → Int32, cf_271 = (upd cf_243 5 0) → (wX8_watermark x_243 y_243 g_243 (fun r_276 => (∀ cf_279 : Nat → Int32, cf_279 = (upd cf_271 8 r_276) → ((r_243 = (r_235 - (cf_279 4)) → (wX8_results x_243 y_243 g_243 (fun r_291 => ((r_291 = (cf_279 4) → (wX8_doubtful x_243 y_243 g_243 (fun r_301 => ((r_301 = 0 → (Φ 1 x_243 y_243 g_243 qf_243 cf_279)) ∧ (¬ r_301 = 0 → (Φ 0 x_243 y_243 g_243 qf_243 cf_279)))))) ∧ (¬ r_291 = (cf_279 4) → (Φ 0 x_243 y_243 g_243 qf_243 cf_279)))))) ∧ (¬ r_243 = (r_235 - (cf_279 4)) → (Φ 0 x_243 y_243 g_243 qf_243 cf_279))))))))))))))))))
def wL_snaps (x : Nat → Nat → Int32) (y : Nat → Nat → Nat) (g : Nat → Nat → Nat → Int32) (qf cf : Nat → Int32) (a1 : Int32) (bc bs : Nat) (Φ : Int32 → (Nat → Nat → Int32) → (Nat → Nat → Nat) → (Nat → Nat → Nat → Int32) → (Nat → Int32) → (Nat → Int32) → Prop) : Prop := (((a1 - a1 / 3 * 3) = 0 → (((cf 3) = 30 → (Φ 1 x y g qf cf)) ∧ (¬ (cf 3) = 30 → (jL_snaps_16 Φ x y g qf cf a1 bc bs)))) ∧ (¬ (a1 - a1 / 3 * 3) = 0 → (jL_snaps_16 Φ x y g qf cf a1 bc bs)))
set_option maxRecDepth 100000 in
set_option maxHeartbeats 4000000 in
theorem kL_snaps {l : Launch} {D : va_G} {E : va_W} {qa ca : Nat} {ad : Nat → Nat → Nat} {wd sk : Nat → Nat} {cI cB cP cT : ClassId} {sz : Nat} (x0 : Nat → Nat → Int32) (y0 : Nat → Nat → Nat) (g0 : Nat → Nat → Nat → Int32) (qf0 cf0 : Nat → Int32) (a1 : Int32) (BC BS : Nat) {Φ : Int32 → (Nat → Nat → Int32) → (Nat → Nat → Nat) → (Nat → Nat → Nat → Int32) → (Nat → Int32) → (Nat → Int32) → Prop} (hlf : l.stackTraces = false) (h : wL_snaps x0 y0 g0 qf0 cf0 a1 BC BS Φ) : Met l yL_snaps (zws yL_snaps cL_snaps 6 (some .boolean)) { frames := 9, cells := BC, slots := BS, locals := 259 } (zPc D (cTy cI cB cP cT) (lX wd sk) (cW (LE qa ca cI qf0 cf0 E) ad wd cI cB cP cT (x0, y0, g0)) [.ref (ad 0 0), .int a1, .ref ca] sz) (zQi D (cTy cI cB cP cT) (WL E qa ca ad wd cI cB cP cT) (fun r u => Φ r u.1.1 u.1.2.1 u.1.2.2 u.2.1 u.2.2) (cW (LE qa ca cI qf0 cf0 E) ad wd cI cB cP cT (x0, y0, g0)) sz) BC BS (va_A (cW (LE qa ca cI qf0 cf0 E) ad wd cI cB cP cT (x0, y0, g0)) sz) := by
  refine zMet (by decide) (Nat.le_of_ble_eq_true rfl) ?_
  intro p e s m args below meth c A hx hb hr hml hown hts hlocks hsz hAe hA hS hP hK hD hX ls hl
  subst hsz
  have hF : zFx p s m args c cL_snaps RL A D (cTy cI cB cP cT) (lX wd sk) 6 := ⟨hx, hb, hml, hown, hts, hA, hK, lX_cl wd sk, hX⟩
  have hFc : zFx p s m args c cL_snaps RL A D (cTy cI cB cP cT) (cX wd sk) 6 := ⟨hx, hb, hml, hown, hts, hA, hK, cX_cl wd sk, hX.1⟩
  have hl : lv_has ls 6 [(0, .ref (ad 0 0)), (1, .int a1), (2, .ref ca)] := hl
  have hB : 0 + BC ≤ BC ∧ 0 + BS ≤ BS := ⟨by omega, by omega⟩
  have J146 : ∀ (x : Nat → Nat → Int32) (y : Nat → Nat → Nat) (g : Nat → Nat → Nat → Int32) (qf cf : Nat → Int32) (v3 : Int32) (s0 : Int32) (bc bs : Nat), jL_snaps_146 Φ x y g qf cf v3 s0 bc bs → ∀ (cells slots : Nat), (cells + bc ≤ BC ∧ slots + bs ≤ BS) → ∀ (H : Heap) (locs : List Loc) (ls : Array Slot), va_P D vwCl (cW (LE qa ca cI qf cf E) ad wd cI cB cP cT (x, y, g)) H → va_D A (cW (LE qa ca cI qf cf E) ad wd cI cB cP cT (x, y, g)) → va_S A s.heap H locs → lv_has ls 6 [(0, .ref (ad 0 0)), (2, .ref ca), (3, .int v3)] → W p l e { frames := 9, cells := BC, slots := BS, locals := 259 } s m args below meth c H locs cells slots (MQ below (zQi D (cTy cI cB cP cT) (WL E qa ca ad wd cI cB cP cT) (fun r u => Φ r u.1.1 u.1.2.1 u.1.2.2 u.2.1 u.2.2) (cW (LE qa ca cI qf0 cf0 E) ad wd cI cB cP cT (x0, y0, g0)) s.heap.size) args s BC BS (va_A (cW (LE qa ca cI qf0 cf0 E) ad wd cI cB cP cT (x0, y0, g0)) s.heap.size)) (F0 m 146 ls [.int s0]) := by
    intro x y g qf cf v3 s0 bc bs h cells slots hB H locs ls hP hD hS hl
    unfold jL_snaps_146 at h
    refine lv_istore (pc := 146) (lv' := [(4, .int s0), (0, .ref (ad 0 0)), (2, .ref ca), (3, .int v3)]) hx hb dL_snaps_146 hl (by decide) rfl (fun ls hl => ?_)
    refine lv_aload_n (pc := 148) hx hb dL_snaps_148 rfl (lv_at hl 1 rfl) ?_
    refine lv_iconst (pc := 149) (v := 2) hx hb dL_snaps_149 (by decide) ?_
    refine lv_iload_n (pc := 150) hx hb dL_snaps_150 rfl (lv_at hl 3 rfl) ?_
    refine lv_iconst (pc := 151) (v := 0) hx hb dL_snaps_151 (by decide) ?_
    obtain ⟨kc_152, ks_152, bc_152, bs_152, ec_152, es_152, h⟩ := h
    refine lJi (pc := 152) (L := []) (wc := WL E qa ca ad wd cI cB cP cT ((x, y, g), qf, cf)) (Wd := (WL E qa ca ad wd cI cB cP cT)) hA hP hD hS (lS (L := []) [.ref (ad 0 0), .int 2, .int v3, .int 0] hF (kL_asks x y g qf cf 2 v3 0 kc_152 ks_152 hlf h) (cwL_L_asks hts ⟨Nat.le_of_ble_eq_true rfl, Nat.le_of_ble_eq_true rfl⟩) hP hD hS rfl rfl hl.1 (Nat.le_of_ble_eq_true rfl) dL_snaps_152 ⟨by show _ ≤ BC; (try dsimp only); omega, by show _ ≤ BS; (try dsimp only); omega⟩) (fun r_152 u H locs h hP hD hS => ?_)
    obtain ⟨⟨x_152, y_152, g_152⟩, qf_152, cf_152⟩ := u
    have hP : va_P D vwCl (cW (LE qa ca cI qf_152 cf_152 E) ad wd cI cB cP cT (x_152, y_152, g_152)) H := hP
    have hD : va_D A (cW (LE qa ca cI qf_152 cf_152 E) ad wd cI cB cP cT (x_152, y_152, g_152)) := hD
    have hB : (cells + kc_152) + bc_152 ≤ BC ∧ (slots + ks_152) + bs_152 ≤ BS := ⟨by omega, by omega⟩
    refine lv_istore (pc := 155) (lv' := [(5, .int r_152), (4, .int s0), (0, .ref (ad 0 0)), (2, .ref ca), (3, .int v3)]) hx hb dL_snaps_155 hl (by decide) rfl (fun ls hl => ?_)
    refine lv_iload (pc := 157) hx hb dL_snaps_157 (lv_at hl 1 rfl) ?_
    refine lv_if_ne (pc := 159) (tgt := 175) hx hb dL_snaps_159 (by decide) (fun c_159 => ?_) (fun c_159 => ?_)
    · have h := h.2 c_159
      refine lv_aload_n (pc := 175) hx hb dL_snaps_175 rfl (lv_at hl 3 rfl) ?_
      refine lv_iconst (pc := 176) (v := 5) hx hb dL_snaps_176 (by decide) ?_
      refine lv_dup2_11 (pc := 177) hx hb dL_snaps_177 rfl rfl ?_
      refine lc_get (pc := 178) (v := (cf_152 5)) hF hP rfl (vp_in_iff.mpr (by decide)) dL_snaps_178 ?_
      refine lv_iconst (pc := 179) (v := 1) hx hb dL_snaps_179 (by decide) ?_
      refine lv_iload_n (pc := 180) hx hb dL_snaps_180 rfl (lv_at hl 4 rfl) ?_
      refine lv_ishl (pc := 181) hx hb dL_snaps_181 ?_
      refine lv_iconst (pc := 182) (v := 1) hx hb dL_snaps_182 (by decide) ?_
      refine lv_isub (pc := 183) hx hb dL_snaps_183 ?_
      refine lv_iconst (pc := 184) (v := 1) hx hb dL_snaps_184 (by decide) ?_
      refine lv_iload_n (pc := 185) hx hb dL_snaps_185 rfl (lv_at hl 4 rfl) ?_
      refine lv_ishl (pc := 186) hx hb dL_snaps_186 ?_
      refine lv_ior (pc := 187) hx hb dL_snaps_187 ?_
      refine lv_iconst (pc := 188) (v := (-1)) hx hb dL_snaps_188 (by decide) ?_
      refine lv_ixor (pc := 189) hx hb dL_snaps_189 ?_
      refine lv_iand (pc := 190) hx hb dL_snaps_190 ?_
      obtain ⟨cf_191, e_cf_191⟩ : ∃ z : Nat → Int32, z = (upd cf_152 5 ((cf_152 5) &&& (((((1 : Int32) <<< ((v3 &&& 31) : Int32)) - 1) ||| ((1 : Int32) <<< ((v3 &&& 31) : Int32))) ^^^ (-1)))) := ⟨_, rfl⟩
      replace h := h cf_191 e_cf_191
      refine lc_set (pc := 191) (v := ((cf_152 5) &&& (((((1 : Int32) <<< ((v3 &&& 31) : Int32)) - 1) ||| ((1 : Int32) <<< ((v3 &&& 31) : Int32))) ^^^ (-1)))) (f := cf_191) hF hP hD hS e_cf_191.symm (vp_in_iff.mpr (by decide)) dL_snaps_191 (fun H locs hP hD hS => ?_)
      refine lv_aload_n (pc := 192) hx hb dL_snaps_192 rfl (lv_at hl 3 rfl) ?_
      refine lv_iconst (pc := 193) (v := 4) hx hb dL_snaps_193 (by decide) ?_
      refine lv_dup2_11 (pc := 194) hx hb dL_snaps_194 rfl rfl ?_
      refine lc_get (pc := 195) (v := (cf_191 4)) hF hP rfl (vp_in_iff.mpr (by decide)) dL_snaps_195 ?_
      refine lv_iload (pc := 196) hx hb dL_snaps_196 (lv_at hl 0 rfl) ?_
      refine lv_iadd (pc := 198) hx hb dL_snaps_198 ?_
      obtain ⟨cf_199, e_cf_199⟩ : ∃ z : Nat → Int32, z = (upd cf_191 4 ((cf_191 4) + r_152)) := ⟨_, rfl⟩
      replace h := h cf_199 e_cf_199
      refine lc_set (pc := 199) (v := ((cf_191 4) + r_152)) (f := cf_199) hF hP hD hS e_cf_199.symm (vp_in_iff.mpr (by decide)) dL_snaps_199 (fun H locs hP hD hS => ?_)
      refine lv_iload (pc := 200) hx hb dL_snaps_200 (lv_at hl 0 rfl) ?_
      refine lv_if_lt (pc := 202) (tgt := 232) hx hb dL_snaps_202 (by decide) (fun c_202 => ?_) (fun c_202 => ?_)
      · have h := h.1 c_202
        refine lv_iconst (pc := 232) (v := 0) hx hb dL_snaps_232 (by decide) ?_
        exact zirV (pc := 233) (Wd := WL E qa ca ad wd cI cB cP cT) (u := ((x_152, y_152, g_152), qf_152, cf_199)) hx hb hr hlocks hAe hK hP hD hS rfl dL_snaps_233 (by (try dsimp only); omega) (by (try dsimp only); omega) h
      · have h := h.2 c_202
        refine lv_aload_n (pc := 205) hx hb dL_snaps_205 rfl (lv_at hl 2 rfl) ?_
        refine cVip (pc := 206) (E := LE qa ca cI qf_152 cf_199 E) (x := x_152) (y := y_152) (g := g_152) [] hFc (kX8_committed x_152 y_152 g_152 h) (cwL_X8_committed hts ⟨Nat.le_of_ble_eq_true rfl, Nat.le_of_ble_eq_true rfl⟩) rfl (cA_S ..) hP hD hS rfl rfl hl.1 (Nat.le_of_ble_eq_true rfl) dL_snaps_206 ⟨by show _ ≤ BC; (try dsimp only); omega, by show _ ≤ BS; (try dsimp only); omega⟩ (fun r_206 H locs h hP hD hS => ?_)
        refine lv_aload_n (pc := 209) hx hb dL_snaps_209 rfl (lv_at hl 3 rfl) ?_
        refine lv_iconst (pc := 210) (v := 4) hx hb dL_snaps_210 (by decide) ?_
        refine lc_get (pc := 211) (v := (cf_199 4)) hF hP rfl (vp_in_iff.mpr (by decide)) dL_snaps_211 ?_
        refine lv_icmp_ne (pc := 212) (tgt := 232) hx hb dL_snaps_212 (by decide) (fun c_212 => ?_) (fun c_212 => ?_)
        · have h := h.2 c_212
          refine lv_iconst (pc := 232) (v := 0) hx hb dL_snaps_232 (by decide) ?_
          exact zirV (pc := 233) (Wd := WL E qa ca ad wd cI cB cP cT) (u := ((x_152, y_152, g_152), qf_152, cf_199)) hx hb hr hlocks hAe hK hP hD hS rfl dL_snaps_233 (by (try dsimp only); omega) (by (try dsimp only); omega) h
        · have h := h.1 c_212
          refine lv_aload_n (pc := 215) hx hb dL_snaps_215 rfl (lv_at hl 2 rfl) ?_
          refine cVip (pc := 216) (E := LE qa ca cI qf_152 cf_199 E) (x := x_152) (y := y_152) (g := g_152) [] hFc (kX8_doubtful x_152 y_152 g_152 h) (cwL_X8_doubtful hts ⟨Nat.le_of_ble_eq_true rfl, Nat.le_of_ble_eq_true rfl⟩) rfl (cA_S ..) hP hD hS rfl rfl hl.1 (Nat.le_of_ble_eq_true rfl) dL_snaps_216 ⟨by show _ ≤ BC; (try dsimp only); omega, by show _ ≤ BS; (try dsimp only); omega⟩ (fun r_216 H locs h hP hD hS => ?_)
          refine lv_aload_n (pc := 219) hx hb dL_snaps_219 rfl (lv_at hl 3 rfl) ?_
          refine lv_iconst (pc := 220) (v := 5) hx hb dL_snaps_220 (by decide) ?_
          refine lc_get (pc := 221) (v := (cf_199 5)) hF hP rfl (vp_in_iff.mpr (by decide)) dL_snaps_221 ?_
          obtain ⟨kc_222, ks_222, bc_222, bs_222, ec_222, es_222, h⟩ := h
          refine zSi (pc := 222) (Wd := (WL E qa ca ad wd cI cB cP cT)) (u0 := ((x_152, y_152, g_152), qf_152, cf_199)) [.int (cf_199 5)] hF (kL_bits x_152 y_152 g_152 qf_152 cf_199 (cf_199 5) kc_222 ks_222 hlf h) (cwL_L_bits hts ⟨Nat.le_of_ble_eq_true rfl, Nat.le_of_ble_eq_true rfl⟩) hP hD hS rfl rfl hl.1 (Nat.le_of_ble_eq_true rfl) dL_snaps_222 ⟨by show _ ≤ BC; (try dsimp only); omega, by show _ ≤ BS; (try dsimp only); omega⟩ (fun r_222 u H locs h hP hD hS => ?_)
          obtain ⟨⟨x_222, y_222, g_222⟩, qf_222, cf_222⟩ := u
          have hP : va_P D vwCl (cW (LE qa ca cI qf_222 cf_222 E) ad wd cI cB cP cT (x_222, y_222, g_222)) H := hP
          have hD : va_D A (cW (LE qa ca cI qf_222 cf_222 E) ad wd cI cB cP cT (x_222, y_222, g_222)) := hD
          have hB : ((((cells + kc_152) + 0) + 0) + kc_222) + bc_222 ≤ BC ∧ ((((slots + ks_152) + 0) + 0) + ks_222) + bs_222 ≤ BS := ⟨by omega, by omega⟩
          refine lv_icmp_ne (pc := 225) (tgt := 232) hx hb dL_snaps_225 (by decide) (fun c_225 => ?_) (fun c_225 => ?_)
          · have h := h.2 c_225
            refine lv_iconst (pc := 232) (v := 0) hx hb dL_snaps_232 (by decide) ?_
            exact zirV (pc := 233) (Wd := WL E qa ca ad wd cI cB cP cT) (u := ((x_222, y_222, g_222), qf_222, cf_222)) hx hb hr hlocks hAe hK hP hD hS rfl dL_snaps_233 (by (try dsimp only); omega) (by (try dsimp only); omega) h
          · have h := h.1 c_225
            refine lv_iconst (pc := 228) (v := 1) hx hb dL_snaps_228 (by decide) ?_
            refine lv_goto (pc := 229) (tgt := 233) hx hb dL_snaps_229 (by decide) ?_
            exact zirV (pc := 233) (Wd := WL E qa ca ad wd cI cB cP cT) (u := ((x_222, y_222, g_222), qf_222, cf_222)) hx hb hr hlocks hAe hK hP hD hS rfl dL_snaps_233 (by (try dsimp only); omega) (by (try dsimp only); omega) h
    · have h := h.1 c_159
      refine lv_iload (pc := 162) hx hb dL_snaps_162 (lv_at hl 0 rfl) ?_
      refine lv_ldc (pc := 164) (v := (-70007)) hx hb hown (hts _ lK_44) dL_snaps_164 ?_
      refine lv_icmp_ne (pc := 166) (tgt := 173) hx hb dL_snaps_166 (by decide) (fun c_166 => ?_) (fun c_166 => ?_)
      · have h := h.2 c_166
        refine lv_iconst (pc := 173) (v := 0) hx hb dL_snaps_173 (by decide) ?_
        exact zirV (pc := 174) (Wd := WL E qa ca ad wd cI cB cP cT) (u := ((x_152, y_152, g_152), qf_152, cf_152)) hx hb hr hlocks hAe hK hP hD hS rfl dL_snaps_174 (by (try dsimp only); omega) (by (try dsimp only); omega) h
      · have h := h.1 c_166
        refine lv_iconst (pc := 169) (v := 1) hx hb dL_snaps_169 (by decide) ?_
        refine lv_goto (pc := 170) (tgt := 174) hx hb dL_snaps_170 (by decide) ?_
        exact zirV (pc := 174) (Wd := WL E qa ca ad wd cI cB cP cT) (u := ((x_152, y_152, g_152), qf_152, cf_152)) hx hb hr hlocks hAe hK hP hD hS rfl dL_snaps_174 (by (try dsimp only); omega) (by (try dsimp only); omega) h
  have J129 : ∀ (x : Nat → Nat → Int32) (y : Nat → Nat → Nat) (g : Nat → Nat → Nat → Int32) (qf cf : Nat → Int32) (s0 : Int32) (bc bs : Nat), jL_snaps_129 Φ x y g qf cf s0 bc bs → ∀ (cells slots : Nat), (cells + bc ≤ BC ∧ slots + bs ≤ BS) → ∀ (H : Heap) (locs : List Loc) (ls : Array Slot), va_P D vwCl (cW (LE qa ca cI qf cf E) ad wd cI cB cP cT (x, y, g)) H → va_D A (cW (LE qa ca cI qf cf E) ad wd cI cB cP cT (x, y, g)) → va_S A s.heap H locs → lv_has ls 6 [(0, .ref (ad 0 0)), (2, .ref ca)] → W p l e { frames := 9, cells := BC, slots := BS, locals := 259 } s m args below meth c H locs cells slots (MQ below (zQi D (cTy cI cB cP cT) (WL E qa ca ad wd cI cB cP cT) (fun r u => Φ r u.1.1 u.1.2.1 u.1.2.2 u.2.1 u.2.2) (cW (LE qa ca cI qf0 cf0 E) ad wd cI cB cP cT (x0, y0, g0)) s.heap.size) args s BC BS (va_A (cW (LE qa ca cI qf0 cf0 E) ad wd cI cB cP cT (x0, y0, g0)) s.heap.size)) (F0 m 129 ls [.int s0]) := by
    intro x y g qf cf s0 bc bs h cells slots hB H locs ls hP hD hS hl
    unfold jL_snaps_129 at h
    refine lv_istore_n (pc := 129) (lv' := [(3, .int s0), (0, .ref (ad 0 0)), (2, .ref ca)]) hx hb dL_snaps_129 rfl hl (by decide) rfl (fun ls hl => ?_)
    refine lv_aload_n (pc := 130) hx hb dL_snaps_130 rfl (lv_at hl 2 rfl) ?_
    refine lv_iconst (pc := 131) (v := 5) hx hb dL_snaps_131 (by decide) ?_
    refine lc_get (pc := 132) (v := (cf 5)) hF hP rfl (vp_in_iff.mpr (by decide)) dL_snaps_132 ?_
    refine lv_iload_n (pc := 133) hx hb dL_snaps_133 rfl (lv_at hl 0 rfl) ?_
    refine lv_ishr (pc := 134) hx hb dL_snaps_134 ?_
    refine lv_iconst (pc := 135) (v := 1) hx hb dL_snaps_135 (by decide) ?_
    refine lv_iand (pc := 136) hx hb dL_snaps_136 ?_
    refine lv_iconst (pc := 137) (v := 1) hx hb dL_snaps_137 (by decide) ?_
    refine lv_icmp_ne (pc := 138) (tgt := 145) hx hb dL_snaps_138 (by decide) (fun c_138 => ?_) (fun c_138 => ?_)
    · have h := h.2 c_138
      refine lv_iconst (pc := 145) (v := 0) hx hb dL_snaps_145 (by decide) ?_
      exact J146 x y g qf cf s0 0 bc bs h _ _ hB _ _ _ hP hD hS (lv_sub hl [1, 2, 0] rfl)
    · have h := h.1 c_138
      refine lv_iconst (pc := 141) (v := 1) hx hb dL_snaps_141 (by decide) ?_
      refine lv_goto (pc := 142) (tgt := 146) hx hb dL_snaps_142 (by decide) ?_
      exact J146 x y g qf cf s0 1 bc bs h _ _ hB _ _ _ hP hD hS (lv_sub hl [1, 2, 0] rfl)
  have J16 : ∀ (x : Nat → Nat → Int32) (y : Nat → Nat → Nat) (g : Nat → Nat → Nat → Int32) (qf cf : Nat → Int32) (v1 : Int32) (bc bs : Nat), jL_snaps_16 Φ x y g qf cf v1 bc bs → ∀ (cells slots : Nat), (cells + bc ≤ BC ∧ slots + bs ≤ BS) → ∀ (H : Heap) (locs : List Loc) (ls : Array Slot), va_P D vwCl (cW (LE qa ca cI qf cf E) ad wd cI cB cP cT (x, y, g)) H → va_D A (cW (LE qa ca cI qf cf E) ad wd cI cB cP cT (x, y, g)) → va_S A s.heap H locs → lv_has ls 6 [(0, .ref (ad 0 0)), (1, .int v1), (2, .ref ca)] → W p l e { frames := 9, cells := BC, slots := BS, locals := 259 } s m args below meth c H locs cells slots (MQ below (zQi D (cTy cI cB cP cT) (WL E qa ca ad wd cI cB cP cT) (fun r u => Φ r u.1.1 u.1.2.1 u.1.2.2 u.2.1 u.2.2) (cW (LE qa ca cI qf0 cf0 E) ad wd cI cB cP cT (x0, y0, g0)) s.heap.size) args s BC BS (va_A (cW (LE qa ca cI qf0 cf0 E) ad wd cI cB cP cT (x0, y0, g0)) s.heap.size)) (F0 m 16 ls []) := by
    intro x y g qf cf v1 bc bs h cells slots hB H locs ls hP hD hS hl
    unfold jL_snaps_16 at h
    refine lv_iload_n (pc := 16) hx hb dL_snaps_16 rfl (lv_at hl 1 rfl) ?_
    refine lv_iconst (pc := 17) (v := 3) hx hb dL_snaps_17 (by decide) ?_
    refine lv_irem (pc := 18) hx hb dL_snaps_18 (by decide) ?_
    refine lv_if_ne (pc := 19) (tgt := 105) hx hb dL_snaps_19 (by decide) (fun c_19 => ?_) (fun c_19 => ?_)
    · have h := h.2 c_19
      refine lv_iload_n (pc := 105) hx hb dL_snaps_105 rfl (lv_at hl 1 rfl) ?_
      refine lv_iconst (pc := 106) (v := 3) hx hb dL_snaps_106 (by decide) ?_
      refine lv_irem (pc := 107) hx hb dL_snaps_107 (by decide) ?_
      refine lv_iconst (pc := 108) (v := 1) hx hb dL_snaps_108 (by decide) ?_
      refine lv_icmp_ne (pc := 109) (tgt := 234) hx hb dL_snaps_109 (by decide) (fun c_109 => ?_) (fun c_109 => ?_)
      · have h := h.2 c_109
        refine lv_aload_n (pc := 234) hx hb dL_snaps_234 rfl (lv_at hl 0 rfl) ?_
        refine cVip (pc := 235) (E := LE qa ca cI qf cf E) (x := x) (y := y) (g := g) [] hFc (kX8_results x y g h) (cwL_X8_results hts ⟨Nat.le_of_ble_eq_true rfl, Nat.le_of_ble_eq_true rfl⟩) rfl (cA_S ..) hP hD hS rfl rfl hl.1 (Nat.le_of_ble_eq_true rfl) dL_snaps_235 ⟨by show _ ≤ BC; (try dsimp only); omega, by show _ ≤ BS; (try dsimp only); omega⟩ (fun r_235 H locs h hP hD hS => ?_)
        refine lv_istore_n (pc := 238) (lv' := [(3, .int r_235), (0, .ref (ad 0 0)), (1, .int v1), (2, .ref ca)]) hx hb dL_snaps_238 rfl hl (by decide) rfl (fun ls hl => ?_)
        refine lv_aload_n (pc := 239) hx hb dL_snaps_239 rfl (lv_at hl 1 rfl) ?_
        refine lv_iconst (pc := 240) (v := 3) hx hb dL_snaps_240 (by decide) ?_
        refine lv_iconst (pc := 241) (v := 0) hx hb dL_snaps_241 (by decide) ?_
        refine lv_iconst (pc := 242) (v := 0) hx hb dL_snaps_242 (by decide) ?_
        obtain ⟨kc_243, ks_243, bc_243, bs_243, ec_243, es_243, h⟩ := h
        refine lJi (pc := 243) (L := []) (wc := WL E qa ca ad wd cI cB cP cT ((x, y, g), qf, cf)) (Wd := (WL E qa ca ad wd cI cB cP cT)) hA hP hD hS (lS (L := []) [.ref (ad 0 0), .int 3, .int 0, .int 0] hF (kL_asks x y g qf cf 3 0 0 kc_243 ks_243 hlf h) (cwL_L_asks hts ⟨Nat.le_of_ble_eq_true rfl, Nat.le_of_ble_eq_true rfl⟩) hP hD hS rfl rfl hl.1 (Nat.le_of_ble_eq_true rfl) dL_snaps_243 ⟨by show _ ≤ BC; (try dsimp only); omega, by show _ ≤ BS; (try dsimp only); omega⟩) (fun r_243 u H locs h hP hD hS => ?_)
        obtain ⟨⟨x_243, y_243, g_243⟩, qf_243, cf_243⟩ := u
        have hP : va_P D vwCl (cW (LE qa ca cI qf_243 cf_243 E) ad wd cI cB cP cT (x_243, y_243, g_243)) H := hP
        have hD : va_D A (cW (LE qa ca cI qf_243 cf_243 E) ad wd cI cB cP cT (x_243, y_243, g_243)) := hD
        have hB : ((cells + 0) + kc_243) + bc_243 ≤ BC ∧ ((slots + 0) + ks_243) + bs_243 ≤ BS := ⟨by omega, by omega⟩
        refine lv_istore (pc := 246) (lv' := [(4, .int r_243), (3, .int r_235), (0, .ref (ad 0 0)), (1, .int v1), (2, .ref ca)]) hx hb dL_snaps_246 hl (by decide) rfl (fun ls hl => ?_)
        refine lv_aload_n (pc := 248) hx hb dL_snaps_248 rfl (lv_at hl 4 rfl) ?_
        refine lv_bipush (pc := 249) (v := 6) hx hb dL_snaps_249 (by decide) ?_
        refine lc_get (pc := 251) (v := (cf_243 6)) hF hP rfl (vp_in_iff.mpr (by decide)) dL_snaps_251 ?_
        refine lv_if_ne (pc := 252) (tgt := 268) hx hb dL_snaps_252 (by decide) (fun c_252 => ?_) (fun c_252 => ?_)
        · have h := h.2 c_252
          refine lv_aload_n (pc := 268) hx hb dL_snaps_268 rfl (lv_at hl 4 rfl) ?_
          refine lv_iconst (pc := 269) (v := 5) hx hb dL_snaps_269 (by decide) ?_
          refine lv_iconst (pc := 270) (v := 0) hx hb dL_snaps_270 (by decide) ?_
          obtain ⟨cf_271, e_cf_271⟩ : ∃ z : Nat → Int32, z = (upd cf_243 5 0) := ⟨_, rfl⟩
          replace h := h cf_271 e_cf_271
          refine lc_set (pc := 271) (v := 0) (f := cf_271) hF hP hD hS e_cf_271.symm (vp_in_iff.mpr (by decide)) dL_snaps_271 (fun H locs hP hD hS => ?_)
          refine lv_aload_n (pc := 272) hx hb dL_snaps_272 rfl (lv_at hl 4 rfl) ?_
          refine lv_bipush (pc := 273) (v := 8) hx hb dL_snaps_273 (by decide) ?_
          refine lv_aload_n (pc := 275) hx hb dL_snaps_275 rfl (lv_at hl 2 rfl) ?_
          refine cVip (pc := 276) (E := LE qa ca cI qf_243 cf_271 E) (x := x_243) (y := y_243) (g := g_243) [] hFc (kX8_watermark x_243 y_243 g_243 h) (cwL_X8_watermark hts ⟨Nat.le_of_ble_eq_true rfl, Nat.le_of_ble_eq_true rfl⟩) rfl (cA_S ..) hP hD hS rfl rfl hl.1 (Nat.le_of_ble_eq_true rfl) dL_snaps_276 ⟨by show _ ≤ BC; (try dsimp only); omega, by show _ ≤ BS; (try dsimp only); omega⟩ (fun r_276 H locs h hP hD hS => ?_)
          obtain ⟨cf_279, e_cf_279⟩ : ∃ z : Nat → Int32, z = (upd cf_271 8 r_276) := ⟨_, rfl⟩
          replace h := h cf_279 e_cf_279
          refine lc_set (pc := 279) (v := r_276) (f := cf_279) hF hP hD hS e_cf_279.symm (vp_in_iff.mpr (by decide)) dL_snaps_279 (fun H locs hP hD hS => ?_)
          refine lv_iload (pc := 280) hx hb dL_snaps_280 (lv_at hl 0 rfl) ?_
          refine lv_iload_n (pc := 282) hx hb dL_snaps_282 rfl (lv_at hl 1 rfl) ?_
          refine lv_aload_n (pc := 283) hx hb dL_snaps_283 rfl (lv_at hl 4 rfl) ?_
          refine lv_iconst (pc := 284) (v := 4) hx hb dL_snaps_284 (by decide) ?_
          refine lc_get (pc := 285) (v := (cf_279 4)) hF hP rfl (vp_in_iff.mpr (by decide)) dL_snaps_285 ?_
          refine lv_isub (pc := 286) hx hb dL_snaps_286 ?_
          refine lv_icmp_ne (pc := 287) (tgt := 311) hx hb dL_snaps_287 (by decide) (fun c_287 => ?_) (fun c_287 => ?_)
          · have h := h.2 c_287
            refine lv_iconst (pc := 311) (v := 0) hx hb dL_snaps_311 (by decide) ?_
            exact zirV (pc := 312) (Wd := WL E qa ca ad wd cI cB cP cT) (u := ((x_243, y_243, g_243), qf_243, cf_279)) hx hb hr hlocks hAe hK hP hD hS rfl dL_snaps_312 (by (try dsimp only); omega) (by (try dsimp only); omega) h
          · have h := h.1 c_287
            refine lv_aload_n (pc := 290) hx hb dL_snaps_290 rfl (lv_at hl 2 rfl) ?_
            refine cVip (pc := 291) (E := LE qa ca cI qf_243 cf_279 E) (x := x_243) (y := y_243) (g := g_243) [] hFc (kX8_results x_243 y_243 g_243 h) (cwL_X8_results hts ⟨Nat.le_of_ble_eq_true rfl, Nat.le_of_ble_eq_true rfl⟩) rfl (cA_S ..) hP hD hS rfl rfl hl.1 (Nat.le_of_ble_eq_true rfl) dL_snaps_291 ⟨by show _ ≤ BC; (try dsimp only); omega, by show _ ≤ BS; (try dsimp only); omega⟩ (fun r_291 H locs h hP hD hS => ?_)
            refine lv_aload_n (pc := 294) hx hb dL_snaps_294 rfl (lv_at hl 4 rfl) ?_
            refine lv_iconst (pc := 295) (v := 4) hx hb dL_snaps_295 (by decide) ?_
            refine lc_get (pc := 296) (v := (cf_279 4)) hF hP rfl (vp_in_iff.mpr (by decide)) dL_snaps_296 ?_
            refine lv_icmp_ne (pc := 297) (tgt := 311) hx hb dL_snaps_297 (by decide) (fun c_297 => ?_) (fun c_297 => ?_)
            · have h := h.2 c_297
              refine lv_iconst (pc := 311) (v := 0) hx hb dL_snaps_311 (by decide) ?_
              exact zirV (pc := 312) (Wd := WL E qa ca ad wd cI cB cP cT) (u := ((x_243, y_243, g_243), qf_243, cf_279)) hx hb hr hlocks hAe hK hP hD hS rfl dL_snaps_312 (by (try dsimp only); omega) (by (try dsimp only); omega) h
            · have h := h.1 c_297
              refine lv_aload_n (pc := 300) hx hb dL_snaps_300 rfl (lv_at hl 2 rfl) ?_
              refine cVip (pc := 301) (E := LE qa ca cI qf_243 cf_279 E) (x := x_243) (y := y_243) (g := g_243) [] hFc (kX8_doubtful x_243 y_243 g_243 h) (cwL_X8_doubtful hts ⟨Nat.le_of_ble_eq_true rfl, Nat.le_of_ble_eq_true rfl⟩) rfl (cA_S ..) hP hD hS rfl rfl hl.1 (Nat.le_of_ble_eq_true rfl) dL_snaps_301 ⟨by show _ ≤ BC; (try dsimp only); omega, by show _ ≤ BS; (try dsimp only); omega⟩ (fun r_301 H locs h hP hD hS => ?_)
              refine lv_if_ne (pc := 304) (tgt := 311) hx hb dL_snaps_304 (by decide) (fun c_304 => ?_) (fun c_304 => ?_)
              · have h := h.2 c_304
                refine lv_iconst (pc := 311) (v := 0) hx hb dL_snaps_311 (by decide) ?_
                exact zirV (pc := 312) (Wd := WL E qa ca ad wd cI cB cP cT) (u := ((x_243, y_243, g_243), qf_243, cf_279)) hx hb hr hlocks hAe hK hP hD hS rfl dL_snaps_312 (by (try dsimp only); omega) (by (try dsimp only); omega) h
              · have h := h.1 c_304
                refine lv_iconst (pc := 307) (v := 1) hx hb dL_snaps_307 (by decide) ?_
                refine lv_goto (pc := 308) (tgt := 312) hx hb dL_snaps_308 (by decide) ?_
                exact zirV (pc := 312) (Wd := WL E qa ca ad wd cI cB cP cT) (u := ((x_243, y_243, g_243), qf_243, cf_279)) hx hb hr hlocks hAe hK hP hD hS rfl dL_snaps_312 (by (try dsimp only); omega) (by (try dsimp only); omega) h
        · have h := h.1 c_252
          refine lv_iload (pc := 255) hx hb dL_snaps_255 (lv_at hl 0 rfl) ?_
          refine lv_ldc (pc := 257) (v := (-70008)) hx hb hown (hts _ lK_47) dL_snaps_257 ?_
          refine lv_icmp_ne (pc := 259) (tgt := 266) hx hb dL_snaps_259 (by decide) (fun c_259 => ?_) (fun c_259 => ?_)
          · have h := h.2 c_259
            refine lv_iconst (pc := 266) (v := 0) hx hb dL_snaps_266 (by decide) ?_
            exact zirV (pc := 267) (Wd := WL E qa ca ad wd cI cB cP cT) (u := ((x_243, y_243, g_243), qf_243, cf_243)) hx hb hr hlocks hAe hK hP hD hS rfl dL_snaps_267 (by (try dsimp only); omega) (by (try dsimp only); omega) h
          · have h := h.1 c_259
            refine lv_iconst (pc := 262) (v := 1) hx hb dL_snaps_262 (by decide) ?_
            refine lv_goto (pc := 263) (tgt := 267) hx hb dL_snaps_263 (by decide) ?_
            exact zirV (pc := 267) (Wd := WL E qa ca ad wd cI cB cP cT) (u := ((x_243, y_243, g_243), qf_243, cf_243)) hx hb hr hlocks hAe hK hP hD hS rfl dL_snaps_267 (by (try dsimp only); omega) (by (try dsimp only); omega) h
      · have h := h.1 c_109
        refine lv_aload_n (pc := 112) hx hb dL_snaps_112 rfl (lv_at hl 2 rfl) ?_
        refine lv_iconst (pc := 113) (v := 3) hx hb dL_snaps_113 (by decide) ?_
        refine lc_get (pc := 114) (v := (cf 3)) hF hP rfl (vp_in_iff.mpr (by decide)) dL_snaps_114 ?_
        refine lv_if_ne (pc := 115) (tgt := 122) hx hb dL_snaps_115 (by decide) (fun c_115 => ?_) (fun c_115 => ?_)
        · have h := h.2 c_115
          refine lv_iload_n (pc := 122) hx hb dL_snaps_122 rfl (lv_at hl 1 rfl) ?_
          refine lv_iconst (pc := 123) (v := 3) hx hb dL_snaps_123 (by decide) ?_
          refine lv_idiv (pc := 124) hx hb dL_snaps_124 (by decide) ?_
          refine lv_aload_n (pc := 125) hx hb dL_snaps_125 rfl (lv_at hl 2 rfl) ?_
          refine lv_iconst (pc := 126) (v := 3) hx hb dL_snaps_126 (by decide) ?_
          refine lc_get (pc := 127) (v := (cf 3)) hF hP rfl (vp_in_iff.mpr (by decide)) dL_snaps_127 ?_
          obtain ⟨h0_128, h⟩ := h
          refine lv_irem (pc := 128) hx hb dL_snaps_128 h0_128 ?_
          exact J129 x y g qf cf ((v1 / 3) - (v1 / 3) / (cf 3) * (cf 3)) bc bs h _ _ hB _ _ _ hP hD hS (lv_sub hl [0, 2] rfl)
        · have h := h.1 c_115
          refine lv_iconst (pc := 118) (v := 0) hx hb dL_snaps_118 (by decide) ?_
          refine lv_goto (pc := 119) (tgt := 129) hx hb dL_snaps_119 (by decide) ?_
          exact J129 x y g qf cf 0 bc bs h _ _ hB _ _ _ hP hD hS (lv_sub hl [0, 2] rfl)
    · have h := h.1 c_19
      refine lv_aload_n (pc := 22) hx hb dL_snaps_22 rfl (lv_at hl 0 rfl) ?_
      refine lv_iconst (pc := 23) (v := 1) hx hb dL_snaps_23 (by decide) ?_
      refine lv_iconst (pc := 24) (v := 0) hx hb dL_snaps_24 (by decide) ?_
      refine lv_iconst (pc := 25) (v := 0) hx hb dL_snaps_25 (by decide) ?_
      obtain ⟨kc_26, ks_26, bc_26, bs_26, ec_26, es_26, h⟩ := h
      refine lJi (pc := 26) (L := []) (wc := WL E qa ca ad wd cI cB cP cT ((x, y, g), qf, cf)) (Wd := (WL E qa ca ad wd cI cB cP cT)) hA hP hD hS (lS (L := []) [.ref (ad 0 0), .int 1, .int 0, .int 0] hF (kL_asks x y g qf cf 1 0 0 kc_26 ks_26 hlf h) (cwL_L_asks hts ⟨Nat.le_of_ble_eq_true rfl, Nat.le_of_ble_eq_true rfl⟩) hP hD hS rfl rfl hl.1 (Nat.le_of_ble_eq_true rfl) dL_snaps_26 ⟨by show _ ≤ BC; (try dsimp only); omega, by show _ ≤ BS; (try dsimp only); omega⟩) (fun r_26 u H locs h hP hD hS => ?_)
      obtain ⟨⟨x_26, y_26, g_26⟩, qf_26, cf_26⟩ := u
      have hP : va_P D vwCl (cW (LE qa ca cI qf_26 cf_26 E) ad wd cI cB cP cT (x_26, y_26, g_26)) H := hP
      have hD : va_D A (cW (LE qa ca cI qf_26 cf_26 E) ad wd cI cB cP cT (x_26, y_26, g_26)) := hD
      have hB : (cells + kc_26) + bc_26 ≤ BC ∧ (slots + ks_26) + bs_26 ≤ BS := ⟨by omega, by omega⟩
      refine lv_istore_n (pc := 29) (lv' := [(3, .int r_26), (0, .ref (ad 0 0)), (1, .int v1), (2, .ref ca)]) hx hb dL_snaps_29 rfl hl (by decide) rfl (fun ls hl => ?_)
      refine lv_aload_n (pc := 30) hx hb dL_snaps_30 rfl (lv_at hl 3 rfl) ?_
      refine lv_bipush (pc := 31) (v := 6) hx hb dL_snaps_31 (by decide) ?_
      refine lc_get (pc := 33) (v := (cf_26 6)) hF hP rfl (vp_in_iff.mpr (by decide)) dL_snaps_33 ?_
      refine lv_if_eq (pc := 34) (tgt := 47) hx hb dL_snaps_34 (by decide) (fun c_34 => ?_) (fun c_34 => ?_)
      · have h := h.1 c_34
        refine lv_iload_n (pc := 47) hx hb dL_snaps_47 rfl (lv_at hl 0 rfl) ?_
        refine lv_ldc (pc := 48) (v := (-70008)) hx hb hown (hts _ lK_47) dL_snaps_48 ?_
        refine lv_icmp_ne (pc := 50) (tgt := 57) hx hb dL_snaps_50 (by decide) (fun c_50 => ?_) (fun c_50 => ?_)
        · have h := h.2 c_50
          refine lv_iconst (pc := 57) (v := 0) hx hb dL_snaps_57 (by decide) ?_
          exact zirV (pc := 58) (Wd := WL E qa ca ad wd cI cB cP cT) (u := ((x_26, y_26, g_26), qf_26, cf_26)) hx hb hr hlocks hAe hK hP hD hS rfl dL_snaps_58 (by (try dsimp only); omega) (by (try dsimp only); omega) h
        · have h := h.1 c_50
          refine lv_iconst (pc := 53) (v := 1) hx hb dL_snaps_53 (by decide) ?_
          refine lv_goto (pc := 54) (tgt := 58) hx hb dL_snaps_54 (by decide) ?_
          exact zirV (pc := 58) (Wd := WL E qa ca ad wd cI cB cP cT) (u := ((x_26, y_26, g_26), qf_26, cf_26)) hx hb hr hlocks hAe hK hP hD hS rfl dL_snaps_58 (by (try dsimp only); omega) (by (try dsimp only); omega) h
      · have h := h.2 c_34
        refine lv_aload_n (pc := 37) hx hb dL_snaps_37 rfl (lv_at hl 3 rfl) ?_
        refine lv_iconst (pc := 38) (v := 5) hx hb dL_snaps_38 (by decide) ?_
        refine lc_get (pc := 39) (v := (cf_26 5)) hF hP rfl (vp_in_iff.mpr (by decide)) dL_snaps_39 ?_
        obtain ⟨kc_40, ks_40, bc_40, bs_40, ec_40, es_40, h⟩ := h
        refine zSi (pc := 40) (Wd := (WL E qa ca ad wd cI cB cP cT)) (u0 := ((x_26, y_26, g_26), qf_26, cf_26)) [.int (cf_26 5)] hF (kL_bits x_26 y_26 g_26 qf_26 cf_26 (cf_26 5) kc_40 ks_40 hlf h) (cwL_L_bits hts ⟨Nat.le_of_ble_eq_true rfl, Nat.le_of_ble_eq_true rfl⟩) hP hD hS rfl rfl hl.1 (Nat.le_of_ble_eq_true rfl) dL_snaps_40 ⟨by show _ ≤ BC; (try dsimp only); omega, by show _ ≤ BS; (try dsimp only); omega⟩ (fun r_40 u H locs h hP hD hS => ?_)
        obtain ⟨⟨x_40, y_40, g_40⟩, qf_40, cf_40⟩ := u
        have hP : va_P D vwCl (cW (LE qa ca cI qf_40 cf_40 E) ad wd cI cB cP cT (x_40, y_40, g_40)) H := hP
        have hD : va_D A (cW (LE qa ca cI qf_40 cf_40 E) ad wd cI cB cP cT (x_40, y_40, g_40)) := hD
        have hB : ((cells + kc_26) + kc_40) + bc_40 ≤ BC ∧ ((slots + ks_26) + ks_40) + bs_40 ≤ BS := ⟨by omega, by omega⟩
        refine lv_iconst (pc := 43) (v := 5) hx hb dL_snaps_43 (by decide) ?_
        refine lv_icmp_ne (pc := 44) (tgt := 59) hx hb dL_snaps_44 (by decide) (fun c_44 => ?_) (fun c_44 => ?_)
        · have h := h.2 c_44
          refine lv_aload_n (pc := 59) hx hb dL_snaps_59 rfl (lv_at hl 3 rfl) ?_
          refine lv_iconst (pc := 60) (v := 5) hx hb dL_snaps_60 (by decide) ?_
          refine lv_dup2_11 (pc := 61) hx hb dL_snaps_61 rfl rfl ?_
          refine lc_get (pc := 62) (v := (cf_40 5)) hF hP rfl (vp_in_iff.mpr (by decide)) dL_snaps_62 ?_
          refine lv_iconst (pc := 63) (v := 1) hx hb dL_snaps_63 (by decide) ?_
          refine lv_aload_n (pc := 64) hx hb dL_snaps_64 rfl (lv_at hl 3 rfl) ?_
          refine lv_iconst (pc := 65) (v := 3) hx hb dL_snaps_65 (by decide) ?_
          refine lc_get (pc := 66) (v := (cf_40 3)) hF hP rfl (vp_in_iff.mpr (by decide)) dL_snaps_66 ?_
          refine lv_ishl (pc := 67) hx hb dL_snaps_67 ?_
          refine lv_ior (pc := 68) hx hb dL_snaps_68 ?_
          obtain ⟨cf_69, e_cf_69⟩ : ∃ z : Nat → Int32, z = (upd cf_40 5 ((cf_40 5) ||| ((1 : Int32) <<< (((cf_40 3) &&& 31) : Int32)))) := ⟨_, rfl⟩
          replace h := h cf_69 e_cf_69
          refine lc_set (pc := 69) (v := ((cf_40 5) ||| ((1 : Int32) <<< (((cf_40 3) &&& 31) : Int32)))) (f := cf_69) hF hP hD hS e_cf_69.symm (vp_in_iff.mpr (by decide)) dL_snaps_69 (fun H locs hP hD hS => ?_)
          refine lv_aload_n (pc := 70) hx hb dL_snaps_70 rfl (lv_at hl 3 rfl) ?_
          refine lv_iconst (pc := 71) (v := 3) hx hb dL_snaps_71 (by decide) ?_
          refine lv_dup2_11 (pc := 72) hx hb dL_snaps_72 rfl rfl ?_
          refine lc_get (pc := 73) (v := (cf_69 3)) hF hP rfl (vp_in_iff.mpr (by decide)) dL_snaps_73 ?_
          refine lv_iconst (pc := 74) (v := 1) hx hb dL_snaps_74 (by decide) ?_
          refine lv_iadd (pc := 75) hx hb dL_snaps_75 ?_
          obtain ⟨cf_76, e_cf_76⟩ : ∃ z : Nat → Int32, z = (upd cf_69 3 ((cf_69 3) + 1)) := ⟨_, rfl⟩
          replace h := h cf_76 e_cf_76
          refine lc_set (pc := 76) (v := ((cf_69 3) + 1)) (f := cf_76) hF hP hD hS e_cf_76.symm (vp_in_iff.mpr (by decide)) dL_snaps_76 (fun H locs hP hD hS => ?_)
          refine lv_iload_n (pc := 77) hx hb dL_snaps_77 rfl (lv_at hl 0 rfl) ?_
          refine lv_aload_n (pc := 78) hx hb dL_snaps_78 rfl (lv_at hl 3 rfl) ?_
          refine lv_iconst (pc := 79) (v := 3) hx hb dL_snaps_79 (by decide) ?_
          refine lc_get (pc := 80) (v := (cf_76 3)) hF hP rfl (vp_in_iff.mpr (by decide)) dL_snaps_80 ?_
          refine lv_iconst (pc := 81) (v := 1) hx hb dL_snaps_81 (by decide) ?_
          refine lv_isub (pc := 82) hx hb dL_snaps_82 ?_
          refine lv_icmp_ne (pc := 83) (tgt := 103) hx hb dL_snaps_83 (by decide) (fun c_83 => ?_) (fun c_83 => ?_)
          · have h := h.2 c_83
            refine lv_iconst (pc := 103) (v := 0) hx hb dL_snaps_103 (by decide) ?_
            exact zirV (pc := 104) (Wd := WL E qa ca ad wd cI cB cP cT) (u := ((x_40, y_40, g_40), qf_40, cf_76)) hx hb hr hlocks hAe hK hP hD hS rfl dL_snaps_104 (by (try dsimp only); omega) (by (try dsimp only); omega) h
          · have h := h.1 c_83
            refine lv_aload_n (pc := 86) hx hb dL_snaps_86 rfl (lv_at hl 1 rfl) ?_
            refine cVip (pc := 87) (E := LE qa ca cI qf_40 cf_76 E) (x := x_40) (y := y_40) (g := g_40) [] hFc (kX8_doubtful x_40 y_40 g_40 h) (cwL_X8_doubtful hts ⟨Nat.le_of_ble_eq_true rfl, Nat.le_of_ble_eq_true rfl⟩) rfl (cA_S ..) hP hD hS rfl rfl hl.1 (Nat.le_of_ble_eq_true rfl) dL_snaps_87 ⟨by show _ ≤ BC; (try dsimp only); omega, by show _ ≤ BS; (try dsimp only); omega⟩ (fun r_87 H locs h hP hD hS => ?_)
            refine lv_aload_n (pc := 90) hx hb dL_snaps_90 rfl (lv_at hl 3 rfl) ?_
            refine lv_iconst (pc := 91) (v := 5) hx hb dL_snaps_91 (by decide) ?_
            refine lc_get (pc := 92) (v := (cf_76 5)) hF hP rfl (vp_in_iff.mpr (by decide)) dL_snaps_92 ?_
            obtain ⟨kc_93, ks_93, bc_93, bs_93, ec_93, es_93, h⟩ := h
            refine zSi (pc := 93) (Wd := (WL E qa ca ad wd cI cB cP cT)) (u0 := ((x_40, y_40, g_40), qf_40, cf_76)) [.int (cf_76 5)] hF (kL_bits x_40 y_40 g_40 qf_40 cf_76 (cf_76 5) kc_93 ks_93 hlf h) (cwL_L_bits hts ⟨Nat.le_of_ble_eq_true rfl, Nat.le_of_ble_eq_true rfl⟩) hP hD hS rfl rfl hl.1 (Nat.le_of_ble_eq_true rfl) dL_snaps_93 ⟨by show _ ≤ BC; (try dsimp only); omega, by show _ ≤ BS; (try dsimp only); omega⟩ (fun r_93 u H locs h hP hD hS => ?_)
            obtain ⟨⟨x_93, y_93, g_93⟩, qf_93, cf_93⟩ := u
            have hP : va_P D vwCl (cW (LE qa ca cI qf_93 cf_93 E) ad wd cI cB cP cT (x_93, y_93, g_93)) H := hP
            have hD : va_D A (cW (LE qa ca cI qf_93 cf_93 E) ad wd cI cB cP cT (x_93, y_93, g_93)) := hD
            have hB : ((((cells + kc_26) + kc_40) + 0) + kc_93) + bc_93 ≤ BC ∧ ((((slots + ks_26) + ks_40) + 0) + ks_93) + bs_93 ≤ BS := ⟨by omega, by omega⟩
            refine lv_icmp_ne (pc := 96) (tgt := 103) hx hb dL_snaps_96 (by decide) (fun c_96 => ?_) (fun c_96 => ?_)
            · have h := h.2 c_96
              refine lv_iconst (pc := 103) (v := 0) hx hb dL_snaps_103 (by decide) ?_
              exact zirV (pc := 104) (Wd := WL E qa ca ad wd cI cB cP cT) (u := ((x_93, y_93, g_93), qf_93, cf_93)) hx hb hr hlocks hAe hK hP hD hS rfl dL_snaps_104 (by (try dsimp only); omega) (by (try dsimp only); omega) h
            · have h := h.1 c_96
              refine lv_iconst (pc := 99) (v := 1) hx hb dL_snaps_99 (by decide) ?_
              refine lv_goto (pc := 100) (tgt := 104) hx hb dL_snaps_100 (by decide) ?_
              exact zirV (pc := 104) (Wd := WL E qa ca ad wd cI cB cP cT) (u := ((x_93, y_93, g_93), qf_93, cf_93)) hx hb hr hlocks hAe hK hP hD hS rfl dL_snaps_104 (by (try dsimp only); omega) (by (try dsimp only); omega) h
        · have h := h.1 c_44
          refine lv_iload_n (pc := 47) hx hb dL_snaps_47 rfl (lv_at hl 0 rfl) ?_
          refine lv_ldc (pc := 48) (v := (-70008)) hx hb hown (hts _ lK_47) dL_snaps_48 ?_
          refine lv_icmp_ne (pc := 50) (tgt := 57) hx hb dL_snaps_50 (by decide) (fun c_50 => ?_) (fun c_50 => ?_)
          · have h := h.2 c_50
            refine lv_iconst (pc := 57) (v := 0) hx hb dL_snaps_57 (by decide) ?_
            exact zirV (pc := 58) (Wd := WL E qa ca ad wd cI cB cP cT) (u := ((x_40, y_40, g_40), qf_40, cf_40)) hx hb hr hlocks hAe hK hP hD hS rfl dL_snaps_58 (by (try dsimp only); omega) (by (try dsimp only); omega) h
          · have h := h.1 c_50
            refine lv_iconst (pc := 53) (v := 1) hx hb dL_snaps_53 (by decide) ?_
            refine lv_goto (pc := 54) (tgt := 58) hx hb dL_snaps_54 (by decide) ?_
            exact zirV (pc := 58) (Wd := WL E qa ca ad wd cI cB cP cT) (u := ((x_40, y_40, g_40), qf_40, cf_40)) hx hb hr hlocks hAe hK hP hD hS rfl dL_snaps_58 (by (try dsimp only); omega) (by (try dsimp only); omega) h
  unfold wL_snaps at h
  refine lv_iload_n (pc := 0) hx hb dL_snaps_0 rfl (lv_at hl 1 rfl) ?_
  refine lv_iconst (pc := 1) (v := 3) hx hb dL_snaps_1 (by decide) ?_
  refine lv_irem (pc := 2) hx hb dL_snaps_2 (by decide) ?_
  refine lv_if_ne (pc := 3) (tgt := 16) hx hb dL_snaps_3 (by decide) (fun c_3 => ?_) (fun c_3 => ?_)
  · have h := h.2 c_3
    exact J16 x0 y0 g0 qf0 cf0 a1 BC BS h _ _ hB _ _ _ hP hD hS (lv_sub hl [0, 1, 2] rfl)
  · have h := h.1 c_3
    refine lv_aload_n (pc := 6) hx hb dL_snaps_6 rfl (lv_at hl 2 rfl) ?_
    refine lv_iconst (pc := 7) (v := 3) hx hb dL_snaps_7 (by decide) ?_
    refine lc_get (pc := 8) (v := (cf0 3)) hF hP rfl (vp_in_iff.mpr (by decide)) dL_snaps_8 ?_
    refine lv_bipush (pc := 9) (v := 30) hx hb dL_snaps_9 (by decide) ?_
    refine lv_icmp_ne (pc := 11) (tgt := 16) hx hb dL_snaps_11 (by decide) (fun c_11 => ?_) (fun c_11 => ?_)
    · have h := h.2 c_11
      exact J16 x0 y0 g0 qf0 cf0 a1 BC BS h _ _ hB _ _ _ hP hD hS (lv_sub hl [0, 1, 2] rfl)
    · have h := h.1 c_11
      refine lv_iconst (pc := 14) (v := 1) hx hb dL_snaps_14 (by decide) ?_
      exact zirV (pc := 15) (Wd := WL E qa ca ad wd cI cB cP cT) (u := ((x0, y0, g0), qf0, cf0)) hx hb hr hlocks hAe hK hP hD hS rfl dL_snaps_15 (by (try dsimp only); omega) (by (try dsimp only); omega) h
