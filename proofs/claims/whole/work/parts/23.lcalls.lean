def wL_type (x : Nat → Nat → Int32) (y : Nat → Nat → Nat) (g : Nat → Nat → Nat → Int32) (f : Nat → Int64) (a1 : Int32) (bc bs : Nat) (Φ : Int32 → (Nat → Nat → Int32) → (Nat → Nat → Nat) → (Nat → Nat → Nat → Int32) → (Nat → Int64) → Prop) : Prop := wX8_type x y g a1 bc bs (fun r x1 y1 g1 => Φ 0 x1 y1 g1 (vp_updL f (0 : Int32).toNatClampNeg r.toInt64)) (fun E2 x1 y1 g1 => (E2 = "java/lang/IllegalArgumentException" ∧ Φ 1 x1 y1 g1 f) ∨ (E2 = "java/lang/IllegalStateException" ∧ Φ 2 x1 y1 g1 f))
set_option maxRecDepth 100000 in
set_option maxHeartbeats 1000000 in
theorem kL_type {l : Launch} {D : va_G} {qo : Nat} {cJ : ClassId} {ad : Nat → Nat → Nat} {wd sk : Nat → Nat} {cI cB cP cT : ClassId} {sz : Nat} (x0 : Nat → Nat → Int32) (y0 : Nat → Nat → Nat) (g0 : Nat → Nat → Nat → Int32) (f0 : Nat → Int64) (a1 : Int32) (BC BS : Nat) {Φ : Int32 → (Nat → Nat → Int32) → (Nat → Nat → Nat) → (Nat → Nat → Nat → Int32) → (Nat → Int64) → Prop} (hlf : l.stackTraces = false) (h : wL_type x0 y0 g0 f0 a1 BC BS Φ) : vx_Met l yL_type (zwsH yL_type cL_type 4 (some .int) [(0, 9, 12, 13), (0, 9, 15, 15)]) { frames := 7, cells := BC, slots := BS, locals := 193 } (zPc D (lTy cI cB cP cT cJ) (lX wd sk) (cW [(qo, .inl (cJ, 1, .inr (.inl f0)))] ad wd cI cB cP cT (x0, y0, g0)) [.ref (ad 0 0), .int a1, .ref qo] sz) (zQi D (lTy cI cB cP cT cJ) (fun w : cS × (Nat → Int64) => cW [(qo, .inl (cJ, 1, .inr (.inl w.2)))] ad wd cI cB cP cT w.1) (fun r w => Φ r w.1.1 w.1.2.1 w.1.2.2 w.2) (cW [(qo, .inl (cJ, 1, .inr (.inl f0)))] ad wd cI cB cP cT (x0, y0, g0)) sz) (fun _ _ _ => False) BC BS (va_A (cW [(qo, .inl (cJ, 1, .inr (.inl f0)))] ad wd cI cB cP cT (x0, y0, g0)) sz) := by
  refine zMetH (by decide) (Nat.le_of_ble_eq_true rfl) ?_
  intro p e s m args below meth c A hx hb hr hml hown hts hlocks htab hsz hAe hA hS hP hK hD hX ls hl
  subst hsz
  have hF : zFx p s m args c cL_type RL A D (cTy cI cB cP cT) (cX wd sk) 4 := ⟨hx, hb, hml, hown, hts, hA, hK.sub [0, 1, 2, 3] rfl, cX_cl wd sk, hX.1⟩
  have hl : lv_has ls 4 [(0, .ref (ad 0 0)), (1, .int a1), (2, .ref qo)] := hl
  unfold wL_type at h
  refine lv_aload_n (pc := 0) hx hb dL_type_0 rfl (lv_at hl 2 rfl) ?_
  refine lv_iconst (pc := 1) (v := 0) hx hb dL_type_1 (by decide) ?_
  refine lv_aload_n (pc := 2) hx hb dL_type_2 rfl (lv_at hl 0 rfl) ?_
  refine lv_iload_n (pc := 3) hx hb dL_type_3 rfl (lv_at hl 1 rfl) ?_
  refine lCall (pc := 4) (x := x0) (y := y0) (g := g0) [.int a1] hF (kX8_type x0 y0 g0 a1 BC BS hlf h) (cwL_X8_type hts ⟨Nat.le_of_ble_eq_true rfl, Nat.le_of_ble_eq_true rfl⟩) (d_rP hF hP (ci := 11) (q0 := 0) rfl (cA_S ..)) hP hD hS rfl rfl hl.1 (Nat.le_of_ble_eq_true rfl) dL_type_4 ⟨by show _ ≤ BC; (try dsimp only); omega, by show _ ≤ BS; (try dsimp only); omega⟩ (fun E2 ce q9 x1 y1 g1 H locs h hP hD hS hce hcv hcl => ?_) (fun r x1 y1 g1 H locs h hP hD hS => ?_)
  · rcases h with ⟨rfl, h⟩ | ⟨rfl, h⟩
    · refine vx_catch (name := "java/lang/IllegalArgumentException") hown (tableOf []) ⟨0, 9, 12, 13⟩ (tableOf [(0, 9, 15, 15)]) (by rw [htab]; rfl) (fun _ h9 => absurd h9 List.not_mem_nil) (by decide) (by decide) (hts _ clL_13) (va_Nw.use rfl (hX.1.2.2.2.1 _ xcast_IAE)) hce hcv hcl ?_
      refine lv_astore_n (pc := 12) (lv' := [(3, .ref q9), (0, .ref (ad 0 0)), (1, .int a1), (2, .ref qo)]) hx hb dL_type_12 rfl hl (by decide) rfl (fun ls hl => ?_)
      refine lv_iconst (pc := 13) (v := 1) hx hb dL_type_13 (by decide) ?_
      exact vx_ret (zirV (pc := 14) (Wd := (fun w : cS × (Nat → Int64) => cW [(qo, .inl (cJ, 1, .inr (.inl w.2)))] ad wd cI cB cP cT w.1)) (u := ((x1, y1, g1), f0)) hx hb hr hlocks hAe hK hP hD hS rfl dL_type_14 (by (try dsimp only); omega) (by (try dsimp only); omega) h)
    · refine vx_catch (name := "java/lang/IllegalStateException") hown (tableOf [(0, 9, 12, 13)]) ⟨0, 9, 15, 15⟩ (tableOf []) (by rw [htab]; rfl) (List.forall_mem_cons.mpr ⟨Or.inr ⟨by decide, "java/lang/IllegalArgumentException", hts _ clL_13, hX.2 _ (by decide +kernel) _ (by decide +kernel) (by decide +kernel)⟩, (fun _ h9 => absurd h9 List.not_mem_nil)⟩) (by decide) (by decide) (hts _ clL_15) (va_Nw.use rfl (hX.1.2.2.2.1 _ xcast_ISE)) hce hcv hcl ?_
      refine lv_astore_n (pc := 15) (lv' := [(3, .ref q9), (0, .ref (ad 0 0)), (1, .int a1), (2, .ref qo)]) hx hb dL_type_15 rfl hl (by decide) rfl (fun ls hl => ?_)
      refine lv_iconst (pc := 16) (v := 2) hx hb dL_type_16 (by decide) ?_
      exact vx_ret (zirV (pc := 17) (Wd := (fun w : cS × (Nat → Int64) => cW [(qo, .inl (cJ, 1, .inr (.inl w.2)))] ad wd cI cB cP cT w.1)) (u := ((x1, y1, g1), f0)) hx hb hr hlocks hAe hK hP hD hS rfl dL_type_17 (by (try dsimp only); omega) (by (try dsimp only); omega) h)
  · refine lv_i2l (pc := 7) hx hb dL_type_7 rfl ?_
    refine va_last (pc := 8) (i := 0) hx hb hK hP hD hS 56 4 (lA ..) rfl (vp_in_iff.mpr (by decide)) dL_type_8 (fun H locs hP hD hS => ?_)
    rw [lU] at hP hD
    refine lv_goto (pc := 9) (tgt := 18) hx hb dL_type_9 (by decide) ?_
    refine lv_iconst (pc := 18) (v := 0) hx hb dL_type_18 (by decide) ?_
    exact vx_ret (zirV (pc := 19) (Wd := (fun w : cS × (Nat → Int64) => cW [(qo, .inl (cJ, 1, .inr (.inl w.2)))] ad wd cI cB cP cT w.1)) (u := ((x1, y1, g1), vp_updL f0 (0 : Int32).toNatClampNeg r.toInt64)) hx hb hr hlocks hAe hK hP hD hS rfl dL_type_19 (by (try dsimp only); omega) (by (try dsimp only); omega) h)

def wL_plan (x : Nat → Nat → Int32) (y : Nat → Nat → Nat) (g : Nat → Nat → Nat → Int32) (f : Nat → Int64) (a1 : Int32) (bc bs : Nat) (Φ : Int32 → (Nat → Nat → Int32) → (Nat → Nat → Nat) → (Nat → Nat → Nat → Int32) → (Nat → Int64) → Prop) : Prop := wX8_plan x y g a1 bc bs (fun r x1 y1 g1 => Φ 0 x1 y1 g1 (vp_updL f (0 : Int32).toNatClampNeg r.toInt64)) (fun E2 x1 y1 g1 => (E2 = "java/lang/IllegalArgumentException" ∧ Φ 1 x1 y1 g1 f) ∨ (E2 = "java/lang/IllegalStateException" ∧ Φ 2 x1 y1 g1 f))
set_option maxRecDepth 100000 in
set_option maxHeartbeats 1000000 in
theorem kL_plan {l : Launch} {D : va_G} {qo : Nat} {cJ : ClassId} {ad : Nat → Nat → Nat} {wd sk : Nat → Nat} {cI cB cP cT : ClassId} {sz : Nat} (x0 : Nat → Nat → Int32) (y0 : Nat → Nat → Nat) (g0 : Nat → Nat → Nat → Int32) (f0 : Nat → Int64) (a1 : Int32) (BC BS : Nat) {Φ : Int32 → (Nat → Nat → Int32) → (Nat → Nat → Nat) → (Nat → Nat → Nat → Int32) → (Nat → Int64) → Prop} (hlf : l.stackTraces = false) (h : wL_plan x0 y0 g0 f0 a1 BC BS Φ) (hb1 : a1 = 0 ∨ a1 = 1) : vx_Met l yL_plan (zwsH yL_plan cL_plan 4 (some .int) [(0, 9, 12, 13), (0, 9, 15, 15)]) { frames := 9, cells := BC, slots := BS, locals := 216 } (zPc D (lTy cI cB cP cT cJ) (lX wd sk) (cW [(qo, .inl (cJ, 1, .inr (.inl f0)))] ad wd cI cB cP cT (x0, y0, g0)) [.ref (ad 0 0), .int a1, .ref qo] sz) (zQi D (lTy cI cB cP cT cJ) (fun w : cS × (Nat → Int64) => cW [(qo, .inl (cJ, 1, .inr (.inl w.2)))] ad wd cI cB cP cT w.1) (fun r w => Φ r w.1.1 w.1.2.1 w.1.2.2 w.2) (cW [(qo, .inl (cJ, 1, .inr (.inl f0)))] ad wd cI cB cP cT (x0, y0, g0)) sz) (fun _ _ _ => False) BC BS (va_A (cW [(qo, .inl (cJ, 1, .inr (.inl f0)))] ad wd cI cB cP cT (x0, y0, g0)) sz) := by
  refine zMetH (by decide) (Nat.le_of_ble_eq_true rfl) ?_
  intro p e s m args below meth c A hx hb hr hml hown hts hlocks htab hsz hAe hA hS hP hK hD hX ls hl
  subst hsz
  have hF : zFx p s m args c cL_plan RL A D (cTy cI cB cP cT) (cX wd sk) 4 := ⟨hx, hb, hml, hown, hts, hA, hK.sub [0, 1, 2, 3] rfl, cX_cl wd sk, hX.1⟩
  have hl : lv_has ls 4 [(0, .ref (ad 0 0)), (1, .int a1), (2, .ref qo)] := hl
  unfold wL_plan at h
  refine lv_aload_n (pc := 0) hx hb dL_plan_0 rfl (lv_at hl 2 rfl) ?_
  refine lv_iconst (pc := 1) (v := 0) hx hb dL_plan_1 (by decide) ?_
  refine lv_aload_n (pc := 2) hx hb dL_plan_2 rfl (lv_at hl 0 rfl) ?_
  refine lv_iload_n (pc := 3) hx hb dL_plan_3 rfl (lv_at hl 1 rfl) ?_
  refine lCall (pc := 4) (x := x0) (y := y0) (g := g0) [.int a1] hF (kX8_plan x0 y0 g0 a1 BC BS hlf h hb1) (cwL_X8_plan hts ⟨Nat.le_of_ble_eq_true rfl, Nat.le_of_ble_eq_true rfl⟩) (d_rP hF hP (ci := 11) (q0 := 0) rfl (cA_S ..)) hP hD hS rfl rfl hl.1 (Nat.le_of_ble_eq_true rfl) dL_plan_4 ⟨by show _ ≤ BC; (try dsimp only); omega, by show _ ≤ BS; (try dsimp only); omega⟩ (fun E2 ce q9 x1 y1 g1 H locs h hP hD hS hce hcv hcl => ?_) (fun r x1 y1 g1 H locs h hP hD hS => ?_)
  · rcases h with ⟨rfl, h⟩ | ⟨rfl, h⟩
    · refine vx_catch (name := "java/lang/IllegalArgumentException") hown (tableOf []) ⟨0, 9, 12, 13⟩ (tableOf [(0, 9, 15, 15)]) (by rw [htab]; rfl) (fun _ h9 => absurd h9 List.not_mem_nil) (by decide) (by decide) (hts _ clL_13) (va_Nw.use rfl (hX.1.2.2.2.1 _ xcast_IAE)) hce hcv hcl ?_
      refine lv_astore_n (pc := 12) (lv' := [(3, .ref q9), (0, .ref (ad 0 0)), (1, .int a1), (2, .ref qo)]) hx hb dL_plan_12 rfl hl (by decide) rfl (fun ls hl => ?_)
      refine lv_iconst (pc := 13) (v := 1) hx hb dL_plan_13 (by decide) ?_
      exact vx_ret (zirV (pc := 14) (Wd := (fun w : cS × (Nat → Int64) => cW [(qo, .inl (cJ, 1, .inr (.inl w.2)))] ad wd cI cB cP cT w.1)) (u := ((x1, y1, g1), f0)) hx hb hr hlocks hAe hK hP hD hS rfl dL_plan_14 (by (try dsimp only); omega) (by (try dsimp only); omega) h)
    · refine vx_catch (name := "java/lang/IllegalStateException") hown (tableOf [(0, 9, 12, 13)]) ⟨0, 9, 15, 15⟩ (tableOf []) (by rw [htab]; rfl) (List.forall_mem_cons.mpr ⟨Or.inr ⟨by decide, "java/lang/IllegalArgumentException", hts _ clL_13, hX.2 _ (by decide +kernel) _ (by decide +kernel) (by decide +kernel)⟩, (fun _ h9 => absurd h9 List.not_mem_nil)⟩) (by decide) (by decide) (hts _ clL_15) (va_Nw.use rfl (hX.1.2.2.2.1 _ xcast_ISE)) hce hcv hcl ?_
      refine lv_astore_n (pc := 15) (lv' := [(3, .ref q9), (0, .ref (ad 0 0)), (1, .int a1), (2, .ref qo)]) hx hb dL_plan_15 rfl hl (by decide) rfl (fun ls hl => ?_)
      refine lv_iconst (pc := 16) (v := 2) hx hb dL_plan_16 (by decide) ?_
      exact vx_ret (zirV (pc := 17) (Wd := (fun w : cS × (Nat → Int64) => cW [(qo, .inl (cJ, 1, .inr (.inl w.2)))] ad wd cI cB cP cT w.1)) (u := ((x1, y1, g1), f0)) hx hb hr hlocks hAe hK hP hD hS rfl dL_plan_17 (by (try dsimp only); omega) (by (try dsimp only); omega) h)
  · refine lv_i2l (pc := 7) hx hb dL_plan_7 rfl ?_
    refine va_last (pc := 8) (i := 0) hx hb hK hP hD hS 56 4 (lA ..) rfl (vp_in_iff.mpr (by decide)) dL_plan_8 (fun H locs hP hD hS => ?_)
    rw [lU] at hP hD
    refine lv_goto (pc := 9) (tgt := 18) hx hb dL_plan_9 (by decide) ?_
    refine lv_iconst (pc := 18) (v := 0) hx hb dL_plan_18 (by decide) ?_
    exact vx_ret (zirV (pc := 19) (Wd := (fun w : cS × (Nat → Int64) => cW [(qo, .inl (cJ, 1, .inr (.inl w.2)))] ad wd cI cB cP cT w.1)) (u := ((x1, y1, g1), vp_updL f0 (0 : Int32).toNatClampNeg r.toInt64)) hx hb hr hlocks hAe hK hP hD hS rfl dL_plan_19 (by (try dsimp only); omega) (by (try dsimp only); omega) h)

def wL_event (x : Nat → Nat → Int32) (y : Nat → Nat → Nat) (g : Nat → Nat → Nat → Int32) (f : Nat → Int64) (a1 : Int32) (a2 : Int32) (a3 : Int32) (a4 : Int32) (bc bs : Nat) (Φ : Int32 → (Nat → Nat → Int32) → (Nat → Nat → Nat) → (Nat → Nat → Nat → Int32) → (Nat → Int64) → Prop) : Prop := wX8_event x y g a1 a2 a3 a4 bc bs (fun r x1 y1 g1 => Φ 0 x1 y1 g1 (vp_updL f (0 : Int32).toNatClampNeg r.toInt64)) (fun E2 x1 y1 g1 => (E2 = "java/lang/IndexOutOfBoundsException" ∧ Φ 1 x1 y1 g1 f) ∨ (E2 = "java/lang/IllegalArgumentException" ∧ Φ 2 x1 y1 g1 f) ∨ (E2 = "java/lang/IllegalStateException" ∧ Φ 3 x1 y1 g1 f))
set_option maxRecDepth 100000 in
set_option maxHeartbeats 1000000 in
theorem kL_event {l : Launch} {D : va_G} {qo : Nat} {cJ : ClassId} {ad : Nat → Nat → Nat} {wd sk : Nat → Nat} {cI cB cP cT : ClassId} {sz : Nat} (x0 : Nat → Nat → Int32) (y0 : Nat → Nat → Nat) (g0 : Nat → Nat → Nat → Int32) (f0 : Nat → Int64) (a1 : Int32) (a2 : Int32) (a3 : Int32) (a4 : Int32) (BC BS : Nat) {Φ : Int32 → (Nat → Nat → Int32) → (Nat → Nat → Nat) → (Nat → Nat → Nat → Int32) → (Nat → Int64) → Prop} (hlf : l.stackTraces = false) (h : wL_event x0 y0 g0 f0 a1 a2 a3 a4 BC BS Φ) : vx_Met l yL_event (zwsH yL_event cL_event 7 (some .int) [(0, 14, 17, 25), (0, 14, 21, 13), (0, 14, 25, 15)]) { frames := 7, cells := BC, slots := BS, locals := 155 } (zPc D (lTy cI cB cP cT cJ) (lX wd sk) (cW [(qo, .inl (cJ, 1, .inr (.inl f0)))] ad wd cI cB cP cT (x0, y0, g0)) [.ref (ad 0 0), .int a1, .int a2, .int a3, .int a4, .ref qo] sz) (zQi D (lTy cI cB cP cT cJ) (fun w : cS × (Nat → Int64) => cW [(qo, .inl (cJ, 1, .inr (.inl w.2)))] ad wd cI cB cP cT w.1) (fun r w => Φ r w.1.1 w.1.2.1 w.1.2.2 w.2) (cW [(qo, .inl (cJ, 1, .inr (.inl f0)))] ad wd cI cB cP cT (x0, y0, g0)) sz) (fun _ _ _ => False) BC BS (va_A (cW [(qo, .inl (cJ, 1, .inr (.inl f0)))] ad wd cI cB cP cT (x0, y0, g0)) sz) := by
  refine zMetH (by decide) (Nat.le_of_ble_eq_true rfl) ?_
  intro p e s m args below meth c A hx hb hr hml hown hts hlocks htab hsz hAe hA hS hP hK hD hX ls hl
  subst hsz
  have hF : zFx p s m args c cL_event RL A D (cTy cI cB cP cT) (cX wd sk) 7 := ⟨hx, hb, hml, hown, hts, hA, hK.sub [0, 1, 2, 3] rfl, cX_cl wd sk, hX.1⟩
  have hl : lv_has ls 7 [(0, .ref (ad 0 0)), (1, .int a1), (2, .int a2), (3, .int a3), (4, .int a4), (5, .ref qo)] := hl
  unfold wL_event at h
  refine lv_aload (pc := 0) hx hb dL_event_0 (lv_at hl 5 rfl) ?_
  refine lv_iconst (pc := 2) (v := 0) hx hb dL_event_2 (by decide) ?_
  refine lv_aload_n (pc := 3) hx hb dL_event_3 rfl (lv_at hl 0 rfl) ?_
  refine lv_iload_n (pc := 4) hx hb dL_event_4 rfl (lv_at hl 1 rfl) ?_
  refine lv_iload_n (pc := 5) hx hb dL_event_5 rfl (lv_at hl 2 rfl) ?_
  refine lv_iload_n (pc := 6) hx hb dL_event_6 rfl (lv_at hl 3 rfl) ?_
  refine lv_iload (pc := 7) hx hb dL_event_7 (lv_at hl 4 rfl) ?_
  refine lCall (pc := 9) (x := x0) (y := y0) (g := g0) [.int a1, .int a2, .int a3, .int a4] hF (kX8_event x0 y0 g0 a1 a2 a3 a4 BC BS hlf h) (cwL_X8_event hts ⟨Nat.le_of_ble_eq_true rfl, Nat.le_of_ble_eq_true rfl⟩) (d_rP hF hP (ci := 11) (q0 := 0) rfl (cA_S ..)) hP hD hS rfl rfl hl.1 (Nat.le_of_ble_eq_true rfl) dL_event_9 ⟨by show _ ≤ BC; (try dsimp only); omega, by show _ ≤ BS; (try dsimp only); omega⟩ (fun E2 ce q9 x1 y1 g1 H locs h hP hD hS hce hcv hcl => ?_) (fun r x1 y1 g1 H locs h hP hD hS => ?_)
  · rcases h with ⟨rfl, h⟩ | ⟨rfl, h⟩ | ⟨rfl, h⟩
    · refine vx_catch (name := "java/lang/IndexOutOfBoundsException") hown (tableOf []) ⟨0, 14, 17, 25⟩ (tableOf [(0, 14, 21, 13), (0, 14, 25, 15)]) (by rw [htab]; rfl) (fun _ h9 => absurd h9 List.not_mem_nil) (by decide) (by decide) (hts _ clL_25) (va_Nw.use rfl (hX.1.2.2.2.1 _ xcast_IOB)) hce hcv hcl ?_
      refine lv_astore (pc := 17) (lv' := [(6, .ref q9), (0, .ref (ad 0 0)), (1, .int a1), (2, .int a2), (3, .int a3), (4, .int a4), (5, .ref qo)]) hx hb dL_event_17 hl (by decide) rfl (fun ls hl => ?_)
      refine lv_iconst (pc := 19) (v := 1) hx hb dL_event_19 (by decide) ?_
      exact vx_ret (zirV (pc := 20) (Wd := (fun w : cS × (Nat → Int64) => cW [(qo, .inl (cJ, 1, .inr (.inl w.2)))] ad wd cI cB cP cT w.1)) (u := ((x1, y1, g1), f0)) hx hb hr hlocks hAe hK hP hD hS rfl dL_event_20 (by (try dsimp only); omega) (by (try dsimp only); omega) h)
    · refine vx_catch (name := "java/lang/IllegalArgumentException") hown (tableOf [(0, 14, 17, 25)]) ⟨0, 14, 21, 13⟩ (tableOf [(0, 14, 25, 15)]) (by rw [htab]; rfl) (List.forall_mem_cons.mpr ⟨Or.inr ⟨by decide, "java/lang/IndexOutOfBoundsException", hts _ clL_25, hX.2 _ (by decide +kernel) _ (by decide +kernel) (by decide +kernel)⟩, (fun _ h9 => absurd h9 List.not_mem_nil)⟩) (by decide) (by decide) (hts _ clL_13) (va_Nw.use rfl (hX.1.2.2.2.1 _ xcast_IAE)) hce hcv hcl ?_
      refine lv_astore (pc := 21) (lv' := [(6, .ref q9), (0, .ref (ad 0 0)), (1, .int a1), (2, .int a2), (3, .int a3), (4, .int a4), (5, .ref qo)]) hx hb dL_event_21 hl (by decide) rfl (fun ls hl => ?_)
      refine lv_iconst (pc := 23) (v := 2) hx hb dL_event_23 (by decide) ?_
      exact vx_ret (zirV (pc := 24) (Wd := (fun w : cS × (Nat → Int64) => cW [(qo, .inl (cJ, 1, .inr (.inl w.2)))] ad wd cI cB cP cT w.1)) (u := ((x1, y1, g1), f0)) hx hb hr hlocks hAe hK hP hD hS rfl dL_event_24 (by (try dsimp only); omega) (by (try dsimp only); omega) h)
    · refine vx_catch (name := "java/lang/IllegalStateException") hown (tableOf [(0, 14, 17, 25), (0, 14, 21, 13)]) ⟨0, 14, 25, 15⟩ (tableOf []) (by rw [htab]; rfl) (List.forall_mem_cons.mpr ⟨Or.inr ⟨by decide, "java/lang/IndexOutOfBoundsException", hts _ clL_25, hX.2 _ (by decide +kernel) _ (by decide +kernel) (by decide +kernel)⟩, (List.forall_mem_cons.mpr ⟨Or.inr ⟨by decide, "java/lang/IllegalArgumentException", hts _ clL_13, hX.2 _ (by decide +kernel) _ (by decide +kernel) (by decide +kernel)⟩, (fun _ h9 => absurd h9 List.not_mem_nil)⟩)⟩) (by decide) (by decide) (hts _ clL_15) (va_Nw.use rfl (hX.1.2.2.2.1 _ xcast_ISE)) hce hcv hcl ?_
      refine lv_astore (pc := 25) (lv' := [(6, .ref q9), (0, .ref (ad 0 0)), (1, .int a1), (2, .int a2), (3, .int a3), (4, .int a4), (5, .ref qo)]) hx hb dL_event_25 hl (by decide) rfl (fun ls hl => ?_)
      refine lv_iconst (pc := 27) (v := 3) hx hb dL_event_27 (by decide) ?_
      exact vx_ret (zirV (pc := 28) (Wd := (fun w : cS × (Nat → Int64) => cW [(qo, .inl (cJ, 1, .inr (.inl w.2)))] ad wd cI cB cP cT w.1)) (u := ((x1, y1, g1), f0)) hx hb hr hlocks hAe hK hP hD hS rfl dL_event_28 (by (try dsimp only); omega) (by (try dsimp only); omega) h)
  · refine lv_i2l (pc := 12) hx hb dL_event_12 rfl ?_
    refine va_last (pc := 13) (i := 0) hx hb hK hP hD hS 56 4 (lA ..) rfl (vp_in_iff.mpr (by decide)) dL_event_13 (fun H locs hP hD hS => ?_)
    rw [lU] at hP hD
    refine lv_goto (pc := 14) (tgt := 29) hx hb dL_event_14 (by decide) ?_
    refine lv_iconst (pc := 29) (v := 0) hx hb dL_event_29 (by decide) ?_
    exact vx_ret (zirV (pc := 30) (Wd := (fun w : cS × (Nat → Int64) => cW [(qo, .inl (cJ, 1, .inr (.inl w.2)))] ad wd cI cB cP cT w.1)) (u := ((x1, y1, g1), vp_updL f0 (0 : Int32).toNatClampNeg r.toInt64)) hx hb hr hlocks hAe hK hP hD hS rfl dL_event_30 (by (try dsimp only); omega) (by (try dsimp only); omega) h)

def wL_bound (x : Nat → Nat → Int32) (y : Nat → Nat → Nat) (g : Nat → Nat → Nat → Int32) (f : Nat → Int64) (a1 : Int32) (a2 : Int32) (bc bs : Nat) (Φ : Int32 → (Nat → Nat → Int32) → (Nat → Nat → Nat) → (Nat → Nat → Nat → Int32) → (Nat → Int64) → Prop) : Prop := wX8_bound x y g a1 a2 bc bs (fun r x1 y1 g1 => Φ 0 x1 y1 g1 (vp_updL f (0 : Int32).toNatClampNeg r.toInt64)) (fun E2 x1 y1 g1 => (E2 = "java/lang/IndexOutOfBoundsException" ∧ Φ 1 x1 y1 g1 f) ∨ (E2 = "java/lang/IllegalArgumentException" ∧ Φ 2 x1 y1 g1 f))
set_option maxRecDepth 100000 in
set_option maxHeartbeats 1000000 in
theorem kL_bound {l : Launch} {D : va_G} {qo : Nat} {cJ : ClassId} {ad : Nat → Nat → Nat} {wd sk : Nat → Nat} {cI cB cP cT : ClassId} {sz : Nat} (x0 : Nat → Nat → Int32) (y0 : Nat → Nat → Nat) (g0 : Nat → Nat → Nat → Int32) (f0 : Nat → Int64) (a1 : Int32) (a2 : Int32) (BC BS : Nat) {Φ : Int32 → (Nat → Nat → Int32) → (Nat → Nat → Nat) → (Nat → Nat → Nat → Int32) → (Nat → Int64) → Prop} (hlf : l.stackTraces = false) (h : wL_bound x0 y0 g0 f0 a1 a2 BC BS Φ) : vx_Met l yL_bound (zwsH yL_bound cL_bound 5 (some .int) [(0, 10, 13, 25), (0, 10, 17, 13)]) { frames := 7, cells := BC, slots := BS, locals := 143 } (zPc D (lTy cI cB cP cT cJ) (lX wd sk) (cW [(qo, .inl (cJ, 1, .inr (.inl f0)))] ad wd cI cB cP cT (x0, y0, g0)) [.ref (ad 0 0), .int a1, .int a2, .ref qo] sz) (zQi D (lTy cI cB cP cT cJ) (fun w : cS × (Nat → Int64) => cW [(qo, .inl (cJ, 1, .inr (.inl w.2)))] ad wd cI cB cP cT w.1) (fun r w => Φ r w.1.1 w.1.2.1 w.1.2.2 w.2) (cW [(qo, .inl (cJ, 1, .inr (.inl f0)))] ad wd cI cB cP cT (x0, y0, g0)) sz) (fun _ _ _ => False) BC BS (va_A (cW [(qo, .inl (cJ, 1, .inr (.inl f0)))] ad wd cI cB cP cT (x0, y0, g0)) sz) := by
  refine zMetH (by decide) (Nat.le_of_ble_eq_true rfl) ?_
  intro p e s m args below meth c A hx hb hr hml hown hts hlocks htab hsz hAe hA hS hP hK hD hX ls hl
  subst hsz
  have hF : zFx p s m args c cL_bound RL A D (cTy cI cB cP cT) (cX wd sk) 5 := ⟨hx, hb, hml, hown, hts, hA, hK.sub [0, 1, 2, 3] rfl, cX_cl wd sk, hX.1⟩
  have hl : lv_has ls 5 [(0, .ref (ad 0 0)), (1, .int a1), (2, .int a2), (3, .ref qo)] := hl
  unfold wL_bound at h
  refine lv_aload_n (pc := 0) hx hb dL_bound_0 rfl (lv_at hl 3 rfl) ?_
  refine lv_iconst (pc := 1) (v := 0) hx hb dL_bound_1 (by decide) ?_
  refine lv_aload_n (pc := 2) hx hb dL_bound_2 rfl (lv_at hl 0 rfl) ?_
  refine lv_iload_n (pc := 3) hx hb dL_bound_3 rfl (lv_at hl 1 rfl) ?_
  refine lv_iload_n (pc := 4) hx hb dL_bound_4 rfl (lv_at hl 2 rfl) ?_
  refine lCall (pc := 5) (x := x0) (y := y0) (g := g0) [.int a1, .int a2] hF (kX8_bound x0 y0 g0 a1 a2 BC BS hlf h) (cwL_X8_bound hts ⟨Nat.le_of_ble_eq_true rfl, Nat.le_of_ble_eq_true rfl⟩) (d_rP hF hP (ci := 11) (q0 := 0) rfl (cA_S ..)) hP hD hS rfl rfl hl.1 (Nat.le_of_ble_eq_true rfl) dL_bound_5 ⟨by show _ ≤ BC; (try dsimp only); omega, by show _ ≤ BS; (try dsimp only); omega⟩ (fun E2 ce q9 x1 y1 g1 H locs h hP hD hS hce hcv hcl => ?_) (fun r x1 y1 g1 H locs h hP hD hS => ?_)
  · rcases h with ⟨rfl, h⟩ | ⟨rfl, h⟩
    · refine vx_catch (name := "java/lang/IndexOutOfBoundsException") hown (tableOf []) ⟨0, 10, 13, 25⟩ (tableOf [(0, 10, 17, 13)]) (by rw [htab]; rfl) (fun _ h9 => absurd h9 List.not_mem_nil) (by decide) (by decide) (hts _ clL_25) (va_Nw.use rfl (hX.1.2.2.2.1 _ xcast_IOB)) hce hcv hcl ?_
      refine lv_astore (pc := 13) (lv' := [(4, .ref q9), (0, .ref (ad 0 0)), (1, .int a1), (2, .int a2), (3, .ref qo)]) hx hb dL_bound_13 hl (by decide) rfl (fun ls hl => ?_)
      refine lv_iconst (pc := 15) (v := 1) hx hb dL_bound_15 (by decide) ?_
      exact vx_ret (zirV (pc := 16) (Wd := (fun w : cS × (Nat → Int64) => cW [(qo, .inl (cJ, 1, .inr (.inl w.2)))] ad wd cI cB cP cT w.1)) (u := ((x1, y1, g1), f0)) hx hb hr hlocks hAe hK hP hD hS rfl dL_bound_16 (by (try dsimp only); omega) (by (try dsimp only); omega) h)
    · refine vx_catch (name := "java/lang/IllegalArgumentException") hown (tableOf [(0, 10, 13, 25)]) ⟨0, 10, 17, 13⟩ (tableOf []) (by rw [htab]; rfl) (List.forall_mem_cons.mpr ⟨Or.inr ⟨by decide, "java/lang/IndexOutOfBoundsException", hts _ clL_25, hX.2 _ (by decide +kernel) _ (by decide +kernel) (by decide +kernel)⟩, (fun _ h9 => absurd h9 List.not_mem_nil)⟩) (by decide) (by decide) (hts _ clL_13) (va_Nw.use rfl (hX.1.2.2.2.1 _ xcast_IAE)) hce hcv hcl ?_
      refine lv_astore (pc := 17) (lv' := [(4, .ref q9), (0, .ref (ad 0 0)), (1, .int a1), (2, .int a2), (3, .ref qo)]) hx hb dL_bound_17 hl (by decide) rfl (fun ls hl => ?_)
      refine lv_iconst (pc := 19) (v := 2) hx hb dL_bound_19 (by decide) ?_
      exact vx_ret (zirV (pc := 20) (Wd := (fun w : cS × (Nat → Int64) => cW [(qo, .inl (cJ, 1, .inr (.inl w.2)))] ad wd cI cB cP cT w.1)) (u := ((x1, y1, g1), f0)) hx hb hr hlocks hAe hK hP hD hS rfl dL_bound_20 (by (try dsimp only); omega) (by (try dsimp only); omega) h)
  · refine lv_i2l (pc := 8) hx hb dL_bound_8 rfl ?_
    refine va_last (pc := 9) (i := 0) hx hb hK hP hD hS 56 4 (lA ..) rfl (vp_in_iff.mpr (by decide)) dL_bound_9 (fun H locs hP hD hS => ?_)
    rw [lU] at hP hD
    refine lv_goto (pc := 10) (tgt := 21) hx hb dL_bound_10 (by decide) ?_
    refine lv_iconst (pc := 21) (v := 0) hx hb dL_bound_21 (by decide) ?_
    exact vx_ret (zirV (pc := 22) (Wd := (fun w : cS × (Nat → Int64) => cW [(qo, .inl (cJ, 1, .inr (.inl w.2)))] ad wd cI cB cP cT w.1)) (u := ((x1, y1, g1), vp_updL f0 (0 : Int32).toNatClampNeg r.toInt64)) hx hb hr hlocks hAe hK hP hD hS rfl dL_bound_22 (by (try dsimp only); omega) (by (try dsimp only); omega) h)

def wL_idle (x : Nat → Nat → Int32) (y : Nat → Nat → Nat) (g : Nat → Nat → Nat → Int32) (f : Nat → Int64) (a1 : Int32) (a2 : Int32) (bc bs : Nat) (Φ : Int32 → (Nat → Nat → Int32) → (Nat → Nat → Nat) → (Nat → Nat → Nat → Int32) → (Nat → Int64) → Prop) : Prop := wX8_idle x y g a1 a2 bc bs (fun r x1 y1 g1 => Φ 0 x1 y1 g1 (vp_updL f (0 : Int32).toNatClampNeg r.toInt64)) (fun E2 x1 y1 g1 => (E2 = "java/lang/IndexOutOfBoundsException" ∧ Φ 1 x1 y1 g1 f))
set_option maxRecDepth 100000 in
set_option maxHeartbeats 1000000 in
theorem kL_idle {l : Launch} {D : va_G} {qo : Nat} {cJ : ClassId} {ad : Nat → Nat → Nat} {wd sk : Nat → Nat} {cI cB cP cT : ClassId} {sz : Nat} (x0 : Nat → Nat → Int32) (y0 : Nat → Nat → Nat) (g0 : Nat → Nat → Nat → Int32) (f0 : Nat → Int64) (a1 : Int32) (a2 : Int32) (BC BS : Nat) {Φ : Int32 → (Nat → Nat → Int32) → (Nat → Nat → Nat) → (Nat → Nat → Nat → Int32) → (Nat → Int64) → Prop} (hlf : l.stackTraces = false) (h : wL_idle x0 y0 g0 f0 a1 a2 BC BS Φ) (hb2 : a2 = 0 ∨ a2 = 1) : vx_Met l yL_idle (zwsH yL_idle cL_idle 5 (some .int) [(0, 10, 13, 25)]) { frames := 8, cells := BC, slots := BS, locals := 221 } (zPc D (lTy cI cB cP cT cJ) (lX wd sk) (cW [(qo, .inl (cJ, 1, .inr (.inl f0)))] ad wd cI cB cP cT (x0, y0, g0)) [.ref (ad 0 0), .int a1, .int a2, .ref qo] sz) (zQi D (lTy cI cB cP cT cJ) (fun w : cS × (Nat → Int64) => cW [(qo, .inl (cJ, 1, .inr (.inl w.2)))] ad wd cI cB cP cT w.1) (fun r w => Φ r w.1.1 w.1.2.1 w.1.2.2 w.2) (cW [(qo, .inl (cJ, 1, .inr (.inl f0)))] ad wd cI cB cP cT (x0, y0, g0)) sz) (fun _ _ _ => False) BC BS (va_A (cW [(qo, .inl (cJ, 1, .inr (.inl f0)))] ad wd cI cB cP cT (x0, y0, g0)) sz) := by
  refine zMetH (by decide) (Nat.le_of_ble_eq_true rfl) ?_
  intro p e s m args below meth c A hx hb hr hml hown hts hlocks htab hsz hAe hA hS hP hK hD hX ls hl
  subst hsz
  have hF : zFx p s m args c cL_idle RL A D (cTy cI cB cP cT) (cX wd sk) 5 := ⟨hx, hb, hml, hown, hts, hA, hK.sub [0, 1, 2, 3] rfl, cX_cl wd sk, hX.1⟩
  have hl : lv_has ls 5 [(0, .ref (ad 0 0)), (1, .int a1), (2, .int a2), (3, .ref qo)] := hl
  unfold wL_idle at h
  refine lv_aload_n (pc := 0) hx hb dL_idle_0 rfl (lv_at hl 3 rfl) ?_
  refine lv_iconst (pc := 1) (v := 0) hx hb dL_idle_1 (by decide) ?_
  refine lv_aload_n (pc := 2) hx hb dL_idle_2 rfl (lv_at hl 0 rfl) ?_
  refine lv_iload_n (pc := 3) hx hb dL_idle_3 rfl (lv_at hl 1 rfl) ?_
  refine lv_iload_n (pc := 4) hx hb dL_idle_4 rfl (lv_at hl 2 rfl) ?_
  refine lCall (pc := 5) (x := x0) (y := y0) (g := g0) [.int a1, .int a2] hF (kX8_idle x0 y0 g0 a1 a2 BC BS hlf h hb2) (cwL_X8_idle hts ⟨Nat.le_of_ble_eq_true rfl, Nat.le_of_ble_eq_true rfl⟩) (d_rP hF hP (ci := 11) (q0 := 0) rfl (cA_S ..)) hP hD hS rfl rfl hl.1 (Nat.le_of_ble_eq_true rfl) dL_idle_5 ⟨by show _ ≤ BC; (try dsimp only); omega, by show _ ≤ BS; (try dsimp only); omega⟩ (fun E2 ce q9 x1 y1 g1 H locs h hP hD hS hce hcv hcl => ?_) (fun r x1 y1 g1 H locs h hP hD hS => ?_)
  · obtain ⟨rfl, h⟩ := h
    refine vx_catch (name := "java/lang/IndexOutOfBoundsException") hown (tableOf []) ⟨0, 10, 13, 25⟩ (tableOf []) (by rw [htab]; rfl) (fun _ h9 => absurd h9 List.not_mem_nil) (by decide) (by decide) (hts _ clL_25) (va_Nw.use rfl (hX.1.2.2.2.1 _ xcast_IOB)) hce hcv hcl ?_
    refine lv_astore (pc := 13) (lv' := [(4, .ref q9), (0, .ref (ad 0 0)), (1, .int a1), (2, .int a2), (3, .ref qo)]) hx hb dL_idle_13 hl (by decide) rfl (fun ls hl => ?_)
    refine lv_iconst (pc := 15) (v := 1) hx hb dL_idle_15 (by decide) ?_
    exact vx_ret (zirV (pc := 16) (Wd := (fun w : cS × (Nat → Int64) => cW [(qo, .inl (cJ, 1, .inr (.inl w.2)))] ad wd cI cB cP cT w.1)) (u := ((x1, y1, g1), f0)) hx hb hr hlocks hAe hK hP hD hS rfl dL_idle_16 (by (try dsimp only); omega) (by (try dsimp only); omega) h)
  · refine lv_i2l (pc := 8) hx hb dL_idle_8 rfl ?_
    refine va_last (pc := 9) (i := 0) hx hb hK hP hD hS 56 4 (lA ..) rfl (vp_in_iff.mpr (by decide)) dL_idle_9 (fun H locs hP hD hS => ?_)
    rw [lU] at hP hD
    refine lv_goto (pc := 10) (tgt := 17) hx hb dL_idle_10 (by decide) ?_
    refine lv_iconst (pc := 17) (v := 0) hx hb dL_idle_17 (by decide) ?_
    exact vx_ret (zirV (pc := 18) (Wd := (fun w : cS × (Nat → Int64) => cW [(qo, .inl (cJ, 1, .inr (.inl w.2)))] ad wd cI cB cP cT w.1)) (u := ((x1, y1, g1), vp_updL f0 (0 : Int32).toNatClampNeg r.toInt64)) hx hb hr hlocks hAe hK hP hD hS rfl dL_idle_18 (by (try dsimp only); omega) (by (try dsimp only); omega) h)

def wL_table (x : Nat → Nat → Int32) (y : Nat → Nat → Nat) (g : Nat → Nat → Nat → Int32) (f : Nat → Int64) (a1 : Int32) (a2 : Int32) (a3 : Int32) (bc bs : Nat) (Φ : Int32 → (Nat → Nat → Int32) → (Nat → Nat → Nat) → (Nat → Nat → Nat → Int32) → (Nat → Int64) → Prop) : Prop := wX8_table x y g a1 a2 a3 bc bs (fun r x1 y1 g1 => Φ 0 x1 y1 g1 (vp_updL f (0 : Int32).toNatClampNeg r.toInt64)) (fun E2 x1 y1 g1 => (E2 = "java/lang/IndexOutOfBoundsException" ∧ Φ 1 x1 y1 g1 f) ∨ (E2 = "java/lang/IllegalArgumentException" ∧ Φ 2 x1 y1 g1 f) ∨ (E2 = "java/lang/IllegalStateException" ∧ Φ 3 x1 y1 g1 f))
set_option maxRecDepth 100000 in
set_option maxHeartbeats 1000000 in
theorem kL_table {l : Launch} {D : va_G} {qo : Nat} {cJ : ClassId} {ad : Nat → Nat → Nat} {wd sk : Nat → Nat} {cI cB cP cT : ClassId} {sz : Nat} (x0 : Nat → Nat → Int32) (y0 : Nat → Nat → Nat) (g0 : Nat → Nat → Nat → Int32) (f0 : Nat → Int64) (a1 : Int32) (a2 : Int32) (a3 : Int32) (BC BS : Nat) {Φ : Int32 → (Nat → Nat → Int32) → (Nat → Nat → Nat) → (Nat → Nat → Nat → Int32) → (Nat → Int64) → Prop} (hlf : l.stackTraces = false) (h : wL_table x0 y0 g0 f0 a1 a2 a3 BC BS Φ) : vx_Met l yL_table (zwsH yL_table cL_table 6 (some .int) [(0, 12, 15, 25), (0, 12, 19, 13), (0, 12, 23, 15)]) { frames := 7, cells := BC, slots := BS, locals := 153 } (zPc D (lTy cI cB cP cT cJ) (lX wd sk) (cW [(qo, .inl (cJ, 1, .inr (.inl f0)))] ad wd cI cB cP cT (x0, y0, g0)) [.ref (ad 0 0), .int a1, .int a2, .int a3, .ref qo] sz) (zQi D (lTy cI cB cP cT cJ) (fun w : cS × (Nat → Int64) => cW [(qo, .inl (cJ, 1, .inr (.inl w.2)))] ad wd cI cB cP cT w.1) (fun r w => Φ r w.1.1 w.1.2.1 w.1.2.2 w.2) (cW [(qo, .inl (cJ, 1, .inr (.inl f0)))] ad wd cI cB cP cT (x0, y0, g0)) sz) (fun _ _ _ => False) BC BS (va_A (cW [(qo, .inl (cJ, 1, .inr (.inl f0)))] ad wd cI cB cP cT (x0, y0, g0)) sz) := by
  refine zMetH (by decide) (Nat.le_of_ble_eq_true rfl) ?_
  intro p e s m args below meth c A hx hb hr hml hown hts hlocks htab hsz hAe hA hS hP hK hD hX ls hl
  subst hsz
  have hF : zFx p s m args c cL_table RL A D (cTy cI cB cP cT) (cX wd sk) 6 := ⟨hx, hb, hml, hown, hts, hA, hK.sub [0, 1, 2, 3] rfl, cX_cl wd sk, hX.1⟩
  have hl : lv_has ls 6 [(0, .ref (ad 0 0)), (1, .int a1), (2, .int a2), (3, .int a3), (4, .ref qo)] := hl
  unfold wL_table at h
  refine lv_aload (pc := 0) hx hb dL_table_0 (lv_at hl 4 rfl) ?_
  refine lv_iconst (pc := 2) (v := 0) hx hb dL_table_2 (by decide) ?_
  refine lv_aload_n (pc := 3) hx hb dL_table_3 rfl (lv_at hl 0 rfl) ?_
  refine lv_iload_n (pc := 4) hx hb dL_table_4 rfl (lv_at hl 1 rfl) ?_
  refine lv_iload_n (pc := 5) hx hb dL_table_5 rfl (lv_at hl 2 rfl) ?_
  refine lv_iload_n (pc := 6) hx hb dL_table_6 rfl (lv_at hl 3 rfl) ?_
  refine lCall (pc := 7) (x := x0) (y := y0) (g := g0) [.int a1, .int a2, .int a3] hF (kX8_table x0 y0 g0 a1 a2 a3 BC BS hlf h) (cwL_X8_table hts ⟨Nat.le_of_ble_eq_true rfl, Nat.le_of_ble_eq_true rfl⟩) (d_rP hF hP (ci := 11) (q0 := 0) rfl (cA_S ..)) hP hD hS rfl rfl hl.1 (Nat.le_of_ble_eq_true rfl) dL_table_7 ⟨by show _ ≤ BC; (try dsimp only); omega, by show _ ≤ BS; (try dsimp only); omega⟩ (fun E2 ce q9 x1 y1 g1 H locs h hP hD hS hce hcv hcl => ?_) (fun r x1 y1 g1 H locs h hP hD hS => ?_)
  · rcases h with ⟨rfl, h⟩ | ⟨rfl, h⟩ | ⟨rfl, h⟩
    · refine vx_catch (name := "java/lang/IndexOutOfBoundsException") hown (tableOf []) ⟨0, 12, 15, 25⟩ (tableOf [(0, 12, 19, 13), (0, 12, 23, 15)]) (by rw [htab]; rfl) (fun _ h9 => absurd h9 List.not_mem_nil) (by decide) (by decide) (hts _ clL_25) (va_Nw.use rfl (hX.1.2.2.2.1 _ xcast_IOB)) hce hcv hcl ?_
      refine lv_astore (pc := 15) (lv' := [(5, .ref q9), (0, .ref (ad 0 0)), (1, .int a1), (2, .int a2), (3, .int a3), (4, .ref qo)]) hx hb dL_table_15 hl (by decide) rfl (fun ls hl => ?_)
      refine lv_iconst (pc := 17) (v := 1) hx hb dL_table_17 (by decide) ?_
      exact vx_ret (zirV (pc := 18) (Wd := (fun w : cS × (Nat → Int64) => cW [(qo, .inl (cJ, 1, .inr (.inl w.2)))] ad wd cI cB cP cT w.1)) (u := ((x1, y1, g1), f0)) hx hb hr hlocks hAe hK hP hD hS rfl dL_table_18 (by (try dsimp only); omega) (by (try dsimp only); omega) h)
    · refine vx_catch (name := "java/lang/IllegalArgumentException") hown (tableOf [(0, 12, 15, 25)]) ⟨0, 12, 19, 13⟩ (tableOf [(0, 12, 23, 15)]) (by rw [htab]; rfl) (List.forall_mem_cons.mpr ⟨Or.inr ⟨by decide, "java/lang/IndexOutOfBoundsException", hts _ clL_25, hX.2 _ (by decide +kernel) _ (by decide +kernel) (by decide +kernel)⟩, (fun _ h9 => absurd h9 List.not_mem_nil)⟩) (by decide) (by decide) (hts _ clL_13) (va_Nw.use rfl (hX.1.2.2.2.1 _ xcast_IAE)) hce hcv hcl ?_
      refine lv_astore (pc := 19) (lv' := [(5, .ref q9), (0, .ref (ad 0 0)), (1, .int a1), (2, .int a2), (3, .int a3), (4, .ref qo)]) hx hb dL_table_19 hl (by decide) rfl (fun ls hl => ?_)
      refine lv_iconst (pc := 21) (v := 2) hx hb dL_table_21 (by decide) ?_
      exact vx_ret (zirV (pc := 22) (Wd := (fun w : cS × (Nat → Int64) => cW [(qo, .inl (cJ, 1, .inr (.inl w.2)))] ad wd cI cB cP cT w.1)) (u := ((x1, y1, g1), f0)) hx hb hr hlocks hAe hK hP hD hS rfl dL_table_22 (by (try dsimp only); omega) (by (try dsimp only); omega) h)
    · refine vx_catch (name := "java/lang/IllegalStateException") hown (tableOf [(0, 12, 15, 25), (0, 12, 19, 13)]) ⟨0, 12, 23, 15⟩ (tableOf []) (by rw [htab]; rfl) (List.forall_mem_cons.mpr ⟨Or.inr ⟨by decide, "java/lang/IndexOutOfBoundsException", hts _ clL_25, hX.2 _ (by decide +kernel) _ (by decide +kernel) (by decide +kernel)⟩, (List.forall_mem_cons.mpr ⟨Or.inr ⟨by decide, "java/lang/IllegalArgumentException", hts _ clL_13, hX.2 _ (by decide +kernel) _ (by decide +kernel) (by decide +kernel)⟩, (fun _ h9 => absurd h9 List.not_mem_nil)⟩)⟩) (by decide) (by decide) (hts _ clL_15) (va_Nw.use rfl (hX.1.2.2.2.1 _ xcast_ISE)) hce hcv hcl ?_
      refine lv_astore (pc := 23) (lv' := [(5, .ref q9), (0, .ref (ad 0 0)), (1, .int a1), (2, .int a2), (3, .int a3), (4, .ref qo)]) hx hb dL_table_23 hl (by decide) rfl (fun ls hl => ?_)
      refine lv_iconst (pc := 25) (v := 3) hx hb dL_table_25 (by decide) ?_
      exact vx_ret (zirV (pc := 26) (Wd := (fun w : cS × (Nat → Int64) => cW [(qo, .inl (cJ, 1, .inr (.inl w.2)))] ad wd cI cB cP cT w.1)) (u := ((x1, y1, g1), f0)) hx hb hr hlocks hAe hK hP hD hS rfl dL_table_26 (by (try dsimp only); omega) (by (try dsimp only); omega) h)
  · refine lv_i2l (pc := 10) hx hb dL_table_10 rfl ?_
    refine va_last (pc := 11) (i := 0) hx hb hK hP hD hS 56 4 (lA ..) rfl (vp_in_iff.mpr (by decide)) dL_table_11 (fun H locs hP hD hS => ?_)
    rw [lU] at hP hD
    refine lv_goto (pc := 12) (tgt := 27) hx hb dL_table_12 (by decide) ?_
    refine lv_iconst (pc := 27) (v := 0) hx hb dL_table_27 (by decide) ?_
    exact vx_ret (zirV (pc := 28) (Wd := (fun w : cS × (Nat → Int64) => cW [(qo, .inl (cJ, 1, .inr (.inl w.2)))] ad wd cI cB cP cT w.1)) (u := ((x1, y1, g1), vp_updL f0 (0 : Int32).toNatClampNeg r.toInt64)) hx hb hr hlocks hAe hK hP hD hS rfl dL_table_28 (by (try dsimp only); omega) (by (try dsimp only); omega) h)

def wL_step (x : Nat → Nat → Int32) (y : Nat → Nat → Nat) (g : Nat → Nat → Nat → Int32) (f : Nat → Int64) (a1 : Int32) (bc bs : Nat) (Φ : Int32 → (Nat → Nat → Int32) → (Nat → Nat → Nat) → (Nat → Nat → Nat → Int32) → (Nat → Int64) → Prop) : Prop := wX8_step x y g a1 bc bs (fun r x1 y1 g1 => Φ 0 x1 y1 g1 (vp_updL f (0 : Int32).toNatClampNeg r.toInt64)) (fun E2 x1 y1 g1 => (E2 = "java/lang/IndexOutOfBoundsException" ∧ Φ 1 x1 y1 g1 f) ∨ (E2 = "java/lang/IllegalStateException" ∧ Φ 2 x1 y1 g1 f) ∨ (E2 = "java/util/NoSuchElementException" ∧ Φ 3 x1 y1 g1 f))
set_option maxRecDepth 100000 in
set_option maxHeartbeats 1000000 in
theorem kL_step {l : Launch} {D : va_G} {qo : Nat} {cJ : ClassId} {ad : Nat → Nat → Nat} {wd sk : Nat → Nat} {cI cB cP cT : ClassId} {sz : Nat} (x0 : Nat → Nat → Int32) (y0 : Nat → Nat → Nat) (g0 : Nat → Nat → Nat → Int32) (f0 : Nat → Int64) (a1 : Int32) (BC BS : Nat) {Φ : Int32 → (Nat → Nat → Int32) → (Nat → Nat → Nat) → (Nat → Nat → Nat → Int32) → (Nat → Int64) → Prop} (hlf : l.stackTraces = false) (h : wL_step x0 y0 g0 f0 a1 BC BS Φ) : vx_Met l yL_step (zwsH yL_step cL_step 4 (some .int) [(0, 9, 12, 25), (0, 9, 15, 15), (0, 9, 18, 43)]) { frames := 8, cells := BC, slots := BS, locals := 235 } (zPc D (lTy cI cB cP cT cJ) (lX wd sk) (cW [(qo, .inl (cJ, 1, .inr (.inl f0)))] ad wd cI cB cP cT (x0, y0, g0)) [.ref (ad 0 0), .int a1, .ref qo] sz) (zQi D (lTy cI cB cP cT cJ) (fun w : cS × (Nat → Int64) => cW [(qo, .inl (cJ, 1, .inr (.inl w.2)))] ad wd cI cB cP cT w.1) (fun r w => Φ r w.1.1 w.1.2.1 w.1.2.2 w.2) (cW [(qo, .inl (cJ, 1, .inr (.inl f0)))] ad wd cI cB cP cT (x0, y0, g0)) sz) (fun _ _ _ => False) BC BS (va_A (cW [(qo, .inl (cJ, 1, .inr (.inl f0)))] ad wd cI cB cP cT (x0, y0, g0)) sz) := by
  refine zMetH (by decide) (Nat.le_of_ble_eq_true rfl) ?_
  intro p e s m args below meth c A hx hb hr hml hown hts hlocks htab hsz hAe hA hS hP hK hD hX ls hl
  subst hsz
  have hF : zFx p s m args c cL_step RL A D (cTy cI cB cP cT) (cX wd sk) 4 := ⟨hx, hb, hml, hown, hts, hA, hK.sub [0, 1, 2, 3] rfl, cX_cl wd sk, hX.1⟩
  have hl : lv_has ls 4 [(0, .ref (ad 0 0)), (1, .int a1), (2, .ref qo)] := hl
  unfold wL_step at h
  refine lv_aload_n (pc := 0) hx hb dL_step_0 rfl (lv_at hl 2 rfl) ?_
  refine lv_iconst (pc := 1) (v := 0) hx hb dL_step_1 (by decide) ?_
  refine lv_aload_n (pc := 2) hx hb dL_step_2 rfl (lv_at hl 0 rfl) ?_
  refine lv_iload_n (pc := 3) hx hb dL_step_3 rfl (lv_at hl 1 rfl) ?_
  refine lCall (pc := 4) (x := x0) (y := y0) (g := g0) [.int a1] hF (kX8_step x0 y0 g0 a1 BC BS hlf h) (cwL_X8_step hts ⟨Nat.le_of_ble_eq_true rfl, Nat.le_of_ble_eq_true rfl⟩) (d_rP hF hP (ci := 11) (q0 := 0) rfl (cA_S ..)) hP hD hS rfl rfl hl.1 (Nat.le_of_ble_eq_true rfl) dL_step_4 ⟨by show _ ≤ BC; (try dsimp only); omega, by show _ ≤ BS; (try dsimp only); omega⟩ (fun E2 ce q9 x1 y1 g1 H locs h hP hD hS hce hcv hcl => ?_) (fun r x1 y1 g1 H locs h hP hD hS => ?_)
  · rcases h with ⟨rfl, h⟩ | ⟨rfl, h⟩ | ⟨rfl, h⟩
    · refine vx_catch (name := "java/lang/IndexOutOfBoundsException") hown (tableOf []) ⟨0, 9, 12, 25⟩ (tableOf [(0, 9, 15, 15), (0, 9, 18, 43)]) (by rw [htab]; rfl) (fun _ h9 => absurd h9 List.not_mem_nil) (by decide) (by decide) (hts _ clL_25) (va_Nw.use rfl (hX.1.2.2.2.1 _ xcast_IOB)) hce hcv hcl ?_
      refine lv_astore_n (pc := 12) (lv' := [(3, .ref q9), (0, .ref (ad 0 0)), (1, .int a1), (2, .ref qo)]) hx hb dL_step_12 rfl hl (by decide) rfl (fun ls hl => ?_)
      refine lv_iconst (pc := 13) (v := 1) hx hb dL_step_13 (by decide) ?_
      exact vx_ret (zirV (pc := 14) (Wd := (fun w : cS × (Nat → Int64) => cW [(qo, .inl (cJ, 1, .inr (.inl w.2)))] ad wd cI cB cP cT w.1)) (u := ((x1, y1, g1), f0)) hx hb hr hlocks hAe hK hP hD hS rfl dL_step_14 (by (try dsimp only); omega) (by (try dsimp only); omega) h)
    · refine vx_catch (name := "java/lang/IllegalStateException") hown (tableOf [(0, 9, 12, 25)]) ⟨0, 9, 15, 15⟩ (tableOf [(0, 9, 18, 43)]) (by rw [htab]; rfl) (List.forall_mem_cons.mpr ⟨Or.inr ⟨by decide, "java/lang/IndexOutOfBoundsException", hts _ clL_25, hX.2 _ (by decide +kernel) _ (by decide +kernel) (by decide +kernel)⟩, (fun _ h9 => absurd h9 List.not_mem_nil)⟩) (by decide) (by decide) (hts _ clL_15) (va_Nw.use rfl (hX.1.2.2.2.1 _ xcast_ISE)) hce hcv hcl ?_
      refine lv_astore_n (pc := 15) (lv' := [(3, .ref q9), (0, .ref (ad 0 0)), (1, .int a1), (2, .ref qo)]) hx hb dL_step_15 rfl hl (by decide) rfl (fun ls hl => ?_)
      refine lv_iconst (pc := 16) (v := 2) hx hb dL_step_16 (by decide) ?_
      exact vx_ret (zirV (pc := 17) (Wd := (fun w : cS × (Nat → Int64) => cW [(qo, .inl (cJ, 1, .inr (.inl w.2)))] ad wd cI cB cP cT w.1)) (u := ((x1, y1, g1), f0)) hx hb hr hlocks hAe hK hP hD hS rfl dL_step_17 (by (try dsimp only); omega) (by (try dsimp only); omega) h)
    · refine vx_catch (name := "java/util/NoSuchElementException") hown (tableOf [(0, 9, 12, 25), (0, 9, 15, 15)]) ⟨0, 9, 18, 43⟩ (tableOf []) (by rw [htab]; rfl) (List.forall_mem_cons.mpr ⟨Or.inr ⟨by decide, "java/lang/IndexOutOfBoundsException", hts _ clL_25, hX.2 _ (by decide +kernel) _ (by decide +kernel) (by decide +kernel)⟩, (List.forall_mem_cons.mpr ⟨Or.inr ⟨by decide, "java/lang/IllegalStateException", hts _ clL_15, hX.2 _ (by decide +kernel) _ (by decide +kernel) (by decide +kernel)⟩, (fun _ h9 => absurd h9 List.not_mem_nil)⟩)⟩) (by decide) (by decide) (hts _ clL_43) (va_Nw.use rfl (hX.1.2.2.2.1 _ xcast_NSE)) hce hcv hcl ?_
      refine lv_astore_n (pc := 18) (lv' := [(3, .ref q9), (0, .ref (ad 0 0)), (1, .int a1), (2, .ref qo)]) hx hb dL_step_18 rfl hl (by decide) rfl (fun ls hl => ?_)
      refine lv_iconst (pc := 19) (v := 3) hx hb dL_step_19 (by decide) ?_
      exact vx_ret (zirV (pc := 20) (Wd := (fun w : cS × (Nat → Int64) => cW [(qo, .inl (cJ, 1, .inr (.inl w.2)))] ad wd cI cB cP cT w.1)) (u := ((x1, y1, g1), f0)) hx hb hr hlocks hAe hK hP hD hS rfl dL_step_20 (by (try dsimp only); omega) (by (try dsimp only); omega) h)
  · refine lv_i2l (pc := 7) hx hb dL_step_7 rfl ?_
    refine va_last (pc := 8) (i := 0) hx hb hK hP hD hS 56 4 (lA ..) rfl (vp_in_iff.mpr (by decide)) dL_step_8 (fun H locs hP hD hS => ?_)
    rw [lU] at hP hD
    refine lv_goto (pc := 9) (tgt := 21) hx hb dL_step_9 (by decide) ?_
    refine lv_iconst (pc := 21) (v := 0) hx hb dL_step_21 (by decide) ?_
    exact vx_ret (zirV (pc := 22) (Wd := (fun w : cS × (Nat → Int64) => cW [(qo, .inl (cJ, 1, .inr (.inl w.2)))] ad wd cI cB cP cT w.1)) (u := ((x1, y1, g1), vp_updL f0 (0 : Int32).toNatClampNeg r.toInt64)) hx hb hr hlocks hAe hK hP hD hS rfl dL_step_22 (by (try dsimp only); omega) (by (try dsimp only); omega) h)

def wL_read (x : Nat → Nat → Int32) (y : Nat → Nat → Nat) (g : Nat → Nat → Nat → Int32) (f : Nat → Int64) (a1 : Int32) (bc bs : Nat) (Φ : Int32 → (Nat → Nat → Int32) → (Nat → Nat → Nat) → (Nat → Nat → Nat → Int32) → (Nat → Int64) → Prop) : Prop := wX8_read x y g a1 bc bs (fun r => Φ 0 x y g (vp_updL f (0 : Int32).toNatClampNeg r.toInt64)) (fun E2 x1 y1 g1 => (E2 = "java/lang/IndexOutOfBoundsException" ∧ Φ 1 x1 y1 g1 f))
set_option maxRecDepth 100000 in
set_option maxHeartbeats 1000000 in
theorem kL_read {l : Launch} {D : va_G} {qo : Nat} {cJ : ClassId} {ad : Nat → Nat → Nat} {wd sk : Nat → Nat} {cI cB cP cT : ClassId} {sz : Nat} (x0 : Nat → Nat → Int32) (y0 : Nat → Nat → Nat) (g0 : Nat → Nat → Nat → Int32) (f0 : Nat → Int64) (a1 : Int32) (BC BS : Nat) {Φ : Int32 → (Nat → Nat → Int32) → (Nat → Nat → Nat) → (Nat → Nat → Nat → Int32) → (Nat → Int64) → Prop} (hlf : l.stackTraces = false) (h : wL_read x0 y0 g0 f0 a1 BC BS Φ) : vx_Met l yL_read (zwsH yL_read cL_read 4 (some .int) [(0, 9, 12, 25)]) { frames := 7, cells := BC, slots := BS, locals := 141 } (zPc D (lTy cI cB cP cT cJ) (lX wd sk) (cW [(qo, .inl (cJ, 1, .inr (.inl f0)))] ad wd cI cB cP cT (x0, y0, g0)) [.ref (ad 0 0), .int a1, .ref qo] sz) (zQi D (lTy cI cB cP cT cJ) (fun w : cS × (Nat → Int64) => cW [(qo, .inl (cJ, 1, .inr (.inl w.2)))] ad wd cI cB cP cT w.1) (fun r w => Φ r w.1.1 w.1.2.1 w.1.2.2 w.2) (cW [(qo, .inl (cJ, 1, .inr (.inl f0)))] ad wd cI cB cP cT (x0, y0, g0)) sz) (fun _ _ _ => False) BC BS (va_A (cW [(qo, .inl (cJ, 1, .inr (.inl f0)))] ad wd cI cB cP cT (x0, y0, g0)) sz) := by
  refine zMetH (by decide) (Nat.le_of_ble_eq_true rfl) ?_
  intro p e s m args below meth c A hx hb hr hml hown hts hlocks htab hsz hAe hA hS hP hK hD hX ls hl
  subst hsz
  have hF : zFx p s m args c cL_read RL A D (cTy cI cB cP cT) (cX wd sk) 4 := ⟨hx, hb, hml, hown, hts, hA, hK.sub [0, 1, 2, 3] rfl, cX_cl wd sk, hX.1⟩
  have hl : lv_has ls 4 [(0, .ref (ad 0 0)), (1, .int a1), (2, .ref qo)] := hl
  unfold wL_read at h
  refine lv_aload_n (pc := 0) hx hb dL_read_0 rfl (lv_at hl 2 rfl) ?_
  refine lv_iconst (pc := 1) (v := 0) hx hb dL_read_1 (by decide) ?_
  refine lv_aload_n (pc := 2) hx hb dL_read_2 rfl (lv_at hl 0 rfl) ?_
  refine lv_iload_n (pc := 3) hx hb dL_read_3 rfl (lv_at hl 1 rfl) ?_
  refine lCallp (pc := 4) (x := x0) (y := y0) (g := g0) [.int a1] hF (kX8_read x0 y0 g0 a1 BC BS hlf h) (cwL_X8_read hts ⟨Nat.le_of_ble_eq_true rfl, Nat.le_of_ble_eq_true rfl⟩) (d_rP hF hP (ci := 11) (q0 := 0) rfl (cA_S ..)) hP hD hS rfl rfl hl.1 (Nat.le_of_ble_eq_true rfl) dL_read_4 ⟨by show _ ≤ BC; (try dsimp only); omega, by show _ ≤ BS; (try dsimp only); omega⟩ (fun E2 ce q9 x1 y1 g1 H locs h hP hD hS hce hcv hcl => ?_) (fun r H locs h hP hD hS => ?_)
  · obtain ⟨rfl, h⟩ := h
    refine vx_catch (name := "java/lang/IndexOutOfBoundsException") hown (tableOf []) ⟨0, 9, 12, 25⟩ (tableOf []) (by rw [htab]; rfl) (fun _ h9 => absurd h9 List.not_mem_nil) (by decide) (by decide) (hts _ clL_25) (va_Nw.use rfl (hX.1.2.2.2.1 _ xcast_IOB)) hce hcv hcl ?_
    refine lv_astore_n (pc := 12) (lv' := [(3, .ref q9), (0, .ref (ad 0 0)), (1, .int a1), (2, .ref qo)]) hx hb dL_read_12 rfl hl (by decide) rfl (fun ls hl => ?_)
    refine lv_iconst (pc := 13) (v := 1) hx hb dL_read_13 (by decide) ?_
    exact vx_ret (zirV (pc := 14) (Wd := (fun w : cS × (Nat → Int64) => cW [(qo, .inl (cJ, 1, .inr (.inl w.2)))] ad wd cI cB cP cT w.1)) (u := ((x1, y1, g1), f0)) hx hb hr hlocks hAe hK hP hD hS rfl dL_read_14 (by (try dsimp only); omega) (by (try dsimp only); omega) h)
  · refine lv_i2l (pc := 7) hx hb dL_read_7 rfl ?_
    refine va_last (pc := 8) (i := 0) hx hb hK hP hD hS 56 4 (lA ..) rfl (vp_in_iff.mpr (by decide)) dL_read_8 (fun H locs hP hD hS => ?_)
    rw [lU] at hP hD
    refine lv_goto (pc := 9) (tgt := 15) hx hb dL_read_9 (by decide) ?_
    refine lv_iconst (pc := 15) (v := 0) hx hb dL_read_15 (by decide) ?_
    exact vx_ret (zirV (pc := 16) (Wd := (fun w : cS × (Nat → Int64) => cW [(qo, .inl (cJ, 1, .inr (.inl w.2)))] ad wd cI cB cP cT w.1)) (u := ((x0, y0, g0), vp_updL f0 (0 : Int32).toNatClampNeg r.toInt64)) hx hb hr hlocks hAe hK hP hD hS rfl dL_read_16 (by (try dsimp only); omega) (by (try dsimp only); omega) h)

def wL_window (x : Nat → Nat → Int32) (y : Nat → Nat → Nat) (g : Nat → Nat → Nat → Int32) (f : Nat → Int64) (a1 : Int32) (a2 : Int32) (bc bs : Nat) (Φ : Int32 → (Nat → Nat → Int32) → (Nat → Nat → Nat) → (Nat → Nat → Nat → Int32) → (Nat → Int64) → Prop) : Prop := wX8_window x y g a1 a2 bc bs (fun r => Φ 0 x y g (vp_updL f (0 : Int32).toNatClampNeg r.toInt64)) (fun E2 x1 y1 g1 => (E2 = "java/lang/IndexOutOfBoundsException" ∧ Φ 1 x1 y1 g1 f) ∨ (E2 = "java/lang/IllegalArgumentException" ∧ Φ 2 x1 y1 g1 f))
set_option maxRecDepth 100000 in
set_option maxHeartbeats 1000000 in
theorem kL_window {l : Launch} {D : va_G} {qo : Nat} {cJ : ClassId} {ad : Nat → Nat → Nat} {wd sk : Nat → Nat} {cI cB cP cT : ClassId} {sz : Nat} (x0 : Nat → Nat → Int32) (y0 : Nat → Nat → Nat) (g0 : Nat → Nat → Nat → Int32) (f0 : Nat → Int64) (a1 : Int32) (a2 : Int32) (BC BS : Nat) {Φ : Int32 → (Nat → Nat → Int32) → (Nat → Nat → Nat) → (Nat → Nat → Nat → Int32) → (Nat → Int64) → Prop} (hlf : l.stackTraces = false) (h : wL_window x0 y0 g0 f0 a1 a2 BC BS Φ) : vx_Met l yL_window (zwsH yL_window cL_window 5 (some .int) [(0, 10, 13, 25), (0, 10, 17, 13)]) { frames := 7, cells := BC, slots := BS, locals := 142 } (zPc D (lTy cI cB cP cT cJ) (lX wd sk) (cW [(qo, .inl (cJ, 1, .inr (.inl f0)))] ad wd cI cB cP cT (x0, y0, g0)) [.ref (ad 0 0), .int a1, .int a2, .ref qo] sz) (zQi D (lTy cI cB cP cT cJ) (fun w : cS × (Nat → Int64) => cW [(qo, .inl (cJ, 1, .inr (.inl w.2)))] ad wd cI cB cP cT w.1) (fun r w => Φ r w.1.1 w.1.2.1 w.1.2.2 w.2) (cW [(qo, .inl (cJ, 1, .inr (.inl f0)))] ad wd cI cB cP cT (x0, y0, g0)) sz) (fun _ _ _ => False) BC BS (va_A (cW [(qo, .inl (cJ, 1, .inr (.inl f0)))] ad wd cI cB cP cT (x0, y0, g0)) sz) := by
  refine zMetH (by decide) (Nat.le_of_ble_eq_true rfl) ?_
  intro p e s m args below meth c A hx hb hr hml hown hts hlocks htab hsz hAe hA hS hP hK hD hX ls hl
  subst hsz
  have hF : zFx p s m args c cL_window RL A D (cTy cI cB cP cT) (cX wd sk) 5 := ⟨hx, hb, hml, hown, hts, hA, hK.sub [0, 1, 2, 3] rfl, cX_cl wd sk, hX.1⟩
  have hl : lv_has ls 5 [(0, .ref (ad 0 0)), (1, .int a1), (2, .int a2), (3, .ref qo)] := hl
  unfold wL_window at h
  refine lv_aload_n (pc := 0) hx hb dL_window_0 rfl (lv_at hl 3 rfl) ?_
  refine lv_iconst (pc := 1) (v := 0) hx hb dL_window_1 (by decide) ?_
  refine lv_aload_n (pc := 2) hx hb dL_window_2 rfl (lv_at hl 0 rfl) ?_
  refine lv_iload_n (pc := 3) hx hb dL_window_3 rfl (lv_at hl 1 rfl) ?_
  refine lv_iload_n (pc := 4) hx hb dL_window_4 rfl (lv_at hl 2 rfl) ?_
  refine lCallp (pc := 5) (x := x0) (y := y0) (g := g0) [.int a1, .int a2] hF (kX8_window x0 y0 g0 a1 a2 BC BS hlf h) (cwL_X8_window hts ⟨Nat.le_of_ble_eq_true rfl, Nat.le_of_ble_eq_true rfl⟩) (d_rP hF hP (ci := 11) (q0 := 0) rfl (cA_S ..)) hP hD hS rfl rfl hl.1 (Nat.le_of_ble_eq_true rfl) dL_window_5 ⟨by show _ ≤ BC; (try dsimp only); omega, by show _ ≤ BS; (try dsimp only); omega⟩ (fun E2 ce q9 x1 y1 g1 H locs h hP hD hS hce hcv hcl => ?_) (fun r H locs h hP hD hS => ?_)
  · rcases h with ⟨rfl, h⟩ | ⟨rfl, h⟩
    · refine vx_catch (name := "java/lang/IndexOutOfBoundsException") hown (tableOf []) ⟨0, 10, 13, 25⟩ (tableOf [(0, 10, 17, 13)]) (by rw [htab]; rfl) (fun _ h9 => absurd h9 List.not_mem_nil) (by decide) (by decide) (hts _ clL_25) (va_Nw.use rfl (hX.1.2.2.2.1 _ xcast_IOB)) hce hcv hcl ?_
      refine lv_astore (pc := 13) (lv' := [(4, .ref q9), (0, .ref (ad 0 0)), (1, .int a1), (2, .int a2), (3, .ref qo)]) hx hb dL_window_13 hl (by decide) rfl (fun ls hl => ?_)
      refine lv_iconst (pc := 15) (v := 1) hx hb dL_window_15 (by decide) ?_
      exact vx_ret (zirV (pc := 16) (Wd := (fun w : cS × (Nat → Int64) => cW [(qo, .inl (cJ, 1, .inr (.inl w.2)))] ad wd cI cB cP cT w.1)) (u := ((x1, y1, g1), f0)) hx hb hr hlocks hAe hK hP hD hS rfl dL_window_16 (by (try dsimp only); omega) (by (try dsimp only); omega) h)
    · refine vx_catch (name := "java/lang/IllegalArgumentException") hown (tableOf [(0, 10, 13, 25)]) ⟨0, 10, 17, 13⟩ (tableOf []) (by rw [htab]; rfl) (List.forall_mem_cons.mpr ⟨Or.inr ⟨by decide, "java/lang/IndexOutOfBoundsException", hts _ clL_25, hX.2 _ (by decide +kernel) _ (by decide +kernel) (by decide +kernel)⟩, (fun _ h9 => absurd h9 List.not_mem_nil)⟩) (by decide) (by decide) (hts _ clL_13) (va_Nw.use rfl (hX.1.2.2.2.1 _ xcast_IAE)) hce hcv hcl ?_
      refine lv_astore (pc := 17) (lv' := [(4, .ref q9), (0, .ref (ad 0 0)), (1, .int a1), (2, .int a2), (3, .ref qo)]) hx hb dL_window_17 hl (by decide) rfl (fun ls hl => ?_)
      refine lv_iconst (pc := 19) (v := 2) hx hb dL_window_19 (by decide) ?_
      exact vx_ret (zirV (pc := 20) (Wd := (fun w : cS × (Nat → Int64) => cW [(qo, .inl (cJ, 1, .inr (.inl w.2)))] ad wd cI cB cP cT w.1)) (u := ((x1, y1, g1), f0)) hx hb hr hlocks hAe hK hP hD hS rfl dL_window_20 (by (try dsimp only); omega) (by (try dsimp only); omega) h)
  · refine lv_i2l (pc := 8) hx hb dL_window_8 rfl ?_
    refine va_last (pc := 9) (i := 0) hx hb hK hP hD hS 56 4 (lA ..) rfl (vp_in_iff.mpr (by decide)) dL_window_9 (fun H locs hP hD hS => ?_)
    rw [lU] at hP hD
    refine lv_goto (pc := 10) (tgt := 21) hx hb dL_window_10 (by decide) ?_
    refine lv_iconst (pc := 21) (v := 0) hx hb dL_window_21 (by decide) ?_
    exact vx_ret (zirV (pc := 22) (Wd := (fun w : cS × (Nat → Int64) => cW [(qo, .inl (cJ, 1, .inr (.inl w.2)))] ad wd cI cB cP cT w.1)) (u := ((x0, y0, g0), vp_updL f0 (0 : Int32).toNatClampNeg r.toInt64)) hx hb hr hlocks hAe hK hP hD hS rfl dL_window_22 (by (try dsimp only); omega) (by (try dsimp only); omega) h)

def wL_result (x : Nat → Nat → Int32) (y : Nat → Nat → Nat) (g : Nat → Nat → Nat → Int32) (f : Nat → Int64) (a1 : Int32) (a2 : Int32) (bc bs : Nat) (Φ : Int32 → (Nat → Nat → Int32) → (Nat → Nat → Nat) → (Nat → Nat → Nat → Int32) → (Nat → Int64) → Prop) : Prop := wX8_result x y g a1 a2 bc bs (fun r => Φ 0 x y g (vp_updL f (0 : Int32).toNatClampNeg r.toInt64)) (fun E2 x1 y1 g1 => (E2 = "java/lang/IndexOutOfBoundsException" ∧ Φ 1 x1 y1 g1 f) ∨ (E2 = "java/lang/IllegalArgumentException" ∧ Φ 2 x1 y1 g1 f))
set_option maxRecDepth 100000 in
set_option maxHeartbeats 1000000 in
theorem kL_result {l : Launch} {D : va_G} {qo : Nat} {cJ : ClassId} {ad : Nat → Nat → Nat} {wd sk : Nat → Nat} {cI cB cP cT : ClassId} {sz : Nat} (x0 : Nat → Nat → Int32) (y0 : Nat → Nat → Nat) (g0 : Nat → Nat → Nat → Int32) (f0 : Nat → Int64) (a1 : Int32) (a2 : Int32) (BC BS : Nat) {Φ : Int32 → (Nat → Nat → Int32) → (Nat → Nat → Nat) → (Nat → Nat → Nat → Int32) → (Nat → Int64) → Prop} (hlf : l.stackTraces = false) (h : wL_result x0 y0 g0 f0 a1 a2 BC BS Φ) : vx_Met l yL_result (zwsH yL_result cL_result 5 (some .int) [(0, 10, 13, 25), (0, 10, 17, 13)]) { frames := 7, cells := BC, slots := BS, locals := 142 } (zPc D (lTy cI cB cP cT cJ) (lX wd sk) (cW [(qo, .inl (cJ, 1, .inr (.inl f0)))] ad wd cI cB cP cT (x0, y0, g0)) [.ref (ad 0 0), .int a1, .int a2, .ref qo] sz) (zQi D (lTy cI cB cP cT cJ) (fun w : cS × (Nat → Int64) => cW [(qo, .inl (cJ, 1, .inr (.inl w.2)))] ad wd cI cB cP cT w.1) (fun r w => Φ r w.1.1 w.1.2.1 w.1.2.2 w.2) (cW [(qo, .inl (cJ, 1, .inr (.inl f0)))] ad wd cI cB cP cT (x0, y0, g0)) sz) (fun _ _ _ => False) BC BS (va_A (cW [(qo, .inl (cJ, 1, .inr (.inl f0)))] ad wd cI cB cP cT (x0, y0, g0)) sz) := by
  refine zMetH (by decide) (Nat.le_of_ble_eq_true rfl) ?_
  intro p e s m args below meth c A hx hb hr hml hown hts hlocks htab hsz hAe hA hS hP hK hD hX ls hl
  subst hsz
  have hF : zFx p s m args c cL_result RL A D (cTy cI cB cP cT) (cX wd sk) 5 := ⟨hx, hb, hml, hown, hts, hA, hK.sub [0, 1, 2, 3] rfl, cX_cl wd sk, hX.1⟩
  have hl : lv_has ls 5 [(0, .ref (ad 0 0)), (1, .int a1), (2, .int a2), (3, .ref qo)] := hl
  unfold wL_result at h
  refine lv_aload_n (pc := 0) hx hb dL_result_0 rfl (lv_at hl 3 rfl) ?_
  refine lv_iconst (pc := 1) (v := 0) hx hb dL_result_1 (by decide) ?_
  refine lv_aload_n (pc := 2) hx hb dL_result_2 rfl (lv_at hl 0 rfl) ?_
  refine lv_iload_n (pc := 3) hx hb dL_result_3 rfl (lv_at hl 1 rfl) ?_
  refine lv_iload_n (pc := 4) hx hb dL_result_4 rfl (lv_at hl 2 rfl) ?_
  refine lCallp (pc := 5) (x := x0) (y := y0) (g := g0) [.int a1, .int a2] hF (kX8_result x0 y0 g0 a1 a2 BC BS hlf h) (cwL_X8_result hts ⟨Nat.le_of_ble_eq_true rfl, Nat.le_of_ble_eq_true rfl⟩) (d_rP hF hP (ci := 11) (q0 := 0) rfl (cA_S ..)) hP hD hS rfl rfl hl.1 (Nat.le_of_ble_eq_true rfl) dL_result_5 ⟨by show _ ≤ BC; (try dsimp only); omega, by show _ ≤ BS; (try dsimp only); omega⟩ (fun E2 ce q9 x1 y1 g1 H locs h hP hD hS hce hcv hcl => ?_) (fun r H locs h hP hD hS => ?_)
  · rcases h with ⟨rfl, h⟩ | ⟨rfl, h⟩
    · refine vx_catch (name := "java/lang/IndexOutOfBoundsException") hown (tableOf []) ⟨0, 10, 13, 25⟩ (tableOf [(0, 10, 17, 13)]) (by rw [htab]; rfl) (fun _ h9 => absurd h9 List.not_mem_nil) (by decide) (by decide) (hts _ clL_25) (va_Nw.use rfl (hX.1.2.2.2.1 _ xcast_IOB)) hce hcv hcl ?_
      refine lv_astore (pc := 13) (lv' := [(4, .ref q9), (0, .ref (ad 0 0)), (1, .int a1), (2, .int a2), (3, .ref qo)]) hx hb dL_result_13 hl (by decide) rfl (fun ls hl => ?_)
      refine lv_iconst (pc := 15) (v := 1) hx hb dL_result_15 (by decide) ?_
      exact vx_ret (zirV (pc := 16) (Wd := (fun w : cS × (Nat → Int64) => cW [(qo, .inl (cJ, 1, .inr (.inl w.2)))] ad wd cI cB cP cT w.1)) (u := ((x1, y1, g1), f0)) hx hb hr hlocks hAe hK hP hD hS rfl dL_result_16 (by (try dsimp only); omega) (by (try dsimp only); omega) h)
    · refine vx_catch (name := "java/lang/IllegalArgumentException") hown (tableOf [(0, 10, 13, 25)]) ⟨0, 10, 17, 13⟩ (tableOf []) (by rw [htab]; rfl) (List.forall_mem_cons.mpr ⟨Or.inr ⟨by decide, "java/lang/IndexOutOfBoundsException", hts _ clL_25, hX.2 _ (by decide +kernel) _ (by decide +kernel) (by decide +kernel)⟩, (fun _ h9 => absurd h9 List.not_mem_nil)⟩) (by decide) (by decide) (hts _ clL_13) (va_Nw.use rfl (hX.1.2.2.2.1 _ xcast_IAE)) hce hcv hcl ?_
      refine lv_astore (pc := 17) (lv' := [(4, .ref q9), (0, .ref (ad 0 0)), (1, .int a1), (2, .int a2), (3, .ref qo)]) hx hb dL_result_17 hl (by decide) rfl (fun ls hl => ?_)
      refine lv_iconst (pc := 19) (v := 2) hx hb dL_result_19 (by decide) ?_
      exact vx_ret (zirV (pc := 20) (Wd := (fun w : cS × (Nat → Int64) => cW [(qo, .inl (cJ, 1, .inr (.inl w.2)))] ad wd cI cB cP cT w.1)) (u := ((x1, y1, g1), f0)) hx hb hr hlocks hAe hK hP hD hS rfl dL_result_20 (by (try dsimp only); omega) (by (try dsimp only); omega) h)
  · refine lv_i2l (pc := 8) hx hb dL_result_8 rfl ?_
    refine va_last (pc := 9) (i := 0) hx hb hK hP hD hS 56 4 (lA ..) rfl (vp_in_iff.mpr (by decide)) dL_result_9 (fun H locs hP hD hS => ?_)
    rw [lU] at hP hD
    refine lv_goto (pc := 10) (tgt := 21) hx hb dL_result_10 (by decide) ?_
    refine lv_iconst (pc := 21) (v := 0) hx hb dL_result_21 (by decide) ?_
    exact vx_ret (zirV (pc := 22) (Wd := (fun w : cS × (Nat → Int64) => cW [(qo, .inl (cJ, 1, .inr (.inl w.2)))] ad wd cI cB cP cT w.1)) (u := ((x0, y0, g0), vp_updL f0 (0 : Int32).toNatClampNeg r.toInt64)) hx hb hr hlocks hAe hK hP hD hS rfl dL_result_22 (by (try dsimp only); omega) (by (try dsimp only); omega) h)

def wL_total (x : Nat → Nat → Int32) (y : Nat → Nat → Nat) (g : Nat → Nat → Nat → Int32) (f : Nat → Int64) (a1 : Int32) (a2 : Int32) (bc bs : Nat) (Φ : Int32 → (Nat → Nat → Int32) → (Nat → Nat → Nat) → (Nat → Nat → Nat → Int32) → (Nat → Int64) → Prop) : Prop := wX8_total x y g a1 a2 bc bs (fun r => Φ 0 x y g (vp_updL f (0 : Int32).toNatClampNeg r.toInt64)) (fun E2 x1 y1 g1 => (E2 = "java/lang/IndexOutOfBoundsException" ∧ Φ 1 x1 y1 g1 f))
set_option maxRecDepth 100000 in
set_option maxHeartbeats 1000000 in
theorem kL_total {l : Launch} {D : va_G} {qo : Nat} {cJ : ClassId} {ad : Nat → Nat → Nat} {wd sk : Nat → Nat} {cI cB cP cT : ClassId} {sz : Nat} (x0 : Nat → Nat → Int32) (y0 : Nat → Nat → Nat) (g0 : Nat → Nat → Nat → Int32) (f0 : Nat → Int64) (a1 : Int32) (a2 : Int32) (BC BS : Nat) {Φ : Int32 → (Nat → Nat → Int32) → (Nat → Nat → Nat) → (Nat → Nat → Nat → Int32) → (Nat → Int64) → Prop} (hlf : l.stackTraces = false) (h : wL_total x0 y0 g0 f0 a1 a2 BC BS Φ) : vx_Met l yL_total (zwsH yL_total cL_total 5 (some .int) [(0, 10, 13, 25)]) { frames := 7, cells := BC, slots := BS, locals := 142 } (zPc D (lTy cI cB cP cT cJ) (lX wd sk) (cW [(qo, .inl (cJ, 1, .inr (.inl f0)))] ad wd cI cB cP cT (x0, y0, g0)) [.ref (ad 0 0), .int a1, .int a2, .ref qo] sz) (zQi D (lTy cI cB cP cT cJ) (fun w : cS × (Nat → Int64) => cW [(qo, .inl (cJ, 1, .inr (.inl w.2)))] ad wd cI cB cP cT w.1) (fun r w => Φ r w.1.1 w.1.2.1 w.1.2.2 w.2) (cW [(qo, .inl (cJ, 1, .inr (.inl f0)))] ad wd cI cB cP cT (x0, y0, g0)) sz) (fun _ _ _ => False) BC BS (va_A (cW [(qo, .inl (cJ, 1, .inr (.inl f0)))] ad wd cI cB cP cT (x0, y0, g0)) sz) := by
  refine zMetH (by decide) (Nat.le_of_ble_eq_true rfl) ?_
  intro p e s m args below meth c A hx hb hr hml hown hts hlocks htab hsz hAe hA hS hP hK hD hX ls hl
  subst hsz
  have hF : zFx p s m args c cL_total RL A D (cTy cI cB cP cT) (cX wd sk) 5 := ⟨hx, hb, hml, hown, hts, hA, hK.sub [0, 1, 2, 3] rfl, cX_cl wd sk, hX.1⟩
  have hl : lv_has ls 5 [(0, .ref (ad 0 0)), (1, .int a1), (2, .int a2), (3, .ref qo)] := hl
  unfold wL_total at h
  refine lv_aload_n (pc := 0) hx hb dL_total_0 rfl (lv_at hl 3 rfl) ?_
  refine lv_iconst (pc := 1) (v := 0) hx hb dL_total_1 (by decide) ?_
  refine lv_aload_n (pc := 2) hx hb dL_total_2 rfl (lv_at hl 0 rfl) ?_
  refine lv_iload_n (pc := 3) hx hb dL_total_3 rfl (lv_at hl 1 rfl) ?_
  refine lv_iload_n (pc := 4) hx hb dL_total_4 rfl (lv_at hl 2 rfl) ?_
  refine lCallp (pc := 5) (x := x0) (y := y0) (g := g0) [.int a1, .int a2] hF (kX8_total x0 y0 g0 a1 a2 BC BS hlf h) (cwL_X8_total hts ⟨Nat.le_of_ble_eq_true rfl, Nat.le_of_ble_eq_true rfl⟩) (d_rP hF hP (ci := 11) (q0 := 0) rfl (cA_S ..)) hP hD hS rfl rfl hl.1 (Nat.le_of_ble_eq_true rfl) dL_total_5 ⟨by show _ ≤ BC; (try dsimp only); omega, by show _ ≤ BS; (try dsimp only); omega⟩ (fun E2 ce q9 x1 y1 g1 H locs h hP hD hS hce hcv hcl => ?_) (fun r H locs h hP hD hS => ?_)
  · obtain ⟨rfl, h⟩ := h
    refine vx_catch (name := "java/lang/IndexOutOfBoundsException") hown (tableOf []) ⟨0, 10, 13, 25⟩ (tableOf []) (by rw [htab]; rfl) (fun _ h9 => absurd h9 List.not_mem_nil) (by decide) (by decide) (hts _ clL_25) (va_Nw.use rfl (hX.1.2.2.2.1 _ xcast_IOB)) hce hcv hcl ?_
    refine lv_astore (pc := 13) (lv' := [(4, .ref q9), (0, .ref (ad 0 0)), (1, .int a1), (2, .int a2), (3, .ref qo)]) hx hb dL_total_13 hl (by decide) rfl (fun ls hl => ?_)
    refine lv_iconst (pc := 15) (v := 1) hx hb dL_total_15 (by decide) ?_
    exact vx_ret (zirV (pc := 16) (Wd := (fun w : cS × (Nat → Int64) => cW [(qo, .inl (cJ, 1, .inr (.inl w.2)))] ad wd cI cB cP cT w.1)) (u := ((x1, y1, g1), f0)) hx hb hr hlocks hAe hK hP hD hS rfl dL_total_16 (by (try dsimp only); omega) (by (try dsimp only); omega) h)
  · refine lv_i2l (pc := 8) hx hb dL_total_8 rfl ?_
    refine va_last (pc := 9) (i := 0) hx hb hK hP hD hS 56 4 (lA ..) rfl (vp_in_iff.mpr (by decide)) dL_total_9 (fun H locs hP hD hS => ?_)
    rw [lU] at hP hD
    refine lv_goto (pc := 10) (tgt := 17) hx hb dL_total_10 (by decide) ?_
    refine lv_iconst (pc := 17) (v := 0) hx hb dL_total_17 (by decide) ?_
    exact vx_ret (zirV (pc := 18) (Wd := (fun w : cS × (Nat → Int64) => cW [(qo, .inl (cJ, 1, .inr (.inl w.2)))] ad wd cI cB cP cT w.1)) (u := ((x0, y0, g0), vp_updL f0 (0 : Int32).toNatClampNeg r.toInt64)) hx hb hr hlocks hAe hK hP hD hS rfl dL_total_18 (by (try dsimp only); omega) (by (try dsimp only); omega) h)

def wL_totalAnew (x : Nat → Nat → Int32) (y : Nat → Nat → Nat) (g : Nat → Nat → Nat → Int32) (f : Nat → Int64) (a1 : Int32) (a2 : Int32) (bc bs : Nat) (Φ : Int32 → (Nat → Nat → Int32) → (Nat → Nat → Nat) → (Nat → Nat → Nat → Int32) → (Nat → Int64) → Prop) : Prop := wX8_totalAnew x y g a1 a2 bc bs (fun r => Φ 0 x y g (vp_updL f (0 : Int32).toNatClampNeg r.toInt64)) (fun E2 x1 y1 g1 => (E2 = "java/lang/IndexOutOfBoundsException" ∧ Φ 1 x1 y1 g1 f) ∨ (E2 = "java/lang/IllegalStateException" ∧ Φ 2 x1 y1 g1 f))
set_option maxRecDepth 100000 in
set_option maxHeartbeats 1000000 in
theorem kL_totalAnew {l : Launch} {D : va_G} {qo : Nat} {cJ : ClassId} {ad : Nat → Nat → Nat} {wd sk : Nat → Nat} {cI cB cP cT : ClassId} {sz : Nat} (x0 : Nat → Nat → Int32) (y0 : Nat → Nat → Nat) (g0 : Nat → Nat → Nat → Int32) (f0 : Nat → Int64) (a1 : Int32) (a2 : Int32) (BC BS : Nat) {Φ : Int32 → (Nat → Nat → Int32) → (Nat → Nat → Nat) → (Nat → Nat → Nat → Int32) → (Nat → Int64) → Prop} (hlf : l.stackTraces = false) (h : wL_totalAnew x0 y0 g0 f0 a1 a2 BC BS Φ) : vx_Met l yL_totalAnew (zwsH yL_totalAnew cL_totalAnew 5 (some .int) [(0, 10, 13, 25), (0, 10, 17, 15)]) { frames := 7, cells := BC, slots := BS, locals := 142 } (zPc D (lTy cI cB cP cT cJ) (lX wd sk) (cW [(qo, .inl (cJ, 1, .inr (.inl f0)))] ad wd cI cB cP cT (x0, y0, g0)) [.ref (ad 0 0), .int a1, .int a2, .ref qo] sz) (zQi D (lTy cI cB cP cT cJ) (fun w : cS × (Nat → Int64) => cW [(qo, .inl (cJ, 1, .inr (.inl w.2)))] ad wd cI cB cP cT w.1) (fun r w => Φ r w.1.1 w.1.2.1 w.1.2.2 w.2) (cW [(qo, .inl (cJ, 1, .inr (.inl f0)))] ad wd cI cB cP cT (x0, y0, g0)) sz) (fun _ _ _ => False) BC BS (va_A (cW [(qo, .inl (cJ, 1, .inr (.inl f0)))] ad wd cI cB cP cT (x0, y0, g0)) sz) := by
  refine zMetH (by decide) (Nat.le_of_ble_eq_true rfl) ?_
  intro p e s m args below meth c A hx hb hr hml hown hts hlocks htab hsz hAe hA hS hP hK hD hX ls hl
  subst hsz
  have hF : zFx p s m args c cL_totalAnew RL A D (cTy cI cB cP cT) (cX wd sk) 5 := ⟨hx, hb, hml, hown, hts, hA, hK.sub [0, 1, 2, 3] rfl, cX_cl wd sk, hX.1⟩
  have hl : lv_has ls 5 [(0, .ref (ad 0 0)), (1, .int a1), (2, .int a2), (3, .ref qo)] := hl
  unfold wL_totalAnew at h
  refine lv_aload_n (pc := 0) hx hb dL_totalAnew_0 rfl (lv_at hl 3 rfl) ?_
  refine lv_iconst (pc := 1) (v := 0) hx hb dL_totalAnew_1 (by decide) ?_
  refine lv_aload_n (pc := 2) hx hb dL_totalAnew_2 rfl (lv_at hl 0 rfl) ?_
  refine lv_iload_n (pc := 3) hx hb dL_totalAnew_3 rfl (lv_at hl 1 rfl) ?_
  refine lv_iload_n (pc := 4) hx hb dL_totalAnew_4 rfl (lv_at hl 2 rfl) ?_
  refine lCallp (pc := 5) (x := x0) (y := y0) (g := g0) [.int a1, .int a2] hF (kX8_totalAnew x0 y0 g0 a1 a2 BC BS hlf h) (cwL_X8_totalAnew hts ⟨Nat.le_of_ble_eq_true rfl, Nat.le_of_ble_eq_true rfl⟩) (d_rP hF hP (ci := 11) (q0 := 0) rfl (cA_S ..)) hP hD hS rfl rfl hl.1 (Nat.le_of_ble_eq_true rfl) dL_totalAnew_5 ⟨by show _ ≤ BC; (try dsimp only); omega, by show _ ≤ BS; (try dsimp only); omega⟩ (fun E2 ce q9 x1 y1 g1 H locs h hP hD hS hce hcv hcl => ?_) (fun r H locs h hP hD hS => ?_)
  · rcases h with ⟨rfl, h⟩ | ⟨rfl, h⟩
    · refine vx_catch (name := "java/lang/IndexOutOfBoundsException") hown (tableOf []) ⟨0, 10, 13, 25⟩ (tableOf [(0, 10, 17, 15)]) (by rw [htab]; rfl) (fun _ h9 => absurd h9 List.not_mem_nil) (by decide) (by decide) (hts _ clL_25) (va_Nw.use rfl (hX.1.2.2.2.1 _ xcast_IOB)) hce hcv hcl ?_
      refine lv_astore (pc := 13) (lv' := [(4, .ref q9), (0, .ref (ad 0 0)), (1, .int a1), (2, .int a2), (3, .ref qo)]) hx hb dL_totalAnew_13 hl (by decide) rfl (fun ls hl => ?_)
      refine lv_iconst (pc := 15) (v := 1) hx hb dL_totalAnew_15 (by decide) ?_
      exact vx_ret (zirV (pc := 16) (Wd := (fun w : cS × (Nat → Int64) => cW [(qo, .inl (cJ, 1, .inr (.inl w.2)))] ad wd cI cB cP cT w.1)) (u := ((x1, y1, g1), f0)) hx hb hr hlocks hAe hK hP hD hS rfl dL_totalAnew_16 (by (try dsimp only); omega) (by (try dsimp only); omega) h)
    · refine vx_catch (name := "java/lang/IllegalStateException") hown (tableOf [(0, 10, 13, 25)]) ⟨0, 10, 17, 15⟩ (tableOf []) (by rw [htab]; rfl) (List.forall_mem_cons.mpr ⟨Or.inr ⟨by decide, "java/lang/IndexOutOfBoundsException", hts _ clL_25, hX.2 _ (by decide +kernel) _ (by decide +kernel) (by decide +kernel)⟩, (fun _ h9 => absurd h9 List.not_mem_nil)⟩) (by decide) (by decide) (hts _ clL_15) (va_Nw.use rfl (hX.1.2.2.2.1 _ xcast_ISE)) hce hcv hcl ?_
      refine lv_astore (pc := 17) (lv' := [(4, .ref q9), (0, .ref (ad 0 0)), (1, .int a1), (2, .int a2), (3, .ref qo)]) hx hb dL_totalAnew_17 hl (by decide) rfl (fun ls hl => ?_)
      refine lv_iconst (pc := 19) (v := 2) hx hb dL_totalAnew_19 (by decide) ?_
      exact vx_ret (zirV (pc := 20) (Wd := (fun w : cS × (Nat → Int64) => cW [(qo, .inl (cJ, 1, .inr (.inl w.2)))] ad wd cI cB cP cT w.1)) (u := ((x1, y1, g1), f0)) hx hb hr hlocks hAe hK hP hD hS rfl dL_totalAnew_20 (by (try dsimp only); omega) (by (try dsimp only); omega) h)
  · refine lv_i2l (pc := 8) hx hb dL_totalAnew_8 rfl ?_
    refine va_last (pc := 9) (i := 0) hx hb hK hP hD hS 56 4 (lA ..) rfl (vp_in_iff.mpr (by decide)) dL_totalAnew_9 (fun H locs hP hD hS => ?_)
    rw [lU] at hP hD
    refine lv_goto (pc := 10) (tgt := 21) hx hb dL_totalAnew_10 (by decide) ?_
    refine lv_iconst (pc := 21) (v := 0) hx hb dL_totalAnew_21 (by decide) ?_
    exact vx_ret (zirV (pc := 22) (Wd := (fun w : cS × (Nat → Int64) => cW [(qo, .inl (cJ, 1, .inr (.inl w.2)))] ad wd cI cB cP cT w.1)) (u := ((x0, y0, g0), vp_updL f0 (0 : Int32).toNatClampNeg r.toInt64)) hx hb hr hlocks hAe hK hP hD hS rfl dL_totalAnew_22 (by (try dsimp only); omega) (by (try dsimp only); omega) h)

def wL_barrier (x : Nat → Nat → Int32) (y : Nat → Nat → Nat) (g : Nat → Nat → Nat → Int32) (f : Nat → Int64) (bc bs : Nat) (Φ : Int32 → (Nat → Nat → Int32) → (Nat → Nat → Nat) → (Nat → Nat → Nat → Int32) → (Nat → Int64) → Prop) : Prop := wX8_barrier x y g bc bs (fun r x1 y1 g1 => Φ 0 x1 y1 g1 (vp_updL f (0 : Int32).toNatClampNeg r.toInt64)) (fun E2 x1 y1 g1 => (E2 = "java/lang/IllegalStateException" ∧ Φ 1 x1 y1 g1 f))
set_option maxRecDepth 100000 in
set_option maxHeartbeats 1000000 in
theorem kL_barrier {l : Launch} {D : va_G} {qo : Nat} {cJ : ClassId} {ad : Nat → Nat → Nat} {wd sk : Nat → Nat} {cI cB cP cT : ClassId} {sz : Nat} (x0 : Nat → Nat → Int32) (y0 : Nat → Nat → Nat) (g0 : Nat → Nat → Nat → Int32) (f0 : Nat → Int64) (BC BS : Nat) {Φ : Int32 → (Nat → Nat → Int32) → (Nat → Nat → Nat) → (Nat → Nat → Nat → Int32) → (Nat → Int64) → Prop} (hlf : l.stackTraces = false) (h : wL_barrier x0 y0 g0 f0 BC BS Φ) : vx_Met l yL_barrier (zwsH yL_barrier cL_barrier 3 (some .int) [(0, 8, 11, 15)]) { frames := 7, cells := BC, slots := BS, locals := 169 } (zPc D (lTy cI cB cP cT cJ) (lX wd sk) (cW [(qo, .inl (cJ, 1, .inr (.inl f0)))] ad wd cI cB cP cT (x0, y0, g0)) [.ref (ad 0 0), .ref qo] sz) (zQi D (lTy cI cB cP cT cJ) (fun w : cS × (Nat → Int64) => cW [(qo, .inl (cJ, 1, .inr (.inl w.2)))] ad wd cI cB cP cT w.1) (fun r w => Φ r w.1.1 w.1.2.1 w.1.2.2 w.2) (cW [(qo, .inl (cJ, 1, .inr (.inl f0)))] ad wd cI cB cP cT (x0, y0, g0)) sz) (fun _ _ _ => False) BC BS (va_A (cW [(qo, .inl (cJ, 1, .inr (.inl f0)))] ad wd cI cB cP cT (x0, y0, g0)) sz) := by
  refine zMetH (by decide) (Nat.le_of_ble_eq_true rfl) ?_
  intro p e s m args below meth c A hx hb hr hml hown hts hlocks htab hsz hAe hA hS hP hK hD hX ls hl
  subst hsz
  have hF : zFx p s m args c cL_barrier RL A D (cTy cI cB cP cT) (cX wd sk) 3 := ⟨hx, hb, hml, hown, hts, hA, hK.sub [0, 1, 2, 3] rfl, cX_cl wd sk, hX.1⟩
  have hl : lv_has ls 3 [(0, .ref (ad 0 0)), (1, .ref qo)] := hl
  unfold wL_barrier at h
  refine lv_aload_n (pc := 0) hx hb dL_barrier_0 rfl (lv_at hl 1 rfl) ?_
  refine lv_iconst (pc := 1) (v := 0) hx hb dL_barrier_1 (by decide) ?_
  refine lv_aload_n (pc := 2) hx hb dL_barrier_2 rfl (lv_at hl 0 rfl) ?_
  refine lCall (pc := 3) (x := x0) (y := y0) (g := g0) [] hF (kX8_barrier x0 y0 g0 BC BS hlf h) (cwL_X8_barrier hts ⟨Nat.le_of_ble_eq_true rfl, Nat.le_of_ble_eq_true rfl⟩) (d_rP hF hP (ci := 11) (q0 := 0) rfl (cA_S ..)) hP hD hS rfl rfl hl.1 (Nat.le_of_ble_eq_true rfl) dL_barrier_3 ⟨by show _ ≤ BC; (try dsimp only); omega, by show _ ≤ BS; (try dsimp only); omega⟩ (fun E2 ce q9 x1 y1 g1 H locs h hP hD hS hce hcv hcl => ?_) (fun r x1 y1 g1 H locs h hP hD hS => ?_)
  · obtain ⟨rfl, h⟩ := h
    refine vx_catch (name := "java/lang/IllegalStateException") hown (tableOf []) ⟨0, 8, 11, 15⟩ (tableOf []) (by rw [htab]; rfl) (fun _ h9 => absurd h9 List.not_mem_nil) (by decide) (by decide) (hts _ clL_15) (va_Nw.use rfl (hX.1.2.2.2.1 _ xcast_ISE)) hce hcv hcl ?_
    refine lv_astore_n (pc := 11) (lv' := [(2, .ref q9), (0, .ref (ad 0 0)), (1, .ref qo)]) hx hb dL_barrier_11 rfl hl (by decide) rfl (fun ls hl => ?_)
    refine lv_iconst (pc := 12) (v := 1) hx hb dL_barrier_12 (by decide) ?_
    exact vx_ret (zirV (pc := 13) (Wd := (fun w : cS × (Nat → Int64) => cW [(qo, .inl (cJ, 1, .inr (.inl w.2)))] ad wd cI cB cP cT w.1)) (u := ((x1, y1, g1), f0)) hx hb hr hlocks hAe hK hP hD hS rfl dL_barrier_13 (by (try dsimp only); omega) (by (try dsimp only); omega) h)
  · refine lv_i2l (pc := 6) hx hb dL_barrier_6 rfl ?_
    refine va_last (pc := 7) (i := 0) hx hb hK hP hD hS 56 4 (lA ..) rfl (vp_in_iff.mpr (by decide)) dL_barrier_7 (fun H locs hP hD hS => ?_)
    rw [lU] at hP hD
    refine lv_goto (pc := 8) (tgt := 14) hx hb dL_barrier_8 (by decide) ?_
    refine lv_iconst (pc := 14) (v := 0) hx hb dL_barrier_14 (by decide) ?_
    exact vx_ret (zirV (pc := 15) (Wd := (fun w : cS × (Nat → Int64) => cW [(qo, .inl (cJ, 1, .inr (.inl w.2)))] ad wd cI cB cP cT w.1)) (u := ((x1, y1, g1), vp_updL f0 (0 : Int32).toNatClampNeg r.toInt64)) hx hb hr hlocks hAe hK hP hD hS rfl dL_barrier_15 (by (try dsimp only); omega) (by (try dsimp only); omega) h)

def wL_complete (x : Nat → Nat → Int32) (y : Nat → Nat → Nat) (g : Nat → Nat → Nat → Int32) (f : Nat → Int64) (a1 : Int32) (bc bs : Nat) (Φ : Int32 → (Nat → Nat → Int32) → (Nat → Nat → Nat) → (Nat → Nat → Nat → Int32) → (Nat → Int64) → Prop) : Prop := wX8_complete x y g a1 bc bs (fun r x1 y1 g1 => Φ 0 x1 y1 g1 (vp_updL f (0 : Int32).toNatClampNeg r.toInt64)) (fun E2 x1 y1 g1 => (E2 = "java/lang/IndexOutOfBoundsException" ∧ Φ 1 x1 y1 g1 f))
set_option maxRecDepth 100000 in
set_option maxHeartbeats 1000000 in
theorem kL_complete {l : Launch} {D : va_G} {qo : Nat} {cJ : ClassId} {ad : Nat → Nat → Nat} {wd sk : Nat → Nat} {cI cB cP cT : ClassId} {sz : Nat} (x0 : Nat → Nat → Int32) (y0 : Nat → Nat → Nat) (g0 : Nat → Nat → Nat → Int32) (f0 : Nat → Int64) (a1 : Int32) (BC BS : Nat) {Φ : Int32 → (Nat → Nat → Int32) → (Nat → Nat → Nat) → (Nat → Nat → Nat → Int32) → (Nat → Int64) → Prop} (hlf : l.stackTraces = false) (h : wL_complete x0 y0 g0 f0 a1 BC BS Φ) : vx_Met l yL_complete (zwsH yL_complete cL_complete 4 (some .int) [(0, 9, 12, 25)]) { frames := 7, cells := BC, slots := BS, locals := 173 } (zPc D (lTy cI cB cP cT cJ) (lX wd sk) (cW [(qo, .inl (cJ, 1, .inr (.inl f0)))] ad wd cI cB cP cT (x0, y0, g0)) [.ref (ad 0 0), .int a1, .ref qo] sz) (zQi D (lTy cI cB cP cT cJ) (fun w : cS × (Nat → Int64) => cW [(qo, .inl (cJ, 1, .inr (.inl w.2)))] ad wd cI cB cP cT w.1) (fun r w => Φ r w.1.1 w.1.2.1 w.1.2.2 w.2) (cW [(qo, .inl (cJ, 1, .inr (.inl f0)))] ad wd cI cB cP cT (x0, y0, g0)) sz) (fun _ _ _ => False) BC BS (va_A (cW [(qo, .inl (cJ, 1, .inr (.inl f0)))] ad wd cI cB cP cT (x0, y0, g0)) sz) := by
  refine zMetH (by decide) (Nat.le_of_ble_eq_true rfl) ?_
  intro p e s m args below meth c A hx hb hr hml hown hts hlocks htab hsz hAe hA hS hP hK hD hX ls hl
  subst hsz
  have hF : zFx p s m args c cL_complete RL A D (cTy cI cB cP cT) (cX wd sk) 4 := ⟨hx, hb, hml, hown, hts, hA, hK.sub [0, 1, 2, 3] rfl, cX_cl wd sk, hX.1⟩
  have hl : lv_has ls 4 [(0, .ref (ad 0 0)), (1, .int a1), (2, .ref qo)] := hl
  unfold wL_complete at h
  refine lv_aload_n (pc := 0) hx hb dL_complete_0 rfl (lv_at hl 2 rfl) ?_
  refine lv_iconst (pc := 1) (v := 0) hx hb dL_complete_1 (by decide) ?_
  refine lv_aload_n (pc := 2) hx hb dL_complete_2 rfl (lv_at hl 0 rfl) ?_
  refine lv_iload_n (pc := 3) hx hb dL_complete_3 rfl (lv_at hl 1 rfl) ?_
  refine lCall (pc := 4) (x := x0) (y := y0) (g := g0) [.int a1] hF (kX8_complete x0 y0 g0 a1 BC BS hlf h) (cwL_X8_complete hts ⟨Nat.le_of_ble_eq_true rfl, Nat.le_of_ble_eq_true rfl⟩) (d_rP hF hP (ci := 11) (q0 := 0) rfl (cA_S ..)) hP hD hS rfl rfl hl.1 (Nat.le_of_ble_eq_true rfl) dL_complete_4 ⟨by show _ ≤ BC; (try dsimp only); omega, by show _ ≤ BS; (try dsimp only); omega⟩ (fun E2 ce q9 x1 y1 g1 H locs h hP hD hS hce hcv hcl => ?_) (fun r x1 y1 g1 H locs h hP hD hS => ?_)
  · obtain ⟨rfl, h⟩ := h
    refine vx_catch (name := "java/lang/IndexOutOfBoundsException") hown (tableOf []) ⟨0, 9, 12, 25⟩ (tableOf []) (by rw [htab]; rfl) (fun _ h9 => absurd h9 List.not_mem_nil) (by decide) (by decide) (hts _ clL_25) (va_Nw.use rfl (hX.1.2.2.2.1 _ xcast_IOB)) hce hcv hcl ?_
    refine lv_astore_n (pc := 12) (lv' := [(3, .ref q9), (0, .ref (ad 0 0)), (1, .int a1), (2, .ref qo)]) hx hb dL_complete_12 rfl hl (by decide) rfl (fun ls hl => ?_)
    refine lv_iconst (pc := 13) (v := 1) hx hb dL_complete_13 (by decide) ?_
    exact vx_ret (zirV (pc := 14) (Wd := (fun w : cS × (Nat → Int64) => cW [(qo, .inl (cJ, 1, .inr (.inl w.2)))] ad wd cI cB cP cT w.1)) (u := ((x1, y1, g1), f0)) hx hb hr hlocks hAe hK hP hD hS rfl dL_complete_14 (by (try dsimp only); omega) (by (try dsimp only); omega) h)
  · refine lv_i2l (pc := 7) hx hb dL_complete_7 rfl ?_
    refine va_last (pc := 8) (i := 0) hx hb hK hP hD hS 56 4 (lA ..) rfl (vp_in_iff.mpr (by decide)) dL_complete_8 (fun H locs hP hD hS => ?_)
    rw [lU] at hP hD
    refine lv_goto (pc := 9) (tgt := 15) hx hb dL_complete_9 (by decide) ?_
    refine lv_iconst (pc := 15) (v := 0) hx hb dL_complete_15 (by decide) ?_
    exact vx_ret (zirV (pc := 16) (Wd := (fun w : cS × (Nat → Int64) => cW [(qo, .inl (cJ, 1, .inr (.inl w.2)))] ad wd cI cB cP cT w.1)) (u := ((x1, y1, g1), vp_updL f0 (0 : Int32).toNatClampNeg r.toInt64)) hx hb hr hlocks hAe hK hP hD hS rfl dL_complete_16 (by (try dsimp only); omega) (by (try dsimp only); omega) h)

def wL_crash (x : Nat → Nat → Int32) (y : Nat → Nat → Nat) (g : Nat → Nat → Nat → Int32) (f : Nat → Int64) (bc bs : Nat) (Φ : Int32 → (Nat → Nat → Int32) → (Nat → Nat → Nat) → (Nat → Nat → Nat → Int32) → (Nat → Int64) → Prop) : Prop := wX8_crash x y g bc bs (fun r x1 y1 g1 => Φ 0 x1 y1 g1 (vp_updL f (0 : Int32).toNatClampNeg r.toInt64)) (fun E2 x1 y1 g1 => (E2 = "java/lang/IllegalStateException" ∧ Φ 1 x1 y1 g1 f))
set_option maxRecDepth 100000 in
set_option maxHeartbeats 1000000 in
theorem kL_crash {l : Launch} {D : va_G} {qo : Nat} {cJ : ClassId} {ad : Nat → Nat → Nat} {wd sk : Nat → Nat} {cI cB cP cT : ClassId} {sz : Nat} (x0 : Nat → Nat → Int32) (y0 : Nat → Nat → Nat) (g0 : Nat → Nat → Nat → Int32) (f0 : Nat → Int64) (BC BS : Nat) {Φ : Int32 → (Nat → Nat → Int32) → (Nat → Nat → Nat) → (Nat → Nat → Nat → Int32) → (Nat → Int64) → Prop} (hlf : l.stackTraces = false) (h : wL_crash x0 y0 g0 f0 BC BS Φ) : vx_Met l yL_crash (zwsH yL_crash cL_crash 3 (some .int) [(0, 8, 11, 15)]) { frames := 7, cells := BC, slots := BS, locals := 147 } (zPc D (lTy cI cB cP cT cJ) (lX wd sk) (cW [(qo, .inl (cJ, 1, .inr (.inl f0)))] ad wd cI cB cP cT (x0, y0, g0)) [.ref (ad 0 0), .ref qo] sz) (zQi D (lTy cI cB cP cT cJ) (fun w : cS × (Nat → Int64) => cW [(qo, .inl (cJ, 1, .inr (.inl w.2)))] ad wd cI cB cP cT w.1) (fun r w => Φ r w.1.1 w.1.2.1 w.1.2.2 w.2) (cW [(qo, .inl (cJ, 1, .inr (.inl f0)))] ad wd cI cB cP cT (x0, y0, g0)) sz) (fun _ _ _ => False) BC BS (va_A (cW [(qo, .inl (cJ, 1, .inr (.inl f0)))] ad wd cI cB cP cT (x0, y0, g0)) sz) := by
  refine zMetH (by decide) (Nat.le_of_ble_eq_true rfl) ?_
  intro p e s m args below meth c A hx hb hr hml hown hts hlocks htab hsz hAe hA hS hP hK hD hX ls hl
  subst hsz
  have hF : zFx p s m args c cL_crash RL A D (cTy cI cB cP cT) (cX wd sk) 3 := ⟨hx, hb, hml, hown, hts, hA, hK.sub [0, 1, 2, 3] rfl, cX_cl wd sk, hX.1⟩
  have hl : lv_has ls 3 [(0, .ref (ad 0 0)), (1, .ref qo)] := hl
  unfold wL_crash at h
  refine lv_aload_n (pc := 0) hx hb dL_crash_0 rfl (lv_at hl 1 rfl) ?_
  refine lv_iconst (pc := 1) (v := 0) hx hb dL_crash_1 (by decide) ?_
  refine lv_aload_n (pc := 2) hx hb dL_crash_2 rfl (lv_at hl 0 rfl) ?_
  refine lCall (pc := 3) (x := x0) (y := y0) (g := g0) [] hF (kX8_crash x0 y0 g0 BC BS hlf h) (cwL_X8_crash hts ⟨Nat.le_of_ble_eq_true rfl, Nat.le_of_ble_eq_true rfl⟩) (d_rP hF hP (ci := 11) (q0 := 0) rfl (cA_S ..)) hP hD hS rfl rfl hl.1 (Nat.le_of_ble_eq_true rfl) dL_crash_3 ⟨by show _ ≤ BC; (try dsimp only); omega, by show _ ≤ BS; (try dsimp only); omega⟩ (fun E2 ce q9 x1 y1 g1 H locs h hP hD hS hce hcv hcl => ?_) (fun r x1 y1 g1 H locs h hP hD hS => ?_)
  · obtain ⟨rfl, h⟩ := h
    refine vx_catch (name := "java/lang/IllegalStateException") hown (tableOf []) ⟨0, 8, 11, 15⟩ (tableOf []) (by rw [htab]; rfl) (fun _ h9 => absurd h9 List.not_mem_nil) (by decide) (by decide) (hts _ clL_15) (va_Nw.use rfl (hX.1.2.2.2.1 _ xcast_ISE)) hce hcv hcl ?_
    refine lv_astore_n (pc := 11) (lv' := [(2, .ref q9), (0, .ref (ad 0 0)), (1, .ref qo)]) hx hb dL_crash_11 rfl hl (by decide) rfl (fun ls hl => ?_)
    refine lv_iconst (pc := 12) (v := 1) hx hb dL_crash_12 (by decide) ?_
    exact vx_ret (zirV (pc := 13) (Wd := (fun w : cS × (Nat → Int64) => cW [(qo, .inl (cJ, 1, .inr (.inl w.2)))] ad wd cI cB cP cT w.1)) (u := ((x1, y1, g1), f0)) hx hb hr hlocks hAe hK hP hD hS rfl dL_crash_13 (by (try dsimp only); omega) (by (try dsimp only); omega) h)
  · refine lv_i2l (pc := 6) hx hb dL_crash_6 rfl ?_
    refine va_last (pc := 7) (i := 0) hx hb hK hP hD hS 56 4 (lA ..) rfl (vp_in_iff.mpr (by decide)) dL_crash_7 (fun H locs hP hD hS => ?_)
    rw [lU] at hP hD
    refine lv_goto (pc := 8) (tgt := 14) hx hb dL_crash_8 (by decide) ?_
    refine lv_iconst (pc := 14) (v := 0) hx hb dL_crash_14 (by decide) ?_
    exact vx_ret (zirV (pc := 15) (Wd := (fun w : cS × (Nat → Int64) => cW [(qo, .inl (cJ, 1, .inr (.inl w.2)))] ad wd cI cB cP cT w.1)) (u := ((x1, y1, g1), vp_updL f0 (0 : Int32).toNatClampNeg r.toInt64)) hx hb hr hlocks hAe hK hP hD hS rfl dL_crash_15 (by (try dsimp only); omega) (by (try dsimp only); omega) h)

def wL_workers (x : Nat → Nat → Int32) (y : Nat → Nat → Nat) (g : Nat → Nat → Nat → Int32) (f : Nat → Int64) (a1 : Int32) (bc bs : Nat) (Φ : Int32 → (Nat → Nat → Int32) → (Nat → Nat → Nat) → (Nat → Nat → Nat → Int32) → (Nat → Int64) → Prop) : Prop := wX8_workers x y g a1 bc bs (fun r x1 y1 g1 => Φ 0 x1 y1 g1 (vp_updL f (0 : Int32).toNatClampNeg r.toInt64)) (fun E2 x1 y1 g1 => (E2 = "java/lang/IllegalArgumentException" ∧ Φ 1 x1 y1 g1 f))
set_option maxRecDepth 100000 in
set_option maxHeartbeats 1000000 in
theorem kL_workers {l : Launch} {D : va_G} {qo : Nat} {cJ : ClassId} {ad : Nat → Nat → Nat} {wd sk : Nat → Nat} {cI cB cP cT : ClassId} {sz : Nat} (x0 : Nat → Nat → Int32) (y0 : Nat → Nat → Nat) (g0 : Nat → Nat → Nat → Int32) (f0 : Nat → Int64) (a1 : Int32) (BC BS : Nat) {Φ : Int32 → (Nat → Nat → Int32) → (Nat → Nat → Nat) → (Nat → Nat → Nat → Int32) → (Nat → Int64) → Prop} (hlf : l.stackTraces = false) (h : wL_workers x0 y0 g0 f0 a1 BC BS Φ) : vx_Met l yL_workers (zwsH yL_workers cL_workers 4 (some .int) [(0, 9, 12, 13)]) { frames := 7, cells := BC, slots := BS, locals := 144 } (zPc D (lTy cI cB cP cT cJ) (lX wd sk) (cW [(qo, .inl (cJ, 1, .inr (.inl f0)))] ad wd cI cB cP cT (x0, y0, g0)) [.ref (ad 0 0), .int a1, .ref qo] sz) (zQi D (lTy cI cB cP cT cJ) (fun w : cS × (Nat → Int64) => cW [(qo, .inl (cJ, 1, .inr (.inl w.2)))] ad wd cI cB cP cT w.1) (fun r w => Φ r w.1.1 w.1.2.1 w.1.2.2 w.2) (cW [(qo, .inl (cJ, 1, .inr (.inl f0)))] ad wd cI cB cP cT (x0, y0, g0)) sz) (fun _ _ _ => False) BC BS (va_A (cW [(qo, .inl (cJ, 1, .inr (.inl f0)))] ad wd cI cB cP cT (x0, y0, g0)) sz) := by
  refine zMetH (by decide) (Nat.le_of_ble_eq_true rfl) ?_
  intro p e s m args below meth c A hx hb hr hml hown hts hlocks htab hsz hAe hA hS hP hK hD hX ls hl
  subst hsz
  have hF : zFx p s m args c cL_workers RL A D (cTy cI cB cP cT) (cX wd sk) 4 := ⟨hx, hb, hml, hown, hts, hA, hK.sub [0, 1, 2, 3] rfl, cX_cl wd sk, hX.1⟩
  have hl : lv_has ls 4 [(0, .ref (ad 0 0)), (1, .int a1), (2, .ref qo)] := hl
  unfold wL_workers at h
  refine lv_aload_n (pc := 0) hx hb dL_workers_0 rfl (lv_at hl 2 rfl) ?_
  refine lv_iconst (pc := 1) (v := 0) hx hb dL_workers_1 (by decide) ?_
  refine lv_aload_n (pc := 2) hx hb dL_workers_2 rfl (lv_at hl 0 rfl) ?_
  refine lv_iload_n (pc := 3) hx hb dL_workers_3 rfl (lv_at hl 1 rfl) ?_
  refine lCall (pc := 4) (x := x0) (y := y0) (g := g0) [.int a1] hF (kX8_workers x0 y0 g0 a1 BC BS hlf h) (cwL_X8_workers hts ⟨Nat.le_of_ble_eq_true rfl, Nat.le_of_ble_eq_true rfl⟩) (d_rP hF hP (ci := 11) (q0 := 0) rfl (cA_S ..)) hP hD hS rfl rfl hl.1 (Nat.le_of_ble_eq_true rfl) dL_workers_4 ⟨by show _ ≤ BC; (try dsimp only); omega, by show _ ≤ BS; (try dsimp only); omega⟩ (fun E2 ce q9 x1 y1 g1 H locs h hP hD hS hce hcv hcl => ?_) (fun r x1 y1 g1 H locs h hP hD hS => ?_)
  · obtain ⟨rfl, h⟩ := h
    refine vx_catch (name := "java/lang/IllegalArgumentException") hown (tableOf []) ⟨0, 9, 12, 13⟩ (tableOf []) (by rw [htab]; rfl) (fun _ h9 => absurd h9 List.not_mem_nil) (by decide) (by decide) (hts _ clL_13) (va_Nw.use rfl (hX.1.2.2.2.1 _ xcast_IAE)) hce hcv hcl ?_
    refine lv_astore_n (pc := 12) (lv' := [(3, .ref q9), (0, .ref (ad 0 0)), (1, .int a1), (2, .ref qo)]) hx hb dL_workers_12 rfl hl (by decide) rfl (fun ls hl => ?_)
    refine lv_iconst (pc := 13) (v := 1) hx hb dL_workers_13 (by decide) ?_
    exact vx_ret (zirV (pc := 14) (Wd := (fun w : cS × (Nat → Int64) => cW [(qo, .inl (cJ, 1, .inr (.inl w.2)))] ad wd cI cB cP cT w.1)) (u := ((x1, y1, g1), f0)) hx hb hr hlocks hAe hK hP hD hS rfl dL_workers_14 (by (try dsimp only); omega) (by (try dsimp only); omega) h)
  · refine lv_i2l (pc := 7) hx hb dL_workers_7 rfl ?_
    refine va_last (pc := 8) (i := 0) hx hb hK hP hD hS 56 4 (lA ..) rfl (vp_in_iff.mpr (by decide)) dL_workers_8 (fun H locs hP hD hS => ?_)
    rw [lU] at hP hD
    refine lv_goto (pc := 9) (tgt := 15) hx hb dL_workers_9 (by decide) ?_
    refine lv_iconst (pc := 15) (v := 0) hx hb dL_workers_15 (by decide) ?_
    exact vx_ret (zirV (pc := 16) (Wd := (fun w : cS × (Nat → Int64) => cW [(qo, .inl (cJ, 1, .inr (.inl w.2)))] ad wd cI cB cP cT w.1)) (u := ((x1, y1, g1), vp_updL f0 (0 : Int32).toNatClampNeg r.toInt64)) hx hb hr hlocks hAe hK hP hD hS rfl dL_workers_16 (by (try dsimp only); omega) (by (try dsimp only); omega) h)

def wL_load (x : Nat → Nat → Int32) (y : Nat → Nat → Nat) (g : Nat → Nat → Nat → Int32) (f : Nat → Int64) (a1 : Int32) (bc bs : Nat) (Φ : Int32 → (Nat → Nat → Int32) → (Nat → Nat → Nat) → (Nat → Nat → Nat → Int32) → (Nat → Int64) → Prop) : Prop := wX8_load x y g a1 bc bs (fun r => Φ 0 x y g (vp_updL f (0 : Int32).toNatClampNeg r.toInt64)) (fun E2 x1 y1 g1 => (E2 = "java/lang/IndexOutOfBoundsException" ∧ Φ 1 x1 y1 g1 f))
set_option maxRecDepth 100000 in
set_option maxHeartbeats 1000000 in
theorem kL_load {l : Launch} {D : va_G} {qo : Nat} {cJ : ClassId} {ad : Nat → Nat → Nat} {wd sk : Nat → Nat} {cI cB cP cT : ClassId} {sz : Nat} (x0 : Nat → Nat → Int32) (y0 : Nat → Nat → Nat) (g0 : Nat → Nat → Nat → Int32) (f0 : Nat → Int64) (a1 : Int32) (BC BS : Nat) {Φ : Int32 → (Nat → Nat → Int32) → (Nat → Nat → Nat) → (Nat → Nat → Nat → Int32) → (Nat → Int64) → Prop} (hlf : l.stackTraces = false) (h : wL_load x0 y0 g0 f0 a1 BC BS Φ) : vx_Met l yL_load (zwsH yL_load cL_load 4 (some .int) [(0, 9, 12, 25)]) { frames := 7, cells := BC, slots := BS, locals := 143 } (zPc D (lTy cI cB cP cT cJ) (lX wd sk) (cW [(qo, .inl (cJ, 1, .inr (.inl f0)))] ad wd cI cB cP cT (x0, y0, g0)) [.ref (ad 0 0), .int a1, .ref qo] sz) (zQi D (lTy cI cB cP cT cJ) (fun w : cS × (Nat → Int64) => cW [(qo, .inl (cJ, 1, .inr (.inl w.2)))] ad wd cI cB cP cT w.1) (fun r w => Φ r w.1.1 w.1.2.1 w.1.2.2 w.2) (cW [(qo, .inl (cJ, 1, .inr (.inl f0)))] ad wd cI cB cP cT (x0, y0, g0)) sz) (fun _ _ _ => False) BC BS (va_A (cW [(qo, .inl (cJ, 1, .inr (.inl f0)))] ad wd cI cB cP cT (x0, y0, g0)) sz) := by
  refine zMetH (by decide) (Nat.le_of_ble_eq_true rfl) ?_
  intro p e s m args below meth c A hx hb hr hml hown hts hlocks htab hsz hAe hA hS hP hK hD hX ls hl
  subst hsz
  have hF : zFx p s m args c cL_load RL A D (cTy cI cB cP cT) (cX wd sk) 4 := ⟨hx, hb, hml, hown, hts, hA, hK.sub [0, 1, 2, 3] rfl, cX_cl wd sk, hX.1⟩
  have hl : lv_has ls 4 [(0, .ref (ad 0 0)), (1, .int a1), (2, .ref qo)] := hl
  unfold wL_load at h
  refine lv_aload_n (pc := 0) hx hb dL_load_0 rfl (lv_at hl 2 rfl) ?_
  refine lv_iconst (pc := 1) (v := 0) hx hb dL_load_1 (by decide) ?_
  refine lv_aload_n (pc := 2) hx hb dL_load_2 rfl (lv_at hl 0 rfl) ?_
  refine lv_iload_n (pc := 3) hx hb dL_load_3 rfl (lv_at hl 1 rfl) ?_
  refine lCallp (pc := 4) (x := x0) (y := y0) (g := g0) [.int a1] hF (kX8_load x0 y0 g0 a1 BC BS hlf h) (cwL_X8_load hts ⟨Nat.le_of_ble_eq_true rfl, Nat.le_of_ble_eq_true rfl⟩) (d_rP hF hP (ci := 11) (q0 := 0) rfl (cA_S ..)) hP hD hS rfl rfl hl.1 (Nat.le_of_ble_eq_true rfl) dL_load_4 ⟨by show _ ≤ BC; (try dsimp only); omega, by show _ ≤ BS; (try dsimp only); omega⟩ (fun E2 ce q9 x1 y1 g1 H locs h hP hD hS hce hcv hcl => ?_) (fun r H locs h hP hD hS => ?_)
  · obtain ⟨rfl, h⟩ := h
    refine vx_catch (name := "java/lang/IndexOutOfBoundsException") hown (tableOf []) ⟨0, 9, 12, 25⟩ (tableOf []) (by rw [htab]; rfl) (fun _ h9 => absurd h9 List.not_mem_nil) (by decide) (by decide) (hts _ clL_25) (va_Nw.use rfl (hX.1.2.2.2.1 _ xcast_IOB)) hce hcv hcl ?_
    refine lv_astore_n (pc := 12) (lv' := [(3, .ref q9), (0, .ref (ad 0 0)), (1, .int a1), (2, .ref qo)]) hx hb dL_load_12 rfl hl (by decide) rfl (fun ls hl => ?_)
    refine lv_iconst (pc := 13) (v := 1) hx hb dL_load_13 (by decide) ?_
    exact vx_ret (zirV (pc := 14) (Wd := (fun w : cS × (Nat → Int64) => cW [(qo, .inl (cJ, 1, .inr (.inl w.2)))] ad wd cI cB cP cT w.1)) (u := ((x1, y1, g1), f0)) hx hb hr hlocks hAe hK hP hD hS rfl dL_load_14 (by (try dsimp only); omega) (by (try dsimp only); omega) h)
  · refine lv_i2l (pc := 7) hx hb dL_load_7 rfl ?_
    refine va_last (pc := 8) (i := 0) hx hb hK hP hD hS 56 4 (lA ..) rfl (vp_in_iff.mpr (by decide)) dL_load_8 (fun H locs hP hD hS => ?_)
    rw [lU] at hP hD
    refine lv_goto (pc := 9) (tgt := 15) hx hb dL_load_9 (by decide) ?_
    refine lv_iconst (pc := 15) (v := 0) hx hb dL_load_15 (by decide) ?_
    exact vx_ret (zirV (pc := 16) (Wd := (fun w : cS × (Nat → Int64) => cW [(qo, .inl (cJ, 1, .inr (.inl w.2)))] ad wd cI cB cP cT w.1)) (u := ((x0, y0, g0), vp_updL f0 (0 : Int32).toNatClampNeg r.toInt64)) hx hb hr hlocks hAe hK hP hD hS rfl dL_load_16 (by (try dsimp only); omega) (by (try dsimp only); omega) h)

