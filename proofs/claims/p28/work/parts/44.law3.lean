def lL_areWindows_324 (Φ : Int32 → (Nat → Nat → Int32) → (Nat → Nat → Nat) → (Nat → Nat → Nat → Int32) → (Nat → Int32) → (Nat → Int32) → Prop) : Nat → (Nat → Nat → Int32) → (Nat → Nat → Nat) → (Nat → Nat → Nat → Int32) → (Nat → Int32) → (Nat → Int32) → Int32 → Int32 → Int32 → Int32 → Nat → Nat → Prop
  | 0, _, _, _, _, _, _, _, _, _, _, _ => False
  | n324 + 1, x, y, g, qf, cf, v3, v4, v5, v6, bc, bs => (((cf 7) ≤ v6 → ((v4 = 0 → (Φ 0 x y g qf cf)) ∧ (¬ v4 = 0 → ((v5 = v3 → (∃ kc_369 ks_369 bc_369 bs_369 : Nat, kc_369 + bc_369 ≤ bc ∧ ks_369 + bs_369 ≤ bs ∧ (wL_asks x y g qf cf 7 (cf 7) 0 kc_369 ks_369 (fun r_369 x_369 y_369 g_369 qf_369 cf_369 => ((r_369 = (-70007) → (Φ 1 x_369 y_369 g_369 qf_369 cf_369)) ∧ (¬ r_369 = (-70007) → (Φ 0 x_369 y_369 g_369 qf_369 cf_369))))))) ∧ (¬ v5 = v3 → (Φ 0 x y g qf cf)))))) ∧ (¬ (cf 7) ≤ v6 → (∃ kc_338 ks_338 bc_338 bs_338 : Nat, kc_338 + bc_338 ≤ bc ∧ ks_338 + bs_338 ≤ bs ∧ (wX8_load x y g v6 kc_338 ks_338 (fun r_338 => (∀ v5_342 : Int32, v5_342 = (v5 + r_338) → (∀ v6_344 : Int32, v6_344 = v6 + 1 → ((lL_areWindows_324 Φ n324) x y g qf cf v3 v4 v5_342 v6_344 bc_338 bs_338)))) (fun _ _ _ _ => False)))))
def jL_areWindows_267 (W27 : (Nat → Nat → Int32) → (Nat → Nat → Nat) → (Nat → Nat → Nat → Int32) → (Nat → Int32) → (Nat → Int32) → Int32 → Int32 → Int32 → Nat → Nat → Prop) (Φ : Int32 → (Nat → Nat → Int32) → (Nat → Nat → Nat) → (Nat → Nat → Nat → Int32) → (Nat → Int32) → (Nat → Int32) → Prop) (x : Nat → Nat → Int32) (y : Nat → Nat → Nat) (g : Nat → Nat → Nat → Int32) (qf cf : Nat → Int32) (v3 : Int32) (v5 : Int32) (v6 : Int32) (v7 : Int32) (s0 : Int32) (s1 : Int32) (bc bs : Nat) : Prop := ((s0 = s1 → (∃ kc_274 ks_274 bc_274 bs_274 : Nat, kc_274 + bc_274 ≤ bc ∧ ks_274 + bs_274 ≤ bs ∧ (wX8_window x y g v5 4 kc_274 ks_274 (fun r_274 => ((r_274 = 0 → (∀ v5_312 : Int32, v5_312 = v5 + 1 → (W27 x y g qf cf v3 1 v5_312 bc_274 bs_274))) ∧ (¬ r_274 = 0 → (((qf 1) = 2 → (∀ v5_312 : Int32, v5_312 = v5 + 1 → (W27 x y g qf cf v3 1 v5_312 bc_274 bs_274))) ∧ (¬ (qf 1) = 2 → (∃ kc_292 ks_292 bc_292 bs_292 : Nat, kc_292 + bc_292 ≤ bc_274 ∧ ks_292 + bs_292 ≤ bs_274 ∧ (wX8_total x y g v6 v7 kc_292 ks_292 (fun r_292 => (∃ kc_299 ks_299 bc_299 bs_299 : Nat, kc_299 + bc_299 ≤ bc_292 ∧ ks_299 + bs_299 ≤ bs_292 ∧ (wX8_window x y g v5 3 kc_299 ks_299 (fun r_299 => ((r_292 = r_299 → (∀ v5_312 : Int32, v5_312 = v5 + 1 → (W27 x y g qf cf v3 1 v5_312 bc_299 bs_299))) ∧ (¬ r_292 = r_299 → (∀ v5_312 : Int32, v5_312 = v5 + 1 → (W27 x y g qf cf v3 0 v5_312 bc_299 bs_299))))) (fun _ _ _ _ => False)))) (fun _ _ _ _ => False)))))))) (fun _ _ _ _ => False)))) ∧ (¬ s0 = s1 → (∀ v5_312 : Int32, v5_312 = v5 + 1 → (W27 x y g qf cf v3 0 v5_312 bc bs))))
def jL_areWindows_253 (W27 : (Nat → Nat → Int32) → (Nat → Nat → Nat) → (Nat → Nat → Nat → Int32) → (Nat → Int32) → (Nat → Int32) → Int32 → Int32 → Int32 → Nat → Nat → Prop) (Φ : Int32 → (Nat → Nat → Int32) → (Nat → Nat → Nat) → (Nat → Nat → Nat → Int32) → (Nat → Int32) → (Nat → Int32) → Prop) (x : Nat → Nat → Int32) (y : Nat → Nat → Nat) (g : Nat → Nat → Nat → Int32) (qf cf : Nat → Int32) (v3 : Int32) (v5 : Int32) (v6 : Int32) (v7 : Int32) (v8 : Int32) (s0 : Int32) (bc bs : Nat) : Prop := (wX8_watermark x y g (fun r_256 => ((r_256 < v8 → (jL_areWindows_267 W27 Φ x y g qf cf v3 v5 v6 v7 s0 0 bc bs)) ∧ (¬ r_256 < v8 → (jL_areWindows_267 W27 Φ x y g qf cf v3 v5 v6 v7 s0 1 bc bs)))))
def jL_areWindows_230 (W27 : (Nat → Nat → Int32) → (Nat → Nat → Nat) → (Nat → Nat → Nat → Int32) → (Nat → Int32) → (Nat → Int32) → Int32 → Int32 → Int32 → Nat → Nat → Prop) (Φ : Int32 → (Nat → Nat → Int32) → (Nat → Nat → Nat) → (Nat → Nat → Nat → Int32) → (Nat → Int32) → (Nat → Int32) → Prop) (x : Nat → Nat → Int32) (y : Nat → Nat → Nat) (g : Nat → Nat → Nat → Int32) (qf cf : Nat → Int32) (v3 : Int32) (v5 : Int32) (v6 : Int32) (v7 : Int32) (v8 : Int32) (s0 : Int32) (bc bs : Nat) : Prop := ((s0 = 0 → (∀ v5_312 : Int32, v5_312 = v5 + 1 → (W27 x y g qf cf v3 0 v5_312 bc bs))) ∧ (¬ s0 = 0 → (∃ kc_241 ks_241 bc_241 bs_241 : Nat, kc_241 + bc_241 ≤ bc ∧ ks_241 + bs_241 ≤ bs ∧ (wX8_window x y g v5 4 kc_241 ks_241 (fun r_241 => ((r_241 = 1 → (jL_areWindows_253 W27 Φ x y g qf cf v3 v5 v6 v7 v8 1 bc_241 bs_241)) ∧ (¬ r_241 = 1 → (jL_areWindows_253 W27 Φ x y g qf cf v3 v5 v6 v7 v8 0 bc_241 bs_241)))) (fun _ _ _ _ => False)))))
def jL_areWindows_229 (W27 : (Nat → Nat → Int32) → (Nat → Nat → Nat) → (Nat → Nat → Nat → Int32) → (Nat → Int32) → (Nat → Int32) → Int32 → Int32 → Int32 → Nat → Nat → Prop) (Φ : Int32 → (Nat → Nat → Int32) → (Nat → Nat → Nat) → (Nat → Nat → Nat → Int32) → (Nat → Int32) → (Nat → Int32) → Prop) (x : Nat → Nat → Int32) (y : Nat → Nat → Nat) (g : Nat → Nat → Nat → Int32) (qf cf : Nat → Int32) (v3 : Int32) (v5 : Int32) (v6 : Int32) (v7 : Int32) (v8 : Int32) (bc bs : Nat) : Prop := (jL_areWindows_230 W27 Φ x y g qf cf v3 v5 v6 v7 v8 0 bc bs)
def jL_areWindows_225 (W27 : (Nat → Nat → Int32) → (Nat → Nat → Nat) → (Nat → Nat → Nat → Int32) → (Nat → Int32) → (Nat → Int32) → Int32 → Int32 → Int32 → Nat → Nat → Prop) (Φ : Int32 → (Nat → Nat → Int32) → (Nat → Nat → Nat) → (Nat → Nat → Nat → Int32) → (Nat → Int32) → (Nat → Int32) → Prop) (x : Nat → Nat → Int32) (y : Nat → Nat → Nat) (g : Nat → Nat → Nat → Int32) (qf cf : Nat → Int32) (v3 : Int32) (v5 : Int32) (v6 : Int32) (v7 : Int32) (v8 : Int32) (bc bs : Nat) : Prop := (jL_areWindows_230 W27 Φ x y g qf cf v3 v5 v6 v7 v8 1 bc bs)
def jL_areWindows_147 (W27 : (Nat → Nat → Int32) → (Nat → Nat → Nat) → (Nat → Nat → Nat → Int32) → (Nat → Int32) → (Nat → Int32) → Int32 → Int32 → Int32 → Nat → Nat → Prop) (Φ : Int32 → (Nat → Nat → Int32) → (Nat → Nat → Nat) → (Nat → Nat → Nat → Int32) → (Nat → Int32) → (Nat → Int32) → Prop) (x : Nat → Nat → Int32) (y : Nat → Nat → Nat) (g : Nat → Nat → Nat → Int32) (qf cf : Nat → Int32) (v3 : Int32) (v5 : Int32) (v6 : Int32) (v7 : Int32) (v8 : Int32) (s0 : Int32) (bc bs : Nat) : Prop := ((s0 = 0 → (jL_areWindows_229 W27 Φ x y g qf cf v3 v5 v6 v7 v8 bc bs)) ∧ (¬ s0 = 0 → ((v5 = 0 → (jL_areWindows_225 W27 Φ x y g qf cf v3 v5 v6 v7 v8 bc bs)) ∧ (¬ v5 = 0 → (∃ kc_165 ks_165 bc_165 bs_165 : Nat, kc_165 + bc_165 ≤ bc ∧ ks_165 + bs_165 ≤ bs ∧ (wX8_window x y g (v5 - 1) 0 kc_165 ks_165 (fun r_165 => ((r_165 < v6 → (jL_areWindows_225 W27 Φ x y g qf cf v3 v5 v6 v7 v8 bc_165 bs_165)) ∧ (¬ r_165 < v6 → (∃ kc_179 ks_179 bc_179 bs_179 : Nat, kc_179 + bc_179 ≤ bc_165 ∧ ks_179 + bs_179 ≤ bs_165 ∧ (wX8_window x y g (v5 - 1) 0 kc_179 ks_179 (fun r_179 => ((r_179 = v6 → (((qf 1) = 2 → (∃ kc_200 ks_200 bc_200 bs_200 : Nat, kc_200 + bc_200 ≤ bc_179 ∧ ks_200 + bs_200 ≤ bs_179 ∧ (wX8_window x y g (v5 - 1) 2 kc_200 ks_200 (fun r_200 => ((v7 < r_200 → (jL_areWindows_229 W27 Φ x y g qf cf v3 v5 v6 v7 v8 bc_200 bs_200)) ∧ (¬ v7 < r_200 → (jL_areWindows_225 W27 Φ x y g qf cf v3 v5 v6 v7 v8 bc_200 bs_200)))) (fun _ _ _ _ => False)))) ∧ (¬ (qf 1) = 2 → (∃ kc_217 ks_217 bc_217 bs_217 : Nat, kc_217 + bc_217 ≤ bc_179 ∧ ks_217 + bs_217 ≤ bs_179 ∧ (wX8_window x y g (v5 - 1) 1 kc_217 ks_217 (fun r_217 => ((v7 ≤ r_217 → (jL_areWindows_229 W27 Φ x y g qf cf v3 v5 v6 v7 v8 bc_217 bs_217)) ∧ (¬ v7 ≤ r_217 → (jL_areWindows_225 W27 Φ x y g qf cf v3 v5 v6 v7 v8 bc_217 bs_217)))) (fun _ _ _ _ => False)))))) ∧ (¬ r_179 = v6 → (jL_areWindows_229 W27 Φ x y g qf cf v3 v5 v6 v7 v8 bc_179 bs_179)))) (fun _ _ _ _ => False)))))) (fun _ _ _ _ => False)))))))
def jL_areWindows_146 (W27 : (Nat → Nat → Int32) → (Nat → Nat → Nat) → (Nat → Nat → Nat → Int32) → (Nat → Int32) → (Nat → Int32) → Int32 → Int32 → Int32 → Nat → Nat → Prop) (Φ : Int32 → (Nat → Nat → Int32) → (Nat → Nat → Nat) → (Nat → Nat → Nat → Int32) → (Nat → Int32) → (Nat → Int32) → Prop) (x : Nat → Nat → Int32) (y : Nat → Nat → Nat) (g : Nat → Nat → Nat → Int32) (qf cf : Nat → Int32) (v3 : Int32) (v5 : Int32) (v6 : Int32) (v7 : Int32) (v8 : Int32) (bc bs : Nat) : Prop := (jL_areWindows_147 W27 Φ x y g qf cf v3 v5 v6 v7 v8 0 bc bs)
def jL_areWindows_142 (W27 : (Nat → Nat → Int32) → (Nat → Nat → Nat) → (Nat → Nat → Nat → Int32) → (Nat → Int32) → (Nat → Int32) → Int32 → Int32 → Int32 → Nat → Nat → Prop) (Φ : Int32 → (Nat → Nat → Int32) → (Nat → Nat → Nat) → (Nat → Nat → Nat → Int32) → (Nat → Int32) → (Nat → Int32) → Prop) (x : Nat → Nat → Int32) (y : Nat → Nat → Nat) (g : Nat → Nat → Nat → Int32) (qf cf : Nat → Int32) (v3 : Int32) (v5 : Int32) (v6 : Int32) (v7 : Int32) (v8 : Int32) (bc bs : Nat) : Prop := (jL_areWindows_147 W27 Φ x y g qf cf v3 v5 v6 v7 v8 1 bc bs)
def jL_areWindows_138 (W27 : (Nat → Nat → Int32) → (Nat → Nat → Nat) → (Nat → Nat → Nat → Int32) → (Nat → Int32) → (Nat → Int32) → Int32 → Int32 → Int32 → Nat → Nat → Prop) (Φ : Int32 → (Nat → Nat → Int32) → (Nat → Nat → Nat) → (Nat → Nat → Nat → Int32) → (Nat → Int32) → (Nat → Int32) → Prop) (x : Nat → Nat → Int32) (y : Nat → Nat → Nat) (g : Nat → Nat → Nat → Int32) (qf cf : Nat → Int32) (v3 : Int32) (v5 : Int32) (v6 : Int32) (v7 : Int32) (v8 : Int32) (s0 : Int32) (s1 : Int32) (bc bs : Nat) : Prop := (¬ s1 = 0 ∧ (((s0 - s0 / s1 * s1) = 0 → (jL_areWindows_142 W27 Φ x y g qf cf v3 v5 v6 v7 v8 bc bs)) ∧ (¬ (s0 - s0 / s1 * s1) = 0 → (jL_areWindows_146 W27 Φ x y g qf cf v3 v5 v6 v7 v8 bc bs))))
def lL_areWindows_27 (Φ : Int32 → (Nat → Nat → Int32) → (Nat → Nat → Nat) → (Nat → Nat → Nat → Int32) → (Nat → Int32) → (Nat → Int32) → Prop) : Nat → (Nat → Nat → Int32) → (Nat → Nat → Nat) → (Nat → Nat → Nat → Int32) → (Nat → Int32) → (Nat → Int32) → Int32 → Int32 → Int32 → Nat → Nat → Prop
  | 0, _, _, _, _, _, _, _, _, _, _ => False
  | n27 + 1, x, y, g, qf, cf, v3, v4, v5, bc, bs => ((v3 ≤ v5 → (∃ n324 : Nat, lL_areWindows_324 Φ n324 x y g qf cf v3 v4 0 0 bc bs)) ∧ (¬ v3 ≤ v5 → ((v4 = 0 → (∃ n324 : Nat, lL_areWindows_324 Φ n324 x y g qf cf v3 v4 0 0 bc bs)) ∧ (¬ v4 = 0 → (∃ kc_42 ks_42 bc_42 bs_42 : Nat, kc_42 + bc_42 ≤ bc ∧ ks_42 + bs_42 ≤ bs ∧ (wX8_window x y g v5 0 kc_42 ks_42 (fun r_42 => (∃ kc_51 ks_51 bc_51 bs_51 : Nat, kc_51 + bc_51 ≤ bc_42 ∧ ks_51 + bs_51 ≤ bs_42 ∧ (wX8_window x y g v5 1 kc_51 ks_51 (fun r_51 => (∃ kc_60 ks_60 bc_60 bs_60 : Nat, kc_60 + bc_60 ≤ bc_51 ∧ ks_60 + bs_60 ≤ bs_51 ∧ (wX8_window x y g v5 2 kc_60 ks_60 (fun r_60 => ((r_42 < 0 → (jL_areWindows_146 (lL_areWindows_27 Φ n27) Φ x y g qf cf v3 v5 r_42 r_51 r_60 bc_60 bs_60)) ∧ (¬ r_42 < 0 → ((8 ≤ r_42 → (jL_areWindows_146 (lL_areWindows_27 Φ n27) Φ x y g qf cf v3 v5 r_42 r_51 r_60 bc_60 bs_60)) ∧ (¬ 8 ≤ r_42 → ((r_51 < 0 → (jL_areWindows_146 (lL_areWindows_27 Φ n27) Φ x y g qf cf v3 v5 r_42 r_51 r_60 bc_60 bs_60)) ∧ (¬ r_51 < 0 → ((r_60 ≤ r_51 → (jL_areWindows_146 (lL_areWindows_27 Φ n27) Φ x y g qf cf v3 v5 r_42 r_51 r_60 bc_60 bs_60)) ∧ (¬ r_60 ≤ r_51 → (((qf 1) = 2 → (((r_60 - r_51) < (qf 2) → (jL_areWindows_146 (lL_areWindows_27 Φ n27) Φ x y g qf cf v3 v5 r_42 r_51 r_60 bc_60 bs_60)) ∧ (¬ (r_60 - r_51) < (qf 2) → (jL_areWindows_142 (lL_areWindows_27 Φ n27) Φ x y g qf cf v3 v5 r_42 r_51 r_60 bc_60 bs_60)))) ∧ (¬ (qf 1) = 2 → (((r_60 - r_51) = (qf 2) → (((qf 1) = 0 → (jL_areWindows_138 (lL_areWindows_27 Φ n27) Φ x y g qf cf v3 v5 r_42 r_51 r_60 r_51 (qf 2) bc_60 bs_60)) ∧ (¬ (qf 1) = 0 → (jL_areWindows_138 (lL_areWindows_27 Φ n27) Φ x y g qf cf v3 v5 r_42 r_51 r_60 r_51 (qf 3) bc_60 bs_60)))) ∧ (¬ (r_60 - r_51) = (qf 2) → (jL_areWindows_146 (lL_areWindows_27 Φ n27) Φ x y g qf cf v3 v5 r_42 r_51 r_60 bc_60 bs_60)))))))))))))) (fun _ _ _ _ => False)))) (fun _ _ _ _ => False)))) (fun _ _ _ _ => False)))))))
def wL_areWindows (x : Nat → Nat → Int32) (y : Nat → Nat → Nat) (g : Nat → Nat → Nat → Int32) (qf cf : Nat → Int32) (bc bs : Nat) (Φ : Int32 → (Nat → Nat → Int32) → (Nat → Nat → Nat) → (Nat → Nat → Nat → Int32) → (Nat → Int32) → (Nat → Int32) → Prop) : Prop := (wX8_windows x y g (fun r_1 => (∃ kc_9 ks_9 bc_9 bs_9 : Nat, kc_9 + bc_9 ≤ bc ∧ ks_9 + bs_9 ≤ bs ∧ (wL_asks x y g qf cf 4 r_1 0 kc_9 ks_9 (fun r_9 x_9 y_9 g_9 qf_9 cf_9 => ((r_9 = (-70007) → (∃ n27 : Nat, lL_areWindows_27 Φ n27 x_9 y_9 g_9 qf_9 cf_9 r_1 1 0 bc_9 bs_9)) ∧ (¬ r_9 = (-70007) → (∃ n27 : Nat, lL_areWindows_27 Φ n27 x_9 y_9 g_9 qf_9 cf_9 r_1 0 0 bc_9 bs_9))))))))
set_option maxRecDepth 100000 in
set_option maxHeartbeats 4000000 in
theorem kL_areWindows {l : Launch} {D : va_G} {E : va_W} {qa ca : Nat} {ad : Nat → Nat → Nat} {wd sk : Nat → Nat} {cI cB cP cT : ClassId} {sz : Nat} (x0 : Nat → Nat → Int32) (y0 : Nat → Nat → Nat) (g0 : Nat → Nat → Nat → Int32) (qf0 cf0 : Nat → Int32) (BC BS : Nat) {Φ : Int32 → (Nat → Nat → Int32) → (Nat → Nat → Nat) → (Nat → Nat → Nat → Int32) → (Nat → Int32) → (Nat → Int32) → Prop} (hlf : l.stackTraces = false) (h : wL_areWindows x0 y0 g0 qf0 cf0 BC BS Φ) : Met l yL_areWindows (zws yL_areWindows cL_areWindows 9 (some .boolean)) { frames := 9, cells := BC, slots := BS, locals := 259 } (zPc D (cTy cI cB cP cT) (lX wd sk) (cW (LE qa ca cI qf0 cf0 E) ad wd cI cB cP cT (x0, y0, g0)) [.ref (ad 0 0), .ref qa, .ref ca] sz) (zQi D (cTy cI cB cP cT) (WL E qa ca ad wd cI cB cP cT) (fun r u => Φ r u.1.1 u.1.2.1 u.1.2.2 u.2.1 u.2.2) (cW (LE qa ca cI qf0 cf0 E) ad wd cI cB cP cT (x0, y0, g0)) sz) BC BS (va_A (cW (LE qa ca cI qf0 cf0 E) ad wd cI cB cP cT (x0, y0, g0)) sz) := by
  refine zMet (by decide) (Nat.le_of_ble_eq_true rfl) ?_
  intro p e s m args below meth c A hx hb hr hml hown hts hlocks hsz hAe hA hS hP hK hD hX ls hl
  subst hsz
  have hF : zFx p s m args c cL_areWindows RL A D (cTy cI cB cP cT) (lX wd sk) 9 := ⟨hx, hb, hml, hown, hts, hA, hK, lX_cl wd sk, hX⟩
  have hFc : zFx p s m args c cL_areWindows RL A D (cTy cI cB cP cT) (cX wd sk) 9 := ⟨hx, hb, hml, hown, hts, hA, hK, cX_cl wd sk, hX.1⟩
  have hl : lv_has ls 9 [(0, .ref (ad 0 0)), (1, .ref qa), (2, .ref ca)] := hl
  have hB : 0 + BC ≤ BC ∧ 0 + BS ≤ BS := ⟨by omega, by omega⟩
  have L324 : ∀ n324 : Nat, ∀ (x : Nat → Nat → Int32) (y : Nat → Nat → Nat) (g : Nat → Nat → Nat → Int32) (qf cf : Nat → Int32) (v3 : Int32) (v4 : Int32) (v5 : Int32) (v6 : Int32) (bc bs : Nat), lL_areWindows_324 Φ n324 x y g qf cf v3 v4 v5 v6 bc bs → ∀ (cells slots : Nat), (cells + bc ≤ BC ∧ slots + bs ≤ BS) → ∀ (H : Heap) (locs : List Loc) (ls : Array Slot), va_P D vwCl (cW (LE qa ca cI qf cf E) ad wd cI cB cP cT (x, y, g)) H → va_D A (cW (LE qa ca cI qf cf E) ad wd cI cB cP cT (x, y, g)) → va_S A s.heap H locs → lv_has ls 9 [(0, .ref (ad 0 0)), (2, .ref ca), (3, .int v3), (4, .int v4), (5, .int v5), (6, .int v6)] → W p l e { frames := 9, cells := BC, slots := BS, locals := 259 } s m args below meth c H locs cells slots (MQ below (zQi D (cTy cI cB cP cT) (WL E qa ca ad wd cI cB cP cT) (fun r u => Φ r u.1.1 u.1.2.1 u.1.2.2 u.2.1 u.2.2) (cW (LE qa ca cI qf0 cf0 E) ad wd cI cB cP cT (x0, y0, g0)) s.heap.size) args s BC BS (va_A (cW (LE qa ca cI qf0 cf0 E) ad wd cI cB cP cT (x0, y0, g0)) s.heap.size)) (F0 m 324 ls []) := by
    intro n324
    induction n324 with
    | zero => intro x y g qf cf v3 v4 v5 v6 bc bs h cells slots hB H locs ls hP hD hS hl; exact h.elim
    | succ n324 ih324 =>
      intro x y g qf cf v3 v4 v5 v6 bc bs h cells slots hB H locs ls hP hD hS hl
      unfold lL_areWindows_324 at h
      refine lv_iload (pc := 324) hx hb dL_areWindows_324 (lv_at hl 5 rfl) ?_
      refine lv_aload_n (pc := 326) hx hb dL_areWindows_326 rfl (lv_at hl 1 rfl) ?_
      refine lv_bipush (pc := 327) (v := 7) hx hb dL_areWindows_327 (by decide) ?_
      refine lc_get (pc := 329) (v := (cf 7)) hF hP rfl (vp_in_iff.mpr (by decide)) dL_areWindows_329 ?_
      refine lv_icmp_ge (pc := 330) (tgt := 350) hx hb dL_areWindows_330 (by decide) (fun c_330 => ?_) (fun c_330 => ?_)
      · have h := h.1 c_330
        refine lv_iload (pc := 350) hx hb dL_areWindows_350 (lv_at hl 3 rfl) ?_
        refine lv_if_eq (pc := 352) (tgt := 381) hx hb dL_areWindows_352 (by decide) (fun c_352 => ?_) (fun c_352 => ?_)
        · have h := h.1 c_352
          refine lv_iconst (pc := 381) (v := 0) hx hb dL_areWindows_381 (by decide) ?_
          exact zirV (pc := 382) (Wd := WL E qa ca ad wd cI cB cP cT) (u := ((x, y, g), qf, cf)) hx hb hr hlocks hAe hK hP hD hS rfl dL_areWindows_382 (by (try dsimp only); omega) (by (try dsimp only); omega) h
        · have h := h.2 c_352
          refine lv_iload (pc := 355) hx hb dL_areWindows_355 (lv_at hl 4 rfl) ?_
          refine lv_iload_n (pc := 357) hx hb dL_areWindows_357 rfl (lv_at hl 2 rfl) ?_
          refine lv_icmp_ne (pc := 358) (tgt := 381) hx hb dL_areWindows_358 (by decide) (fun c_358 => ?_) (fun c_358 => ?_)
          · have h := h.2 c_358
            refine lv_iconst (pc := 381) (v := 0) hx hb dL_areWindows_381 (by decide) ?_
            exact zirV (pc := 382) (Wd := WL E qa ca ad wd cI cB cP cT) (u := ((x, y, g), qf, cf)) hx hb hr hlocks hAe hK hP hD hS rfl dL_areWindows_382 (by (try dsimp only); omega) (by (try dsimp only); omega) h
          · have h := h.1 c_358
            refine lv_aload_n (pc := 361) hx hb dL_areWindows_361 rfl (lv_at hl 0 rfl) ?_
            refine lv_bipush (pc := 362) (v := 7) hx hb dL_areWindows_362 (by decide) ?_
            refine lv_aload_n (pc := 364) hx hb dL_areWindows_364 rfl (lv_at hl 1 rfl) ?_
            refine lv_bipush (pc := 365) (v := 7) hx hb dL_areWindows_365 (by decide) ?_
            refine lc_get (pc := 367) (v := (cf 7)) hF hP rfl (vp_in_iff.mpr (by decide)) dL_areWindows_367 ?_
            refine lv_iconst (pc := 368) (v := 0) hx hb dL_areWindows_368 (by decide) ?_
            obtain ⟨kc_369, ks_369, bc_369, bs_369, ec_369, es_369, h⟩ := h
            refine lJi (pc := 369) (L := []) (wc := WL E qa ca ad wd cI cB cP cT ((x, y, g), qf, cf)) (Wd := (WL E qa ca ad wd cI cB cP cT)) hA hP hD hS (lS (L := []) [.ref (ad 0 0), .int 7, .int (cf 7), .int 0] hF (kL_asks x y g qf cf 7 (cf 7) 0 kc_369 ks_369 hlf h) (cwL_L_asks hts ⟨Nat.le_of_ble_eq_true rfl, Nat.le_of_ble_eq_true rfl⟩) hP hD hS rfl rfl hl.1 (Nat.le_of_ble_eq_true rfl) dL_areWindows_369 ⟨by show _ ≤ BC; (try dsimp only); omega, by show _ ≤ BS; (try dsimp only); omega⟩) (fun r_369 u H locs h hP hD hS => ?_)
            obtain ⟨⟨x_369, y_369, g_369⟩, qf_369, cf_369⟩ := u
            have hP : va_P D vwCl (cW (LE qa ca cI qf_369 cf_369 E) ad wd cI cB cP cT (x_369, y_369, g_369)) H := hP
            have hD : va_D A (cW (LE qa ca cI qf_369 cf_369 E) ad wd cI cB cP cT (x_369, y_369, g_369)) := hD
            have hB : (cells + kc_369) + bc_369 ≤ BC ∧ (slots + ks_369) + bs_369 ≤ BS := ⟨by omega, by omega⟩
            refine lv_ldc (pc := 372) (v := (-70007)) hx hb hown (hts _ lK_44) dL_areWindows_372 ?_
            refine lv_icmp_ne (pc := 374) (tgt := 381) hx hb dL_areWindows_374 (by decide) (fun c_374 => ?_) (fun c_374 => ?_)
            · have h := h.2 c_374
              refine lv_iconst (pc := 381) (v := 0) hx hb dL_areWindows_381 (by decide) ?_
              exact zirV (pc := 382) (Wd := WL E qa ca ad wd cI cB cP cT) (u := ((x_369, y_369, g_369), qf_369, cf_369)) hx hb hr hlocks hAe hK hP hD hS rfl dL_areWindows_382 (by (try dsimp only); omega) (by (try dsimp only); omega) h
            · have h := h.1 c_374
              refine lv_iconst (pc := 377) (v := 1) hx hb dL_areWindows_377 (by decide) ?_
              refine lv_goto (pc := 378) (tgt := 382) hx hb dL_areWindows_378 (by decide) ?_
              exact zirV (pc := 382) (Wd := WL E qa ca ad wd cI cB cP cT) (u := ((x_369, y_369, g_369), qf_369, cf_369)) hx hb hr hlocks hAe hK hP hD hS rfl dL_areWindows_382 (by (try dsimp only); omega) (by (try dsimp only); omega) h
      · have h := h.2 c_330
        refine lv_iload (pc := 333) hx hb dL_areWindows_333 (lv_at hl 4 rfl) ?_
        refine lv_aload_n (pc := 335) hx hb dL_areWindows_335 rfl (lv_at hl 0 rfl) ?_
        refine lv_iload (pc := 336) hx hb dL_areWindows_336 (lv_at hl 5 rfl) ?_
        obtain ⟨kc_338, ks_338, bc_338, bs_338, ec_338, es_338, h⟩ := h
        refine lCallp (pc := 338) (E := LE qa ca cI qf cf E) (x := x) (y := y) (g := g) [.int v6] hFc (kX8_load x y g v6 kc_338 ks_338 hlf h) (cwL_X8_load hts ⟨Nat.le_of_ble_eq_true rfl, Nat.le_of_ble_eq_true rfl⟩) (lRo hFc hP) hP hD hS rfl rfl hl.1 (Nat.le_of_ble_eq_true rfl) dL_areWindows_338 ⟨by show _ ≤ BC; (try dsimp only); omega, by show _ ≤ BS; (try dsimp only); omega⟩ (fun E2 ce q9 x1 y1 g1 H locs h hP hD hS hce hcv hcl => h.elim) (fun r_338 H locs h hP hD hS => ?_)
        have hB : (cells + kc_338) + bc_338 ≤ BC ∧ (slots + ks_338) + bs_338 ≤ BS := ⟨by omega, by omega⟩
        refine lv_iadd (pc := 341) hx hb dL_areWindows_341 ?_
        refine lv_topi (fun v5_342 e_v5_342 => ?_)
        replace h := h v5_342 e_v5_342
        refine lv_istore (pc := 342) (lv' := [(5, .int v5_342), (0, .ref (ad 0 0)), (2, .ref ca), (3, .int v3), (4, .int v4), (6, .int v6)]) hx hb dL_areWindows_342 hl (by decide) rfl (fun ls hl => ?_)
        obtain ⟨v6_344, e_v6_344⟩ : ∃ y : Int32, y = v6 + 1 := ⟨_, rfl⟩
        replace h := h v6_344 e_v6_344
        refine lv_iinc (pc := 344) (v := v6_344) (lv' := [(6, .int v6_344), (5, .int v5_342), (0, .ref (ad 0 0)), (2, .ref ca), (3, .int v3), (4, .int v4)]) hx hb dL_areWindows_344 hl (k := 5) rfl (by rw [e_v6_344]; rfl) (by decide) rfl (fun ls hl => ?_)
        refine lv_goto (pc := 347) (tgt := 324) hx hb dL_areWindows_347 (by decide) ?_
        exact ih324 x y g qf cf v3 v4 v5_342 v6_344 bc_338 bs_338 h _ _ hB _ _ _ hP hD hS (lv_sub hl [2, 3, 4, 5, 1, 0] rfl)
  have L27 : ∀ n27 : Nat, ∀ (x : Nat → Nat → Int32) (y : Nat → Nat → Nat) (g : Nat → Nat → Nat → Int32) (qf cf : Nat → Int32) (v3 : Int32) (v4 : Int32) (v5 : Int32) (bc bs : Nat), lL_areWindows_27 Φ n27 x y g qf cf v3 v4 v5 bc bs → ∀ (cells slots : Nat), (cells + bc ≤ BC ∧ slots + bs ≤ BS) → ∀ (H : Heap) (locs : List Loc) (ls : Array Slot), va_P D vwCl (cW (LE qa ca cI qf cf E) ad wd cI cB cP cT (x, y, g)) H → va_D A (cW (LE qa ca cI qf cf E) ad wd cI cB cP cT (x, y, g)) → va_S A s.heap H locs → lv_has ls 9 [(0, .ref (ad 0 0)), (1, .ref qa), (2, .ref ca), (3, .int v3), (4, .int v4), (5, .int v5)] → W p l e { frames := 9, cells := BC, slots := BS, locals := 259 } s m args below meth c H locs cells slots (MQ below (zQi D (cTy cI cB cP cT) (WL E qa ca ad wd cI cB cP cT) (fun r u => Φ r u.1.1 u.1.2.1 u.1.2.2 u.2.1 u.2.2) (cW (LE qa ca cI qf0 cf0 E) ad wd cI cB cP cT (x0, y0, g0)) s.heap.size) args s BC BS (va_A (cW (LE qa ca cI qf0 cf0 E) ad wd cI cB cP cT (x0, y0, g0)) s.heap.size)) (F0 m 27 ls []) := by
    intro n27
    induction n27 with
    | zero => intro x y g qf cf v3 v4 v5 bc bs h cells slots hB H locs ls hP hD hS hl; exact h.elim
    | succ n27 ih27 =>
      have J267 : ∀ (x : Nat → Nat → Int32) (y : Nat → Nat → Nat) (g : Nat → Nat → Nat → Int32) (qf cf : Nat → Int32) (v3 : Int32) (v5 : Int32) (v6 : Int32) (v7 : Int32) (s0 : Int32) (s1 : Int32) (bc bs : Nat), jL_areWindows_267 (lL_areWindows_27 Φ n27) Φ x y g qf cf v3 v5 v6 v7 s0 s1 bc bs → ∀ (cells slots : Nat), (cells + bc ≤ BC ∧ slots + bs ≤ BS) → ∀ (H : Heap) (locs : List Loc) (ls : Array Slot), va_P D vwCl (cW (LE qa ca cI qf cf E) ad wd cI cB cP cT (x, y, g)) H → va_D A (cW (LE qa ca cI qf cf E) ad wd cI cB cP cT (x, y, g)) → va_S A s.heap H locs → lv_has ls 9 [(0, .ref (ad 0 0)), (1, .ref qa), (2, .ref ca), (3, .int v3), (5, .int v5), (6, .int v6), (7, .int v7)] → W p l e { frames := 9, cells := BC, slots := BS, locals := 259 } s m args below meth c H locs cells slots (MQ below (zQi D (cTy cI cB cP cT) (WL E qa ca ad wd cI cB cP cT) (fun r u => Φ r u.1.1 u.1.2.1 u.1.2.2 u.2.1 u.2.2) (cW (LE qa ca cI qf0 cf0 E) ad wd cI cB cP cT (x0, y0, g0)) s.heap.size) args s BC BS (va_A (cW (LE qa ca cI qf0 cf0 E) ad wd cI cB cP cT (x0, y0, g0)) s.heap.size)) (F0 m 267 ls [.int s1, .int s0]) := by
        intro x y g qf cf v3 v5 v6 v7 s0 s1 bc bs h cells slots hB H locs ls hP hD hS hl
        unfold jL_areWindows_267 at h
        refine lv_icmp_ne (pc := 267) (tgt := 309) hx hb dL_areWindows_267 (by decide) (fun c_267 => ?_) (fun c_267 => ?_)
        · have h := h.2 c_267
          refine lv_iconst (pc := 309) (v := 0) hx hb dL_areWindows_309 (by decide) ?_
          refine lv_istore (pc := 310) (lv' := [(4, .int 0), (0, .ref (ad 0 0)), (1, .ref qa), (2, .ref ca), (3, .int v3), (5, .int v5), (6, .int v6), (7, .int v7)]) hx hb dL_areWindows_310 hl (by decide) rfl (fun ls hl => ?_)
          obtain ⟨v5_312, e_v5_312⟩ : ∃ y : Int32, y = v5 + 1 := ⟨_, rfl⟩
          replace h := h v5_312 e_v5_312
          refine lv_iinc (pc := 312) (v := v5_312) (lv' := [(5, .int v5_312), (4, .int 0), (0, .ref (ad 0 0)), (1, .ref qa), (2, .ref ca), (3, .int v3), (6, .int v6), (7, .int v7)]) hx hb dL_areWindows_312 hl (k := 5) rfl (by rw [e_v5_312]; rfl) (by decide) rfl (fun ls hl => ?_)
          refine lv_goto (pc := 315) (tgt := 27) hx hb dL_areWindows_315 (by decide) ?_
          exact ih27 x y g qf cf v3 0 v5_312 bc bs h _ _ hB _ _ _ hP hD hS (lv_sub hl [2, 3, 4, 5, 1, 0] rfl)
        · have h := h.1 c_267
          refine lv_aload_n (pc := 270) hx hb dL_areWindows_270 rfl (lv_at hl 0 rfl) ?_
          refine lv_iload (pc := 271) hx hb dL_areWindows_271 (lv_at hl 4 rfl) ?_
          refine lv_iconst (pc := 273) (v := 4) hx hb dL_areWindows_273 (by decide) ?_
          obtain ⟨kc_274, ks_274, bc_274, bs_274, ec_274, es_274, h⟩ := h
          refine lCallp (pc := 274) (E := LE qa ca cI qf cf E) (x := x) (y := y) (g := g) [.int v5, .int 4] hFc (kX8_window x y g v5 4 kc_274 ks_274 hlf h) (cwL_X8_window hts ⟨Nat.le_of_ble_eq_true rfl, Nat.le_of_ble_eq_true rfl⟩) (lRo hFc hP) hP hD hS rfl rfl hl.1 (Nat.le_of_ble_eq_true rfl) dL_areWindows_274 ⟨by show _ ≤ BC; (try dsimp only); omega, by show _ ≤ BS; (try dsimp only); omega⟩ (fun E2 ce q9 x1 y1 g1 H locs h hP hD hS hce hcv hcl => h.elim) (fun r_274 H locs h hP hD hS => ?_)
          have hB : (cells + kc_274) + bc_274 ≤ BC ∧ (slots + ks_274) + bs_274 ≤ BS := ⟨by omega, by omega⟩
          refine lv_if_eq (pc := 277) (tgt := 305) hx hb dL_areWindows_277 (by decide) (fun c_277 => ?_) (fun c_277 => ?_)
          · have h := h.1 c_277
            refine lv_iconst (pc := 305) (v := 1) hx hb dL_areWindows_305 (by decide) ?_
            refine lv_goto (pc := 306) (tgt := 310) hx hb dL_areWindows_306 (by decide) ?_
            refine lv_istore (pc := 310) (lv' := [(4, .int 1), (0, .ref (ad 0 0)), (1, .ref qa), (2, .ref ca), (3, .int v3), (5, .int v5), (6, .int v6), (7, .int v7)]) hx hb dL_areWindows_310 hl (by decide) rfl (fun ls hl => ?_)
            obtain ⟨v5_312, e_v5_312⟩ : ∃ y : Int32, y = v5 + 1 := ⟨_, rfl⟩
            replace h := h v5_312 e_v5_312
            refine lv_iinc (pc := 312) (v := v5_312) (lv' := [(5, .int v5_312), (4, .int 1), (0, .ref (ad 0 0)), (1, .ref qa), (2, .ref ca), (3, .int v3), (6, .int v6), (7, .int v7)]) hx hb dL_areWindows_312 hl (k := 5) rfl (by rw [e_v5_312]; rfl) (by decide) rfl (fun ls hl => ?_)
            refine lv_goto (pc := 315) (tgt := 27) hx hb dL_areWindows_315 (by decide) ?_
            exact ih27 x y g qf cf v3 1 v5_312 bc_274 bs_274 h _ _ hB _ _ _ hP hD hS (lv_sub hl [2, 3, 4, 5, 1, 0] rfl)
          · have h := h.2 c_277
            refine lv_aload_n (pc := 280) hx hb dL_areWindows_280 rfl (lv_at hl 1 rfl) ?_
            refine lv_iconst (pc := 281) (v := 1) hx hb dL_areWindows_281 (by decide) ?_
            refine lq_get (pc := 282) (v := (qf 1)) hF hP rfl (vp_in_iff.mpr (by decide)) dL_areWindows_282 ?_
            refine lv_iconst (pc := 283) (v := 2) hx hb dL_areWindows_283 (by decide) ?_
            refine lv_icmp_eq (pc := 284) (tgt := 305) hx hb dL_areWindows_284 (by decide) (fun c_284 => ?_) (fun c_284 => ?_)
            · have h := h.1 c_284
              refine lv_iconst (pc := 305) (v := 1) hx hb dL_areWindows_305 (by decide) ?_
              refine lv_goto (pc := 306) (tgt := 310) hx hb dL_areWindows_306 (by decide) ?_
              refine lv_istore (pc := 310) (lv' := [(4, .int 1), (0, .ref (ad 0 0)), (1, .ref qa), (2, .ref ca), (3, .int v3), (5, .int v5), (6, .int v6), (7, .int v7)]) hx hb dL_areWindows_310 hl (by decide) rfl (fun ls hl => ?_)
              obtain ⟨v5_312, e_v5_312⟩ : ∃ y : Int32, y = v5 + 1 := ⟨_, rfl⟩
              replace h := h v5_312 e_v5_312
              refine lv_iinc (pc := 312) (v := v5_312) (lv' := [(5, .int v5_312), (4, .int 1), (0, .ref (ad 0 0)), (1, .ref qa), (2, .ref ca), (3, .int v3), (6, .int v6), (7, .int v7)]) hx hb dL_areWindows_312 hl (k := 5) rfl (by rw [e_v5_312]; rfl) (by decide) rfl (fun ls hl => ?_)
              refine lv_goto (pc := 315) (tgt := 27) hx hb dL_areWindows_315 (by decide) ?_
              exact ih27 x y g qf cf v3 1 v5_312 bc_274 bs_274 h _ _ hB _ _ _ hP hD hS (lv_sub hl [2, 3, 4, 5, 1, 0] rfl)
            · have h := h.2 c_284
              refine lv_aload_n (pc := 287) hx hb dL_areWindows_287 rfl (lv_at hl 0 rfl) ?_
              refine lv_iload (pc := 288) hx hb dL_areWindows_288 (lv_at hl 5 rfl) ?_
              refine lv_iload (pc := 290) hx hb dL_areWindows_290 (lv_at hl 6 rfl) ?_
              obtain ⟨kc_292, ks_292, bc_292, bs_292, ec_292, es_292, h⟩ := h
              refine lCallp (pc := 292) (E := LE qa ca cI qf cf E) (x := x) (y := y) (g := g) [.int v6, .int v7] hFc (kX8_total x y g v6 v7 kc_292 ks_292 hlf h) (cwL_X8_total hts ⟨Nat.le_of_ble_eq_true rfl, Nat.le_of_ble_eq_true rfl⟩) (lRo hFc hP) hP hD hS rfl rfl hl.1 (Nat.le_of_ble_eq_true rfl) dL_areWindows_292 ⟨by show _ ≤ BC; (try dsimp only); omega, by show _ ≤ BS; (try dsimp only); omega⟩ (fun E2 ce q9 x1 y1 g1 H locs h hP hD hS hce hcv hcl => h.elim) (fun r_292 H locs h hP hD hS => ?_)
              have hB : ((cells + kc_274) + kc_292) + bc_292 ≤ BC ∧ ((slots + ks_274) + ks_292) + bs_292 ≤ BS := ⟨by omega, by omega⟩
              refine lv_aload_n (pc := 295) hx hb dL_areWindows_295 rfl (lv_at hl 0 rfl) ?_
              refine lv_iload (pc := 296) hx hb dL_areWindows_296 (lv_at hl 4 rfl) ?_
              refine lv_iconst (pc := 298) (v := 3) hx hb dL_areWindows_298 (by decide) ?_
              obtain ⟨kc_299, ks_299, bc_299, bs_299, ec_299, es_299, h⟩ := h
              refine lCallp (pc := 299) (E := LE qa ca cI qf cf E) (x := x) (y := y) (g := g) [.int v5, .int 3] hFc (kX8_window x y g v5 3 kc_299 ks_299 hlf h) (cwL_X8_window hts ⟨Nat.le_of_ble_eq_true rfl, Nat.le_of_ble_eq_true rfl⟩) (lRo hFc hP) hP hD hS rfl rfl hl.1 (Nat.le_of_ble_eq_true rfl) dL_areWindows_299 ⟨by show _ ≤ BC; (try dsimp only); omega, by show _ ≤ BS; (try dsimp only); omega⟩ (fun E2 ce q9 x1 y1 g1 H locs h hP hD hS hce hcv hcl => h.elim) (fun r_299 H locs h hP hD hS => ?_)
              have hB : (((cells + kc_274) + kc_292) + kc_299) + bc_299 ≤ BC ∧ (((slots + ks_274) + ks_292) + ks_299) + bs_299 ≤ BS := ⟨by omega, by omega⟩
              refine lv_icmp_ne (pc := 302) (tgt := 309) hx hb dL_areWindows_302 (by decide) (fun c_302 => ?_) (fun c_302 => ?_)
              · have h := h.2 c_302
                refine lv_iconst (pc := 309) (v := 0) hx hb dL_areWindows_309 (by decide) ?_
                refine lv_istore (pc := 310) (lv' := [(4, .int 0), (0, .ref (ad 0 0)), (1, .ref qa), (2, .ref ca), (3, .int v3), (5, .int v5), (6, .int v6), (7, .int v7)]) hx hb dL_areWindows_310 hl (by decide) rfl (fun ls hl => ?_)
                obtain ⟨v5_312, e_v5_312⟩ : ∃ y : Int32, y = v5 + 1 := ⟨_, rfl⟩
                replace h := h v5_312 e_v5_312
                refine lv_iinc (pc := 312) (v := v5_312) (lv' := [(5, .int v5_312), (4, .int 0), (0, .ref (ad 0 0)), (1, .ref qa), (2, .ref ca), (3, .int v3), (6, .int v6), (7, .int v7)]) hx hb dL_areWindows_312 hl (k := 5) rfl (by rw [e_v5_312]; rfl) (by decide) rfl (fun ls hl => ?_)
                refine lv_goto (pc := 315) (tgt := 27) hx hb dL_areWindows_315 (by decide) ?_
                exact ih27 x y g qf cf v3 0 v5_312 bc_299 bs_299 h _ _ hB _ _ _ hP hD hS (lv_sub hl [2, 3, 4, 5, 1, 0] rfl)
              · have h := h.1 c_302
                refine lv_iconst (pc := 305) (v := 1) hx hb dL_areWindows_305 (by decide) ?_
                refine lv_goto (pc := 306) (tgt := 310) hx hb dL_areWindows_306 (by decide) ?_
                refine lv_istore (pc := 310) (lv' := [(4, .int 1), (0, .ref (ad 0 0)), (1, .ref qa), (2, .ref ca), (3, .int v3), (5, .int v5), (6, .int v6), (7, .int v7)]) hx hb dL_areWindows_310 hl (by decide) rfl (fun ls hl => ?_)
                obtain ⟨v5_312, e_v5_312⟩ : ∃ y : Int32, y = v5 + 1 := ⟨_, rfl⟩
                replace h := h v5_312 e_v5_312
                refine lv_iinc (pc := 312) (v := v5_312) (lv' := [(5, .int v5_312), (4, .int 1), (0, .ref (ad 0 0)), (1, .ref qa), (2, .ref ca), (3, .int v3), (6, .int v6), (7, .int v7)]) hx hb dL_areWindows_312 hl (k := 5) rfl (by rw [e_v5_312]; rfl) (by decide) rfl (fun ls hl => ?_)
                refine lv_goto (pc := 315) (tgt := 27) hx hb dL_areWindows_315 (by decide) ?_
                exact ih27 x y g qf cf v3 1 v5_312 bc_299 bs_299 h _ _ hB _ _ _ hP hD hS (lv_sub hl [2, 3, 4, 5, 1, 0] rfl)
      have J253 : ∀ (x : Nat → Nat → Int32) (y : Nat → Nat → Nat) (g : Nat → Nat → Nat → Int32) (qf cf : Nat → Int32) (v3 : Int32) (v5 : Int32) (v6 : Int32) (v7 : Int32) (v8 : Int32) (s0 : Int32) (bc bs : Nat), jL_areWindows_253 (lL_areWindows_27 Φ n27) Φ x y g qf cf v3 v5 v6 v7 v8 s0 bc bs → ∀ (cells slots : Nat), (cells + bc ≤ BC ∧ slots + bs ≤ BS) → ∀ (H : Heap) (locs : List Loc) (ls : Array Slot), va_P D vwCl (cW (LE qa ca cI qf cf E) ad wd cI cB cP cT (x, y, g)) H → va_D A (cW (LE qa ca cI qf cf E) ad wd cI cB cP cT (x, y, g)) → va_S A s.heap H locs → lv_has ls 9 [(0, .ref (ad 0 0)), (1, .ref qa), (2, .ref ca), (3, .int v3), (5, .int v5), (6, .int v6), (7, .int v7), (8, .int v8)] → W p l e { frames := 9, cells := BC, slots := BS, locals := 259 } s m args below meth c H locs cells slots (MQ below (zQi D (cTy cI cB cP cT) (WL E qa ca ad wd cI cB cP cT) (fun r u => Φ r u.1.1 u.1.2.1 u.1.2.2 u.2.1 u.2.2) (cW (LE qa ca cI qf0 cf0 E) ad wd cI cB cP cT (x0, y0, g0)) s.heap.size) args s BC BS (va_A (cW (LE qa ca cI qf0 cf0 E) ad wd cI cB cP cT (x0, y0, g0)) s.heap.size)) (F0 m 253 ls [.int s0]) := by
        intro x y g qf cf v3 v5 v6 v7 v8 s0 bc bs h cells slots hB H locs ls hP hD hS hl
        unfold jL_areWindows_253 at h
        refine lv_iload (pc := 253) hx hb dL_areWindows_253 (lv_at hl 7 rfl) ?_
        refine lv_aload_n (pc := 255) hx hb dL_areWindows_255 rfl (lv_at hl 0 rfl) ?_
        refine cVip (pc := 256) (E := LE qa ca cI qf cf E) (x := x) (y := y) (g := g) [] hFc (kX8_watermark x y g h) (cwL_X8_watermark hts ⟨Nat.le_of_ble_eq_true rfl, Nat.le_of_ble_eq_true rfl⟩) rfl (cA_S ..) hP hD hS rfl rfl hl.1 (Nat.le_of_ble_eq_true rfl) dL_areWindows_256 ⟨by show _ ≤ BC; (try dsimp only); omega, by show _ ≤ BS; (try dsimp only); omega⟩ (fun r_256 H locs h hP hD hS => ?_)
        refine lv_icmp_gt (pc := 259) (tgt := 266) hx hb dL_areWindows_259 (by decide) (fun c_259 => ?_) (fun c_259 => ?_)
        · have h := h.1 c_259
          refine lv_iconst (pc := 266) (v := 0) hx hb dL_areWindows_266 (by decide) ?_
          exact J267 x y g qf cf v3 v5 v6 v7 s0 0 bc bs h _ _ hB _ _ _ hP hD hS (lv_sub hl [0, 1, 2, 3, 4, 5, 6] rfl)
        · have h := h.2 c_259
          refine lv_iconst (pc := 262) (v := 1) hx hb dL_areWindows_262 (by decide) ?_
          refine lv_goto (pc := 263) (tgt := 267) hx hb dL_areWindows_263 (by decide) ?_
          exact J267 x y g qf cf v3 v5 v6 v7 s0 1 bc bs h _ _ hB _ _ _ hP hD hS (lv_sub hl [0, 1, 2, 3, 4, 5, 6] rfl)
      have J230 : ∀ (x : Nat → Nat → Int32) (y : Nat → Nat → Nat) (g : Nat → Nat → Nat → Int32) (qf cf : Nat → Int32) (v3 : Int32) (v5 : Int32) (v6 : Int32) (v7 : Int32) (v8 : Int32) (s0 : Int32) (bc bs : Nat), jL_areWindows_230 (lL_areWindows_27 Φ n27) Φ x y g qf cf v3 v5 v6 v7 v8 s0 bc bs → ∀ (cells slots : Nat), (cells + bc ≤ BC ∧ slots + bs ≤ BS) → ∀ (H : Heap) (locs : List Loc) (ls : Array Slot), va_P D vwCl (cW (LE qa ca cI qf cf E) ad wd cI cB cP cT (x, y, g)) H → va_D A (cW (LE qa ca cI qf cf E) ad wd cI cB cP cT (x, y, g)) → va_S A s.heap H locs → lv_has ls 9 [(0, .ref (ad 0 0)), (1, .ref qa), (2, .ref ca), (3, .int v3), (5, .int v5), (6, .int v6), (7, .int v7), (8, .int v8)] → W p l e { frames := 9, cells := BC, slots := BS, locals := 259 } s m args below meth c H locs cells slots (MQ below (zQi D (cTy cI cB cP cT) (WL E qa ca ad wd cI cB cP cT) (fun r u => Φ r u.1.1 u.1.2.1 u.1.2.2 u.2.1 u.2.2) (cW (LE qa ca cI qf0 cf0 E) ad wd cI cB cP cT (x0, y0, g0)) s.heap.size) args s BC BS (va_A (cW (LE qa ca cI qf0 cf0 E) ad wd cI cB cP cT (x0, y0, g0)) s.heap.size)) (F0 m 230 ls [.int s0]) := by
        intro x y g qf cf v3 v5 v6 v7 v8 s0 bc bs h cells slots hB H locs ls hP hD hS hl
        unfold jL_areWindows_230 at h
        refine lv_istore (pc := 230) (lv' := [(4, .int s0), (0, .ref (ad 0 0)), (1, .ref qa), (2, .ref ca), (3, .int v3), (5, .int v5), (6, .int v6), (7, .int v7), (8, .int v8)]) hx hb dL_areWindows_230 hl (by decide) rfl (fun ls hl => ?_)
        refine lv_iload (pc := 232) hx hb dL_areWindows_232 (lv_at hl 0 rfl) ?_
        refine lv_if_eq (pc := 234) (tgt := 309) hx hb dL_areWindows_234 (by decide) (fun c_234 => ?_) (fun c_234 => ?_)
        · have h := h.1 c_234
          refine lv_iconst (pc := 309) (v := 0) hx hb dL_areWindows_309 (by decide) ?_
          refine lv_istore (pc := 310) (lv' := [(4, .int 0), (0, .ref (ad 0 0)), (1, .ref qa), (2, .ref ca), (3, .int v3), (5, .int v5), (6, .int v6), (7, .int v7), (8, .int v8)]) hx hb dL_areWindows_310 hl (by decide) rfl (fun ls hl => ?_)
          obtain ⟨v5_312, e_v5_312⟩ : ∃ y : Int32, y = v5 + 1 := ⟨_, rfl⟩
          replace h := h v5_312 e_v5_312
          refine lv_iinc (pc := 312) (v := v5_312) (lv' := [(5, .int v5_312), (4, .int 0), (0, .ref (ad 0 0)), (1, .ref qa), (2, .ref ca), (3, .int v3), (6, .int v6), (7, .int v7), (8, .int v8)]) hx hb dL_areWindows_312 hl (k := 5) rfl (by rw [e_v5_312]; rfl) (by decide) rfl (fun ls hl => ?_)
          refine lv_goto (pc := 315) (tgt := 27) hx hb dL_areWindows_315 (by decide) ?_
          exact ih27 x y g qf cf v3 0 v5_312 bc bs h _ _ hB _ _ _ hP hD hS (lv_sub hl [2, 3, 4, 5, 1, 0] rfl)
        · have h := h.2 c_234
          refine lv_aload_n (pc := 237) hx hb dL_areWindows_237 rfl (lv_at hl 1 rfl) ?_
          refine lv_iload (pc := 238) hx hb dL_areWindows_238 (lv_at hl 5 rfl) ?_
          refine lv_iconst (pc := 240) (v := 4) hx hb dL_areWindows_240 (by decide) ?_
          obtain ⟨kc_241, ks_241, bc_241, bs_241, ec_241, es_241, h⟩ := h
          refine lCallp (pc := 241) (E := LE qa ca cI qf cf E) (x := x) (y := y) (g := g) [.int v5, .int 4] hFc (kX8_window x y g v5 4 kc_241 ks_241 hlf h) (cwL_X8_window hts ⟨Nat.le_of_ble_eq_true rfl, Nat.le_of_ble_eq_true rfl⟩) (lRo hFc hP) hP hD hS rfl rfl hl.1 (Nat.le_of_ble_eq_true rfl) dL_areWindows_241 ⟨by show _ ≤ BC; (try dsimp only); omega, by show _ ≤ BS; (try dsimp only); omega⟩ (fun E2 ce q9 x1 y1 g1 H locs h hP hD hS hce hcv hcl => h.elim) (fun r_241 H locs h hP hD hS => ?_)
          have hB : (cells + kc_241) + bc_241 ≤ BC ∧ (slots + ks_241) + bs_241 ≤ BS := ⟨by omega, by omega⟩
          refine lv_iconst (pc := 244) (v := 1) hx hb dL_areWindows_244 (by decide) ?_
          refine lv_icmp_ne (pc := 245) (tgt := 252) hx hb dL_areWindows_245 (by decide) (fun c_245 => ?_) (fun c_245 => ?_)
          · have h := h.2 c_245
            refine lv_iconst (pc := 252) (v := 0) hx hb dL_areWindows_252 (by decide) ?_
            exact J253 x y g qf cf v3 v5 v6 v7 v8 0 bc_241 bs_241 h _ _ hB _ _ _ hP hD hS (lv_sub hl [1, 2, 3, 4, 5, 6, 7, 8] rfl)
          · have h := h.1 c_245
            refine lv_iconst (pc := 248) (v := 1) hx hb dL_areWindows_248 (by decide) ?_
            refine lv_goto (pc := 249) (tgt := 253) hx hb dL_areWindows_249 (by decide) ?_
            exact J253 x y g qf cf v3 v5 v6 v7 v8 1 bc_241 bs_241 h _ _ hB _ _ _ hP hD hS (lv_sub hl [1, 2, 3, 4, 5, 6, 7, 8] rfl)
      have J229 : ∀ (x : Nat → Nat → Int32) (y : Nat → Nat → Nat) (g : Nat → Nat → Nat → Int32) (qf cf : Nat → Int32) (v3 : Int32) (v5 : Int32) (v6 : Int32) (v7 : Int32) (v8 : Int32) (bc bs : Nat), jL_areWindows_229 (lL_areWindows_27 Φ n27) Φ x y g qf cf v3 v5 v6 v7 v8 bc bs → ∀ (cells slots : Nat), (cells + bc ≤ BC ∧ slots + bs ≤ BS) → ∀ (H : Heap) (locs : List Loc) (ls : Array Slot), va_P D vwCl (cW (LE qa ca cI qf cf E) ad wd cI cB cP cT (x, y, g)) H → va_D A (cW (LE qa ca cI qf cf E) ad wd cI cB cP cT (x, y, g)) → va_S A s.heap H locs → lv_has ls 9 [(0, .ref (ad 0 0)), (1, .ref qa), (2, .ref ca), (3, .int v3), (5, .int v5), (6, .int v6), (7, .int v7), (8, .int v8)] → W p l e { frames := 9, cells := BC, slots := BS, locals := 259 } s m args below meth c H locs cells slots (MQ below (zQi D (cTy cI cB cP cT) (WL E qa ca ad wd cI cB cP cT) (fun r u => Φ r u.1.1 u.1.2.1 u.1.2.2 u.2.1 u.2.2) (cW (LE qa ca cI qf0 cf0 E) ad wd cI cB cP cT (x0, y0, g0)) s.heap.size) args s BC BS (va_A (cW (LE qa ca cI qf0 cf0 E) ad wd cI cB cP cT (x0, y0, g0)) s.heap.size)) (F0 m 229 ls []) := by
        intro x y g qf cf v3 v5 v6 v7 v8 bc bs h cells slots hB H locs ls hP hD hS hl
        unfold jL_areWindows_229 at h
        refine lv_iconst (pc := 229) (v := 0) hx hb dL_areWindows_229 (by decide) ?_
        exact J230 x y g qf cf v3 v5 v6 v7 v8 0 bc bs h _ _ hB _ _ _ hP hD hS (lv_sub hl [0, 1, 2, 3, 4, 5, 6, 7] rfl)
      have J225 : ∀ (x : Nat → Nat → Int32) (y : Nat → Nat → Nat) (g : Nat → Nat → Nat → Int32) (qf cf : Nat → Int32) (v3 : Int32) (v5 : Int32) (v6 : Int32) (v7 : Int32) (v8 : Int32) (bc bs : Nat), jL_areWindows_225 (lL_areWindows_27 Φ n27) Φ x y g qf cf v3 v5 v6 v7 v8 bc bs → ∀ (cells slots : Nat), (cells + bc ≤ BC ∧ slots + bs ≤ BS) → ∀ (H : Heap) (locs : List Loc) (ls : Array Slot), va_P D vwCl (cW (LE qa ca cI qf cf E) ad wd cI cB cP cT (x, y, g)) H → va_D A (cW (LE qa ca cI qf cf E) ad wd cI cB cP cT (x, y, g)) → va_S A s.heap H locs → lv_has ls 9 [(0, .ref (ad 0 0)), (1, .ref qa), (2, .ref ca), (3, .int v3), (5, .int v5), (6, .int v6), (7, .int v7), (8, .int v8)] → W p l e { frames := 9, cells := BC, slots := BS, locals := 259 } s m args below meth c H locs cells slots (MQ below (zQi D (cTy cI cB cP cT) (WL E qa ca ad wd cI cB cP cT) (fun r u => Φ r u.1.1 u.1.2.1 u.1.2.2 u.2.1 u.2.2) (cW (LE qa ca cI qf0 cf0 E) ad wd cI cB cP cT (x0, y0, g0)) s.heap.size) args s BC BS (va_A (cW (LE qa ca cI qf0 cf0 E) ad wd cI cB cP cT (x0, y0, g0)) s.heap.size)) (F0 m 225 ls []) := by
        intro x y g qf cf v3 v5 v6 v7 v8 bc bs h cells slots hB H locs ls hP hD hS hl
        unfold jL_areWindows_225 at h
        refine lv_iconst (pc := 225) (v := 1) hx hb dL_areWindows_225 (by decide) ?_
        refine lv_goto (pc := 226) (tgt := 230) hx hb dL_areWindows_226 (by decide) ?_
        exact J230 x y g qf cf v3 v5 v6 v7 v8 1 bc bs h _ _ hB _ _ _ hP hD hS (lv_sub hl [0, 1, 2, 3, 4, 5, 6, 7] rfl)
      have J147 : ∀ (x : Nat → Nat → Int32) (y : Nat → Nat → Nat) (g : Nat → Nat → Nat → Int32) (qf cf : Nat → Int32) (v3 : Int32) (v5 : Int32) (v6 : Int32) (v7 : Int32) (v8 : Int32) (s0 : Int32) (bc bs : Nat), jL_areWindows_147 (lL_areWindows_27 Φ n27) Φ x y g qf cf v3 v5 v6 v7 v8 s0 bc bs → ∀ (cells slots : Nat), (cells + bc ≤ BC ∧ slots + bs ≤ BS) → ∀ (H : Heap) (locs : List Loc) (ls : Array Slot), va_P D vwCl (cW (LE qa ca cI qf cf E) ad wd cI cB cP cT (x, y, g)) H → va_D A (cW (LE qa ca cI qf cf E) ad wd cI cB cP cT (x, y, g)) → va_S A s.heap H locs → lv_has ls 9 [(0, .ref (ad 0 0)), (1, .ref qa), (2, .ref ca), (3, .int v3), (5, .int v5), (6, .int v6), (7, .int v7), (8, .int v8)] → W p l e { frames := 9, cells := BC, slots := BS, locals := 259 } s m args below meth c H locs cells slots (MQ below (zQi D (cTy cI cB cP cT) (WL E qa ca ad wd cI cB cP cT) (fun r u => Φ r u.1.1 u.1.2.1 u.1.2.2 u.2.1 u.2.2) (cW (LE qa ca cI qf0 cf0 E) ad wd cI cB cP cT (x0, y0, g0)) s.heap.size) args s BC BS (va_A (cW (LE qa ca cI qf0 cf0 E) ad wd cI cB cP cT (x0, y0, g0)) s.heap.size)) (F0 m 147 ls [.int s0]) := by
        intro x y g qf cf v3 v5 v6 v7 v8 s0 bc bs h cells slots hB H locs ls hP hD hS hl
        unfold jL_areWindows_147 at h
        refine lv_istore (pc := 147) (lv' := [(4, .int s0), (0, .ref (ad 0 0)), (1, .ref qa), (2, .ref ca), (3, .int v3), (5, .int v5), (6, .int v6), (7, .int v7), (8, .int v8)]) hx hb dL_areWindows_147 hl (by decide) rfl (fun ls hl => ?_)
        refine lv_iload (pc := 149) hx hb dL_areWindows_149 (lv_at hl 0 rfl) ?_
        refine lv_if_eq (pc := 151) (tgt := 229) hx hb dL_areWindows_151 (by decide) (fun c_151 => ?_) (fun c_151 => ?_)
        · have h := h.1 c_151
          exact J229 x y g qf cf v3 v5 v6 v7 v8 bc bs h _ _ hB _ _ _ hP hD hS (lv_sub hl [1, 2, 3, 4, 5, 6, 7, 8] rfl)
        · have h := h.2 c_151
          refine lv_iload (pc := 154) hx hb dL_areWindows_154 (lv_at hl 5 rfl) ?_
          refine lv_if_eq (pc := 156) (tgt := 225) hx hb dL_areWindows_156 (by decide) (fun c_156 => ?_) (fun c_156 => ?_)
          · have h := h.1 c_156
            exact J225 x y g qf cf v3 v5 v6 v7 v8 bc bs h _ _ hB _ _ _ hP hD hS (lv_sub hl [1, 2, 3, 4, 5, 6, 7, 8] rfl)
          · have h := h.2 c_156
            refine lv_aload_n (pc := 159) hx hb dL_areWindows_159 rfl (lv_at hl 1 rfl) ?_
            refine lv_iload (pc := 160) hx hb dL_areWindows_160 (lv_at hl 5 rfl) ?_
            refine lv_iconst (pc := 162) (v := 1) hx hb dL_areWindows_162 (by decide) ?_
            refine lv_isub (pc := 163) hx hb dL_areWindows_163 ?_
            refine lv_iconst (pc := 164) (v := 0) hx hb dL_areWindows_164 (by decide) ?_
            obtain ⟨kc_165, ks_165, bc_165, bs_165, ec_165, es_165, h⟩ := h
            refine lCallp (pc := 165) (E := LE qa ca cI qf cf E) (x := x) (y := y) (g := g) [.int (v5 - 1), .int 0] hFc (kX8_window x y g (v5 - 1) 0 kc_165 ks_165 hlf h) (cwL_X8_window hts ⟨Nat.le_of_ble_eq_true rfl, Nat.le_of_ble_eq_true rfl⟩) (lRo hFc hP) hP hD hS rfl rfl hl.1 (Nat.le_of_ble_eq_true rfl) dL_areWindows_165 ⟨by show _ ≤ BC; (try dsimp only); omega, by show _ ≤ BS; (try dsimp only); omega⟩ (fun E2 ce q9 x1 y1 g1 H locs h hP hD hS hce hcv hcl => h.elim) (fun r_165 H locs h hP hD hS => ?_)
            have hB : (cells + kc_165) + bc_165 ≤ BC ∧ (slots + ks_165) + bs_165 ≤ BS := ⟨by omega, by omega⟩
            refine lv_iload (pc := 168) hx hb dL_areWindows_168 (lv_at hl 6 rfl) ?_
            refine lv_icmp_lt (pc := 170) (tgt := 225) hx hb dL_areWindows_170 (by decide) (fun c_170 => ?_) (fun c_170 => ?_)
            · have h := h.1 c_170
              exact J225 x y g qf cf v3 v5 v6 v7 v8 bc_165 bs_165 h _ _ hB _ _ _ hP hD hS (lv_sub hl [1, 2, 3, 4, 5, 6, 7, 8] rfl)
            · have h := h.2 c_170
              refine lv_aload_n (pc := 173) hx hb dL_areWindows_173 rfl (lv_at hl 1 rfl) ?_
              refine lv_iload (pc := 174) hx hb dL_areWindows_174 (lv_at hl 5 rfl) ?_
              refine lv_iconst (pc := 176) (v := 1) hx hb dL_areWindows_176 (by decide) ?_
              refine lv_isub (pc := 177) hx hb dL_areWindows_177 ?_
              refine lv_iconst (pc := 178) (v := 0) hx hb dL_areWindows_178 (by decide) ?_
              obtain ⟨kc_179, ks_179, bc_179, bs_179, ec_179, es_179, h⟩ := h
              refine lCallp (pc := 179) (E := LE qa ca cI qf cf E) (x := x) (y := y) (g := g) [.int (v5 - 1), .int 0] hFc (kX8_window x y g (v5 - 1) 0 kc_179 ks_179 hlf h) (cwL_X8_window hts ⟨Nat.le_of_ble_eq_true rfl, Nat.le_of_ble_eq_true rfl⟩) (lRo hFc hP) hP hD hS rfl rfl hl.1 (Nat.le_of_ble_eq_true rfl) dL_areWindows_179 ⟨by show _ ≤ BC; (try dsimp only); omega, by show _ ≤ BS; (try dsimp only); omega⟩ (fun E2 ce q9 x1 y1 g1 H locs h hP hD hS hce hcv hcl => h.elim) (fun r_179 H locs h hP hD hS => ?_)
              have hB : ((cells + kc_165) + kc_179) + bc_179 ≤ BC ∧ ((slots + ks_165) + ks_179) + bs_179 ≤ BS := ⟨by omega, by omega⟩
              refine lv_iload (pc := 182) hx hb dL_areWindows_182 (lv_at hl 6 rfl) ?_
              refine lv_icmp_ne (pc := 184) (tgt := 229) hx hb dL_areWindows_184 (by decide) (fun c_184 => ?_) (fun c_184 => ?_)
              · have h := h.2 c_184
                exact J229 x y g qf cf v3 v5 v6 v7 v8 bc_179 bs_179 h _ _ hB _ _ _ hP hD hS (lv_sub hl [1, 2, 3, 4, 5, 6, 7, 8] rfl)
              · have h := h.1 c_184
                refine lv_aload_n (pc := 187) hx hb dL_areWindows_187 rfl (lv_at hl 2 rfl) ?_
                refine lv_iconst (pc := 188) (v := 1) hx hb dL_areWindows_188 (by decide) ?_
                refine lq_get (pc := 189) (v := (qf 1)) hF hP rfl (vp_in_iff.mpr (by decide)) dL_areWindows_189 ?_
                refine lv_iconst (pc := 190) (v := 2) hx hb dL_areWindows_190 (by decide) ?_
                refine lv_icmp_ne (pc := 191) (tgt := 211) hx hb dL_areWindows_191 (by decide) (fun c_191 => ?_) (fun c_191 => ?_)
                · have h := h.2 c_191
                  refine lv_aload_n (pc := 211) hx hb dL_areWindows_211 rfl (lv_at hl 1 rfl) ?_
                  refine lv_iload (pc := 212) hx hb dL_areWindows_212 (lv_at hl 5 rfl) ?_
                  refine lv_iconst (pc := 214) (v := 1) hx hb dL_areWindows_214 (by decide) ?_
                  refine lv_isub (pc := 215) hx hb dL_areWindows_215 ?_
                  refine lv_iconst (pc := 216) (v := 1) hx hb dL_areWindows_216 (by decide) ?_
                  obtain ⟨kc_217, ks_217, bc_217, bs_217, ec_217, es_217, h⟩ := h
                  refine lCallp (pc := 217) (E := LE qa ca cI qf cf E) (x := x) (y := y) (g := g) [.int (v5 - 1), .int 1] hFc (kX8_window x y g (v5 - 1) 1 kc_217 ks_217 hlf h) (cwL_X8_window hts ⟨Nat.le_of_ble_eq_true rfl, Nat.le_of_ble_eq_true rfl⟩) (lRo hFc hP) hP hD hS rfl rfl hl.1 (Nat.le_of_ble_eq_true rfl) dL_areWindows_217 ⟨by show _ ≤ BC; (try dsimp only); omega, by show _ ≤ BS; (try dsimp only); omega⟩ (fun E2 ce q9 x1 y1 g1 H locs h hP hD hS hce hcv hcl => h.elim) (fun r_217 H locs h hP hD hS => ?_)
                  have hB : (((cells + kc_165) + kc_179) + kc_217) + bc_217 ≤ BC ∧ (((slots + ks_165) + ks_179) + ks_217) + bs_217 ≤ BS := ⟨by omega, by omega⟩
                  refine lv_iload (pc := 220) hx hb dL_areWindows_220 (lv_at hl 7 rfl) ?_
                  refine lv_icmp_ge (pc := 222) (tgt := 229) hx hb dL_areWindows_222 (by decide) (fun c_222 => ?_) (fun c_222 => ?_)
                  · have h := h.1 c_222
                    exact J229 x y g qf cf v3 v5 v6 v7 v8 bc_217 bs_217 h _ _ hB _ _ _ hP hD hS (lv_sub hl [1, 2, 3, 4, 5, 6, 7, 8] rfl)
                  · have h := h.2 c_222
                    exact J225 x y g qf cf v3 v5 v6 v7 v8 bc_217 bs_217 h _ _ hB _ _ _ hP hD hS (lv_sub hl [1, 2, 3, 4, 5, 6, 7, 8] rfl)
                · have h := h.1 c_191
                  refine lv_aload_n (pc := 194) hx hb dL_areWindows_194 rfl (lv_at hl 1 rfl) ?_
                  refine lv_iload (pc := 195) hx hb dL_areWindows_195 (lv_at hl 5 rfl) ?_
                  refine lv_iconst (pc := 197) (v := 1) hx hb dL_areWindows_197 (by decide) ?_
                  refine lv_isub (pc := 198) hx hb dL_areWindows_198 ?_
                  refine lv_iconst (pc := 199) (v := 2) hx hb dL_areWindows_199 (by decide) ?_
                  obtain ⟨kc_200, ks_200, bc_200, bs_200, ec_200, es_200, h⟩ := h
                  refine lCallp (pc := 200) (E := LE qa ca cI qf cf E) (x := x) (y := y) (g := g) [.int (v5 - 1), .int 2] hFc (kX8_window x y g (v5 - 1) 2 kc_200 ks_200 hlf h) (cwL_X8_window hts ⟨Nat.le_of_ble_eq_true rfl, Nat.le_of_ble_eq_true rfl⟩) (lRo hFc hP) hP hD hS rfl rfl hl.1 (Nat.le_of_ble_eq_true rfl) dL_areWindows_200 ⟨by show _ ≤ BC; (try dsimp only); omega, by show _ ≤ BS; (try dsimp only); omega⟩ (fun E2 ce q9 x1 y1 g1 H locs h hP hD hS hce hcv hcl => h.elim) (fun r_200 H locs h hP hD hS => ?_)
                  have hB : (((cells + kc_165) + kc_179) + kc_200) + bc_200 ≤ BC ∧ (((slots + ks_165) + ks_179) + ks_200) + bs_200 ≤ BS := ⟨by omega, by omega⟩
                  refine lv_iload (pc := 203) hx hb dL_areWindows_203 (lv_at hl 7 rfl) ?_
                  refine lv_icmp_gt (pc := 205) (tgt := 229) hx hb dL_areWindows_205 (by decide) (fun c_205 => ?_) (fun c_205 => ?_)
                  · have h := h.1 c_205
                    exact J229 x y g qf cf v3 v5 v6 v7 v8 bc_200 bs_200 h _ _ hB _ _ _ hP hD hS (lv_sub hl [1, 2, 3, 4, 5, 6, 7, 8] rfl)
                  · have h := h.2 c_205
                    refine lv_goto (pc := 208) (tgt := 225) hx hb dL_areWindows_208 (by decide) ?_
                    exact J225 x y g qf cf v3 v5 v6 v7 v8 bc_200 bs_200 h _ _ hB _ _ _ hP hD hS (lv_sub hl [1, 2, 3, 4, 5, 6, 7, 8] rfl)
      have J146 : ∀ (x : Nat → Nat → Int32) (y : Nat → Nat → Nat) (g : Nat → Nat → Nat → Int32) (qf cf : Nat → Int32) (v3 : Int32) (v5 : Int32) (v6 : Int32) (v7 : Int32) (v8 : Int32) (bc bs : Nat), jL_areWindows_146 (lL_areWindows_27 Φ n27) Φ x y g qf cf v3 v5 v6 v7 v8 bc bs → ∀ (cells slots : Nat), (cells + bc ≤ BC ∧ slots + bs ≤ BS) → ∀ (H : Heap) (locs : List Loc) (ls : Array Slot), va_P D vwCl (cW (LE qa ca cI qf cf E) ad wd cI cB cP cT (x, y, g)) H → va_D A (cW (LE qa ca cI qf cf E) ad wd cI cB cP cT (x, y, g)) → va_S A s.heap H locs → lv_has ls 9 [(0, .ref (ad 0 0)), (1, .ref qa), (2, .ref ca), (3, .int v3), (5, .int v5), (6, .int v6), (7, .int v7), (8, .int v8)] → W p l e { frames := 9, cells := BC, slots := BS, locals := 259 } s m args below meth c H locs cells slots (MQ below (zQi D (cTy cI cB cP cT) (WL E qa ca ad wd cI cB cP cT) (fun r u => Φ r u.1.1 u.1.2.1 u.1.2.2 u.2.1 u.2.2) (cW (LE qa ca cI qf0 cf0 E) ad wd cI cB cP cT (x0, y0, g0)) s.heap.size) args s BC BS (va_A (cW (LE qa ca cI qf0 cf0 E) ad wd cI cB cP cT (x0, y0, g0)) s.heap.size)) (F0 m 146 ls []) := by
        intro x y g qf cf v3 v5 v6 v7 v8 bc bs h cells slots hB H locs ls hP hD hS hl
        unfold jL_areWindows_146 at h
        refine lv_iconst (pc := 146) (v := 0) hx hb dL_areWindows_146 (by decide) ?_
        exact J147 x y g qf cf v3 v5 v6 v7 v8 0 bc bs h _ _ hB _ _ _ hP hD hS (lv_sub hl [0, 1, 2, 3, 4, 5, 6, 7] rfl)
      have J142 : ∀ (x : Nat → Nat → Int32) (y : Nat → Nat → Nat) (g : Nat → Nat → Nat → Int32) (qf cf : Nat → Int32) (v3 : Int32) (v5 : Int32) (v6 : Int32) (v7 : Int32) (v8 : Int32) (bc bs : Nat), jL_areWindows_142 (lL_areWindows_27 Φ n27) Φ x y g qf cf v3 v5 v6 v7 v8 bc bs → ∀ (cells slots : Nat), (cells + bc ≤ BC ∧ slots + bs ≤ BS) → ∀ (H : Heap) (locs : List Loc) (ls : Array Slot), va_P D vwCl (cW (LE qa ca cI qf cf E) ad wd cI cB cP cT (x, y, g)) H → va_D A (cW (LE qa ca cI qf cf E) ad wd cI cB cP cT (x, y, g)) → va_S A s.heap H locs → lv_has ls 9 [(0, .ref (ad 0 0)), (1, .ref qa), (2, .ref ca), (3, .int v3), (5, .int v5), (6, .int v6), (7, .int v7), (8, .int v8)] → W p l e { frames := 9, cells := BC, slots := BS, locals := 259 } s m args below meth c H locs cells slots (MQ below (zQi D (cTy cI cB cP cT) (WL E qa ca ad wd cI cB cP cT) (fun r u => Φ r u.1.1 u.1.2.1 u.1.2.2 u.2.1 u.2.2) (cW (LE qa ca cI qf0 cf0 E) ad wd cI cB cP cT (x0, y0, g0)) s.heap.size) args s BC BS (va_A (cW (LE qa ca cI qf0 cf0 E) ad wd cI cB cP cT (x0, y0, g0)) s.heap.size)) (F0 m 142 ls []) := by
        intro x y g qf cf v3 v5 v6 v7 v8 bc bs h cells slots hB H locs ls hP hD hS hl
        unfold jL_areWindows_142 at h
        refine lv_iconst (pc := 142) (v := 1) hx hb dL_areWindows_142 (by decide) ?_
        refine lv_goto (pc := 143) (tgt := 147) hx hb dL_areWindows_143 (by decide) ?_
        exact J147 x y g qf cf v3 v5 v6 v7 v8 1 bc bs h _ _ hB _ _ _ hP hD hS (lv_sub hl [0, 1, 2, 3, 4, 5, 6, 7] rfl)
      have J138 : ∀ (x : Nat → Nat → Int32) (y : Nat → Nat → Nat) (g : Nat → Nat → Nat → Int32) (qf cf : Nat → Int32) (v3 : Int32) (v5 : Int32) (v6 : Int32) (v7 : Int32) (v8 : Int32) (s0 : Int32) (s1 : Int32) (bc bs : Nat), jL_areWindows_138 (lL_areWindows_27 Φ n27) Φ x y g qf cf v3 v5 v6 v7 v8 s0 s1 bc bs → ∀ (cells slots : Nat), (cells + bc ≤ BC ∧ slots + bs ≤ BS) → ∀ (H : Heap) (locs : List Loc) (ls : Array Slot), va_P D vwCl (cW (LE qa ca cI qf cf E) ad wd cI cB cP cT (x, y, g)) H → va_D A (cW (LE qa ca cI qf cf E) ad wd cI cB cP cT (x, y, g)) → va_S A s.heap H locs → lv_has ls 9 [(0, .ref (ad 0 0)), (1, .ref qa), (2, .ref ca), (3, .int v3), (5, .int v5), (6, .int v6), (7, .int v7), (8, .int v8)] → W p l e { frames := 9, cells := BC, slots := BS, locals := 259 } s m args below meth c H locs cells slots (MQ below (zQi D (cTy cI cB cP cT) (WL E qa ca ad wd cI cB cP cT) (fun r u => Φ r u.1.1 u.1.2.1 u.1.2.2 u.2.1 u.2.2) (cW (LE qa ca cI qf0 cf0 E) ad wd cI cB cP cT (x0, y0, g0)) s.heap.size) args s BC BS (va_A (cW (LE qa ca cI qf0 cf0 E) ad wd cI cB cP cT (x0, y0, g0)) s.heap.size)) (F0 m 138 ls [.int s1, .int s0]) := by
        intro x y g qf cf v3 v5 v6 v7 v8 s0 s1 bc bs h cells slots hB H locs ls hP hD hS hl
        unfold jL_areWindows_138 at h
        obtain ⟨h0_138, h⟩ := h
        refine lv_irem (pc := 138) hx hb dL_areWindows_138 h0_138 ?_
        refine lv_if_ne (pc := 139) (tgt := 146) hx hb dL_areWindows_139 (by decide) (fun c_139 => ?_) (fun c_139 => ?_)
        · have h := h.2 c_139
          exact J146 x y g qf cf v3 v5 v6 v7 v8 bc bs h _ _ hB _ _ _ hP hD hS (lv_sub hl [0, 1, 2, 3, 4, 5, 6, 7] rfl)
        · have h := h.1 c_139
          exact J142 x y g qf cf v3 v5 v6 v7 v8 bc bs h _ _ hB _ _ _ hP hD hS (lv_sub hl [0, 1, 2, 3, 4, 5, 6, 7] rfl)
      intro x y g qf cf v3 v4 v5 bc bs h cells slots hB H locs ls hP hD hS hl
      unfold lL_areWindows_27 at h
      refine lv_iload (pc := 27) hx hb dL_areWindows_27 (lv_at hl 5 rfl) ?_
      refine lv_iload_n (pc := 29) hx hb dL_areWindows_29 rfl (lv_at hl 3 rfl) ?_
      refine lv_icmp_ge (pc := 30) (tgt := 318) hx hb dL_areWindows_30 (by decide) (fun c_30 => ?_) (fun c_30 => ?_)
      · have h := h.1 c_30
        refine lv_iconst (pc := 318) (v := 0) hx hb dL_areWindows_318 (by decide) ?_
        refine lv_istore (pc := 319) (lv' := [(5, .int 0), (0, .ref (ad 0 0)), (1, .ref qa), (2, .ref ca), (3, .int v3), (4, .int v4)]) hx hb dL_areWindows_319 hl (by decide) rfl (fun ls hl => ?_)
        refine lv_iconst (pc := 321) (v := 0) hx hb dL_areWindows_321 (by decide) ?_
        refine lv_istore (pc := 322) (lv' := [(6, .int 0), (5, .int 0), (0, .ref (ad 0 0)), (1, .ref qa), (2, .ref ca), (3, .int v3), (4, .int v4)]) hx hb dL_areWindows_322 hl (by decide) rfl (fun ls hl => ?_)
        obtain ⟨n324, h⟩ := h
        exact L324 n324 x y g qf cf v3 v4 0 0 bc bs h _ _ hB _ _ _ hP hD hS (lv_sub hl [2, 4, 5, 6, 1, 0] rfl)
      · have h := h.2 c_30
        refine lv_iload (pc := 33) hx hb dL_areWindows_33 (lv_at hl 4 rfl) ?_
        refine lv_if_eq (pc := 35) (tgt := 318) hx hb dL_areWindows_35 (by decide) (fun c_35 => ?_) (fun c_35 => ?_)
        · have h := h.1 c_35
          refine lv_iconst (pc := 318) (v := 0) hx hb dL_areWindows_318 (by decide) ?_
          refine lv_istore (pc := 319) (lv' := [(5, .int 0), (0, .ref (ad 0 0)), (1, .ref qa), (2, .ref ca), (3, .int v3), (4, .int v4)]) hx hb dL_areWindows_319 hl (by decide) rfl (fun ls hl => ?_)
          refine lv_iconst (pc := 321) (v := 0) hx hb dL_areWindows_321 (by decide) ?_
          refine lv_istore (pc := 322) (lv' := [(6, .int 0), (5, .int 0), (0, .ref (ad 0 0)), (1, .ref qa), (2, .ref ca), (3, .int v3), (4, .int v4)]) hx hb dL_areWindows_322 hl (by decide) rfl (fun ls hl => ?_)
          obtain ⟨n324, h⟩ := h
          exact L324 n324 x y g qf cf v3 v4 0 0 bc bs h _ _ hB _ _ _ hP hD hS (lv_sub hl [2, 4, 5, 6, 1, 0] rfl)
        · have h := h.2 c_35
          refine lv_aload_n (pc := 38) hx hb dL_areWindows_38 rfl (lv_at hl 0 rfl) ?_
          refine lv_iload (pc := 39) hx hb dL_areWindows_39 (lv_at hl 5 rfl) ?_
          refine lv_iconst (pc := 41) (v := 0) hx hb dL_areWindows_41 (by decide) ?_
          obtain ⟨kc_42, ks_42, bc_42, bs_42, ec_42, es_42, h⟩ := h
          refine lCallp (pc := 42) (E := LE qa ca cI qf cf E) (x := x) (y := y) (g := g) [.int v5, .int 0] hFc (kX8_window x y g v5 0 kc_42 ks_42 hlf h) (cwL_X8_window hts ⟨Nat.le_of_ble_eq_true rfl, Nat.le_of_ble_eq_true rfl⟩) (lRo hFc hP) hP hD hS rfl rfl hl.1 (Nat.le_of_ble_eq_true rfl) dL_areWindows_42 ⟨by show _ ≤ BC; (try dsimp only); omega, by show _ ≤ BS; (try dsimp only); omega⟩ (fun E2 ce q9 x1 y1 g1 H locs h hP hD hS hce hcv hcl => h.elim) (fun r_42 H locs h hP hD hS => ?_)
          have hB : (cells + kc_42) + bc_42 ≤ BC ∧ (slots + ks_42) + bs_42 ≤ BS := ⟨by omega, by omega⟩
          refine lv_istore (pc := 45) (lv' := [(6, .int r_42), (0, .ref (ad 0 0)), (1, .ref qa), (2, .ref ca), (3, .int v3), (4, .int v4), (5, .int v5)]) hx hb dL_areWindows_45 hl (by decide) rfl (fun ls hl => ?_)
          refine lv_aload_n (pc := 47) hx hb dL_areWindows_47 rfl (lv_at hl 1 rfl) ?_
          refine lv_iload (pc := 48) hx hb dL_areWindows_48 (lv_at hl 6 rfl) ?_
          refine lv_iconst (pc := 50) (v := 1) hx hb dL_areWindows_50 (by decide) ?_
          obtain ⟨kc_51, ks_51, bc_51, bs_51, ec_51, es_51, h⟩ := h
          refine lCallp (pc := 51) (E := LE qa ca cI qf cf E) (x := x) (y := y) (g := g) [.int v5, .int 1] hFc (kX8_window x y g v5 1 kc_51 ks_51 hlf h) (cwL_X8_window hts ⟨Nat.le_of_ble_eq_true rfl, Nat.le_of_ble_eq_true rfl⟩) (lRo hFc hP) hP hD hS rfl rfl hl.1 (Nat.le_of_ble_eq_true rfl) dL_areWindows_51 ⟨by show _ ≤ BC; (try dsimp only); omega, by show _ ≤ BS; (try dsimp only); omega⟩ (fun E2 ce q9 x1 y1 g1 H locs h hP hD hS hce hcv hcl => h.elim) (fun r_51 H locs h hP hD hS => ?_)
          have hB : ((cells + kc_42) + kc_51) + bc_51 ≤ BC ∧ ((slots + ks_42) + ks_51) + bs_51 ≤ BS := ⟨by omega, by omega⟩
          refine lv_istore (pc := 54) (lv' := [(7, .int r_51), (6, .int r_42), (0, .ref (ad 0 0)), (1, .ref qa), (2, .ref ca), (3, .int v3), (4, .int v4), (5, .int v5)]) hx hb dL_areWindows_54 hl (by decide) rfl (fun ls hl => ?_)
          refine lv_aload_n (pc := 56) hx hb dL_areWindows_56 rfl (lv_at hl 2 rfl) ?_
          refine lv_iload (pc := 57) hx hb dL_areWindows_57 (lv_at hl 7 rfl) ?_
          refine lv_iconst (pc := 59) (v := 2) hx hb dL_areWindows_59 (by decide) ?_
          obtain ⟨kc_60, ks_60, bc_60, bs_60, ec_60, es_60, h⟩ := h
          refine lCallp (pc := 60) (E := LE qa ca cI qf cf E) (x := x) (y := y) (g := g) [.int v5, .int 2] hFc (kX8_window x y g v5 2 kc_60 ks_60 hlf h) (cwL_X8_window hts ⟨Nat.le_of_ble_eq_true rfl, Nat.le_of_ble_eq_true rfl⟩) (lRo hFc hP) hP hD hS rfl rfl hl.1 (Nat.le_of_ble_eq_true rfl) dL_areWindows_60 ⟨by show _ ≤ BC; (try dsimp only); omega, by show _ ≤ BS; (try dsimp only); omega⟩ (fun E2 ce q9 x1 y1 g1 H locs h hP hD hS hce hcv hcl => h.elim) (fun r_60 H locs h hP hD hS => ?_)
          have hB : (((cells + kc_42) + kc_51) + kc_60) + bc_60 ≤ BC ∧ (((slots + ks_42) + ks_51) + ks_60) + bs_60 ≤ BS := ⟨by omega, by omega⟩
          refine lv_istore (pc := 63) (lv' := [(8, .int r_60), (7, .int r_51), (6, .int r_42), (0, .ref (ad 0 0)), (1, .ref qa), (2, .ref ca), (3, .int v3), (4, .int v4), (5, .int v5)]) hx hb dL_areWindows_63 hl (by decide) rfl (fun ls hl => ?_)
          refine lv_iload (pc := 65) hx hb dL_areWindows_65 (lv_at hl 2 rfl) ?_
          refine lv_if_lt (pc := 67) (tgt := 146) hx hb dL_areWindows_67 (by decide) (fun c_67 => ?_) (fun c_67 => ?_)
          · have h := h.1 c_67
            exact J146 x y g qf cf v3 v5 r_42 r_51 r_60 bc_60 bs_60 h _ _ hB _ _ _ hP hD hS (lv_sub hl [3, 4, 5, 6, 8, 2, 1, 0] rfl)
          · have h := h.2 c_67
            refine lv_iload (pc := 70) hx hb dL_areWindows_70 (lv_at hl 2 rfl) ?_
            refine lv_bipush (pc := 72) (v := 8) hx hb dL_areWindows_72 (by decide) ?_
            refine lv_icmp_ge (pc := 74) (tgt := 146) hx hb dL_areWindows_74 (by decide) (fun c_74 => ?_) (fun c_74 => ?_)
            · have h := h.1 c_74
              exact J146 x y g qf cf v3 v5 r_42 r_51 r_60 bc_60 bs_60 h _ _ hB _ _ _ hP hD hS (lv_sub hl [3, 4, 5, 6, 8, 2, 1, 0] rfl)
            · have h := h.2 c_74
              refine lv_iload (pc := 77) hx hb dL_areWindows_77 (lv_at hl 1 rfl) ?_
              refine lv_if_lt (pc := 79) (tgt := 146) hx hb dL_areWindows_79 (by decide) (fun c_79 => ?_) (fun c_79 => ?_)
              · have h := h.1 c_79
                exact J146 x y g qf cf v3 v5 r_42 r_51 r_60 bc_60 bs_60 h _ _ hB _ _ _ hP hD hS (lv_sub hl [3, 4, 5, 6, 8, 2, 1, 0] rfl)
              · have h := h.2 c_79
                refine lv_iload (pc := 82) hx hb dL_areWindows_82 (lv_at hl 0 rfl) ?_
                refine lv_iload (pc := 84) hx hb dL_areWindows_84 (lv_at hl 1 rfl) ?_
                refine lv_icmp_le (pc := 86) (tgt := 146) hx hb dL_areWindows_86 (by decide) (fun c_86 => ?_) (fun c_86 => ?_)
                · have h := h.1 c_86
                  exact J146 x y g qf cf v3 v5 r_42 r_51 r_60 bc_60 bs_60 h _ _ hB _ _ _ hP hD hS (lv_sub hl [3, 4, 5, 6, 8, 2, 1, 0] rfl)
                · have h := h.2 c_86
                  refine lv_aload_n (pc := 89) hx hb dL_areWindows_89 rfl (lv_at hl 4 rfl) ?_
                  refine lv_iconst (pc := 90) (v := 1) hx hb dL_areWindows_90 (by decide) ?_
                  refine lq_get (pc := 91) (v := (qf 1)) hF hP rfl (vp_in_iff.mpr (by decide)) dL_areWindows_91 ?_
                  refine lv_iconst (pc := 92) (v := 2) hx hb dL_areWindows_92 (by decide) ?_
                  refine lv_icmp_ne (pc := 93) (tgt := 110) hx hb dL_areWindows_93 (by decide) (fun c_93 => ?_) (fun c_93 => ?_)
                  · have h := h.2 c_93
                    refine lv_iload (pc := 110) hx hb dL_areWindows_110 (lv_at hl 0 rfl) ?_
                    refine lv_iload (pc := 112) hx hb dL_areWindows_112 (lv_at hl 1 rfl) ?_
                    refine lv_isub (pc := 114) hx hb dL_areWindows_114 ?_
                    refine lv_aload_n (pc := 115) hx hb dL_areWindows_115 rfl (lv_at hl 4 rfl) ?_
                    refine lv_iconst (pc := 116) (v := 2) hx hb dL_areWindows_116 (by decide) ?_
                    refine lq_get (pc := 117) (v := (qf 2)) hF hP rfl (vp_in_iff.mpr (by decide)) dL_areWindows_117 ?_
                    refine lv_icmp_ne (pc := 118) (tgt := 146) hx hb dL_areWindows_118 (by decide) (fun c_118 => ?_) (fun c_118 => ?_)
                    · have h := h.2 c_118
                      exact J146 x y g qf cf v3 v5 r_42 r_51 r_60 bc_60 bs_60 h _ _ hB _ _ _ hP hD hS (lv_sub hl [3, 4, 5, 6, 8, 2, 1, 0] rfl)
                    · have h := h.1 c_118
                      refine lv_iload (pc := 121) hx hb dL_areWindows_121 (lv_at hl 1 rfl) ?_
                      refine lv_aload_n (pc := 123) hx hb dL_areWindows_123 rfl (lv_at hl 4 rfl) ?_
                      refine lv_iconst (pc := 124) (v := 1) hx hb dL_areWindows_124 (by decide) ?_
                      refine lq_get (pc := 125) (v := (qf 1)) hF hP rfl (vp_in_iff.mpr (by decide)) dL_areWindows_125 ?_
                      refine lv_if_ne (pc := 126) (tgt := 135) hx hb dL_areWindows_126 (by decide) (fun c_126 => ?_) (fun c_126 => ?_)
                      · have h := h.2 c_126
                        refine lv_aload_n (pc := 135) hx hb dL_areWindows_135 rfl (lv_at hl 4 rfl) ?_
                        refine lv_iconst (pc := 136) (v := 3) hx hb dL_areWindows_136 (by decide) ?_
                        refine lq_get (pc := 137) (v := (qf 3)) hF hP rfl (vp_in_iff.mpr (by decide)) dL_areWindows_137 ?_
                        exact J138 x y g qf cf v3 v5 r_42 r_51 r_60 r_51 (qf 3) bc_60 bs_60 h _ _ hB _ _ _ hP hD hS (lv_sub hl [3, 4, 5, 6, 8, 2, 1, 0] rfl)
                      · have h := h.1 c_126
                        refine lv_aload_n (pc := 129) hx hb dL_areWindows_129 rfl (lv_at hl 4 rfl) ?_
                        refine lv_iconst (pc := 130) (v := 2) hx hb dL_areWindows_130 (by decide) ?_
                        refine lq_get (pc := 131) (v := (qf 2)) hF hP rfl (vp_in_iff.mpr (by decide)) dL_areWindows_131 ?_
                        refine lv_goto (pc := 132) (tgt := 138) hx hb dL_areWindows_132 (by decide) ?_
                        exact J138 x y g qf cf v3 v5 r_42 r_51 r_60 r_51 (qf 2) bc_60 bs_60 h _ _ hB _ _ _ hP hD hS (lv_sub hl [3, 4, 5, 6, 8, 2, 1, 0] rfl)
                  · have h := h.1 c_93
                    refine lv_iload (pc := 96) hx hb dL_areWindows_96 (lv_at hl 0 rfl) ?_
                    refine lv_iload (pc := 98) hx hb dL_areWindows_98 (lv_at hl 1 rfl) ?_
                    refine lv_isub (pc := 100) hx hb dL_areWindows_100 ?_
                    refine lv_aload_n (pc := 101) hx hb dL_areWindows_101 rfl (lv_at hl 4 rfl) ?_
                    refine lv_iconst (pc := 102) (v := 2) hx hb dL_areWindows_102 (by decide) ?_
                    refine lq_get (pc := 103) (v := (qf 2)) hF hP rfl (vp_in_iff.mpr (by decide)) dL_areWindows_103 ?_
                    refine lv_icmp_lt (pc := 104) (tgt := 146) hx hb dL_areWindows_104 (by decide) (fun c_104 => ?_) (fun c_104 => ?_)
                    · have h := h.1 c_104
                      exact J146 x y g qf cf v3 v5 r_42 r_51 r_60 bc_60 bs_60 h _ _ hB _ _ _ hP hD hS (lv_sub hl [3, 4, 5, 6, 8, 2, 1, 0] rfl)
                    · have h := h.2 c_104
                      refine lv_goto (pc := 107) (tgt := 142) hx hb dL_areWindows_107 (by decide) ?_
                      exact J142 x y g qf cf v3 v5 r_42 r_51 r_60 bc_60 bs_60 h _ _ hB _ _ _ hP hD hS (lv_sub hl [3, 4, 5, 6, 8, 2, 1, 0] rfl)
  unfold wL_areWindows at h
  refine lv_aload_n (pc := 0) hx hb dL_areWindows_0 rfl (lv_at hl 0 rfl) ?_
  refine cVip (pc := 1) (E := LE qa ca cI qf0 cf0 E) (x := x0) (y := y0) (g := g0) [] hFc (kX8_windows x0 y0 g0 h) (cwL_X8_windows hts ⟨Nat.le_of_ble_eq_true rfl, Nat.le_of_ble_eq_true rfl⟩) rfl (cA_S ..) hP hD hS rfl rfl hl.1 (Nat.le_of_ble_eq_true rfl) dL_areWindows_1 ⟨by show _ ≤ BC; (try dsimp only); omega, by show _ ≤ BS; (try dsimp only); omega⟩ (fun r_1 H locs h hP hD hS => ?_)
  refine lv_istore_n (pc := 4) (lv' := [(3, .int r_1), (0, .ref (ad 0 0)), (1, .ref qa), (2, .ref ca)]) hx hb dL_areWindows_4 rfl hl (by decide) rfl (fun ls hl => ?_)
  refine lv_aload_n (pc := 5) hx hb dL_areWindows_5 rfl (lv_at hl 1 rfl) ?_
  refine lv_iconst (pc := 6) (v := 4) hx hb dL_areWindows_6 (by decide) ?_
  refine lv_iload_n (pc := 7) hx hb dL_areWindows_7 rfl (lv_at hl 0 rfl) ?_
  refine lv_iconst (pc := 8) (v := 0) hx hb dL_areWindows_8 (by decide) ?_
  obtain ⟨kc_9, ks_9, bc_9, bs_9, ec_9, es_9, h⟩ := h
  refine lJi (pc := 9) (L := []) (wc := WL E qa ca ad wd cI cB cP cT ((x0, y0, g0), qf0, cf0)) (Wd := (WL E qa ca ad wd cI cB cP cT)) hA hP hD hS (lS (L := []) [.ref (ad 0 0), .int 4, .int r_1, .int 0] hF (kL_asks x0 y0 g0 qf0 cf0 4 r_1 0 kc_9 ks_9 hlf h) (cwL_L_asks hts ⟨Nat.le_of_ble_eq_true rfl, Nat.le_of_ble_eq_true rfl⟩) hP hD hS rfl rfl hl.1 (Nat.le_of_ble_eq_true rfl) dL_areWindows_9 ⟨by show _ ≤ BC; (try dsimp only); omega, by show _ ≤ BS; (try dsimp only); omega⟩) (fun r_9 u H locs h hP hD hS => ?_)
  obtain ⟨⟨x_9, y_9, g_9⟩, qf_9, cf_9⟩ := u
  have hP : va_P D vwCl (cW (LE qa ca cI qf_9 cf_9 E) ad wd cI cB cP cT (x_9, y_9, g_9)) H := hP
  have hD : va_D A (cW (LE qa ca cI qf_9 cf_9 E) ad wd cI cB cP cT (x_9, y_9, g_9)) := hD
  have hB : ((0 + 0) + kc_9) + bc_9 ≤ BC ∧ ((0 + 0) + ks_9) + bs_9 ≤ BS := ⟨by omega, by omega⟩
  refine lv_ldc (pc := 12) (v := (-70007)) hx hb hown (hts _ lK_44) dL_areWindows_12 ?_
  refine lv_icmp_ne (pc := 14) (tgt := 21) hx hb dL_areWindows_14 (by decide) (fun c_14 => ?_) (fun c_14 => ?_)
  · have h := h.2 c_14
    refine lv_iconst (pc := 21) (v := 0) hx hb dL_areWindows_21 (by decide) ?_
    refine lv_istore (pc := 22) (lv' := [(4, .int 0), (3, .int r_1), (0, .ref (ad 0 0)), (1, .ref qa), (2, .ref ca)]) hx hb dL_areWindows_22 hl (by decide) rfl (fun ls hl => ?_)
    refine lv_iconst (pc := 24) (v := 0) hx hb dL_areWindows_24 (by decide) ?_
    refine lv_istore (pc := 25) (lv' := [(5, .int 0), (4, .int 0), (3, .int r_1), (0, .ref (ad 0 0)), (1, .ref qa), (2, .ref ca)]) hx hb dL_areWindows_25 hl (by decide) rfl (fun ls hl => ?_)
    obtain ⟨n27, h⟩ := h
    exact L27 n27 x_9 y_9 g_9 qf_9 cf_9 r_1 0 0 bc_9 bs_9 h _ _ hB _ _ _ hP hD hS (lv_sub hl [3, 4, 5, 2, 1, 0] rfl)
  · have h := h.1 c_14
    refine lv_iconst (pc := 17) (v := 1) hx hb dL_areWindows_17 (by decide) ?_
    refine lv_goto (pc := 18) (tgt := 22) hx hb dL_areWindows_18 (by decide) ?_
    refine lv_istore (pc := 22) (lv' := [(4, .int 1), (3, .int r_1), (0, .ref (ad 0 0)), (1, .ref qa), (2, .ref ca)]) hx hb dL_areWindows_22 hl (by decide) rfl (fun ls hl => ?_)
    refine lv_iconst (pc := 24) (v := 0) hx hb dL_areWindows_24 (by decide) ?_
    refine lv_istore (pc := 25) (lv' := [(5, .int 0), (4, .int 1), (3, .int r_1), (0, .ref (ad 0 0)), (1, .ref qa), (2, .ref ca)]) hx hb dL_areWindows_25 hl (by decide) rfl (fun ls hl => ?_)
    obtain ⟨n27, h⟩ := h
    exact L27 n27 x_9 y_9 g_9 qf_9 cf_9 r_1 1 0 bc_9 bs_9 h _ _ hB _ _ _ hP hD hS (lv_sub hl [3, 4, 5, 2, 1, 0] rfl)
