def wX8_fault (x : Nat → Nat → Int32) (y : Nat → Nat → Nat) (g : Nat → Nat → Nat → Int32) (bc bs : Nat) (Φ : Int32 → (Nat → Nat → Int32) → (Nat → Nat → Nat) → (Nat → Nat → Nat → Int32) → Prop) : Prop := 2 ≤ bc ∧ 13 ≤ bs ∧ wX3_readAll (qx x) (qy y) g Φ
set_option maxRecDepth 100000 in
set_option maxHeartbeats 4000000 in
theorem kX8_fault {l : Launch} {D : va_G} {E : va_W} {ad : Nat → Nat → Nat} {wd sk : Nat → Nat} {cI cB cP cT : ClassId} {sz : Nat} (x0 : Nat → Nat → Int32) (y0 : Nat → Nat → Nat) (g0 : Nat → Nat → Nat → Int32) (BC BS : Nat) {Φ : Int32 → (Nat → Nat → Int32) → (Nat → Nat → Nat) → (Nat → Nat → Nat → Int32) → Prop} (h : wX8_fault x0 y0 g0 BC BS Φ) : Met l yX8_fault (zws yX8_fault cX8_fault 1 (some .int)) { frames := 8, cells := BC, slots := BS, locals := 194 } (zPc D (cTy cI cB cP cT) (cX wd sk) (cW E ad wd cI cB cP cT (x0, y0, g0)) [.ref (ad 0 0)] sz) (zQi D (cTy cI cB cP cT) (cW E ad wd cI cB cP cT) (fun r u => Φ r u.1 u.2.1 u.2.2) (cW E ad wd cI cB cP cT (x0, y0, g0)) sz) BC BS (va_A (cW E ad wd cI cB cP cT (x0, y0, g0)) sz) := by
  refine zMet (by decide) (Nat.le_of_ble_eq_true rfl) ?_
  intro p e s m args below meth c A hx hb hr hml hown hts hlocks hsz hAe hA hS hP hK hD hX ls hl
  subst hsz
  have hF : zFx p s m args c cX8_fault RX8 A D (cTy cI cB cP cT) (cX wd sk) 1 := ⟨hx, hb, hml, hown, hts, hA, hK, cX_cl wd sk, hX⟩
  have hl : lv_has ls 1 [(0, .ref (ad 0 0))] := hl
  obtain ⟨eC, eS, h⟩ := h
  refine va_new (pc := 0) (ci := 7) (fs := [.null, .null, .int 0, .int 0]) (C := RX3) (T := TX3) (N := 4) hx hb hts uwX3 tyX3 tyX3_ok hown (hts _ clX8_56) (hts _ insX3) (hts _ inX3) hK hP hD hS hA rfl (fun j hj => by rcases (show j = 0 ∨ j = 1 ∨ j = 2 ∨ j = 3 by omega) with rfl | rfl | rfl | rfl <;> rfl) (by show _ ≤ BC; (try dsimp only); omega) (by show _ ≤ BS; (try dsimp only); omega) dX8_fault_0 (fun rr H hP hD hS => ?_)
  have hP := zoutP hP
  have hD := zoutD hD
  refine W.widen (k := 1) (n := 4) (by (try dsimp only); omega) (by (try dsimp only); omega) ?_
  refine lv_dup (pc := 3) hx hb dX8_fault_3 rfl ?_
  refine lv_aload_n (pc := 4) hx hb dX8_fault_4 rfl (lv_at hl 0 rfl) ?_
  refine cG_X8_text (pc := 5) hF hP lkX8_10 dX8_fault_5 ?_
  refine va_new (pc := 8) (ci := 6) (fs := [.null, .null, .int 0, .int 0, .null, .int 0, .int 0, .int 0, .null]) (C := RX2) (T := TX2) (N := 9) hx hb hts uwX2 tyX2 tyX2_ok hown (hts _ clX8_58) (hts _ insX2) (hts _ inX2) hK hP hD hS hA rfl (fun j hj => by rcases (show j = 0 ∨ j = 1 ∨ j = 2 ∨ j = 3 ∨ j = 4 ∨ j = 5 ∨ j = 6 ∨ j = 7 ∨ j = 8 by omega) with rfl | rfl | rfl | rfl | rfl | rfl | rfl | rfl | rfl <;> rfl) (by show _ ≤ BC; (try dsimp only); omega) (by show _ ≤ BS; (try dsimp only); omega) dX8_fault_8 (fun rq H hP hD hS => ?_)
  refine W.widen (k := 2) (n := 13) (by (try dsimp only); omega) (by (try dsimp only); omega) ?_
  refine lv_dup (pc := 11) hx hb dX8_fault_11 rfl ?_
  obtain ⟨L, hL⟩ : ∃ L : va_W, L = cW (E ++ [(rr, .inr (7, [.null, .null, .int 0, .int 0]))]) ad wd cI cB cP cT (x0, y0, g0) := ⟨_, rfl⟩
  rw [← hL] at hP hD
  refine i_call (pc := 12) (L := L) (wc := [(rq, .inr (6, [.null, .null, .int 0, .int 0, .null, .int 0, .int 0, .int 0, .null]))]) hF hP hD hS (i_runIN (L := L) [] hF (kX2_initc (l := l) (D := D) (wd := wd) (sk := sk) (cI := cI) (cB := cB) (cP := cP) (cT := cT) rq) inX2 (hF.2.2.2.2.2.2.2.2.1 _ miX8_60) imX2_init icX2_init rfl (by decide +kernel) ⟨Nat.le_of_ble_eq_true rfl, Nat.le_of_ble_eq_true rfl⟩ hP hD hS rfl rfl hl.1 (Nat.le_of_ble_eq_true rfl) dX8_fault_12 ⟨by show _ ≤ BC; (try dsimp only); omega, by show _ ≤ BS; (try dsimp only); omega⟩) (fun _ H locs _ hP hD hS => ?_)
  have hP : va_P D vwCl (L ++ [(rq, .inr (6, [.ref (wd 0), .ref (wd 3), .int 0, .int 0, .ref (wd 8), .int 1, .int 1, .int 0, .ref (wd 12)]))]) H := hP
  have hD : va_D A (L ++ [(rq, .inr (6, [.ref (wd 0), .ref (wd 3), .int 0, .int 0, .ref (wd 8), .int 1, .int 1, .int 0, .ref (wd 12)]))]) := hD
  rw [hL] at hP hD
  have hP := zswapP hP
  have hD := zswapD hD
  refine W.widen (k := 2) (n := 13) (by (try dsimp only); omega) (by (try dsimp only); omega) ?_
  obtain ⟨L, hL⟩ : ∃ L : va_W, L = cW (E ++ [(rq, .inr (6, [.ref (wd 0), .ref (wd 3), .int 0, .int 0, .ref (wd 8), .int 1, .int 1, .int 0, .ref (wd 12)]))]) ad wd cI cB cP cT (x0, y0, g0) := ⟨_, rfl⟩
  rw [← hL] at hP hD
  refine i_call (pc := 15) (L := L) (wc := [(rr, .inr (7, [.null, .null, .int 0, .int 0]))]) hF hP hD hS (i_runI (nA := 2) (L := L) [.ref (ad 1 0), .ref rq] hF (kX3_initc (l := l) (D := D) (wd := wd) (sk := sk) (cI := cI) (cB := cB) (cP := cP) (cT := cT) rr (ad 1 0) rq) inX3 miX8_61 imX3_init icX3_init rfl (by decide +kernel) ⟨Nat.le_of_ble_eq_true rfl, Nat.le_of_ble_eq_true rfl⟩ hP hD hS rfl rfl hl.1 (Nat.le_of_ble_eq_true rfl) dX8_fault_15 ⟨by show _ ≤ BC; (try dsimp only); omega, by show _ ≤ BS; (try dsimp only); omega⟩) (fun _ H locs _ hP hD hS => ?_)
  have hP : va_P D vwCl (L ++ [(rr, .inr (7, [.ref (ad 1 0), .ref rq, .int 0, .int 0]))]) H := hP
  have hD : va_D A (L ++ [(rr, .inr (7, [.ref (ad 1 0), .ref rq, .int 0, .int 0]))]) := hD
  rw [hL] at hP hD
  have hP := zfrontP hP
  have hD := zfrontD hD
  refine W.widen (k := 2) (n := 13) (by (try dsimp only); omega) (by (try dsimp only); omega) ?_
  refine dKi (pc := 18) (Wd := cV E ad wd cI cB cP cT rr rq) (u0 := (qx x0, qy y0, g0)) hF hD hS (zrV [] hF (kX3_readAll (qx x0) (qy y0) g0 h) (cwX8_X3_readAll hts ⟨Nat.le_of_ble_eq_true rfl, Nat.le_of_ble_eq_true rfl⟩) (d_rP hF hP (ci := 7) (q0 := 57) rfl (cA_RD ..)) hP hD hS rfl rfl hl.1 (Nat.le_of_ble_eq_true rfl) dX8_fault_18 ⟨by show _ ≤ BC; (try dsimp only); omega, by show _ ≤ BS; (try dsimp only); omega⟩) (fun r x1 y1 g1 H locs h (hP : va_P D vwCl (cV E ad wd cI cB cP cT rr rq (x1, y1, g1)) H) (hD : va_D A (cV E ad wd cI cB cP cT rr rq (x1, y1, g1))) hS => ?_)
  have hP := zVdropP hP
  have hD := zVdropD hD
  refine W.widen (k := 2) (n := 13) (by (try dsimp only); omega) (by (try dsimp only); omega) ?_
  exact zirV (pc := 21) (Wd := cW E ad wd cI cB cP cT) (u := (x1, y1, g1)) hx hb hr hlocks hAe hK hP hD hS rfl dX8_fault_21 (by omega) (by omega) h

def wX8_planT (x1 : Nat → Nat → Int32) (y1 : Nat → Nat → Nat) (g1 : Nat → Nat → Nat → Int32) (a1 : Int32) (bc bs : Nat) (Φ : Int32 → (Nat → Nat → Int32) → (Nat → Nat → Nat) → (Nat → Nat → Nat → Int32) → Prop) : Prop := ∃ kc ks bc2 bs2 : Nat, 2 + kc + bc2 ≤ bc ∧ 13 + ks + bs2 ≤ bs ∧ wJ4_setLength_d00df x1 y1 g1 0 kc ks (fun x2 y2 g2 => ∀ rq : Nat, (a1 = 0 → wX0_beginAnew (va_up (sx x1 x2) 15 (va_up ((sx x1 x2) 15) 0 1)) (sy rq y1 y2) g2 (fun x3 y3 g3 => wX5_beginAnew x3 y3 g3 (fun x4 y4 g4 => Φ (x4 1 5) x4 y4 g4))) ∧ (¬ a1 = 0 → Φ ((sx x1 x2) 1 5) (sx x1 x2) (sy rq y1 y2) g2))
def wX8_plan (x : Nat → Nat → Int32) (y : Nat → Nat → Nat) (g : Nat → Nat → Nat → Int32) (a1 : Int32) (bc bs : Nat) (Φ : Int32 → (Nat → Nat → Int32) → (Nat → Nat → Nat) → (Nat → Nat → Nat → Int32) → Prop) (Ψ : String → (Nat → Nat → Int32) → (Nat → Nat → Nat) → (Nat → Nat → Nat → Int32) → Prop) : Prop := 2 ≤ bc ∧ 13 ≤ bs ∧ wX3_readAll (qx x) (qy y) g (fun r x1 y1 g1 => (r = (-1) → wX2_isFit x1 y1 g1 (fun f => (f = 0 → 3 ≤ bc ∧ 19 ≤ bs ∧ Ψ "java/lang/IllegalArgumentException" x1 y1 g1) ∧ (¬ f = 0 → ((a1 = 0 → wX8_planT x1 y1 g1 a1 bc bs Φ) ∧ (¬ a1 = 0 → ((x1 15 0 = 0 → 3 ≤ bc ∧ 19 ≤ bs ∧ Ψ "java/lang/IllegalStateException" x1 y1 g1) ∧ (¬ x1 15 0 = 0 → wX2_canFollow x1 y1 g1 (fun k => (k = 0 → 3 ≤ bc ∧ 19 ≤ bs ∧ Ψ "java/lang/IllegalStateException" x1 y1 g1) ∧ (¬ k = 0 → wX8_planT x1 y1 g1 a1 bc bs Φ))))))))) ∧ (¬ r = (-1) → 3 ≤ bc ∧ 19 ≤ bs ∧ Ψ "java/lang/IllegalArgumentException" x1 y1 g1))
set_option maxRecDepth 100000 in
set_option maxHeartbeats 4000000 in
theorem kX8_plan {l : Launch} {D : va_G} {E : va_W} {ad : Nat → Nat → Nat} {wd sk : Nat → Nat} {cI cB cP cT : ClassId} {sz : Nat} (x0 : Nat → Nat → Int32) (y0 : Nat → Nat → Nat) (g0 : Nat → Nat → Nat → Int32) (a1 : Int32) (BC BS : Nat) {Φ : Int32 → (Nat → Nat → Int32) → (Nat → Nat → Nat) → (Nat → Nat → Nat → Int32) → Prop} {Ψ : String → (Nat → Nat → Int32) → (Nat → Nat → Nat) → (Nat → Nat → Nat → Int32) → Prop} (hlf : l.stackTraces = false) (h : wX8_plan x0 y0 g0 a1 BC BS Φ Ψ) (hb1 : a1 = 0 ∨ a1 = 1) : vx_Met l yX8_plan (zws yX8_plan cX8_plan 3 (some .int)) { frames := 8, cells := BC, slots := BS, locals := 194 } (zPc D (cTy cI cB cP cT) (cX wd sk) (cW E ad wd cI cB cP cT (x0, y0, g0)) [.ref (ad 0 0), .int a1] sz) (zQi D (cTy cI cB cP cT) (cW E ad wd cI cB cP cT) (fun r u => Φ r u.1 u.2.1 u.2.2) (cW E ad wd cI cB cP cT (x0, y0, g0)) sz) (vx_X (S := cS) (fun _ => True) (fun E2 u t => Ψ E2 u.1 u.2.1 u.2.2 ∧ zB D (cTy cI cB cP cT) (cW E ad wd cI cB cP cT) (va_A (cW E ad wd cI cB cP cT (x0, y0, g0)) sz) u t) (va_A (cW E ad wd cI cB cP cT (x0, y0, g0)) sz)) BC BS (va_A (cW E ad wd cI cB cP cT (x0, y0, g0)) sz) := by
  refine zMetX (by decide) (Nat.le_of_ble_eq_true rfl) ?_
  intro p e s m args below meth c A hx hb hr hml hown hts hlocks hexc hsz hAe hA hS hP hK hD hX ls hl
  subst hsz
  have hF : zFx p s m args c cX8_plan RX8 A D (cTy cI cB cP cT) (cX wd sk) 3 := ⟨hx, hb, hml, hown, hts, hA, hK, cX_cl wd sk, hX⟩
  have hl : lv_has ls 3 [(0, .ref (ad 0 0)), (1, .int a1)] := hl
  obtain ⟨eC, eS, h⟩ := h
  refine va_new (pc := 0) (ci := 6) (fs := [.null, .null, .int 0, .int 0, .null, .int 0, .int 0, .int 0, .null]) (C := RX2) (T := TX2) (N := 9) hx hb hts uwX2 tyX2 tyX2_ok hown (hts _ clX8_58) (hts _ insX2) (hts _ inX2) hK hP hD hS hA rfl (fun j hj => by rcases (show j = 0 ∨ j = 1 ∨ j = 2 ∨ j = 3 ∨ j = 4 ∨ j = 5 ∨ j = 6 ∨ j = 7 ∨ j = 8 by omega) with rfl | rfl | rfl | rfl | rfl | rfl | rfl | rfl | rfl <;> rfl) (by show _ ≤ BC; (try dsimp only); omega) (by show _ ≤ BS; (try dsimp only); omega) dX8_plan_0 (fun rq H hP hD hS => ?_)
  refine W.widen (k := 1) (n := 9) (by (try dsimp only); omega) (by (try dsimp only); omega) ?_
  refine lv_dup (pc := 3) hx hb dX8_plan_3 rfl ?_
  obtain ⟨L, hL⟩ : ∃ L : va_W, L = cW E ad wd cI cB cP cT (x0, y0, g0) := ⟨_, rfl⟩
  rw [← hL] at hP hD
  refine i_call (pc := 4) (L := L) (wc := [(rq, .inr (6, [.null, .null, .int 0, .int 0, .null, .int 0, .int 0, .int 0, .null]))]) hF hP hD hS (i_runIN (L := L) [] hF (kX2_initc (l := l) (D := D) (wd := wd) (sk := sk) (cI := cI) (cB := cB) (cP := cP) (cT := cT) rq) inX2 (hF.2.2.2.2.2.2.2.2.1 _ miX8_60) imX2_init icX2_init rfl (by decide +kernel) ⟨Nat.le_of_ble_eq_true rfl, Nat.le_of_ble_eq_true rfl⟩ hP hD hS rfl rfl hl.1 (Nat.le_of_ble_eq_true rfl) dX8_plan_4 ⟨by show _ ≤ BC; (try dsimp only); omega, by show _ ≤ BS; (try dsimp only); omega⟩) (fun _ H locs _ hP hD hS => ?_)
  have hP : va_P D vwCl (L ++ [(rq, .inr (6, [.ref (wd 0), .ref (wd 3), .int 0, .int 0, .ref (wd 8), .int 1, .int 1, .int 0, .ref (wd 12)]))]) H := hP
  have hD : va_D A (L ++ [(rq, .inr (6, [.ref (wd 0), .ref (wd 3), .int 0, .int 0, .ref (wd 8), .int 1, .int 1, .int 0, .ref (wd 12)]))]) := hD
  rw [hL] at hP hD
  have hP := zoutP hP
  have hD := zoutD hD
  refine W.widen (k := 1) (n := 9) (by (try dsimp only); omega) (by (try dsimp only); omega) ?_
  refine lv_astore_n (pc := 7) (lv' := [(2, .ref rq), (0, .ref (ad 0 0)), (1, .int a1)]) hx hb dX8_plan_7 rfl hl (by decide) rfl (fun ls hl => ?_)
  refine va_new (pc := 8) (ci := 7) (fs := [.null, .null, .int 0, .int 0]) (C := RX3) (T := TX3) (N := 4) hx hb hts uwX3 tyX3 tyX3_ok hown (hts _ clX8_56) (hts _ insX3) (hts _ inX3) hK hP hD hS hA rfl (fun j hj => by rcases (show j = 0 ∨ j = 1 ∨ j = 2 ∨ j = 3 by omega) with rfl | rfl | rfl | rfl <;> rfl) (by show _ ≤ BC; (try dsimp only); omega) (by show _ ≤ BS; (try dsimp only); omega) dX8_plan_8 (fun rr H hP hD hS => ?_)
  have hP := zoutP hP
  have hD := zoutD hD
  refine W.widen (k := 2) (n := 13) (by (try dsimp only); omega) (by (try dsimp only); omega) ?_
  refine lv_dup (pc := 11) hx hb dX8_plan_11 rfl ?_
  refine lv_aload_n (pc := 12) hx hb dX8_plan_12 rfl (lv_at hl 1 rfl) ?_
  refine cG_X8_text (pc := 13) hF hP lkX8_10 dX8_plan_13 ?_
  refine lv_aload_n (pc := 16) hx hb dX8_plan_16 rfl (lv_at hl 0 rfl) ?_
  have hP := zinP hP
  have hD := zinD hD
  obtain ⟨L, hL⟩ : ∃ L : va_W, L = cW (E ++ [(rq, .inr (6, [.ref (wd 0), .ref (wd 3), .int 0, .int 0, .ref (wd 8), .int 1, .int 1, .int 0, .ref (wd 12)]))]) ad wd cI cB cP cT (x0, y0, g0) := ⟨_, rfl⟩
  rw [← hL] at hP hD
  refine i_call (pc := 17) (L := L) (wc := [(rr, .inr (7, [.null, .null, .int 0, .int 0]))]) hF hP hD hS (i_runI (nA := 2) (L := L) [.ref (ad 1 0), .ref rq] hF (kX3_initc (l := l) (D := D) (wd := wd) (sk := sk) (cI := cI) (cB := cB) (cP := cP) (cT := cT) rr (ad 1 0) rq) inX3 miX8_61 imX3_init icX3_init rfl (by decide +kernel) ⟨Nat.le_of_ble_eq_true rfl, Nat.le_of_ble_eq_true rfl⟩ hP hD hS rfl rfl hl.1 (Nat.le_of_ble_eq_true rfl) dX8_plan_17 ⟨by show _ ≤ BC; (try dsimp only); omega, by show _ ≤ BS; (try dsimp only); omega⟩) (fun _ H locs _ hP hD hS => ?_)
  have hP : va_P D vwCl (L ++ [(rr, .inr (7, [.ref (ad 1 0), .ref rq, .int 0, .int 0]))]) H := hP
  have hD : va_D A (L ++ [(rr, .inr (7, [.ref (ad 1 0), .ref rq, .int 0, .int 0]))]) := hD
  rw [hL] at hP hD
  have hP := zfrontP hP
  have hD := zfrontD hD
  refine W.widen (k := 2) (n := 13) (by (try dsimp only); omega) (by (try dsimp only); omega) ?_
  refine dKi (pc := 20) (Wd := cV E ad wd cI cB cP cT rr rq) (u0 := (qx x0, qy y0, g0)) hF hD hS (zrV [] hF (kX3_readAll (qx x0) (qy y0) g0 h) (cwX8_X3_readAll hts ⟨Nat.le_of_ble_eq_true rfl, Nat.le_of_ble_eq_true rfl⟩) (d_rP hF hP (ci := 7) (q0 := 57) rfl (cA_RD ..)) hP hD hS rfl rfl hl.1 (Nat.le_of_ble_eq_true rfl) dX8_plan_20 ⟨by show _ ≤ BC; (try dsimp only); omega, by show _ ≤ BS; (try dsimp only); omega⟩) (fun r x1 y1 g1 H locs h (hP : va_P D vwCl (cV E ad wd cI cB cP cT rr rq (x1, y1, g1)) H) (hD : va_D A (cV E ad wd cI cB cP cT rr rq (x1, y1, g1))) hS => ?_)
  refine W.widen (k := 2) (n := 13) (by (try dsimp only); omega) (by (try dsimp only); omega) ?_
  have J75 : ∀ (H : Heap) (locs : List Loc) (ls : Array Slot), wX8_planT x1 y1 g1 a1 BC BS Φ → va_P D vwCl (cV E ad wd cI cB cP cT rr rq (x1, y1, g1)) H → va_D A (cV E ad wd cI cB cP cT rr rq (x1, y1, g1)) → va_S A s.heap H locs → lv_has ls 3 [(2, .ref rq), (0, .ref (ad 0 0)), (1, .int a1)] → W p l e { frames := 8, cells := BC, slots := BS, locals := 194 } s m args below meth c H locs 2 13 (vx_MQ below (zQi D (cTy cI cB cP cT) (cW E ad wd cI cB cP cT) (fun r u => Φ r u.1 u.2.1 u.2.2) (cW E ad wd cI cB cP cT (x0, y0, g0)) s.heap.size) (vx_X (S := cS) (fun _ => True) (fun E2 u t => Ψ E2 u.1 u.2.1 u.2.2 ∧ zB D (cTy cI cB cP cT) (cW E ad wd cI cB cP cT) (va_A (cW E ad wd cI cB cP cT (x0, y0, g0)) s.heap.size) u t) (va_A (cW E ad wd cI cB cP cT (x0, y0, g0)) s.heap.size)) args s BC BS (va_A (cW E ad wd cI cB cP cT (x0, y0, g0)) s.heap.size)) (F0 m 75 ls []) := by
    intro H locs ls h hP hD hS hl
    obtain ⟨kc, ks, bc2, bs2, eC2, eS2, h⟩ := h
    have hP := zVdropRP hP
    have hD := zVdropRD hD
    refine lv_aload_n (pc := 75) hx hb dX8_plan_75 rfl (lv_at hl 1 rfl) ?_
    refine cG_X8_text (pc := 76) hF hP lkX8_10 dX8_plan_76 ?_
    refine lv_iconst (pc := 79) (v := 0) hx hb dX8_plan_79 (by decide) ?_
    refine dKv (pc := 80) (Wd := cW ([(rq, .inr (6, [.ref (wd (y1 3 1)), .ref (wd (y1 4 1)), .int (x1 8 1), .int (x1 9 1), .ref (wd (y1 5 1)), .int (x1 10 1), .int (x1 11 1), .int (x1 12 1), .ref (wd (y1 6 1))]))] ++ E) ad wd cI cB cP cT) (u0 := (x1, y1, g1)) hF hD hS (zrV [.int 0] hF (kJ4_setLength_d00df x1 y1 g1 0 kc ks h) (cwX8_J4_setLength_d00df hts ⟨Nat.le_of_ble_eq_true rfl, Nat.le_of_ble_eq_true rfl⟩) (d_rP hF hP (ci := 1) (q0 := 1) rfl (cA_SB ..)) hP hD hS rfl rfl hl.1 (Nat.le_of_ble_eq_true rfl) dX8_plan_80 ⟨by show _ ≤ BC; (try dsimp only); omega, by show _ ≤ BS; (try dsimp only); omega⟩) (fun x2 y2 g2 H locs h (hP : va_P D vwCl (cW ([(rq, .inr (6, [.ref (wd (y1 3 1)), .ref (wd (y1 4 1)), .int (x1 8 1), .int (x1 9 1), .ref (wd (y1 5 1)), .int (x1 10 1), .int (x1 11 1), .int (x1 12 1), .ref (wd (y1 6 1))]))] ++ E) ad wd cI cB cP cT (x2, y2, g2)) H) (hD : va_D A (cW ([(rq, .inr (6, [.ref (wd (y1 3 1)), .ref (wd (y1 4 1)), .int (x1 8 1), .int (x1 9 1), .ref (wd (y1 5 1)), .int (x1 10 1), .int (x1 11 1), .int (x1 12 1), .ref (wd (y1 6 1))]))] ++ E) ad wd cI cB cP cT (x2, y2, g2))) hS => ?_)
    replace h := h rq
    refine lv_aload_n (pc := 83) hx hb dX8_plan_83 rfl (lv_at hl 1 rfl) ?_
    refine cG_X8_loom (pc := 84) hF hP lkX8_19 dX8_plan_84 ?_
    refine lv_aload_n (pc := 87) hx hb dX8_plan_87 rfl (lv_at hl 0 rfl) ?_
    refine c_setq (pc := 88) (xq := x1) (yq := y1) hF hP hD hS lkX8_71 dX8_plan_88 (fun H locs hP hD hS => ?_)
    refine lv_iload_n (pc := 91) hx hb dX8_plan_91 rfl (lv_at hl 2 rfl) ?_
    refine lv_if_ne (pc := 92) (tgt := 114) hx hb dX8_plan_92 (by decide) (fun c_92 => ?_) (fun c_92 => ?_)
    · have h := h.2 c_92
      refine lv_aload_n (pc := 114) hx hb dX8_plan_114 rfl (lv_at hl 1 rfl) ?_
      refine cG_X8_loom (pc := 115) hF hP lkX8_19 dX8_plan_115 ?_
      refine cGN_X0_now (pc := 118) hF hP lkX8_83 dX8_plan_118 ?_
      refine cGN_X6_windows (pc := 121) hF hP (i := 0) (by omega) lkX8_87 dX8_plan_121 ?_
      refine cGN_X4_count (pc := 124) hF hP (i := 5) (by omega) lkX8_93 (v := ((sx x1 x2) 1 5)) rfl dX8_plan_124 ?_
      exact vx_ret (zirV (pc := 127) (Wd := cW E ad wd cI cB cP cT) (u := ((sx x1 x2), (sy rq y1 y2), g2)) hx hb hr hlocks hAe hK hP hD hS rfl dX8_plan_127 (by (try dsimp only); omega) (by (try dsimp only); omega) h)
    · have h := h.1 c_92
      refine lv_aload_n (pc := 95) hx hb dX8_plan_95 rfl (lv_at hl 1 rfl) ?_
      refine lv_iconst (pc := 96) (v := 1) hx hb dX8_plan_96 (by decide) ?_
      refine cP_X8_isPlanned (pc := 97) hF hP hD hS lkX8_30 (v := 1) rfl rfl dX8_plan_97 (fun H locs hP hD hS => ?_)
      refine lv_aload_n (pc := 100) hx hb dX8_plan_100 rfl (lv_at hl 1 rfl) ?_
      refine cG_X8_loom (pc := 101) hF hP lkX8_19 dX8_plan_101 ?_
      refine dKv (pc := 104) (Wd := cW E ad wd cI cB cP cT) (u0 := ((va_up (sx x1 x2) 15 (va_up ((sx x1 x2) 15) 0 1)), (sy rq y1 y2), g2)) hF hD hS (zrV [] hF (kX0_beginAnew (va_up (sx x1 x2) 15 (va_up ((sx x1 x2) 15) 0 1)) (sy rq y1 y2) g2 h) (cwX8_X0_beginAnew hts ⟨Nat.le_of_ble_eq_true rfl, Nat.le_of_ble_eq_true rfl⟩) (d_rP hF hP (ci := 4) (q0 := 3) rfl (cA_L ..)) hP hD hS rfl rfl hl.1 (Nat.le_of_ble_eq_true rfl) dX8_plan_104 ⟨by show _ ≤ BC; (try dsimp only); omega, by show _ ≤ BS; (try dsimp only); omega⟩) (fun x3 y3 g3 H locs h (hP : va_P D vwCl (cW E ad wd cI cB cP cT (x3, y3, g3)) H) (hD : va_D A (cW E ad wd cI cB cP cT (x3, y3, g3))) hS => ?_)
      refine lv_aload_n (pc := 107) hx hb dX8_plan_107 rfl (lv_at hl 1 rfl) ?_
      refine cG_X8_snapshots (pc := 108) hF hP lkX8_26 dX8_plan_108 ?_
      refine dKv (pc := 111) (Wd := cW E ad wd cI cB cP cT) (u0 := (x3, y3, g3)) hF hD hS (zrV [] hF (kX5_beginAnew x3 y3 g3 h) (cwX8_X5_beginAnew hts ⟨Nat.le_of_ble_eq_true rfl, Nat.le_of_ble_eq_true rfl⟩) (d_rP hF hP (ci := 9) (q0 := 54) rfl (cA_N ..)) hP hD hS rfl rfl hl.1 (Nat.le_of_ble_eq_true rfl) dX8_plan_111 ⟨by show _ ≤ BC; (try dsimp only); omega, by show _ ≤ BS; (try dsimp only); omega⟩) (fun x4 y4 g4 H locs h (hP : va_P D vwCl (cW E ad wd cI cB cP cT (x4, y4, g4)) H) (hD : va_D A (cW E ad wd cI cB cP cT (x4, y4, g4))) hS => ?_)
      refine lv_aload_n (pc := 114) hx hb dX8_plan_114 rfl (lv_at hl 1 rfl) ?_
      refine cG_X8_loom (pc := 115) hF hP lkX8_19 dX8_plan_115 ?_
      refine cGN_X0_now (pc := 118) hF hP lkX8_83 dX8_plan_118 ?_
      refine cGN_X6_windows (pc := 121) hF hP (i := 0) (by omega) lkX8_87 dX8_plan_121 ?_
      refine cGN_X4_count (pc := 124) hF hP (i := 5) (by omega) lkX8_93 (v := (x4 1 5)) rfl dX8_plan_124 ?_
      exact vx_ret (zirV (pc := 127) (Wd := cW E ad wd cI cB cP cT) (u := (x4, y4, g4)) hx hb hr hlocks hAe hK hP hD hS rfl dX8_plan_127 (by (try dsimp only); omega) (by (try dsimp only); omega) h)
  refine lv_iconst (pc := 23) (v := (-1)) hx hb dX8_plan_23 (by decide) ?_
  refine lv_icmp_ne (pc := 24) (tgt := 34) hx hb dX8_plan_24 (by decide) (fun c_24 => ?_) (fun c_24 => ?_)
  · have h := h.2 c_24
    obtain ⟨eC3, eS3, h⟩ := h
    have hP := zVdropP hP
    have hD := zVdropD hD
    exact c_throw (pc := 34) hF hP hD hS hlf hexc hlocks hl.1 hAe (names := xn_IAE) (by decide) (by decide) xl_X8_IAE xi_IAE xa_X8_IAE_40 xg_X8_IAE_40 dX8_plan_34 dX8_plan_37 dX8_plan_38 dX8_plan_41 ⟨by show _ < (8 : Nat); decide, Nat.le_of_ble_eq_true rfl, by show _ ≤ BC; (try dsimp only); omega, by show _ ≤ BS; (try dsimp only); omega⟩ (by (try dsimp only); omega) (by (try dsimp only); omega) h
  · have h := h.1 c_24
    refine lv_aload_n (pc := 27) hx hb dX8_plan_27 rfl (lv_at hl 0 rfl) ?_
    refine dKbp (pc := 28) (Wd := cV E ad wd cI cB cP cT rr rq) (u0 := (x1, y1, g1)) hF hD hS (zrV [] hF (kX2_isFit x1 y1 g1 h) (cwX8_X2_isFit hts ⟨Nat.le_of_ble_eq_true rfl, Nat.le_of_ble_eq_true rfl⟩) (d_rP hF hP (ci := 6) (q0 := 56) rfl (cA_Q1 ..)) hP hD hS rfl rfl hl.1 (Nat.le_of_ble_eq_true rfl) dX8_plan_28 ⟨by show _ ≤ BC; (try dsimp only); omega, by show _ ≤ BS; (try dsimp only); omega⟩) (fun r_28 H locs hb_28 h (hP : va_P D vwCl (cV E ad wd cI cB cP cT rr rq (x1, y1, g1)) H) (hD : va_D A (cV E ad wd cI cB cP cT rr rq (x1, y1, g1))) hS => ?_)
    refine W.widen (k := 2) (n := 13) (by (try dsimp only); omega) (by (try dsimp only); omega) ?_
    refine lv_if_ne (pc := 31) (tgt := 42) hx hb dX8_plan_31 (by decide) (fun c_31 => ?_) (fun c_31 => ?_)
    · have h := h.2 c_31
      refine lv_iload_n (pc := 42) hx hb dX8_plan_42 rfl (lv_at hl 2 rfl) ?_
      refine lv_if_eq (pc := 43) (tgt := 75) hx hb dX8_plan_43 (by decide) (fun c_43 => ?_) (fun c_43 => ?_)
      · exact J75 _ _ _ (h.1 c_43) hP hD hS hl
      · have h := h.2 c_43
        refine lv_aload_n (pc := 46) hx hb dX8_plan_46 rfl (lv_at hl 1 rfl) ?_
        refine cG_X8_isPlanned (pc := 47) hF hP lkX8_30 (v := (x1 15 0)) rfl dX8_plan_47 ?_
        refine lv_if_eq (pc := 50) (tgt := 67) hx hb dX8_plan_50 (by decide) (fun c_50 => ?_) (fun c_50 => ?_)
        · have h := h.1 c_50
          obtain ⟨eC3, eS3, h⟩ := h
          have hP := zVdropP hP
          have hD := zVdropD hD
          exact c_throw (pc := 67) hF hP hD hS hlf hexc hlocks hl.1 hAe (names := xn_ISE) (by decide) (by decide) xl_X8_ISE xi_ISE xa_X8_ISE_47 xg_X8_ISE_47 dX8_plan_67 dX8_plan_70 dX8_plan_71 dX8_plan_74 ⟨by show _ < (8 : Nat); decide, Nat.le_of_ble_eq_true rfl, by show _ ≤ BC; (try dsimp only); omega, by show _ ≤ BS; (try dsimp only); omega⟩ (by (try dsimp only); omega) (by (try dsimp only); omega) h
        · have h := h.2 c_50
          refine lv_aload_n (pc := 53) hx hb dX8_plan_53 rfl (lv_at hl 0 rfl) ?_
          refine lv_aload_n (pc := 54) hx hb dX8_plan_54 rfl (lv_at hl 1 rfl) ?_
          refine cG_X8_loom (pc := 55) hF hP lkX8_19 dX8_plan_55 ?_
          refine cGN_X0_query (pc := 58) hF hP lkX8_71 dX8_plan_58 ?_
          refine dKbp (pc := 61) (Wd := cV E ad wd cI cB cP cT rr rq) (u0 := (x1, y1, g1)) hF hD hS (zrV [.ref (y1 2 0)] hF (kX2_canFollow x1 y1 g1 h) (cwX8_X2_canFollow hts ⟨Nat.le_of_ble_eq_true rfl, Nat.le_of_ble_eq_true rfl⟩) (d_rP hF hP (ci := 6) (q0 := 56) rfl (cA_Q1 ..)) hP hD hS rfl rfl hl.1 (Nat.le_of_ble_eq_true rfl) dX8_plan_61 ⟨by show _ ≤ BC; (try dsimp only); omega, by show _ ≤ BS; (try dsimp only); omega⟩) (fun r_61 H locs hb_61 h (hP : va_P D vwCl (cV E ad wd cI cB cP cT rr rq (x1, y1, g1)) H) (hD : va_D A (cV E ad wd cI cB cP cT rr rq (x1, y1, g1))) hS => ?_)
          refine W.widen (k := 2) (n := 13) (by (try dsimp only); omega) (by (try dsimp only); omega) ?_
          refine lv_if_ne (pc := 64) (tgt := 75) hx hb dX8_plan_64 (by decide) (fun c_64 => ?_) (fun c_64 => ?_)
          · exact J75 _ _ _ (h.2 c_64) hP hD hS hl
          · have h := h.1 c_64
            obtain ⟨eC3, eS3, h⟩ := h
            have hP := zVdropP hP
            have hD := zVdropD hD
            exact c_throw (pc := 67) hF hP hD hS hlf hexc hlocks hl.1 hAe (names := xn_ISE) (by decide) (by decide) xl_X8_ISE xi_ISE xa_X8_ISE_47 xg_X8_ISE_47 dX8_plan_67 dX8_plan_70 dX8_plan_71 dX8_plan_74 ⟨by show _ < (8 : Nat); decide, Nat.le_of_ble_eq_true rfl, by show _ ≤ BC; (try dsimp only); omega, by show _ ≤ BS; (try dsimp only); omega⟩ (by (try dsimp only); omega) (by (try dsimp only); omega) h
    · have h := h.1 c_31
      obtain ⟨eC3, eS3, h⟩ := h
      have hP := zVdropP hP
      have hD := zVdropD hD
      exact c_throw (pc := 34) hF hP hD hS hlf hexc hlocks hl.1 hAe (names := xn_IAE) (by decide) (by decide) xl_X8_IAE xi_IAE xa_X8_IAE_40 xg_X8_IAE_40 dX8_plan_34 dX8_plan_37 dX8_plan_38 dX8_plan_41 ⟨by show _ < (8 : Nat); decide, Nat.le_of_ble_eq_true rfl, by show _ ≤ BC; (try dsimp only); omega, by show _ ≤ BS; (try dsimp only); omega⟩ (by (try dsimp only); omega) (by (try dsimp only); omega) h
