def wX4_cutTo (x : Nat → Nat → Int32) (y : Nat → Nat → Nat) (g : Nat → Nat → Nat → Int32) (q0 : Nat) (a1 : Int32) (Φ : (Nat → Nat → Int32) → (Nat → Nat → Nat) → (Nat → Nat → Nat → Int32) → Prop) : Prop := ((a1 < 0 → (Φ x y g)) ∧ (¬ a1 < 0 → ((((x 1) q0) ≤ a1 → (Φ x y g)) ∧ (¬ ((x 1) q0) ≤ a1 → (Φ (va_up x 1 (va_up (x 1) q0 a1)) y g)))))
set_option maxRecDepth 100000 in
set_option maxHeartbeats 4000000 in
theorem kX4_cutTo {l : Launch} {D : va_G} {E : va_W} {ad : Nat → Nat → Nat} {wd sk : Nat → Nat} {cI cB cP cT : ClassId} {sz : Nat} (x0 : Nat → Nat → Int32) (y0 : Nat → Nat → Nat) (g0 : Nat → Nat → Nat → Int32) (q0 : Nat) (a1 : Int32) {Φ : (Nat → Nat → Int32) → (Nat → Nat → Nat) → (Nat → Nat → Nat → Int32) → Prop} (h : wX4_cutTo x0 y0 g0 q0 a1 Φ) (hq0 : q0 < 12) : Met l yX4_cutTo (zws yX4_cutTo cX4_cutTo 2 none) { frames := 0, cells := 0, slots := 0, locals := 0 } (zPc D (cTy cI cB cP cT) (cX wd sk) (cW E ad wd cI cB cP cT (x0, y0, g0)) [.ref (ad 5 q0), .int a1] sz) (zQv D (cTy cI cB cP cT) (cW E ad wd cI cB cP cT) (fun u => Φ u.1 u.2.1 u.2.2) (cW E ad wd cI cB cP cT (x0, y0, g0)) sz) 0 0 (va_A (cW E ad wd cI cB cP cT (x0, y0, g0)) sz) := by
  refine zMet (by decide) (Nat.le_of_ble_eq_true rfl) ?_
  intro p e s m args below meth c A hx hb hr hml hown hts hlocks hsz hAe hA hS hP hK hD hX ls hl
  subst hsz
  have hF : zFx p s m args c cX4_cutTo RX4 A D (cTy cI cB cP cT) (cX wd sk) 2 := ⟨hx, hb, hml, hown, hts, hA, hK, cX_cl wd sk, hX⟩
  have hl : lv_has ls 2 [(0, .ref (ad 5 q0)), (1, .int a1)] := hl
  unfold wX4_cutTo at h
  refine lv_iload_n (pc := 0) hx hb dX4_cutTo_0 rfl (lv_at hl 1 rfl) ?_
  refine lv_if_lt (pc := 1) (tgt := 17) hx hb dX4_cutTo_1 (by decide) (fun c_1 => ?_) (fun c_1 => ?_)
  · have h := h.1 c_1
    exact zvr (pc := 17) (Wd := cW E ad wd cI cB cP cT) (u := (x0, y0, g0)) hx hb hr hlocks hAe hK hP hD hS dX4_cutTo_17 (Nat.le_refl _) (Nat.le_refl _) h
  · have h := h.2 c_1
    refine lv_iload_n (pc := 4) hx hb dX4_cutTo_4 rfl (lv_at hl 1 rfl) ?_
    refine lv_aload_n (pc := 5) hx hb dX4_cutTo_5 rfl (lv_at hl 0 rfl) ?_
    refine cG_X4_count (pc := 6) hF hP (i := q0) (by omega) lkX4_25 (v := ((x0 1) q0)) rfl dX4_cutTo_6 ?_
    refine lv_icmp_ge (pc := 9) (tgt := 17) hx hb dX4_cutTo_9 (by decide) (fun c_9 => ?_) (fun c_9 => ?_)
    · have h := h.1 c_9
      exact zvr (pc := 17) (Wd := cW E ad wd cI cB cP cT) (u := (x0, y0, g0)) hx hb hr hlocks hAe hK hP hD hS dX4_cutTo_17 (Nat.le_refl _) (Nat.le_refl _) h
    · have h := h.2 c_9
      refine lv_aload_n (pc := 12) hx hb dX4_cutTo_12 rfl (lv_at hl 0 rfl) ?_
      refine lv_iload_n (pc := 13) hx hb dX4_cutTo_13 rfl (lv_at hl 1 rfl) ?_
      refine cP_X4_count (pc := 14) hF hP hD hS (i := q0) (by omega) lkX4_25 dX4_cutTo_14 (fun H locs hP hD hS => ?_)
      exact zvr (pc := 17) (Wd := cW E ad wd cI cB cP cT) (u := ((va_up x0 1 (va_up (x0 1) q0 a1)), y0, g0)) hx hb hr hlocks hAe hK hP hD hS dX4_cutTo_17 (Nat.le_refl _) (Nat.le_refl _) h

def lX6_beginAnew_2 (Φ : (Nat → Nat → Int32) → (Nat → Nat → Nat) → (Nat → Nat → Nat → Int32) → Prop) : Nat → (Nat → Nat → Int32) → (Nat → Nat → Nat) → (Nat → Nat → Nat → Int32) → Nat → Int32 → Prop
  | 0, _, _, _, _, _ => False
  | n2 + 1, x, y, g, q0, v1 => ((3 ≤ v1 → (wX4_cutTo x y g (5 + q0) 0 (fun x_32 y_32 g_32 => (Φ (va_up (va_up (va_up (va_up x_32 2 (va_up (x_32 2) q0 (-1))) 3 (va_up (x_32 3) q0 0)) 4 (va_up (x_32 4) q0 0)) 5 (va_up (x_32 5) q0 (-1))) y_32 g_32)))) ∧ (¬ 3 ≤ v1 → (vp_in v1 3 ∧ (vp_in v1 3 ∧ (∀ v1_21 : Int32, v1_21 = v1 + 1 → ((lX6_beginAnew_2 Φ n2) x y (va_up (va_up g 1 (va_up (g 1) q0 (upd ((g 1) q0) v1.toNatClampNeg 0))) 2 (va_up (g 2) q0 (upd ((g 2) q0) v1.toNatClampNeg 0))) q0 v1_21))))))
def wX6_beginAnew (x : Nat → Nat → Int32) (y : Nat → Nat → Nat) (g : Nat → Nat → Nat → Int32) (q0 : Nat) (Φ : (Nat → Nat → Int32) → (Nat → Nat → Nat) → (Nat → Nat → Nat → Int32) → Prop) : Prop := (∃ n2 : Nat, lX6_beginAnew_2 Φ n2 x y g q0 0)
set_option maxRecDepth 100000 in
set_option maxHeartbeats 4000000 in
theorem kX6_beginAnew {l : Launch} {D : va_G} {E : va_W} {ad : Nat → Nat → Nat} {wd sk : Nat → Nat} {cI cB cP cT : ClassId} {sz : Nat} (x0 : Nat → Nat → Int32) (y0 : Nat → Nat → Nat) (g0 : Nat → Nat → Nat → Int32) (q0 : Nat) {Φ : (Nat → Nat → Int32) → (Nat → Nat → Nat) → (Nat → Nat → Nat → Int32) → Prop} (h : wX6_beginAnew x0 y0 g0 q0 Φ) (hq0 : q0 < 7) : Met l yX6_beginAnew (zws yX6_beginAnew cX6_beginAnew 2 none) { frames := 1, cells := 0, slots := 0, locals := 21 } (zPc D (cTy cI cB cP cT) (cX wd sk) (cW E ad wd cI cB cP cT (x0, y0, g0)) [.ref (ad 6 q0)] sz) (zQv D (cTy cI cB cP cT) (cW E ad wd cI cB cP cT) (fun u => Φ u.1 u.2.1 u.2.2) (cW E ad wd cI cB cP cT (x0, y0, g0)) sz) 0 0 (va_A (cW E ad wd cI cB cP cT (x0, y0, g0)) sz) := by
  refine zMet (by decide) (Nat.le_of_ble_eq_true rfl) ?_
  intro p e s m args below meth c A hx hb hr hml hown hts hlocks hsz hAe hA hS hP hK hD hX ls hl
  subst hsz
  have hF : zFx p s m args c cX6_beginAnew RX6 A D (cTy cI cB cP cT) (cX wd sk) 2 := ⟨hx, hb, hml, hown, hts, hA, hK, cX_cl wd sk, hX⟩
  have hl : lv_has ls 2 [(0, .ref (ad 6 q0))] := hl
  have L2 : ∀ n2 : Nat, ∀ (x : Nat → Nat → Int32) (y : Nat → Nat → Nat) (g : Nat → Nat → Nat → Int32) (q0 : Nat) (v1 : Int32), lX6_beginAnew_2 Φ n2 x y g q0 v1 → q0 < 7 → ∀ (H : Heap) (locs : List Loc) (ls : Array Slot), va_P D vwCl (cW E ad wd cI cB cP cT (x, y, g)) H → va_D A (cW E ad wd cI cB cP cT (x, y, g)) → va_S A s.heap H locs → lv_has ls 2 [(0, .ref (ad 6 q0)), (1, .int v1)] → W p l e { frames := 1, cells := 0, slots := 0, locals := 21 } s m args below meth c H locs 0 0 (MQ below (zQv D (cTy cI cB cP cT) (cW E ad wd cI cB cP cT) (fun u => Φ u.1 u.2.1 u.2.2) (cW E ad wd cI cB cP cT (x0, y0, g0)) s.heap.size) args s 0 0 (va_A (cW E ad wd cI cB cP cT (x0, y0, g0)) s.heap.size)) (F0 m 2 ls []) := by
    intro n2
    induction n2 with
    | zero => intro x y g q0 v1 h hcq0 H locs ls hP hD hS hl; exact h.elim
    | succ n2 ih2 =>
      intro x y g q0 v1 h hcq0 H locs ls hP hD hS hl
      unfold lX6_beginAnew_2 at h
      refine lv_iload_n (pc := 2) hx hb dX6_beginAnew_2 rfl (lv_at hl 1 rfl) ?_
      refine lv_iconst (pc := 3) (v := 3) hx hb dX6_beginAnew_3 (by decide) ?_
      refine lv_icmp_ge (pc := 4) (tgt := 27) hx hb dX6_beginAnew_4 (by decide) (fun c_4 => ?_) (fun c_4 => ?_)
      · have h := h.1 c_4
        refine lv_aload_n (pc := 27) hx hb dX6_beginAnew_27 rfl (lv_at hl 0 rfl) ?_
        refine cG_X6_windows (pc := 28) hF hP (i := q0) (by omega) lkX6_23 dX6_beginAnew_28 ?_
        refine lv_iconst (pc := 31) (v := 0) hx hb dX6_beginAnew_31 (by decide) ?_
        refine cVv (pc := 32) (x := x) (y := y) (g := g) [.int 0] hF (kX4_cutTo x y g (5 + q0) 0 h (by omega)) (cwX6_X4_cutTo hts ⟨Nat.le_of_ble_eq_true rfl, Nat.le_of_ble_eq_true rfl⟩) rfl (cA_R _ _ _ _ _ _ _ _ _ _ (i := (5 + q0)) (by omega)) hP hD hS rfl rfl hl.1 (Nat.le_of_ble_eq_true rfl) dX6_beginAnew_32 ⟨Nat.le_refl _, Nat.le_refl _⟩ (fun x_32 y_32 g_32 H locs h hP hD hS => ?_)
        refine lv_aload_n (pc := 35) hx hb dX6_beginAnew_35 rfl (lv_at hl 0 rfl) ?_
        refine lv_iconst (pc := 36) (v := (-1)) hx hb dX6_beginAnew_36 (by decide) ?_
        refine cP_X6_mark (pc := 37) hF hP hD hS (i := q0) (by omega) lkX6_27 dX6_beginAnew_37 (fun H locs hP hD hS => ?_)
        refine lv_aload_n (pc := 40) hx hb dX6_beginAnew_40 rfl (lv_at hl 0 rfl) ?_
        refine lv_iconst (pc := 41) (v := 0) hx hb dX6_beginAnew_41 (by decide) ?_
        refine cP_X6_lateCount (pc := 42) hF hP hD hS (i := q0) (by omega) lkX6_31 dX6_beginAnew_42 (fun H locs hP hD hS => ?_)
        refine lv_aload_n (pc := 45) hx hb dX6_beginAnew_45 rfl (lv_at hl 0 rfl) ?_
        refine lv_iconst (pc := 46) (v := 0) hx hb dX6_beginAnew_46 (by decide) ?_
        refine cP_X6_resultCount (pc := 47) hF hP hD hS (i := q0) (by omega) lkX6_34 dX6_beginAnew_47 (fun H locs hP hD hS => ?_)
        refine lv_aload_n (pc := 50) hx hb dX6_beginAnew_50 rfl (lv_at hl 0 rfl) ?_
        refine lv_iconst (pc := 51) (v := (-1)) hx hb dX6_beginAnew_51 (by decide) ?_
        refine cP_X6_number (pc := 52) hF hP hD hS (i := q0) (by omega) lkX6_37 dX6_beginAnew_52 (fun H locs hP hD hS => ?_)
        exact zvr (pc := 55) (Wd := cW E ad wd cI cB cP cT) (u := ((va_up (va_up (va_up (va_up x_32 2 (va_up (x_32 2) q0 (-1))) 3 (va_up (x_32 3) q0 0)) 4 (va_up (x_32 4) q0 0)) 5 (va_up (x_32 5) q0 (-1))), y_32, g_32)) hx hb hr hlocks hAe hK hP hD hS dX6_beginAnew_55 (Nat.le_refl _) (Nat.le_refl _) h
      · have h := h.2 c_4
        refine lv_aload_n (pc := 7) hx hb dX6_beginAnew_7 rfl (lv_at hl 0 rfl) ?_
        refine cG_X6_read (pc := 8) hF hP (i := q0) (by omega) lkX6_9 dX6_beginAnew_8 ?_
        refine lv_iload_n (pc := 11) hx hb dX6_beginAnew_11 rfl (lv_at hl 1 rfl) ?_
        refine lv_iconst (pc := 12) (v := 0) hx hb dX6_beginAnew_12 (by decide) ?_
        obtain ⟨hi_13, h⟩ := h
        refine cT_TR (pc := 13) hF hP hD hS (i := q0) (by omega) (f := ((g 1) q0)) rfl hi_13 dX6_beginAnew_13 (fun H locs hP hD hS => ?_)
        refine lv_aload_n (pc := 14) hx hb dX6_beginAnew_14 rfl (lv_at hl 0 rfl) ?_
        refine cG_X6_greatest (pc := 15) hF hP (i := q0) (by omega) lkX6_15 dX6_beginAnew_15 ?_
        refine lv_iload_n (pc := 18) hx hb dX6_beginAnew_18 rfl (lv_at hl 1 rfl) ?_
        refine lv_iconst (pc := 19) (v := 0) hx hb dX6_beginAnew_19 (by decide) ?_
        obtain ⟨hi_20, h⟩ := h
        refine cT_TG (pc := 20) hF hP hD hS (i := q0) (by omega) (f := ((g 2) q0)) rfl hi_20 dX6_beginAnew_20 (fun H locs hP hD hS => ?_)
        obtain ⟨v1_21, e_v1_21⟩ : ∃ y : Int32, y = v1 + 1 := ⟨_, rfl⟩
        replace h := h v1_21 e_v1_21
        refine lv_iinc (pc := 21) (v := v1_21) (lv' := [(1, .int v1_21), (0, .ref (ad 6 q0))]) hx hb dX6_beginAnew_21 hl (k := 1) rfl (by rw [e_v1_21]; rfl) (by decide) rfl (fun ls hl => ?_)
        refine lv_goto (pc := 24) (tgt := 2) hx hb dX6_beginAnew_24 (by decide) ?_
        exact ih2 x y (va_up (va_up g 1 (va_up (g 1) q0 (upd ((g 1) q0) v1.toNatClampNeg 0))) 2 (va_up (g 2) q0 (upd ((g 2) q0) v1.toNatClampNeg 0))) q0 v1_21 h (by omega) _ _ _ hP hD hS (lv_sub hl [1, 0] rfl)
  unfold wX6_beginAnew at h
  refine lv_iconst (pc := 0) (v := 0) hx hb dX6_beginAnew_0 (by decide) ?_
  refine lv_istore_n (pc := 1) (lv' := [(1, .int 0), (0, .ref (ad 6 q0))]) hx hb dX6_beginAnew_1 rfl hl (by decide) rfl (fun ls hl => ?_)
  obtain ⟨n2, h⟩ := h
  exact L2 n2 x0 y0 g0 q0 0 h (by omega) _ _ _ hP hD hS (lv_sub hl [1, 0] rfl)

def wX0_beginAnew (x : Nat → Nat → Int32) (y : Nat → Nat → Nat) (g : Nat → Nat → Nat → Int32) (Φ : (Nat → Nat → Int32) → (Nat → Nat → Nat) → (Nat → Nat → Nat → Int32) → Prop) : Prop := (wX4_cutTo x y g 4 0 (fun x_5 y_5 g_5 => (wX6_beginAnew x_5 y_5 g_5 0 (fun x_12 y_12 g_12 => (Φ x_12 y_12 g_12)))))
set_option maxRecDepth 100000 in
set_option maxHeartbeats 4000000 in
theorem kX0_beginAnew {l : Launch} {D : va_G} {E : va_W} {ad : Nat → Nat → Nat} {wd sk : Nat → Nat} {cI cB cP cT : ClassId} {sz : Nat} (x0 : Nat → Nat → Int32) (y0 : Nat → Nat → Nat) (g0 : Nat → Nat → Nat → Int32) {Φ : (Nat → Nat → Int32) → (Nat → Nat → Nat) → (Nat → Nat → Nat → Int32) → Prop} (h : wX0_beginAnew x0 y0 g0 Φ) : Met l yX0_beginAnew (zws yX0_beginAnew cX0_beginAnew 1 none) { frames := 2, cells := 0, slots := 0, locals := 42 } (zPc D (cTy cI cB cP cT) (cX wd sk) (cW E ad wd cI cB cP cT (x0, y0, g0)) [.ref (ad 2 0)] sz) (zQv D (cTy cI cB cP cT) (cW E ad wd cI cB cP cT) (fun u => Φ u.1 u.2.1 u.2.2) (cW E ad wd cI cB cP cT (x0, y0, g0)) sz) 0 0 (va_A (cW E ad wd cI cB cP cT (x0, y0, g0)) sz) := by
  refine zMet (by decide) (Nat.le_of_ble_eq_true rfl) ?_
  intro p e s m args below meth c A hx hb hr hml hown hts hlocks hsz hAe hA hS hP hK hD hX ls hl
  subst hsz
  have hF : zFx p s m args c cX0_beginAnew RX0 A D (cTy cI cB cP cT) (cX wd sk) 1 := ⟨hx, hb, hml, hown, hts, hA, hK, cX_cl wd sk, hX⟩
  have hl : lv_has ls 1 [(0, .ref (ad 2 0))] := hl
  unfold wX0_beginAnew at h
  refine lv_aload_n (pc := 0) hx hb dX0_beginAnew_0 rfl (lv_at hl 0 rfl) ?_
  refine cG_X0_told (pc := 1) hF hP lkX0_26 dX0_beginAnew_1 ?_
  refine lv_iconst (pc := 4) (v := 0) hx hb dX0_beginAnew_4 (by decide) ?_
  refine cVv (pc := 5) (x := x0) (y := y0) (g := g0) [.int 0] hF (kX4_cutTo x0 y0 g0 4 0 h (by omega)) (cwX0_X4_cutTo hts ⟨Nat.le_of_ble_eq_true rfl, Nat.le_of_ble_eq_true rfl⟩) rfl (cA_R _ _ _ _ _ _ _ _ _ _ (i := 4) (by omega)) hP hD hS rfl rfl hl.1 (Nat.le_of_ble_eq_true rfl) dX0_beginAnew_5 ⟨Nat.le_refl _, Nat.le_refl _⟩ (fun x_5 y_5 g_5 H locs h hP hD hS => ?_)
  refine lv_aload_n (pc := 8) hx hb dX0_beginAnew_8 rfl (lv_at hl 0 rfl) ?_
  refine cG_X0_now (pc := 9) hF hP lkX0_32 dX0_beginAnew_9 ?_
  refine cVv (pc := 12) (x := x_5) (y := y_5) (g := g_5) [] hF (kX6_beginAnew x_5 y_5 g_5 0 h (by omega)) (cwX0_X6_beginAnew hts ⟨Nat.le_of_ble_eq_true rfl, Nat.le_of_ble_eq_true rfl⟩) rfl (cA_T _ _ _ _ _ _ _ _ _ _ (i := 0) (by omega)) hP hD hS rfl rfl hl.1 (Nat.le_of_ble_eq_true rfl) dX0_beginAnew_12 ⟨Nat.le_refl _, Nat.le_refl _⟩ (fun x_12 y_12 g_12 H locs h hP hD hS => ?_)
  exact zvr (pc := 15) (Wd := cW E ad wd cI cB cP cT) (u := (x_12, y_12, g_12)) hx hb hr hlocks hAe hK hP hD hS dX0_beginAnew_15 (Nat.le_refl _) (Nat.le_refl _) h

def lX0_eventCount_4 (Φ : Int32 → Prop) : Nat → (Nat → Nat → Int32) → (Nat → Nat → Nat) → (Nat → Nat → Nat → Int32) → Int32 → Int32 → Prop
  | 0, _, _, _, _, _ => False
  | n4 + 1, x, y, g, v1, v2 => ((3 ≤ v2 → (Φ v1)) ∧ (¬ 3 ≤ v2 → (vp_in v2 3 ∧ (∀ v1_23 : Int32, v1_23 = (v1 + ((x 1) (v2.toNatClampNeg))) → (∀ v2_24 : Int32, v2_24 = v2 + 1 → ((lX0_eventCount_4 Φ n4) x y g v1_23 v2_24))))))
def wX0_eventCount (x : Nat → Nat → Int32) (y : Nat → Nat → Nat) (g : Nat → Nat → Nat → Int32) (Φ : Int32 → Prop) : Prop := (∃ n4 : Nat, lX0_eventCount_4 Φ n4 x y g 0 0)
set_option maxRecDepth 100000 in
set_option maxHeartbeats 4000000 in
theorem kX0_eventCount {l : Launch} {D : va_G} {E : va_W} {ad : Nat → Nat → Nat} {wd sk : Nat → Nat} {cI cB cP cT : ClassId} {sz : Nat} (x0 : Nat → Nat → Int32) (y0 : Nat → Nat → Nat) (g0 : Nat → Nat → Nat → Int32) {Φ : Int32 → Prop} (h : wX0_eventCount x0 y0 g0 Φ) : Met l yX0_eventCount (zws yX0_eventCount cX0_eventCount 3 (some .int)) { frames := 0, cells := 0, slots := 0, locals := 0 } (zPc D (cTy cI cB cP cT) (cX wd sk) (cW E ad wd cI cB cP cT (x0, y0, g0)) [.ref (ad 2 0)] sz) (zQi D (cTy cI cB cP cT) (cW E ad wd cI cB cP cT) (fun r u => u = (x0, y0, g0) ∧ Φ r) (cW E ad wd cI cB cP cT (x0, y0, g0)) sz) 0 0 (va_A (cW E ad wd cI cB cP cT (x0, y0, g0)) sz) := by
  refine zMet (by decide) (Nat.le_of_ble_eq_true rfl) ?_
  intro p e s m args below meth c A hx hb hr hml hown hts hlocks hsz hAe hA hS hP hK hD hX ls hl
  subst hsz
  have hF : zFx p s m args c cX0_eventCount RX0 A D (cTy cI cB cP cT) (cX wd sk) 3 := ⟨hx, hb, hml, hown, hts, hA, hK, cX_cl wd sk, hX⟩
  have hl : lv_has ls 3 [(0, .ref (ad 2 0))] := hl
  have L4 : ∀ n4 : Nat, ∀ (v1 : Int32) (v2 : Int32), lX0_eventCount_4 Φ n4 x0 y0 g0 v1 v2 → ∀ (H : Heap) (locs : List Loc) (ls : Array Slot), va_P D vwCl (cW E ad wd cI cB cP cT (x0, y0, g0)) H → va_D A (cW E ad wd cI cB cP cT (x0, y0, g0)) → va_S A s.heap H locs → lv_has ls 3 [(0, .ref (ad 2 0)), (1, .int v1), (2, .int v2)] → W p l e { frames := 0, cells := 0, slots := 0, locals := 0 } s m args below meth c H locs 0 0 (MQ below (zQi D (cTy cI cB cP cT) (cW E ad wd cI cB cP cT) (fun r u => u = (x0, y0, g0) ∧ Φ r) (cW E ad wd cI cB cP cT (x0, y0, g0)) s.heap.size) args s 0 0 (va_A (cW E ad wd cI cB cP cT (x0, y0, g0)) s.heap.size)) (F0 m 4 ls []) := by
    intro n4
    induction n4 with
    | zero => intro v1 v2 h H locs ls hP hD hS hl; exact h.elim
    | succ n4 ih4 =>
      intro v1 v2 h H locs ls hP hD hS hl
      unfold lX0_eventCount_4 at h
      refine lv_iload_n (pc := 4) hx hb dX0_eventCount_4 rfl (lv_at hl 2 rfl) ?_
      refine lv_iconst (pc := 5) (v := 3) hx hb dX0_eventCount_5 (by decide) ?_
      refine lv_icmp_ge (pc := 6) (tgt := 30) hx hb dX0_eventCount_6 (by decide) (fun c_6 => ?_) (fun c_6 => ?_)
      · have h := h.1 c_6
        refine lv_iload_n (pc := 30) hx hb dX0_eventCount_30 rfl (lv_at hl 1 rfl) ?_
        exact zirV (pc := 31) (Wd := cW E ad wd cI cB cP cT) (u := (x0, y0, g0)) hx hb hr hlocks hAe hK hP hD hS rfl dX0_eventCount_31 (Nat.le_refl _) (Nat.le_refl _) ⟨rfl, h⟩
      · have h := h.2 c_6
        refine lv_iload_n (pc := 9) hx hb dX0_eventCount_9 rfl (lv_at hl 1 rfl) ?_
        refine lv_aload_n (pc := 10) hx hb dX0_eventCount_10 rfl (lv_at hl 0 rfl) ?_
        refine cG_X0_partitions (pc := 11) hF hP lkX0_11 dX0_eventCount_11 ?_
        refine lv_iload_n (pc := 14) hx hb dX0_eventCount_14 rfl (lv_at hl 2 rfl) ?_
        obtain ⟨hi_15, h⟩ := h
        have hj_15 := vp_lt hi_15
        refine cL_PA (pc := 15) hF hP hi_15 dX0_eventCount_15 ?_
        refine cGN_X1_events (pc := 16) hF hP (i := (v2.toNatClampNeg)) (by omega) lkX0_50 dX0_eventCount_16 ?_
        refine cGN_X4_count (pc := 19) hF hP (i := (v2.toNatClampNeg)) (by omega) lkX0_53 (v := ((x0 1) (v2.toNatClampNeg))) rfl dX0_eventCount_19 ?_
        refine lv_iadd (pc := 22) hx hb dX0_eventCount_22 ?_
        refine lv_topi (fun v1_23 e_v1_23 => ?_)
        replace h := h v1_23 e_v1_23
        refine lv_istore_n (pc := 23) (lv' := [(1, .int v1_23), (0, .ref (ad 2 0)), (2, .int v2)]) hx hb dX0_eventCount_23 rfl hl (by decide) rfl (fun ls hl => ?_)
        obtain ⟨v2_24, e_v2_24⟩ : ∃ y : Int32, y = v2 + 1 := ⟨_, rfl⟩
        replace h := h v2_24 e_v2_24
        refine lv_iinc (pc := 24) (v := v2_24) (lv' := [(2, .int v2_24), (1, .int v1_23), (0, .ref (ad 2 0))]) hx hb dX0_eventCount_24 hl (k := 2) rfl (by rw [e_v2_24]; rfl) (by decide) rfl (fun ls hl => ?_)
        refine lv_goto (pc := 27) (tgt := 4) hx hb dX0_eventCount_27 (by decide) ?_
        exact ih4 v1_23 v2_24 h _ _ _ hP hD hS (lv_sub hl [2, 1, 0] rfl)
  unfold wX0_eventCount at h
  refine lv_iconst (pc := 0) (v := 0) hx hb dX0_eventCount_0 (by decide) ?_
  refine lv_istore_n (pc := 1) (lv' := [(1, .int 0), (0, .ref (ad 2 0))]) hx hb dX0_eventCount_1 rfl hl (by decide) rfl (fun ls hl => ?_)
  refine lv_iconst (pc := 2) (v := 0) hx hb dX0_eventCount_2 (by decide) ?_
  refine lv_istore_n (pc := 3) (lv' := [(2, .int 0), (1, .int 0), (0, .ref (ad 2 0))]) hx hb dX0_eventCount_3 rfl hl (by decide) rfl (fun ls hl => ?_)
  obtain ⟨n4, h⟩ := h
  exact L4 n4 0 0 h _ _ _ hP hD hS (lv_sub hl [2, 1, 0] rfl)

def wX0_horizon (x : Nat → Nat → Int32) (y : Nat → Nat → Nat) (g : Nat → Nat → Nat → Int32) (Φ : Int32 → Prop) : Prop := (Φ (((x 2) 0) - ((x 12) 0)))
set_option maxRecDepth 100000 in
set_option maxHeartbeats 4000000 in
theorem kX0_horizon {l : Launch} {D : va_G} {E : va_W} {ad : Nat → Nat → Nat} {wd sk : Nat → Nat} {cI cB cP cT : ClassId} {sz : Nat} (x0 : Nat → Nat → Int32) (y0 : Nat → Nat → Nat) (g0 : Nat → Nat → Nat → Int32) {Φ : Int32 → Prop} (h : wX0_horizon x0 y0 g0 Φ) : Met l yX0_horizon (zws yX0_horizon cX0_horizon 1 (some .int)) { frames := 0, cells := 0, slots := 0, locals := 0 } (zPc D (cTy cI cB cP cT) (cX wd sk) (cW E ad wd cI cB cP cT (x0, y0, g0)) [.ref (ad 2 0)] sz) (zQi D (cTy cI cB cP cT) (cW E ad wd cI cB cP cT) (fun r u => u = (x0, y0, g0) ∧ Φ r) (cW E ad wd cI cB cP cT (x0, y0, g0)) sz) 0 0 (va_A (cW E ad wd cI cB cP cT (x0, y0, g0)) sz) := by
  refine zMet (by decide) (Nat.le_of_ble_eq_true rfl) ?_
  intro p e s m args below meth c A hx hb hr hml hown hts hlocks hsz hAe hA hS hP hK hD hX ls hl
  subst hsz
  have hF : zFx p s m args c cX0_horizon RX0 A D (cTy cI cB cP cT) (cX wd sk) 1 := ⟨hx, hb, hml, hown, hts, hA, hK, cX_cl wd sk, hX⟩
  have hl : lv_has ls 1 [(0, .ref (ad 2 0))] := hl
  unfold wX0_horizon at h
  refine lv_aload_n (pc := 0) hx hb dX0_horizon_0 rfl (lv_at hl 0 rfl) ?_
  refine cG_X0_now (pc := 1) hF hP lkX0_32 dX0_horizon_1 ?_
  refine cGN_X6_mark (pc := 4) hF hP (i := 0) (by omega) lkX0_57 (v := ((x0 2) 0)) rfl dX0_horizon_4 ?_
  refine lv_aload_n (pc := 7) hx hb dX0_horizon_7 rfl (lv_at hl 0 rfl) ?_
  refine cG_X0_query (pc := 8) hF hP lkX0_39 dX0_horizon_8 ?_
  refine cGN_X2_lateness (pc := 11) hF hP lkX0_60 (v := ((x0 12) 0)) rfl dX0_horizon_11 ?_
  refine lv_isub (pc := 14) hx hb dX0_horizon_14 ?_
  exact zirV (pc := 15) (Wd := cW E ad wd cI cB cP cT) (u := (x0, y0, g0)) hx hb hr hlocks hAe hK hP hD hS rfl dX0_horizon_15 (Nat.le_refl _) (Nat.le_refl _) ⟨rfl, h⟩

def wX4_holds (x : Nat → Nat → Int32) (y : Nat → Nat → Nat) (g : Nat → Nat → Nat → Int32) (q0 : Nat) (a1 : Int32) (a2 : Int32) (Φ : Int32 → Prop) : Prop := ((a1 < 0 → (Φ 0)) ∧ (¬ a1 < 0 → ((((x 1) q0) ≤ a1 → (Φ 0)) ∧ (¬ ((x 1) q0) ≤ a1 → ((a2 < 0 → (Φ 0)) ∧ (¬ a2 < 0 → ((((x 0) q0) ≤ a2 → (Φ 0)) ∧ (¬ ((x 0) q0) ≤ a2 → (Φ 1)))))))))
set_option maxRecDepth 100000 in
set_option maxHeartbeats 4000000 in
theorem kX4_holds {l : Launch} {D : va_G} {E : va_W} {ad : Nat → Nat → Nat} {wd sk : Nat → Nat} {cI cB cP cT : ClassId} {sz : Nat} (x0 : Nat → Nat → Int32) (y0 : Nat → Nat → Nat) (g0 : Nat → Nat → Nat → Int32) (q0 : Nat) (a1 : Int32) (a2 : Int32) {Φ : Int32 → Prop} (h : wX4_holds x0 y0 g0 q0 a1 a2 Φ) (hq0 : q0 < 12) : Met l yX4_holds (zws yX4_holds cX4_holds 3 (some .boolean)) { frames := 0, cells := 0, slots := 0, locals := 0 } (zPc D (cTy cI cB cP cT) (cX wd sk) (cW E ad wd cI cB cP cT (x0, y0, g0)) [.ref (ad 5 q0), .int a1, .int a2] sz) (zQi D (cTy cI cB cP cT) (cW E ad wd cI cB cP cT) (fun r u => u = (x0, y0, g0) ∧ (r = 0 ∨ r = 1) ∧ Φ r) (cW E ad wd cI cB cP cT (x0, y0, g0)) sz) 0 0 (va_A (cW E ad wd cI cB cP cT (x0, y0, g0)) sz) := by
  refine zMet (by decide) (Nat.le_of_ble_eq_true rfl) ?_
  intro p e s m args below meth c A hx hb hr hml hown hts hlocks hsz hAe hA hS hP hK hD hX ls hl
  subst hsz
  have hF : zFx p s m args c cX4_holds RX4 A D (cTy cI cB cP cT) (cX wd sk) 3 := ⟨hx, hb, hml, hown, hts, hA, hK, cX_cl wd sk, hX⟩
  have hl : lv_has ls 3 [(0, .ref (ad 5 q0)), (1, .int a1), (2, .int a2)] := hl
  unfold wX4_holds at h
  refine lv_iload_n (pc := 0) hx hb dX4_holds_0 rfl (lv_at hl 1 rfl) ?_
  refine lv_if_lt (pc := 1) (tgt := 28) hx hb dX4_holds_1 (by decide) (fun c_1 => ?_) (fun c_1 => ?_)
  · have h := h.1 c_1
    refine lv_iconst (pc := 28) (v := 0) hx hb dX4_holds_28 (by decide) ?_
    exact zirV (pc := 29) (Wd := cW E ad wd cI cB cP cT) (u := (x0, y0, g0)) hx hb hr hlocks hAe hK hP hD hS rfl dX4_holds_29 (Nat.le_refl _) (Nat.le_refl _) ⟨rfl, (Or.inl rfl), h⟩
  · have h := h.2 c_1
    refine lv_iload_n (pc := 4) hx hb dX4_holds_4 rfl (lv_at hl 1 rfl) ?_
    refine lv_aload_n (pc := 5) hx hb dX4_holds_5 rfl (lv_at hl 0 rfl) ?_
    refine cG_X4_count (pc := 6) hF hP (i := q0) (by omega) lkX4_25 (v := ((x0 1) q0)) rfl dX4_holds_6 ?_
    refine lv_icmp_ge (pc := 9) (tgt := 28) hx hb dX4_holds_9 (by decide) (fun c_9 => ?_) (fun c_9 => ?_)
    · have h := h.1 c_9
      refine lv_iconst (pc := 28) (v := 0) hx hb dX4_holds_28 (by decide) ?_
      exact zirV (pc := 29) (Wd := cW E ad wd cI cB cP cT) (u := (x0, y0, g0)) hx hb hr hlocks hAe hK hP hD hS rfl dX4_holds_29 (Nat.le_refl _) (Nat.le_refl _) ⟨rfl, (Or.inl rfl), h⟩
    · have h := h.2 c_9
      refine lv_iload_n (pc := 12) hx hb dX4_holds_12 rfl (lv_at hl 2 rfl) ?_
      refine lv_if_lt (pc := 13) (tgt := 28) hx hb dX4_holds_13 (by decide) (fun c_13 => ?_) (fun c_13 => ?_)
      · have h := h.1 c_13
        refine lv_iconst (pc := 28) (v := 0) hx hb dX4_holds_28 (by decide) ?_
        exact zirV (pc := 29) (Wd := cW E ad wd cI cB cP cT) (u := (x0, y0, g0)) hx hb hr hlocks hAe hK hP hD hS rfl dX4_holds_29 (Nat.le_refl _) (Nat.le_refl _) ⟨rfl, (Or.inl rfl), h⟩
      · have h := h.2 c_13
        refine lv_iload_n (pc := 16) hx hb dX4_holds_16 rfl (lv_at hl 2 rfl) ?_
        refine lv_aload_n (pc := 17) hx hb dX4_holds_17 rfl (lv_at hl 0 rfl) ?_
        refine cG_X4_width (pc := 18) hF hP (i := q0) (by omega) lkX4_15 (v := ((x0 0) q0)) rfl dX4_holds_18 ?_
        refine lv_icmp_ge (pc := 21) (tgt := 28) hx hb dX4_holds_21 (by decide) (fun c_21 => ?_) (fun c_21 => ?_)
        · have h := h.1 c_21
          refine lv_iconst (pc := 28) (v := 0) hx hb dX4_holds_28 (by decide) ?_
          exact zirV (pc := 29) (Wd := cW E ad wd cI cB cP cT) (u := (x0, y0, g0)) hx hb hr hlocks hAe hK hP hD hS rfl dX4_holds_29 (Nat.le_refl _) (Nat.le_refl _) ⟨rfl, (Or.inl rfl), h⟩
        · have h := h.2 c_21
          refine lv_iconst (pc := 24) (v := 1) hx hb dX4_holds_24 (by decide) ?_
          refine lv_goto (pc := 25) (tgt := 29) hx hb dX4_holds_25 (by decide) ?_
          exact zirV (pc := 29) (Wd := cW E ad wd cI cB cP cT) (u := (x0, y0, g0)) hx hb hr hlocks hAe hK hP hD hS rfl dX4_holds_29 (Nat.le_refl _) (Nat.le_refl _) ⟨rfl, (Or.inr rfl), h⟩

def wX4_get (x : Nat → Nat → Int32) (y : Nat → Nat → Nat) (g : Nat → Nat → Nat → Int32) (q0 : Nat) (a1 : Int32) (a2 : Int32) (Φ : Int32 → Prop) : Prop := (wX4_holds x y g q0 a1 a2 (fun r_3 => ((r_3 = 0 → (Φ 0)) ∧ (¬ r_3 = 0 → (vp_in ((a1 * ((x 0) q0)) + a2) ((y 1) q0) ∧ (Φ (((g 0) q0) ((a1 * ((x 0) q0)) + a2).toNatClampNeg)))))))
set_option maxRecDepth 100000 in
set_option maxHeartbeats 4000000 in
theorem kX4_get {l : Launch} {D : va_G} {E : va_W} {ad : Nat → Nat → Nat} {wd sk : Nat → Nat} {cI cB cP cT : ClassId} {sz : Nat} (x0 : Nat → Nat → Int32) (y0 : Nat → Nat → Nat) (g0 : Nat → Nat → Nat → Int32) (q0 : Nat) (a1 : Int32) (a2 : Int32) {Φ : Int32 → Prop} (h : wX4_get x0 y0 g0 q0 a1 a2 Φ) (hq0 : q0 < 12) : Met l yX4_get (zws yX4_get cX4_get 3 (some .int)) { frames := 1, cells := 0, slots := 0, locals := 22 } (zPc D (cTy cI cB cP cT) (cX wd sk) (cW E ad wd cI cB cP cT (x0, y0, g0)) [.ref (ad 5 q0), .int a1, .int a2] sz) (zQi D (cTy cI cB cP cT) (cW E ad wd cI cB cP cT) (fun r u => u = (x0, y0, g0) ∧ Φ r) (cW E ad wd cI cB cP cT (x0, y0, g0)) sz) 0 0 (va_A (cW E ad wd cI cB cP cT (x0, y0, g0)) sz) := by
  refine zMet (by decide) (Nat.le_of_ble_eq_true rfl) ?_
  intro p e s m args below meth c A hx hb hr hml hown hts hlocks hsz hAe hA hS hP hK hD hX ls hl
  subst hsz
  have hF : zFx p s m args c cX4_get RX4 A D (cTy cI cB cP cT) (cX wd sk) 3 := ⟨hx, hb, hml, hown, hts, hA, hK, cX_cl wd sk, hX⟩
  have hl : lv_has ls 3 [(0, .ref (ad 5 q0)), (1, .int a1), (2, .int a2)] := hl
  unfold wX4_get at h
  refine lv_aload_n (pc := 0) hx hb dX4_get_0 rfl (lv_at hl 0 rfl) ?_
  refine lv_iload_n (pc := 1) hx hb dX4_get_1 rfl (lv_at hl 1 rfl) ?_
  refine lv_iload_n (pc := 2) hx hb dX4_get_2 rfl (lv_at hl 2 rfl) ?_
  refine cVbp (pc := 3) (x := x0) (y := y0) (g := g0) [.int a1, .int a2] hF (kX4_holds x0 y0 g0 q0 a1 a2 h (by omega)) (cwX4_X4_holds hts ⟨Nat.le_of_ble_eq_true rfl, Nat.le_of_ble_eq_true rfl⟩) rfl (cA_R _ _ _ _ _ _ _ _ _ _ (i := q0) (by omega)) hP hD hS rfl rfl hl.1 (Nat.le_of_ble_eq_true rfl) dX4_get_3 ⟨Nat.le_refl _, Nat.le_refl _⟩ (fun r_3 H locs hb_3 h hP hD hS => ?_)
  refine lv_if_eq (pc := 6) (tgt := 25) hx hb dX4_get_6 (by decide) (fun c_6 => ?_) (fun c_6 => ?_)
  · have h := h.1 c_6
    refine lv_iconst (pc := 25) (v := 0) hx hb dX4_get_25 (by decide) ?_
    exact zirV (pc := 26) (Wd := cW E ad wd cI cB cP cT) (u := (x0, y0, g0)) hx hb hr hlocks hAe hK hP hD hS rfl dX4_get_26 (Nat.le_refl _) (Nat.le_refl _) ⟨rfl, h⟩
  · have h := h.2 c_6
    refine lv_aload_n (pc := 9) hx hb dX4_get_9 rfl (lv_at hl 0 rfl) ?_
    refine cG_X4_cells (pc := 10) hF hP (i := q0) (by omega) lkX4_21 dX4_get_10 ?_
    refine lv_iload_n (pc := 13) hx hb dX4_get_13 rfl (lv_at hl 1 rfl) ?_
    refine lv_aload_n (pc := 14) hx hb dX4_get_14 rfl (lv_at hl 0 rfl) ?_
    refine cG_X4_width (pc := 15) hF hP (i := q0) (by omega) lkX4_15 (v := ((x0 0) q0)) rfl dX4_get_15 ?_
    refine lv_imul (pc := 18) hx hb dX4_get_18 ?_
    refine lv_iload_n (pc := 19) hx hb dX4_get_19 rfl (lv_at hl 2 rfl) ?_
    refine lv_iadd (pc := 20) hx hb dX4_get_20 ?_
    obtain ⟨hi_21, h⟩ := h
    refine cL_RA (pc := 21) hF hP (i := q0) (by omega) (f := ((g0 0) q0)) rfl hi_21 dX4_get_21 ?_
    refine lv_goto (pc := 22) (tgt := 26) hx hb dX4_get_22 (by decide) ?_
    exact zirV (pc := 26) (Wd := cW E ad wd cI cB cP cT) (u := (x0, y0, g0)) hx hb hr hlocks hAe hK hP hD hS rfl dX4_get_26 (Nat.le_refl _) (Nat.le_refl _) ⟨rfl, h⟩

def wX2_lets (x : Nat → Nat → Int32) (y : Nat → Nat → Nat) (g : Nat → Nat → Nat → Int32) (a1 : Int32) (Φ : Int32 → Prop) : Prop := ((((y 4) 0) = 4 → ((((x 8) 0) ≤ a1 → (Φ 0)) ∧ (¬ ((x 8) 0) ≤ a1 → (Φ 1)))) ∧ (¬ ((y 4) 0) = 4 → ((((y 4) 0) = 5 → ((a1 = ((x 8) 0) → (Φ 1)) ∧ (¬ a1 = ((x 8) 0) → (Φ 0)))) ∧ (¬ ((y 4) 0) = 5 → ((((y 4) 0) = 6 → ((a1 ≤ ((x 8) 0) → (Φ 0)) ∧ (¬ a1 ≤ ((x 8) 0) → (Φ 1)))) ∧ (¬ ((y 4) 0) = 6 → (Φ 1)))))))
set_option maxRecDepth 100000 in
set_option maxHeartbeats 4000000 in
theorem kX2_lets {l : Launch} {D : va_G} {E : va_W} {ad : Nat → Nat → Nat} {wd sk : Nat → Nat} {cI cB cP cT : ClassId} {sz : Nat} (x0 : Nat → Nat → Int32) (y0 : Nat → Nat → Nat) (g0 : Nat → Nat → Nat → Int32) (a1 : Int32) {Φ : Int32 → Prop} (h : wX2_lets x0 y0 g0 a1 Φ) : Met l yX2_lets (zws yX2_lets cX2_lets 2 (some .boolean)) { frames := 0, cells := 0, slots := 0, locals := 0 } (zPc D (cTy cI cB cP cT) (cX wd sk) (cW E ad wd cI cB cP cT (x0, y0, g0)) [.ref (y0 2 0), .int a1] sz) (zQi D (cTy cI cB cP cT) (cW E ad wd cI cB cP cT) (fun r u => u = (x0, y0, g0) ∧ (r = 0 ∨ r = 1) ∧ Φ r) (cW E ad wd cI cB cP cT (x0, y0, g0)) sz) 0 0 (va_A (cW E ad wd cI cB cP cT (x0, y0, g0)) sz) := by
  refine zMet (by decide) (Nat.le_of_ble_eq_true rfl) ?_
  intro p e s m args below meth c A hx hb hr hml hown hts hlocks hsz hAe hA hS hP hK hD hX ls hl
  subst hsz
  have hF : zFx p s m args c cX2_lets RX2 A D (cTy cI cB cP cT) (cX wd sk) 2 := ⟨hx, hb, hml, hown, hts, hA, hK, cX_cl wd sk, hX⟩
  have hl : lv_has ls 2 [(0, .ref (y0 2 0)), (1, .int a1)] := hl
  unfold wX2_lets at h
  refine lv_aload_n (pc := 0) hx hb dX2_lets_0 rfl (lv_at hl 0 rfl) ?_
  refine cG_X2_comparison (pc := 1) hF hP lkX2_23 dX2_lets_1 ?_
  refine c_word (pc := 4) hF hP hS (k := 4) (by decide) rfl lkX2_58 dX2_lets_4 ?_
  refine c_acmp_ne (pc := 7) (i := ((y0 4) 0)) (j := 4) (tgt := 24) hF hP dX2_lets_7 (by decide) (fun c_7 => ?_) (fun c_7 => ?_)
  · have h := h.2 c_7
    refine lv_aload_n (pc := 24) hx hb dX2_lets_24 rfl (lv_at hl 0 rfl) ?_
    refine cG_X2_comparison (pc := 25) hF hP lkX2_23 dX2_lets_25 ?_
    refine c_word (pc := 28) hF hP hS (k := 5) (by decide) rfl lkX2_61 dX2_lets_28 ?_
    refine c_acmp_ne (pc := 31) (i := ((y0 4) 0)) (j := 5) (tgt := 48) hF hP dX2_lets_31 (by decide) (fun c_31 => ?_) (fun c_31 => ?_)
    · have h := h.2 c_31
      refine lv_aload_n (pc := 48) hx hb dX2_lets_48 rfl (lv_at hl 0 rfl) ?_
      refine cG_X2_comparison (pc := 49) hF hP lkX2_23 dX2_lets_49 ?_
      refine c_word (pc := 52) hF hP hS (k := 6) (by decide) rfl lkX2_64 dX2_lets_52 ?_
      refine c_acmp_ne (pc := 55) (i := ((y0 4) 0)) (j := 6) (tgt := 66) hF hP dX2_lets_55 (by decide) (fun c_55 => ?_) (fun c_55 => ?_)
      · have h := h.2 c_55
        refine lv_iconst (pc := 66) (v := 1) hx hb dX2_lets_66 (by decide) ?_
        refine lv_goto (pc := 67) (tgt := 71) hx hb dX2_lets_67 (by decide) ?_
        exact zirV (pc := 71) (Wd := cW E ad wd cI cB cP cT) (u := (x0, y0, g0)) hx hb hr hlocks hAe hK hP hD hS rfl dX2_lets_71 (Nat.le_refl _) (Nat.le_refl _) ⟨rfl, (Or.inr rfl), h⟩
      · have h := h.1 c_55
        refine lv_iload_n (pc := 58) hx hb dX2_lets_58 rfl (lv_at hl 1 rfl) ?_
        refine lv_aload_n (pc := 59) hx hb dX2_lets_59 rfl (lv_at hl 0 rfl) ?_
        refine cG_X2_limit (pc := 60) hF hP lkX2_26 (v := ((x0 8) 0)) rfl dX2_lets_60 ?_
        refine lv_icmp_le (pc := 63) (tgt := 70) hx hb dX2_lets_63 (by decide) (fun c_63 => ?_) (fun c_63 => ?_)
        · have h := h.1 c_63
          refine lv_iconst (pc := 70) (v := 0) hx hb dX2_lets_70 (by decide) ?_
          exact zirV (pc := 71) (Wd := cW E ad wd cI cB cP cT) (u := (x0, y0, g0)) hx hb hr hlocks hAe hK hP hD hS rfl dX2_lets_71 (Nat.le_refl _) (Nat.le_refl _) ⟨rfl, (Or.inl rfl), h⟩
        · have h := h.2 c_63
          refine lv_iconst (pc := 66) (v := 1) hx hb dX2_lets_66 (by decide) ?_
          refine lv_goto (pc := 67) (tgt := 71) hx hb dX2_lets_67 (by decide) ?_
          exact zirV (pc := 71) (Wd := cW E ad wd cI cB cP cT) (u := (x0, y0, g0)) hx hb hr hlocks hAe hK hP hD hS rfl dX2_lets_71 (Nat.le_refl _) (Nat.le_refl _) ⟨rfl, (Or.inr rfl), h⟩
    · have h := h.1 c_31
      refine lv_iload_n (pc := 34) hx hb dX2_lets_34 rfl (lv_at hl 1 rfl) ?_
      refine lv_aload_n (pc := 35) hx hb dX2_lets_35 rfl (lv_at hl 0 rfl) ?_
      refine cG_X2_limit (pc := 36) hF hP lkX2_26 (v := ((x0 8) 0)) rfl dX2_lets_36 ?_
      refine lv_icmp_ne (pc := 39) (tgt := 46) hx hb dX2_lets_39 (by decide) (fun c_39 => ?_) (fun c_39 => ?_)
      · have h := h.2 c_39
        refine lv_iconst (pc := 46) (v := 0) hx hb dX2_lets_46 (by decide) ?_
        exact zirV (pc := 47) (Wd := cW E ad wd cI cB cP cT) (u := (x0, y0, g0)) hx hb hr hlocks hAe hK hP hD hS rfl dX2_lets_47 (Nat.le_refl _) (Nat.le_refl _) ⟨rfl, (Or.inl rfl), h⟩
      · have h := h.1 c_39
        refine lv_iconst (pc := 42) (v := 1) hx hb dX2_lets_42 (by decide) ?_
        refine lv_goto (pc := 43) (tgt := 47) hx hb dX2_lets_43 (by decide) ?_
        exact zirV (pc := 47) (Wd := cW E ad wd cI cB cP cT) (u := (x0, y0, g0)) hx hb hr hlocks hAe hK hP hD hS rfl dX2_lets_47 (Nat.le_refl _) (Nat.le_refl _) ⟨rfl, (Or.inr rfl), h⟩
  · have h := h.1 c_7
    refine lv_iload_n (pc := 10) hx hb dX2_lets_10 rfl (lv_at hl 1 rfl) ?_
    refine lv_aload_n (pc := 11) hx hb dX2_lets_11 rfl (lv_at hl 0 rfl) ?_
    refine cG_X2_limit (pc := 12) hF hP lkX2_26 (v := ((x0 8) 0)) rfl dX2_lets_12 ?_
    refine lv_icmp_ge (pc := 15) (tgt := 22) hx hb dX2_lets_15 (by decide) (fun c_15 => ?_) (fun c_15 => ?_)
    · have h := h.1 c_15
      refine lv_iconst (pc := 22) (v := 0) hx hb dX2_lets_22 (by decide) ?_
      exact zirV (pc := 23) (Wd := cW E ad wd cI cB cP cT) (u := (x0, y0, g0)) hx hb hr hlocks hAe hK hP hD hS rfl dX2_lets_23 (Nat.le_refl _) (Nat.le_refl _) ⟨rfl, (Or.inl rfl), h⟩
    · have h := h.2 c_15
      refine lv_iconst (pc := 18) (v := 1) hx hb dX2_lets_18 (by decide) ?_
      refine lv_goto (pc := 19) (tgt := 23) hx hb dX2_lets_19 (by decide) ?_
      exact zirV (pc := 23) (Wd := cW E ad wd cI cB cP cT) (u := (x0, y0, g0)) hx hb hr hlocks hAe hK hP hD hS rfl dX2_lets_23 (Nat.le_refl _) (Nat.le_refl _) ⟨rfl, (Or.inr rfl), h⟩

def lX0_joinedValue_8 (Φ : Int32 → Prop) : Nat → (Nat → Nat → Int32) → (Nat → Nat → Nat) → (Nat → Nat → Nat → Int32) → Int32 → Int32 → Int32 → Int32 → Int32 → Prop
  | 0, _, _, _, _, _, _, _, _ => False
  | n8 + 1, x, y, g, v1, v2, v3, v4, v5 => ((((x 1) 3) ≤ v5 → (Φ v3)) ∧ (¬ ((x 1) 3) ≤ v5 → (wX4_get x y g 3 v5 1 (fun r_27 => (wX4_get x y g 3 v5 0 (fun r_39 => ((r_39 = v1 → ((v2 < r_27 → (∀ v5_74 : Int32, v5_74 = v5 + 1 → ((lX0_joinedValue_8 Φ n8) x y g v1 v2 v3 v4 v5_74))) ∧ (¬ v2 < r_27 → ((r_27 < v4 → (∀ v5_74 : Int32, v5_74 = v5 + 1 → ((lX0_joinedValue_8 Φ n8) x y g v1 v2 v3 v4 v5_74))) ∧ (¬ r_27 < v4 → (wX4_get x y g 3 v5 2 (fun r_70 => (∀ v5_74 : Int32, v5_74 = v5 + 1 → ((lX0_joinedValue_8 Φ n8) x y g v1 v2 r_70 r_27 v5_74))))))))) ∧ (¬ r_39 = v1 → (∀ v5_74 : Int32, v5_74 = v5 + 1 → ((lX0_joinedValue_8 Φ n8) x y g v1 v2 v3 v4 v5_74))))))))))
def wX0_joinedValue (x : Nat → Nat → Int32) (y : Nat → Nat → Nat) (g : Nat → Nat → Nat → Int32) (a1 : Int32) (a2 : Int32) (Φ : Int32 → Prop) : Prop := (∃ n8 : Nat, lX0_joinedValue_8 Φ n8 x y g a1 a2 0 (-1) 0)
set_option maxRecDepth 100000 in
set_option maxHeartbeats 4000000 in
theorem kX0_joinedValue {l : Launch} {D : va_G} {E : va_W} {ad : Nat → Nat → Nat} {wd sk : Nat → Nat} {cI cB cP cT : ClassId} {sz : Nat} (x0 : Nat → Nat → Int32) (y0 : Nat → Nat → Nat) (g0 : Nat → Nat → Nat → Int32) (a1 : Int32) (a2 : Int32) {Φ : Int32 → Prop} (h : wX0_joinedValue x0 y0 g0 a1 a2 Φ) : Met l yX0_joinedValue (zws yX0_joinedValue cX0_joinedValue 7 (some .int)) { frames := 2, cells := 0, slots := 0, locals := 44 } (zPc D (cTy cI cB cP cT) (cX wd sk) (cW E ad wd cI cB cP cT (x0, y0, g0)) [.ref (ad 2 0), .int a1, .int a2] sz) (zQi D (cTy cI cB cP cT) (cW E ad wd cI cB cP cT) (fun r u => u = (x0, y0, g0) ∧ Φ r) (cW E ad wd cI cB cP cT (x0, y0, g0)) sz) 0 0 (va_A (cW E ad wd cI cB cP cT (x0, y0, g0)) sz) := by
  refine zMet (by decide) (Nat.le_of_ble_eq_true rfl) ?_
  intro p e s m args below meth c A hx hb hr hml hown hts hlocks hsz hAe hA hS hP hK hD hX ls hl
  subst hsz
  have hF : zFx p s m args c cX0_joinedValue RX0 A D (cTy cI cB cP cT) (cX wd sk) 7 := ⟨hx, hb, hml, hown, hts, hA, hK, cX_cl wd sk, hX⟩
  have hl : lv_has ls 7 [(0, .ref (ad 2 0)), (1, .int a1), (2, .int a2)] := hl
  have L8 : ∀ n8 : Nat, ∀ (v1 : Int32) (v2 : Int32) (v3 : Int32) (v4 : Int32) (v5 : Int32), lX0_joinedValue_8 Φ n8 x0 y0 g0 v1 v2 v3 v4 v5 → ∀ (H : Heap) (locs : List Loc) (ls : Array Slot), va_P D vwCl (cW E ad wd cI cB cP cT (x0, y0, g0)) H → va_D A (cW E ad wd cI cB cP cT (x0, y0, g0)) → va_S A s.heap H locs → lv_has ls 7 [(0, .ref (ad 2 0)), (1, .int v1), (2, .int v2), (3, .int v3), (4, .int v4), (5, .int v5)] → W p l e { frames := 2, cells := 0, slots := 0, locals := 44 } s m args below meth c H locs 0 0 (MQ below (zQi D (cTy cI cB cP cT) (cW E ad wd cI cB cP cT) (fun r u => u = (x0, y0, g0) ∧ Φ r) (cW E ad wd cI cB cP cT (x0, y0, g0)) s.heap.size) args s 0 0 (va_A (cW E ad wd cI cB cP cT (x0, y0, g0)) s.heap.size)) (F0 m 8 ls []) := by
    intro n8
    induction n8 with
    | zero => intro v1 v2 v3 v4 v5 h H locs ls hP hD hS hl; exact h.elim
    | succ n8 ih8 =>
      intro v1 v2 v3 v4 v5 h H locs ls hP hD hS hl
      unfold lX0_joinedValue_8 at h
      refine lv_iload (pc := 8) hx hb dX0_joinedValue_8 (lv_at hl 5 rfl) ?_
      refine lv_aload_n (pc := 10) hx hb dX0_joinedValue_10 rfl (lv_at hl 0 rfl) ?_
      refine cG_X0_joined (pc := 11) hF hP lkX0_22 dX0_joinedValue_11 ?_
      refine cGN_X4_count (pc := 14) hF hP (i := 3) (by omega) lkX0_53 (v := ((x0 1) 3)) rfl dX0_joinedValue_14 ?_
      refine lv_icmp_ge (pc := 17) (tgt := 80) hx hb dX0_joinedValue_17 (by decide) (fun c_17 => ?_) (fun c_17 => ?_)
      · have h := h.1 c_17
        refine lv_iload_n (pc := 80) hx hb dX0_joinedValue_80 rfl (lv_at hl 3 rfl) ?_
        exact zirV (pc := 81) (Wd := cW E ad wd cI cB cP cT) (u := (x0, y0, g0)) hx hb hr hlocks hAe hK hP hD hS rfl dX0_joinedValue_81 (Nat.le_refl _) (Nat.le_refl _) ⟨rfl, h⟩
      · have h := h.2 c_17
        refine lv_aload_n (pc := 20) hx hb dX0_joinedValue_20 rfl (lv_at hl 0 rfl) ?_
        refine cG_X0_joined (pc := 21) hF hP lkX0_22 dX0_joinedValue_21 ?_
        refine lv_iload (pc := 24) hx hb dX0_joinedValue_24 (lv_at hl 5 rfl) ?_
        refine lv_iconst (pc := 26) (v := 1) hx hb dX0_joinedValue_26 (by decide) ?_
        refine cVip (pc := 27) (x := x0) (y := y0) (g := g0) [.int v5, .int 1] hF (kX4_get x0 y0 g0 3 v5 1 h (by omega)) (cwX0_X4_get hts ⟨Nat.le_of_ble_eq_true rfl, Nat.le_of_ble_eq_true rfl⟩) rfl (cA_R _ _ _ _ _ _ _ _ _ _ (i := 3) (by omega)) hP hD hS rfl rfl hl.1 (Nat.le_of_ble_eq_true rfl) dX0_joinedValue_27 ⟨Nat.le_refl _, Nat.le_refl _⟩ (fun r_27 H locs h hP hD hS => ?_)
        refine lv_istore (pc := 30) (lv' := [(6, .int r_27), (0, .ref (ad 2 0)), (1, .int v1), (2, .int v2), (3, .int v3), (4, .int v4), (5, .int v5)]) hx hb dX0_joinedValue_30 hl (by decide) rfl (fun ls hl => ?_)
        refine lv_aload_n (pc := 32) hx hb dX0_joinedValue_32 rfl (lv_at hl 1 rfl) ?_
        refine cG_X0_joined (pc := 33) hF hP lkX0_22 dX0_joinedValue_33 ?_
        refine lv_iload (pc := 36) hx hb dX0_joinedValue_36 (lv_at hl 6 rfl) ?_
        refine lv_iconst (pc := 38) (v := 0) hx hb dX0_joinedValue_38 (by decide) ?_
        refine cVip (pc := 39) (x := x0) (y := y0) (g := g0) [.int v5, .int 0] hF (kX4_get x0 y0 g0 3 v5 0 h (by omega)) (cwX0_X4_get hts ⟨Nat.le_of_ble_eq_true rfl, Nat.le_of_ble_eq_true rfl⟩) rfl (cA_R _ _ _ _ _ _ _ _ _ _ (i := 3) (by omega)) hP hD hS rfl rfl hl.1 (Nat.le_of_ble_eq_true rfl) dX0_joinedValue_39 ⟨Nat.le_refl _, Nat.le_refl _⟩ (fun r_39 H locs h hP hD hS => ?_)
        refine lv_iload_n (pc := 42) hx hb dX0_joinedValue_42 rfl (lv_at hl 2 rfl) ?_
        refine lv_icmp_ne (pc := 43) (tgt := 74) hx hb dX0_joinedValue_43 (by decide) (fun c_43 => ?_) (fun c_43 => ?_)
        · have h := h.2 c_43
          obtain ⟨v5_74, e_v5_74⟩ : ∃ y : Int32, y = v5 + 1 := ⟨_, rfl⟩
          replace h := h v5_74 e_v5_74
          refine lv_iinc (pc := 74) (v := v5_74) (lv' := [(5, .int v5_74), (6, .int r_27), (0, .ref (ad 2 0)), (1, .int v1), (2, .int v2), (3, .int v3), (4, .int v4)]) hx hb dX0_joinedValue_74 hl (k := 6) rfl (by rw [e_v5_74]; rfl) (by decide) rfl (fun ls hl => ?_)
          refine lv_goto (pc := 77) (tgt := 8) hx hb dX0_joinedValue_77 (by decide) ?_
          exact ih8 v1 v2 v3 v4 v5_74 h _ _ _ hP hD hS (lv_sub hl [2, 3, 4, 5, 6, 0] rfl)
        · have h := h.1 c_43
          refine lv_iload (pc := 46) hx hb dX0_joinedValue_46 (lv_at hl 0 rfl) ?_
          refine lv_iload_n (pc := 48) hx hb dX0_joinedValue_48 rfl (lv_at hl 3 rfl) ?_
          refine lv_icmp_gt (pc := 49) (tgt := 74) hx hb dX0_joinedValue_49 (by decide) (fun c_49 => ?_) (fun c_49 => ?_)
          · have h := h.1 c_49
            obtain ⟨v5_74, e_v5_74⟩ : ∃ y : Int32, y = v5 + 1 := ⟨_, rfl⟩
            replace h := h v5_74 e_v5_74
            refine lv_iinc (pc := 74) (v := v5_74) (lv' := [(5, .int v5_74), (6, .int r_27), (0, .ref (ad 2 0)), (1, .int v1), (2, .int v2), (3, .int v3), (4, .int v4)]) hx hb dX0_joinedValue_74 hl (k := 6) rfl (by rw [e_v5_74]; rfl) (by decide) rfl (fun ls hl => ?_)
            refine lv_goto (pc := 77) (tgt := 8) hx hb dX0_joinedValue_77 (by decide) ?_
            exact ih8 v1 v2 v3 v4 v5_74 h _ _ _ hP hD hS (lv_sub hl [2, 3, 4, 5, 6, 0] rfl)
          · have h := h.2 c_49
            refine lv_iload (pc := 52) hx hb dX0_joinedValue_52 (lv_at hl 0 rfl) ?_
            refine lv_iload (pc := 54) hx hb dX0_joinedValue_54 (lv_at hl 5 rfl) ?_
            refine lv_icmp_lt (pc := 56) (tgt := 74) hx hb dX0_joinedValue_56 (by decide) (fun c_56 => ?_) (fun c_56 => ?_)
            · have h := h.1 c_56
              obtain ⟨v5_74, e_v5_74⟩ : ∃ y : Int32, y = v5 + 1 := ⟨_, rfl⟩
              replace h := h v5_74 e_v5_74
              refine lv_iinc (pc := 74) (v := v5_74) (lv' := [(5, .int v5_74), (6, .int r_27), (0, .ref (ad 2 0)), (1, .int v1), (2, .int v2), (3, .int v3), (4, .int v4)]) hx hb dX0_joinedValue_74 hl (k := 6) rfl (by rw [e_v5_74]; rfl) (by decide) rfl (fun ls hl => ?_)
              refine lv_goto (pc := 77) (tgt := 8) hx hb dX0_joinedValue_77 (by decide) ?_
              exact ih8 v1 v2 v3 v4 v5_74 h _ _ _ hP hD hS (lv_sub hl [2, 3, 4, 5, 6, 0] rfl)
            · have h := h.2 c_56
              refine lv_iload (pc := 59) hx hb dX0_joinedValue_59 (lv_at hl 0 rfl) ?_
              refine lv_istore (pc := 61) (lv' := [(4, .int r_27), (6, .int r_27), (0, .ref (ad 2 0)), (1, .int v1), (2, .int v2), (3, .int v3), (5, .int v5)]) hx hb dX0_joinedValue_61 hl (by decide) rfl (fun ls hl => ?_)
              refine lv_aload_n (pc := 63) hx hb dX0_joinedValue_63 rfl (lv_at hl 2 rfl) ?_
              refine cG_X0_joined (pc := 64) hF hP lkX0_22 dX0_joinedValue_64 ?_
              refine lv_iload (pc := 67) hx hb dX0_joinedValue_67 (lv_at hl 6 rfl) ?_
              refine lv_iconst (pc := 69) (v := 2) hx hb dX0_joinedValue_69 (by decide) ?_
              refine cVip (pc := 70) (x := x0) (y := y0) (g := g0) [.int v5, .int 2] hF (kX4_get x0 y0 g0 3 v5 2 h (by omega)) (cwX0_X4_get hts ⟨Nat.le_of_ble_eq_true rfl, Nat.le_of_ble_eq_true rfl⟩) rfl (cA_R _ _ _ _ _ _ _ _ _ _ (i := 3) (by omega)) hP hD hS rfl rfl hl.1 (Nat.le_of_ble_eq_true rfl) dX0_joinedValue_70 ⟨Nat.le_refl _, Nat.le_refl _⟩ (fun r_70 H locs h hP hD hS => ?_)
              refine lv_istore_n (pc := 73) (lv' := [(3, .int r_70), (4, .int r_27), (6, .int r_27), (0, .ref (ad 2 0)), (1, .int v1), (2, .int v2), (5, .int v5)]) hx hb dX0_joinedValue_73 rfl hl (by decide) rfl (fun ls hl => ?_)
              obtain ⟨v5_74, e_v5_74⟩ : ∃ y : Int32, y = v5 + 1 := ⟨_, rfl⟩
              replace h := h v5_74 e_v5_74
              refine lv_iinc (pc := 74) (v := v5_74) (lv' := [(5, .int v5_74), (3, .int r_70), (4, .int r_27), (6, .int r_27), (0, .ref (ad 2 0)), (1, .int v1), (2, .int v2)]) hx hb dX0_joinedValue_74 hl (k := 6) rfl (by rw [e_v5_74]; rfl) (by decide) rfl (fun ls hl => ?_)
              refine lv_goto (pc := 77) (tgt := 8) hx hb dX0_joinedValue_77 (by decide) ?_
              exact ih8 v1 v2 r_70 r_27 v5_74 h _ _ _ hP hD hS (lv_sub hl [4, 5, 6, 1, 2, 0] rfl)
  unfold wX0_joinedValue at h
  refine lv_iconst (pc := 0) (v := 0) hx hb dX0_joinedValue_0 (by decide) ?_
  refine lv_istore_n (pc := 1) (lv' := [(3, .int 0), (0, .ref (ad 2 0)), (1, .int a1), (2, .int a2)]) hx hb dX0_joinedValue_1 rfl hl (by decide) rfl (fun ls hl => ?_)
  refine lv_iconst (pc := 2) (v := (-1)) hx hb dX0_joinedValue_2 (by decide) ?_
  refine lv_istore (pc := 3) (lv' := [(4, .int (-1)), (3, .int 0), (0, .ref (ad 2 0)), (1, .int a1), (2, .int a2)]) hx hb dX0_joinedValue_3 hl (by decide) rfl (fun ls hl => ?_)
  refine lv_iconst (pc := 5) (v := 0) hx hb dX0_joinedValue_5 (by decide) ?_
  refine lv_istore (pc := 6) (lv' := [(5, .int 0), (4, .int (-1)), (3, .int 0), (0, .ref (ad 2 0)), (1, .int a1), (2, .int a2)]) hx hb dX0_joinedValue_6 hl (by decide) rfl (fun ls hl => ?_)
  obtain ⟨n8, h⟩ := h
  exact L8 n8 a1 a2 0 (-1) 0 h _ _ _ hP hD hS (lv_sub hl [3, 4, 5, 2, 1, 0] rfl)

def wX4_set (x : Nat → Nat → Int32) (y : Nat → Nat → Nat) (g : Nat → Nat → Nat → Int32) (q0 : Nat) (a1 : Int32) (a2 : Int32) (a3 : Int32) (Φ : (Nat → Nat → Int32) → (Nat → Nat → Nat) → (Nat → Nat → Nat → Int32) → Prop) : Prop := (wX4_holds x y g q0 a1 a2 (fun r_3 => ((r_3 = 0 → (Φ x y g)) ∧ (¬ r_3 = 0 → (vp_in ((a1 * ((x 0) q0)) + a2) ((y 1) q0) ∧ (Φ x y (va_up g 0 (va_up (g 0) q0 (upd ((g 0) q0) ((a1 * ((x 0) q0)) + a2).toNatClampNeg a3)))))))))
set_option maxRecDepth 100000 in
set_option maxHeartbeats 4000000 in
theorem kX4_set {l : Launch} {D : va_G} {E : va_W} {ad : Nat → Nat → Nat} {wd sk : Nat → Nat} {cI cB cP cT : ClassId} {sz : Nat} (x0 : Nat → Nat → Int32) (y0 : Nat → Nat → Nat) (g0 : Nat → Nat → Nat → Int32) (q0 : Nat) (a1 : Int32) (a2 : Int32) (a3 : Int32) {Φ : (Nat → Nat → Int32) → (Nat → Nat → Nat) → (Nat → Nat → Nat → Int32) → Prop} (h : wX4_set x0 y0 g0 q0 a1 a2 a3 Φ) (hq0 : q0 < 12) : Met l yX4_set (zws yX4_set cX4_set 4 none) { frames := 1, cells := 0, slots := 0, locals := 22 } (zPc D (cTy cI cB cP cT) (cX wd sk) (cW E ad wd cI cB cP cT (x0, y0, g0)) [.ref (ad 5 q0), .int a1, .int a2, .int a3] sz) (zQv D (cTy cI cB cP cT) (cW E ad wd cI cB cP cT) (fun u => Φ u.1 u.2.1 u.2.2) (cW E ad wd cI cB cP cT (x0, y0, g0)) sz) 0 0 (va_A (cW E ad wd cI cB cP cT (x0, y0, g0)) sz) := by
  refine zMet (by decide) (Nat.le_of_ble_eq_true rfl) ?_
  intro p e s m args below meth c A hx hb hr hml hown hts hlocks hsz hAe hA hS hP hK hD hX ls hl
  subst hsz
  have hF : zFx p s m args c cX4_set RX4 A D (cTy cI cB cP cT) (cX wd sk) 4 := ⟨hx, hb, hml, hown, hts, hA, hK, cX_cl wd sk, hX⟩
  have hl : lv_has ls 4 [(0, .ref (ad 5 q0)), (1, .int a1), (2, .int a2), (3, .int a3)] := hl
  unfold wX4_set at h
  refine lv_aload_n (pc := 0) hx hb dX4_set_0 rfl (lv_at hl 0 rfl) ?_
  refine lv_iload_n (pc := 1) hx hb dX4_set_1 rfl (lv_at hl 1 rfl) ?_
  refine lv_iload_n (pc := 2) hx hb dX4_set_2 rfl (lv_at hl 2 rfl) ?_
  refine cVbp (pc := 3) (x := x0) (y := y0) (g := g0) [.int a1, .int a2] hF (kX4_holds x0 y0 g0 q0 a1 a2 h (by omega)) (cwX4_X4_holds hts ⟨Nat.le_of_ble_eq_true rfl, Nat.le_of_ble_eq_true rfl⟩) rfl (cA_R _ _ _ _ _ _ _ _ _ _ (i := q0) (by omega)) hP hD hS rfl rfl hl.1 (Nat.le_of_ble_eq_true rfl) dX4_set_3 ⟨Nat.le_refl _, Nat.le_refl _⟩ (fun r_3 H locs hb_3 h hP hD hS => ?_)
  refine lv_if_eq (pc := 6) (tgt := 23) hx hb dX4_set_6 (by decide) (fun c_6 => ?_) (fun c_6 => ?_)
  · have h := h.1 c_6
    exact zvr (pc := 23) (Wd := cW E ad wd cI cB cP cT) (u := (x0, y0, g0)) hx hb hr hlocks hAe hK hP hD hS dX4_set_23 (Nat.le_refl _) (Nat.le_refl _) h
  · have h := h.2 c_6
    refine lv_aload_n (pc := 9) hx hb dX4_set_9 rfl (lv_at hl 0 rfl) ?_
    refine cG_X4_cells (pc := 10) hF hP (i := q0) (by omega) lkX4_21 dX4_set_10 ?_
    refine lv_iload_n (pc := 13) hx hb dX4_set_13 rfl (lv_at hl 1 rfl) ?_
    refine lv_aload_n (pc := 14) hx hb dX4_set_14 rfl (lv_at hl 0 rfl) ?_
    refine cG_X4_width (pc := 15) hF hP (i := q0) (by omega) lkX4_15 (v := ((x0 0) q0)) rfl dX4_set_15 ?_
    refine lv_imul (pc := 18) hx hb dX4_set_18 ?_
    refine lv_iload_n (pc := 19) hx hb dX4_set_19 rfl (lv_at hl 2 rfl) ?_
    refine lv_iadd (pc := 20) hx hb dX4_set_20 ?_
    refine lv_iload_n (pc := 21) hx hb dX4_set_21 rfl (lv_at hl 3 rfl) ?_
    obtain ⟨hi_22, h⟩ := h
    refine cT_RA (pc := 22) hF hP hD hS (i := q0) (by omega) (f := ((g0 0) q0)) rfl hi_22 dX4_set_22 (fun H locs hP hD hS => ?_)
    exact zvr (pc := 23) (Wd := cW E ad wd cI cB cP cT) (u := (x0, y0, (va_up g0 0 (va_up (g0 0) q0 (upd ((g0 0) q0) ((a1 * ((x0 0) q0)) + a2).toNatClampNeg a3))))) hx hb hr hlocks hAe hK hP hD hS dX4_set_23 (Nat.le_refl _) (Nat.le_refl _) h

def jX0_readNext_152 (Φ : Int32 → (Nat → Nat → Int32) → (Nat → Nat → Nat) → (Nat → Nat → Nat → Int32) → Prop) (x : Nat → Nat → Int32) (y : Nat → Nat → Nat) (g : Nat → Nat → Nat → Int32) (q2 : Nat) (v3 : Int32) (v6 : Int32) (v7 : Int32) (t0 : Nat) (s1 : Int32) (s2 : Int32) (s3 : Int32) : Prop := (wX4_set x y g t0 s1 s2 s3 (fun x_152 y_152 g_152 => (wX4_set x_152 y_152 g_152 q2 v3 4 v7 (fun x_160 y_160 g_160 => (wX0_horizon x_160 y_160 g_160 (fun r_167 => (wX4_set x_160 y_160 g_160 q2 v3 5 r_167 (fun x_170 y_170 g_170 => (Φ v6 x_170 y_170 g_170)))))))))
def jX0_readNext_139 (Φ : Int32 → (Nat → Nat → Int32) → (Nat → Nat → Nat) → (Nat → Nat → Nat → Int32) → Prop) (x : Nat → Nat → Int32) (y : Nat → Nat → Nat) (g : Nat → Nat → Nat → Int32) (q2 : Nat) (v3 : Int32) (v6 : Int32) (v7 : Int32) : Prop := ((v6 = 0 → (jX0_readNext_152 Φ x y g q2 v3 v6 v7 q2 v3 3 0)) ∧ (¬ v6 = 0 → (jX0_readNext_152 Φ x y g q2 v3 v6 v7 q2 v3 3 1)))
def jX0_readNext_137 (Φ : Int32 → (Nat → Nat → Int32) → (Nat → Nat → Nat) → (Nat → Nat → Nat → Int32) → Prop) (x : Nat → Nat → Int32) (y : Nat → Nat → Nat) (g : Nat → Nat → Nat → Int32) (q2 : Nat) (v3 : Int32) (v6 : Int32) (s0 : Int32) : Prop := (jX0_readNext_139 Φ x y g q2 v3 v6 s0)
def jX0_readNext_67 (Φ : Int32 → (Nat → Nat → Int32) → (Nat → Nat → Nat) → (Nat → Nat → Nat → Int32) → Prop) (x : Nat → Nat → Int32) (y : Nat → Nat → Nat) (g : Nat → Nat → Nat → Int32) (v1 : Int32) (q2 : Nat) (v3 : Int32) (v4 : Int32) (v5 : Int32) (s1 : Int32) (s2 : Int32) : Prop := (vp_in s1 3 ∧ (vp_in v1 3 ∧ (wX2_lets x y (va_up (va_up g 2 (va_up (g 2) 0 (upd ((g 2) 0) s1.toNatClampNeg s2))) 1 (va_up (g 1) 0 (upd ((g 1) 0) v1.toNatClampNeg (v3 + 1)))) v5 (fun r_86 => ((((y 3) 0) = 1 → (jX0_readNext_139 Φ x y (va_up (va_up g 2 (va_up (g 2) 0 (upd ((g 2) 0) s1.toNatClampNeg s2))) 1 (va_up (g 1) 0 (upd ((g 1) 0) v1.toNatClampNeg (v3 + 1)))) q2 v3 r_86 1)) ∧ (¬ ((y 3) 0) = 1 → ((((x 9) 0) = 0 → (jX0_readNext_137 Φ x y (va_up (va_up g 2 (va_up (g 2) 0 (upd ((g 2) 0) s1.toNatClampNeg s2))) 1 (va_up (g 1) 0 (upd ((g 1) 0) v1.toNatClampNeg (v3 + 1)))) q2 v3 r_86 v5)) ∧ (¬ ((x 9) 0) = 0 → (wX4_get x y (va_up (va_up g 2 (va_up (g 2) 0 (upd ((g 2) 0) s1.toNatClampNeg s2))) 1 (va_up (g 1) 0 (upd ((g 1) 0) v1.toNatClampNeg (v3 + 1)))) q2 v3 0 (fun r_123 => (wX0_joinedValue x y (va_up (va_up g 2 (va_up (g 2) 0 (upd ((g 2) 0) s1.toNatClampNeg s2))) 1 (va_up (g 1) 0 (upd ((g 1) 0) v1.toNatClampNeg (v3 + 1)))) r_123 v4 (fun r_128 => (jX0_readNext_137 Φ x y (va_up (va_up g 2 (va_up (g 2) 0 (upd ((g 2) 0) s1.toNatClampNeg s2))) 1 (va_up (g 1) 0 (upd ((g 1) 0) v1.toNatClampNeg (v3 + 1)))) q2 v3 r_86 (v5 + r_128))))))))))))))
def wX0_readNext (x : Nat → Nat → Int32) (y : Nat → Nat → Nat) (g : Nat → Nat → Nat → Int32) (a1 : Int32) (Φ : Int32 → (Nat → Nat → Int32) → (Nat → Nat → Nat) → (Nat → Nat → Nat → Int32) → Prop) : Prop := (vp_in a1 3 ∧ (vp_in a1 3 ∧ (∀ v3_19 : Int32, v3_19 = (((g 1) 0) a1.toNatClampNeg) → (wX4_get x y g (a1.toNatClampNeg) v3_19 1 (fun r_23 => (wX4_get x y g (a1.toNatClampNeg) v3_19 2 (fun r_31 => ((v3_19 = 0 → (jX0_readNext_67 Φ x y g a1 (a1.toNatClampNeg) v3_19 r_23 r_31 a1 r_23)) ∧ (¬ v3_19 = 0 → (vp_in a1 3 ∧ (jX0_readNext_67 Φ x y g a1 (a1.toNatClampNeg) v3_19 r_23 r_31 a1 (if (((g 2) 0) a1.toNatClampNeg) < r_23 then r_23 else (((g 2) 0) a1.toNatClampNeg)))))))))))))
set_option maxRecDepth 100000 in
set_option maxHeartbeats 4000000 in
theorem kX0_readNext {l : Launch} {D : va_G} {E : va_W} {ad : Nat → Nat → Nat} {wd sk : Nat → Nat} {cI cB cP cT : ClassId} {sz : Nat} (x0 : Nat → Nat → Int32) (y0 : Nat → Nat → Nat) (g0 : Nat → Nat → Nat → Int32) (a1 : Int32) {Φ : Int32 → (Nat → Nat → Int32) → (Nat → Nat → Nat) → (Nat → Nat → Nat → Int32) → Prop} (h : wX0_readNext x0 y0 g0 a1 Φ) : Met l yX0_readNext (zws yX0_readNext cX0_readNext 8 (some .boolean)) { frames := 3, cells := 0, slots := 0, locals := 70 } (zPc D (cTy cI cB cP cT) (cX wd sk) (cW E ad wd cI cB cP cT (x0, y0, g0)) [.ref (ad 2 0), .int a1] sz) (zQi D (cTy cI cB cP cT) (cW E ad wd cI cB cP cT) (fun r u => (r = 0 ∨ r = 1) ∧ Φ r u.1 u.2.1 u.2.2) (cW E ad wd cI cB cP cT (x0, y0, g0)) sz) 0 0 (va_A (cW E ad wd cI cB cP cT (x0, y0, g0)) sz) := by
  refine zMet (by decide) (Nat.le_of_ble_eq_true rfl) ?_
  intro p e s m args below meth c A hx hb hr hml hown hts hlocks hsz hAe hA hS hP hK hD hX ls hl
  subst hsz
  have hF : zFx p s m args c cX0_readNext RX0 A D (cTy cI cB cP cT) (cX wd sk) 8 := ⟨hx, hb, hml, hown, hts, hA, hK, cX_cl wd sk, hX⟩
  have hl : lv_has ls 8 [(0, .ref (ad 2 0)), (1, .int a1)] := hl
  have J152 : ∀ (x : Nat → Nat → Int32) (y : Nat → Nat → Nat) (g : Nat → Nat → Nat → Int32) (q2 : Nat) (v3 : Int32) (v6 : Int32) (v7 : Int32) (t0 : Nat) (s1 : Int32) (s2 : Int32) (s3 : Int32), jX0_readNext_152 Φ x y g q2 v3 v6 v7 t0 s1 s2 s3 → q2 < 12 → (v6 = 0 ∨ v6 = 1) → t0 < 12 → ∀ (H : Heap) (locs : List Loc) (ls : Array Slot), va_P D vwCl (cW E ad wd cI cB cP cT (x, y, g)) H → va_D A (cW E ad wd cI cB cP cT (x, y, g)) → va_S A s.heap H locs → lv_has ls 8 [(0, .ref (ad 2 0)), (2, .ref (ad 5 q2)), (3, .int v3), (6, .int v6), (7, .int v7)] → W p l e { frames := 3, cells := 0, slots := 0, locals := 70 } s m args below meth c H locs 0 0 (MQ below (zQi D (cTy cI cB cP cT) (cW E ad wd cI cB cP cT) (fun r u => (r = 0 ∨ r = 1) ∧ Φ r u.1 u.2.1 u.2.2) (cW E ad wd cI cB cP cT (x0, y0, g0)) s.heap.size) args s 0 0 (va_A (cW E ad wd cI cB cP cT (x0, y0, g0)) s.heap.size)) (F0 m 152 ls [.int s3, .int s2, .int s1, .ref (ad 5 t0)]) := by
    intro x y g q2 v3 v6 v7 t0 s1 s2 s3 h hcq2 hcv6 hct0 H locs ls hP hD hS hl
    unfold jX0_readNext_152 at h
    refine cVv (pc := 152) (x := x) (y := y) (g := g) [.int s1, .int s2, .int s3] hF (kX4_set x y g t0 s1 s2 s3 h (by omega)) (cwX0_X4_set hts ⟨Nat.le_of_ble_eq_true rfl, Nat.le_of_ble_eq_true rfl⟩) rfl (cA_R _ _ _ _ _ _ _ _ _ _ (i := t0) (by omega)) hP hD hS rfl rfl hl.1 (Nat.le_of_ble_eq_true rfl) dX0_readNext_152 ⟨Nat.le_refl _, Nat.le_refl _⟩ (fun x_152 y_152 g_152 H locs h hP hD hS => ?_)
    refine lv_aload_n (pc := 155) hx hb dX0_readNext_155 rfl (lv_at hl 1 rfl) ?_
    refine lv_iload_n (pc := 156) hx hb dX0_readNext_156 rfl (lv_at hl 2 rfl) ?_
    refine lv_iconst (pc := 157) (v := 4) hx hb dX0_readNext_157 (by decide) ?_
    refine lv_iload (pc := 158) hx hb dX0_readNext_158 (lv_at hl 4 rfl) ?_
    refine cVv (pc := 160) (x := x_152) (y := y_152) (g := g_152) [.int v3, .int 4, .int v7] hF (kX4_set x_152 y_152 g_152 q2 v3 4 v7 h (by omega)) (cwX0_X4_set hts ⟨Nat.le_of_ble_eq_true rfl, Nat.le_of_ble_eq_true rfl⟩) rfl (cA_R _ _ _ _ _ _ _ _ _ _ (i := q2) (by omega)) hP hD hS rfl rfl hl.1 (Nat.le_of_ble_eq_true rfl) dX0_readNext_160 ⟨Nat.le_refl _, Nat.le_refl _⟩ (fun x_160 y_160 g_160 H locs h hP hD hS => ?_)
    refine lv_aload_n (pc := 163) hx hb dX0_readNext_163 rfl (lv_at hl 1 rfl) ?_
    refine lv_iload_n (pc := 164) hx hb dX0_readNext_164 rfl (lv_at hl 2 rfl) ?_
    refine lv_iconst (pc := 165) (v := 5) hx hb dX0_readNext_165 (by decide) ?_
    refine lv_aload_n (pc := 166) hx hb dX0_readNext_166 rfl (lv_at hl 0 rfl) ?_
    refine cVip (pc := 167) (x := x_160) (y := y_160) (g := g_160) [] hF (kX0_horizon x_160 y_160 g_160 h) (cwX0_X0_horizon hts ⟨Nat.le_of_ble_eq_true rfl, Nat.le_of_ble_eq_true rfl⟩) rfl (cA_L ..) hP hD hS rfl rfl hl.1 (Nat.le_of_ble_eq_true rfl) dX0_readNext_167 ⟨Nat.le_refl _, Nat.le_refl _⟩ (fun r_167 H locs h hP hD hS => ?_)
    refine cVv (pc := 170) (x := x_160) (y := y_160) (g := g_160) [.int v3, .int 5, .int r_167] hF (kX4_set x_160 y_160 g_160 q2 v3 5 r_167 h (by omega)) (cwX0_X4_set hts ⟨Nat.le_of_ble_eq_true rfl, Nat.le_of_ble_eq_true rfl⟩) rfl (cA_R _ _ _ _ _ _ _ _ _ _ (i := q2) (by omega)) hP hD hS rfl rfl hl.1 (Nat.le_of_ble_eq_true rfl) dX0_readNext_170 ⟨Nat.le_refl _, Nat.le_refl _⟩ (fun x_170 y_170 g_170 H locs h hP hD hS => ?_)
    refine lv_iload (pc := 173) hx hb dX0_readNext_173 (lv_at hl 3 rfl) ?_
    exact zirV (pc := 175) (Wd := cW E ad wd cI cB cP cT) (u := (x_170, y_170, g_170)) hx hb hr hlocks hAe hK hP hD hS (znB hcv6) dX0_readNext_175 (Nat.le_refl _) (Nat.le_refl _) ⟨hcv6, h⟩
  have J139 : ∀ (x : Nat → Nat → Int32) (y : Nat → Nat → Nat) (g : Nat → Nat → Nat → Int32) (q2 : Nat) (v3 : Int32) (v6 : Int32) (v7 : Int32), jX0_readNext_139 Φ x y g q2 v3 v6 v7 → q2 < 12 → (v6 = 0 ∨ v6 = 1) → ∀ (H : Heap) (locs : List Loc) (ls : Array Slot), va_P D vwCl (cW E ad wd cI cB cP cT (x, y, g)) H → va_D A (cW E ad wd cI cB cP cT (x, y, g)) → va_S A s.heap H locs → lv_has ls 8 [(0, .ref (ad 2 0)), (2, .ref (ad 5 q2)), (3, .int v3), (6, .int v6), (7, .int v7)] → W p l e { frames := 3, cells := 0, slots := 0, locals := 70 } s m args below meth c H locs 0 0 (MQ below (zQi D (cTy cI cB cP cT) (cW E ad wd cI cB cP cT) (fun r u => (r = 0 ∨ r = 1) ∧ Φ r u.1 u.2.1 u.2.2) (cW E ad wd cI cB cP cT (x0, y0, g0)) s.heap.size) args s 0 0 (va_A (cW E ad wd cI cB cP cT (x0, y0, g0)) s.heap.size)) (F0 m 139 ls []) := by
    intro x y g q2 v3 v6 v7 h hcq2 hcv6 H locs ls hP hD hS hl
    unfold jX0_readNext_139 at h
    refine lv_aload_n (pc := 139) hx hb dX0_readNext_139 rfl (lv_at hl 1 rfl) ?_
    refine lv_iload_n (pc := 140) hx hb dX0_readNext_140 rfl (lv_at hl 2 rfl) ?_
    refine lv_iconst (pc := 141) (v := 3) hx hb dX0_readNext_141 (by decide) ?_
    refine lv_iload (pc := 142) hx hb dX0_readNext_142 (lv_at hl 3 rfl) ?_
    refine lv_if_eq (pc := 144) (tgt := 151) hx hb dX0_readNext_144 (by decide) (fun c_144 => ?_) (fun c_144 => ?_)
    · have h := h.1 c_144
      refine lv_iconst (pc := 151) (v := 0) hx hb dX0_readNext_151 (by decide) ?_
      exact J152 x y g q2 v3 v6 v7 q2 v3 3 0 h (by omega) hcv6 (by omega) _ _ _ hP hD hS (lv_sub hl [0, 1, 2, 3, 4] rfl)
    · have h := h.2 c_144
      refine lv_iconst (pc := 147) (v := 1) hx hb dX0_readNext_147 (by decide) ?_
      refine lv_goto (pc := 148) (tgt := 152) hx hb dX0_readNext_148 (by decide) ?_
      exact J152 x y g q2 v3 v6 v7 q2 v3 3 1 h (by omega) hcv6 (by omega) _ _ _ hP hD hS (lv_sub hl [0, 1, 2, 3, 4] rfl)
  have J137 : ∀ (x : Nat → Nat → Int32) (y : Nat → Nat → Nat) (g : Nat → Nat → Nat → Int32) (q2 : Nat) (v3 : Int32) (v6 : Int32) (s0 : Int32), jX0_readNext_137 Φ x y g q2 v3 v6 s0 → q2 < 12 → (v6 = 0 ∨ v6 = 1) → ∀ (H : Heap) (locs : List Loc) (ls : Array Slot), va_P D vwCl (cW E ad wd cI cB cP cT (x, y, g)) H → va_D A (cW E ad wd cI cB cP cT (x, y, g)) → va_S A s.heap H locs → lv_has ls 8 [(0, .ref (ad 2 0)), (2, .ref (ad 5 q2)), (3, .int v3), (6, .int v6)] → W p l e { frames := 3, cells := 0, slots := 0, locals := 70 } s m args below meth c H locs 0 0 (MQ below (zQi D (cTy cI cB cP cT) (cW E ad wd cI cB cP cT) (fun r u => (r = 0 ∨ r = 1) ∧ Φ r u.1 u.2.1 u.2.2) (cW E ad wd cI cB cP cT (x0, y0, g0)) s.heap.size) args s 0 0 (va_A (cW E ad wd cI cB cP cT (x0, y0, g0)) s.heap.size)) (F0 m 137 ls [.int s0]) := by
    intro x y g q2 v3 v6 s0 h hcq2 hcv6 H locs ls hP hD hS hl
    unfold jX0_readNext_137 at h
    refine lv_istore (pc := 137) (lv' := [(7, .int s0), (0, .ref (ad 2 0)), (2, .ref (ad 5 q2)), (3, .int v3), (6, .int v6)]) hx hb dX0_readNext_137 hl (by decide) rfl (fun ls hl => ?_)
    exact J139 x y g q2 v3 v6 s0 h (by omega) hcv6 _ _ _ hP hD hS (lv_sub hl [1, 2, 3, 4, 0] rfl)
  have J67 : ∀ (x : Nat → Nat → Int32) (y : Nat → Nat → Nat) (g : Nat → Nat → Nat → Int32) (v1 : Int32) (q2 : Nat) (v3 : Int32) (v4 : Int32) (v5 : Int32) (s1 : Int32) (s2 : Int32), jX0_readNext_67 Φ x y g v1 q2 v3 v4 v5 s1 s2 → q2 < 12 → ∀ (H : Heap) (locs : List Loc) (ls : Array Slot), va_P D vwCl (cW E ad wd cI cB cP cT (x, y, g)) H → va_D A (cW E ad wd cI cB cP cT (x, y, g)) → va_S A s.heap H locs → lv_has ls 8 [(0, .ref (ad 2 0)), (1, .int v1), (2, .ref (ad 5 q2)), (3, .int v3), (4, .int v4), (5, .int v5)] → W p l e { frames := 3, cells := 0, slots := 0, locals := 70 } s m args below meth c H locs 0 0 (MQ below (zQi D (cTy cI cB cP cT) (cW E ad wd cI cB cP cT) (fun r u => (r = 0 ∨ r = 1) ∧ Φ r u.1 u.2.1 u.2.2) (cW E ad wd cI cB cP cT (x0, y0, g0)) s.heap.size) args s 0 0 (va_A (cW E ad wd cI cB cP cT (x0, y0, g0)) s.heap.size)) (F0 m 67 ls [.int s2, .int s1, .ref (ad 8 0)]) := by
    intro x y g v1 q2 v3 v4 v5 s1 s2 h hcq2 H locs ls hP hD hS hl
    unfold jX0_readNext_67 at h
    obtain ⟨hi_67, h⟩ := h
    refine cT_TG (pc := 67) hF hP hD hS (i := 0) (by omega) (f := ((g 2) 0)) rfl hi_67 dX0_readNext_67 (fun H locs hP hD hS => ?_)
    refine lv_aload_n (pc := 68) hx hb dX0_readNext_68 rfl (lv_at hl 0 rfl) ?_
    refine cG_X0_now (pc := 69) hF hP lkX0_32 dX0_readNext_69 ?_
    refine cGN_X6_read (pc := 72) hF hP (i := 0) (by omega) lkX0_63 dX0_readNext_72 ?_
    refine lv_iload_n (pc := 75) hx hb dX0_readNext_75 rfl (lv_at hl 1 rfl) ?_
    refine lv_iload_n (pc := 76) hx hb dX0_readNext_76 rfl (lv_at hl 3 rfl) ?_
    refine lv_iconst (pc := 77) (v := 1) hx hb dX0_readNext_77 (by decide) ?_
    refine lv_iadd (pc := 78) hx hb dX0_readNext_78 ?_
    obtain ⟨hi_79, h⟩ := h
    refine cT_TR (pc := 79) hF hP hD hS (i := 0) (by omega) (f := ((g 1) 0)) rfl hi_79 dX0_readNext_79 (fun H locs hP hD hS => ?_)
    refine lv_aload_n (pc := 80) hx hb dX0_readNext_80 rfl (lv_at hl 0 rfl) ?_
    refine cG_X0_query (pc := 81) hF hP lkX0_39 dX0_readNext_81 ?_
    refine lv_iload (pc := 84) hx hb dX0_readNext_84 (lv_at hl 5 rfl) ?_
    refine cVbp (pc := 86) (x := x) (y := y) (g := (va_up (va_up g 2 (va_up (g 2) 0 (upd ((g 2) 0) s1.toNatClampNeg s2))) 1 (va_up (g 1) 0 (upd ((g 1) 0) v1.toNatClampNeg (v3 + 1))))) [.int v5] hF (kX2_lets x y (va_up (va_up g 2 (va_up (g 2) 0 (upd ((g 2) 0) s1.toNatClampNeg s2))) 1 (va_up (g 1) 0 (upd ((g 1) 0) v1.toNatClampNeg (v3 + 1)))) v5 h) (cwX0_X2_lets hts ⟨Nat.le_of_ble_eq_true rfl, Nat.le_of_ble_eq_true rfl⟩) rfl (cA_Q ..) hP hD hS rfl rfl hl.1 (Nat.le_of_ble_eq_true rfl) dX0_readNext_86 ⟨Nat.le_refl _, Nat.le_refl _⟩ (fun r_86 H locs hb_86 h hP hD hS => ?_)
    refine lv_istore (pc := 89) (lv' := [(6, .int r_86), (0, .ref (ad 2 0)), (1, .int v1), (2, .ref (ad 5 q2)), (3, .int v3), (4, .int v4), (5, .int v5)]) hx hb dX0_readNext_89 hl (by decide) rfl (fun ls hl => ?_)
    refine lv_iconst (pc := 91) (v := 1) hx hb dX0_readNext_91 (by decide) ?_
    refine lv_istore (pc := 92) (lv' := [(7, .int 1), (6, .int r_86), (0, .ref (ad 2 0)), (1, .int v1), (2, .ref (ad 5 q2)), (3, .int v3), (4, .int v4), (5, .int v5)]) hx hb dX0_readNext_92 hl (by decide) rfl (fun ls hl => ?_)
    refine lv_aload_n (pc := 94) hx hb dX0_readNext_94 rfl (lv_at hl 2 rfl) ?_
    refine cG_X0_query (pc := 95) hF hP lkX0_39 dX0_readNext_95 ?_
    refine cGN_X2_fold (pc := 98) hF hP lkX0_83 dX0_readNext_98 ?_
    refine c_word (pc := 101) hF hP hS (k := 1) (by decide) rfl lkX0_87 dX0_readNext_101 ?_
    refine c_acmp_eq (pc := 104) (i := ((y 3) 0)) (j := 1) (tgt := 139) hF hP dX0_readNext_104 (by decide) (fun c_104 => ?_) (fun c_104 => ?_)
    · have h := h.1 c_104
      exact J139 x y (va_up (va_up g 2 (va_up (g 2) 0 (upd ((g 2) 0) s1.toNatClampNeg s2))) 1 (va_up (g 1) 0 (upd ((g 1) 0) v1.toNatClampNeg (v3 + 1)))) q2 v3 r_86 1 h (by omega) hb_86 _ _ _ hP hD hS (lv_sub hl [2, 4, 5, 1, 0] rfl)
    · have h := h.2 c_104
      refine lv_aload_n (pc := 107) hx hb dX0_readNext_107 rfl (lv_at hl 2 rfl) ?_
      refine cG_X0_query (pc := 108) hF hP lkX0_39 dX0_readNext_108 ?_
      refine cGN_X2_isJoined (pc := 111) hF hP lkX0_92 (v := ((x 9) 0)) rfl dX0_readNext_111 ?_
      refine lv_if_eq (pc := 114) (tgt := 135) hx hb dX0_readNext_114 (by decide) (fun c_114 => ?_) (fun c_114 => ?_)
      · have h := h.1 c_114
        refine lv_iload (pc := 135) hx hb dX0_readNext_135 (lv_at hl 7 rfl) ?_
        exact J137 x y (va_up (va_up g 2 (va_up (g 2) 0 (upd ((g 2) 0) s1.toNatClampNeg s2))) 1 (va_up (g 1) 0 (upd ((g 1) 0) v1.toNatClampNeg (v3 + 1)))) q2 v3 r_86 v5 h (by omega) hb_86 _ _ _ hP hD hS (lv_sub hl [2, 4, 5, 1] rfl)
      · have h := h.2 c_114
        refine lv_iload (pc := 117) hx hb dX0_readNext_117 (lv_at hl 7 rfl) ?_
        refine lv_aload_n (pc := 119) hx hb dX0_readNext_119 rfl (lv_at hl 2 rfl) ?_
        refine lv_aload_n (pc := 120) hx hb dX0_readNext_120 rfl (lv_at hl 4 rfl) ?_
        refine lv_iload_n (pc := 121) hx hb dX0_readNext_121 rfl (lv_at hl 5 rfl) ?_
        refine lv_iconst (pc := 122) (v := 0) hx hb dX0_readNext_122 (by decide) ?_
        refine cVip (pc := 123) (x := x) (y := y) (g := (va_up (va_up g 2 (va_up (g 2) 0 (upd ((g 2) 0) s1.toNatClampNeg s2))) 1 (va_up (g 1) 0 (upd ((g 1) 0) v1.toNatClampNeg (v3 + 1))))) [.int v3, .int 0] hF (kX4_get x y (va_up (va_up g 2 (va_up (g 2) 0 (upd ((g 2) 0) s1.toNatClampNeg s2))) 1 (va_up (g 1) 0 (upd ((g 1) 0) v1.toNatClampNeg (v3 + 1)))) q2 v3 0 h (by omega)) (cwX0_X4_get hts ⟨Nat.le_of_ble_eq_true rfl, Nat.le_of_ble_eq_true rfl⟩) rfl (cA_R _ _ _ _ _ _ _ _ _ _ (i := q2) (by omega)) hP hD hS rfl rfl hl.1 (Nat.le_of_ble_eq_true rfl) dX0_readNext_123 ⟨Nat.le_refl _, Nat.le_refl _⟩ (fun r_123 H locs h hP hD hS => ?_)
        refine lv_iload (pc := 126) hx hb dX0_readNext_126 (lv_at hl 6 rfl) ?_
        refine cVip (pc := 128) (x := x) (y := y) (g := (va_up (va_up g 2 (va_up (g 2) 0 (upd ((g 2) 0) s1.toNatClampNeg s2))) 1 (va_up (g 1) 0 (upd ((g 1) 0) v1.toNatClampNeg (v3 + 1))))) [.int r_123, .int v4] hF (kX0_joinedValue x y (va_up (va_up g 2 (va_up (g 2) 0 (upd ((g 2) 0) s1.toNatClampNeg s2))) 1 (va_up (g 1) 0 (upd ((g 1) 0) v1.toNatClampNeg (v3 + 1)))) r_123 v4 h) (cwX0_X0_joinedValue hts ⟨Nat.le_of_ble_eq_true rfl, Nat.le_of_ble_eq_true rfl⟩) rfl (cA_L ..) hP hD hS rfl rfl hl.1 (Nat.le_of_ble_eq_true rfl) dX0_readNext_128 ⟨Nat.le_refl _, Nat.le_refl _⟩ (fun r_128 H locs h hP hD hS => ?_)
        refine lv_iadd (pc := 131) hx hb dX0_readNext_131 ?_
        refine lv_goto (pc := 132) (tgt := 137) hx hb dX0_readNext_132 (by decide) ?_
        exact J137 x y (va_up (va_up g 2 (va_up (g 2) 0 (upd ((g 2) 0) s1.toNatClampNeg s2))) 1 (va_up (g 1) 0 (upd ((g 1) 0) v1.toNatClampNeg (v3 + 1)))) q2 v3 r_86 (v5 + r_128) h (by omega) hb_86 _ _ _ hP hD hS (lv_sub hl [2, 4, 5, 1] rfl)
  unfold wX0_readNext at h
  refine lv_aload_n (pc := 0) hx hb dX0_readNext_0 rfl (lv_at hl 0 rfl) ?_
  refine cG_X0_partitions (pc := 1) hF hP lkX0_11 dX0_readNext_1 ?_
  refine lv_iload_n (pc := 4) hx hb dX0_readNext_4 rfl (lv_at hl 1 rfl) ?_
  obtain ⟨hi_5, h⟩ := h
  have hj_5 := vp_lt hi_5
  refine cL_PA (pc := 5) hF hP hi_5 dX0_readNext_5 ?_
  refine cGN_X1_events (pc := 6) hF hP (i := (a1.toNatClampNeg)) (by omega) lkX0_50 dX0_readNext_6 ?_
  refine lv_astore_n (pc := 9) (lv' := [(2, .ref (ad 5 (a1.toNatClampNeg))), (0, .ref (ad 2 0)), (1, .int a1)]) hx hb dX0_readNext_9 rfl hl (by decide) rfl (fun ls hl => ?_)
  refine lv_aload_n (pc := 10) hx hb dX0_readNext_10 rfl (lv_at hl 1 rfl) ?_
  refine cG_X0_now (pc := 11) hF hP lkX0_32 dX0_readNext_11 ?_
  refine cGN_X6_read (pc := 14) hF hP (i := 0) (by omega) lkX0_63 dX0_readNext_14 ?_
  refine lv_iload_n (pc := 17) hx hb dX0_readNext_17 rfl (lv_at hl 2 rfl) ?_
  obtain ⟨hi_18, h⟩ := h
  refine cL_TR (pc := 18) hF hP (i := 0) (by omega) (f := ((g0 1) 0)) rfl hi_18 dX0_readNext_18 ?_
  refine lv_topi (fun v3_19 e_v3_19 => ?_)
  replace h := h v3_19 e_v3_19
  refine lv_istore_n (pc := 19) (lv' := [(3, .int v3_19), (2, .ref (ad 5 (a1.toNatClampNeg))), (0, .ref (ad 2 0)), (1, .int a1)]) hx hb dX0_readNext_19 rfl hl (by decide) rfl (fun ls hl => ?_)
  refine lv_aload_n (pc := 20) hx hb dX0_readNext_20 rfl (lv_at hl 1 rfl) ?_
  refine lv_iload_n (pc := 21) hx hb dX0_readNext_21 rfl (lv_at hl 0 rfl) ?_
  refine lv_iconst (pc := 22) (v := 1) hx hb dX0_readNext_22 (by decide) ?_
  refine cVip (pc := 23) (x := x0) (y := y0) (g := g0) [.int v3_19, .int 1] hF (kX4_get x0 y0 g0 (a1.toNatClampNeg) v3_19 1 h (by omega)) (cwX0_X4_get hts ⟨Nat.le_of_ble_eq_true rfl, Nat.le_of_ble_eq_true rfl⟩) rfl (cA_R _ _ _ _ _ _ _ _ _ _ (i := (a1.toNatClampNeg)) (by omega)) hP hD hS rfl rfl hl.1 (Nat.le_of_ble_eq_true rfl) dX0_readNext_23 ⟨Nat.le_refl _, Nat.le_refl _⟩ (fun r_23 H locs h hP hD hS => ?_)
  refine lv_istore (pc := 26) (lv' := [(4, .int r_23), (3, .int v3_19), (2, .ref (ad 5 (a1.toNatClampNeg))), (0, .ref (ad 2 0)), (1, .int a1)]) hx hb dX0_readNext_26 hl (by decide) rfl (fun ls hl => ?_)
  refine lv_aload_n (pc := 28) hx hb dX0_readNext_28 rfl (lv_at hl 2 rfl) ?_
  refine lv_iload_n (pc := 29) hx hb dX0_readNext_29 rfl (lv_at hl 1 rfl) ?_
  refine lv_iconst (pc := 30) (v := 2) hx hb dX0_readNext_30 (by decide) ?_
  refine cVip (pc := 31) (x := x0) (y := y0) (g := g0) [.int v3_19, .int 2] hF (kX4_get x0 y0 g0 (a1.toNatClampNeg) v3_19 2 h (by omega)) (cwX0_X4_get hts ⟨Nat.le_of_ble_eq_true rfl, Nat.le_of_ble_eq_true rfl⟩) rfl (cA_R _ _ _ _ _ _ _ _ _ _ (i := (a1.toNatClampNeg)) (by omega)) hP hD hS rfl rfl hl.1 (Nat.le_of_ble_eq_true rfl) dX0_readNext_31 ⟨Nat.le_refl _, Nat.le_refl _⟩ (fun r_31 H locs h hP hD hS => ?_)
  refine lv_istore (pc := 34) (lv' := [(5, .int r_31), (4, .int r_23), (3, .int v3_19), (2, .ref (ad 5 (a1.toNatClampNeg))), (0, .ref (ad 2 0)), (1, .int a1)]) hx hb dX0_readNext_34 hl (by decide) rfl (fun ls hl => ?_)
  refine lv_aload_n (pc := 36) hx hb dX0_readNext_36 rfl (lv_at hl 4 rfl) ?_
  refine cG_X0_now (pc := 37) hF hP lkX0_32 dX0_readNext_37 ?_
  refine cGN_X6_greatest (pc := 40) hF hP (i := 0) (by omega) lkX0_71 dX0_readNext_40 ?_
  refine lv_iload_n (pc := 43) hx hb dX0_readNext_43 rfl (lv_at hl 5 rfl) ?_
  refine lv_iload_n (pc := 44) hx hb dX0_readNext_44 rfl (lv_at hl 2 rfl) ?_
  refine lv_if_ne (pc := 45) (tgt := 53) hx hb dX0_readNext_45 (by decide) (fun c_45 => ?_) (fun c_45 => ?_)
  · have h := h.2 c_45
    refine lv_aload_n (pc := 53) hx hb dX0_readNext_53 rfl (lv_at hl 4 rfl) ?_
    refine cG_X0_now (pc := 54) hF hP lkX0_32 dX0_readNext_54 ?_
    refine cGN_X6_greatest (pc := 57) hF hP (i := 0) (by omega) lkX0_71 dX0_readNext_57 ?_
    refine lv_iload_n (pc := 60) hx hb dX0_readNext_60 rfl (lv_at hl 5 rfl) ?_
    obtain ⟨hi_61, h⟩ := h
    refine cL_TG (pc := 61) hF hP (i := 0) (by omega) (f := ((g0 2) 0)) rfl hi_61 dX0_readNext_61 ?_
    refine lv_iload (pc := 62) hx hb dX0_readNext_62 (lv_at hl 1 rfl) ?_
    refine c_max (pc := 64) hF hl.1 mlX0_74 ⟨Nat.le_of_ble_eq_true rfl, Nat.le_of_ble_eq_true rfl⟩ ⟨Nat.le_refl _, Nat.le_refl _⟩ dX0_readNext_64 ?_
    exact J67 x0 y0 g0 a1 (a1.toNatClampNeg) v3_19 r_23 r_31 a1 (if (((g0 2) 0) a1.toNatClampNeg) < r_23 then r_23 else (((g0 2) 0) a1.toNatClampNeg)) h (by omega) _ _ _ hP hD hS (lv_sub hl [4, 5, 3, 2, 1, 0] rfl)
  · have h := h.1 c_45
    refine lv_iload (pc := 48) hx hb dX0_readNext_48 (lv_at hl 1 rfl) ?_
    refine lv_goto (pc := 50) (tgt := 67) hx hb dX0_readNext_50 (by decide) ?_
    exact J67 x0 y0 g0 a1 (a1.toNatClampNeg) v3_19 r_23 r_31 a1 r_23 h (by omega) _ _ _ hP hD hS (lv_sub hl [4, 5, 3, 2, 1, 0] rfl)

def wX0_isMet (x : Nat → Nat → Int32) (y : Nat → Nat → Nat) (g : Nat → Nat → Nat → Int32) (a1 : Int32) (a2 : Int32) (a3 : Int32) (Φ : Int32 → Prop) : Prop := (wX4_get x y g 5 a1 0 (fun r_9 => ((r_9 = a2 → (wX4_get x y g 5 a1 1 (fun r_25 => (((a3 + ((x 10) 0)) ≤ r_25 → (Φ 0)) ∧ (¬ (a3 + ((x 10) 0)) ≤ r_25 → (wX4_get x y g 5 a1 2 (fun r_50 => ((r_50 ≤ a3 → (Φ 0)) ∧ (¬ r_50 ≤ a3 → (Φ 1)))))))))) ∧ (¬ r_9 = a2 → (Φ 0)))))
set_option maxRecDepth 100000 in
set_option maxHeartbeats 4000000 in
theorem kX0_isMet {l : Launch} {D : va_G} {E : va_W} {ad : Nat → Nat → Nat} {wd sk : Nat → Nat} {cI cB cP cT : ClassId} {sz : Nat} (x0 : Nat → Nat → Int32) (y0 : Nat → Nat → Nat) (g0 : Nat → Nat → Nat → Int32) (a1 : Int32) (a2 : Int32) (a3 : Int32) {Φ : Int32 → Prop} (h : wX0_isMet x0 y0 g0 a1 a2 a3 Φ) : Met l yX0_isMet (zws yX0_isMet cX0_isMet 4 (some .boolean)) { frames := 2, cells := 0, slots := 0, locals := 44 } (zPc D (cTy cI cB cP cT) (cX wd sk) (cW E ad wd cI cB cP cT (x0, y0, g0)) [.ref (ad 2 0), .int a1, .int a2, .int a3] sz) (zQi D (cTy cI cB cP cT) (cW E ad wd cI cB cP cT) (fun r u => u = (x0, y0, g0) ∧ (r = 0 ∨ r = 1) ∧ Φ r) (cW E ad wd cI cB cP cT (x0, y0, g0)) sz) 0 0 (va_A (cW E ad wd cI cB cP cT (x0, y0, g0)) sz) := by
  refine zMet (by decide) (Nat.le_of_ble_eq_true rfl) ?_
  intro p e s m args below meth c A hx hb hr hml hown hts hlocks hsz hAe hA hS hP hK hD hX ls hl
  subst hsz
  have hF : zFx p s m args c cX0_isMet RX0 A D (cTy cI cB cP cT) (cX wd sk) 4 := ⟨hx, hb, hml, hown, hts, hA, hK, cX_cl wd sk, hX⟩
  have hl : lv_has ls 4 [(0, .ref (ad 2 0)), (1, .int a1), (2, .int a2), (3, .int a3)] := hl
  unfold wX0_isMet at h
  refine lv_aload_n (pc := 0) hx hb dX0_isMet_0 rfl (lv_at hl 0 rfl) ?_
  refine cG_X0_now (pc := 1) hF hP lkX0_32 dX0_isMet_1 ?_
  refine cGN_X6_windows (pc := 4) hF hP (i := 0) (by omega) lkX0_135 dX0_isMet_4 ?_
  refine lv_iload_n (pc := 7) hx hb dX0_isMet_7 rfl (lv_at hl 1 rfl) ?_
  refine lv_iconst (pc := 8) (v := 0) hx hb dX0_isMet_8 (by decide) ?_
  refine cVip (pc := 9) (x := x0) (y := y0) (g := g0) [.int a1, .int 0] hF (kX4_get x0 y0 g0 5 a1 0 h (by omega)) (cwX0_X4_get hts ⟨Nat.le_of_ble_eq_true rfl, Nat.le_of_ble_eq_true rfl⟩) rfl (cA_R _ _ _ _ _ _ _ _ _ _ (i := 5) (by omega)) hP hD hS rfl rfl hl.1 (Nat.le_of_ble_eq_true rfl) dX0_isMet_9 ⟨Nat.le_refl _, Nat.le_refl _⟩ (fun r_9 H locs h hP hD hS => ?_)
  refine lv_iload_n (pc := 12) hx hb dX0_isMet_12 rfl (lv_at hl 2 rfl) ?_
  refine lv_icmp_ne (pc := 13) (tgt := 60) hx hb dX0_isMet_13 (by decide) (fun c_13 => ?_) (fun c_13 => ?_)
  · have h := h.2 c_13
    refine lv_iconst (pc := 60) (v := 0) hx hb dX0_isMet_60 (by decide) ?_
    exact zirV (pc := 61) (Wd := cW E ad wd cI cB cP cT) (u := (x0, y0, g0)) hx hb hr hlocks hAe hK hP hD hS rfl dX0_isMet_61 (Nat.le_refl _) (Nat.le_refl _) ⟨rfl, (Or.inl rfl), h⟩
  · have h := h.1 c_13
    refine lv_aload_n (pc := 16) hx hb dX0_isMet_16 rfl (lv_at hl 0 rfl) ?_
    refine cG_X0_now (pc := 17) hF hP lkX0_32 dX0_isMet_17 ?_
    refine cGN_X6_windows (pc := 20) hF hP (i := 0) (by omega) lkX0_135 dX0_isMet_20 ?_
    refine lv_iload_n (pc := 23) hx hb dX0_isMet_23 rfl (lv_at hl 1 rfl) ?_
    refine lv_iconst (pc := 24) (v := 1) hx hb dX0_isMet_24 (by decide) ?_
    refine cVip (pc := 25) (x := x0) (y := y0) (g := g0) [.int a1, .int 1] hF (kX4_get x0 y0 g0 5 a1 1 h (by omega)) (cwX0_X4_get hts ⟨Nat.le_of_ble_eq_true rfl, Nat.le_of_ble_eq_true rfl⟩) rfl (cA_R _ _ _ _ _ _ _ _ _ _ (i := 5) (by omega)) hP hD hS rfl rfl hl.1 (Nat.le_of_ble_eq_true rfl) dX0_isMet_25 ⟨Nat.le_refl _, Nat.le_refl _⟩ (fun r_25 H locs h hP hD hS => ?_)
    refine lv_iload_n (pc := 28) hx hb dX0_isMet_28 rfl (lv_at hl 3 rfl) ?_
    refine lv_aload_n (pc := 29) hx hb dX0_isMet_29 rfl (lv_at hl 0 rfl) ?_
    refine cG_X0_query (pc := 30) hF hP lkX0_39 dX0_isMet_30 ?_
    refine cGN_X2_size (pc := 33) hF hP lkX0_119 (v := ((x0 10) 0)) rfl dX0_isMet_33 ?_
    refine lv_iadd (pc := 36) hx hb dX0_isMet_36 ?_
    refine lv_icmp_ge (pc := 37) (tgt := 60) hx hb dX0_isMet_37 (by decide) (fun c_37 => ?_) (fun c_37 => ?_)
    · have h := h.1 c_37
      refine lv_iconst (pc := 60) (v := 0) hx hb dX0_isMet_60 (by decide) ?_
      exact zirV (pc := 61) (Wd := cW E ad wd cI cB cP cT) (u := (x0, y0, g0)) hx hb hr hlocks hAe hK hP hD hS rfl dX0_isMet_61 (Nat.le_refl _) (Nat.le_refl _) ⟨rfl, (Or.inl rfl), h⟩
    · have h := h.2 c_37
      refine lv_iload_n (pc := 40) hx hb dX0_isMet_40 rfl (lv_at hl 3 rfl) ?_
      refine lv_aload_n (pc := 41) hx hb dX0_isMet_41 rfl (lv_at hl 0 rfl) ?_
      refine cG_X0_now (pc := 42) hF hP lkX0_32 dX0_isMet_42 ?_
      refine cGN_X6_windows (pc := 45) hF hP (i := 0) (by omega) lkX0_135 dX0_isMet_45 ?_
      refine lv_iload_n (pc := 48) hx hb dX0_isMet_48 rfl (lv_at hl 1 rfl) ?_
      refine lv_iconst (pc := 49) (v := 2) hx hb dX0_isMet_49 (by decide) ?_
      refine cVip (pc := 50) (x := x0) (y := y0) (g := g0) [.int a1, .int 2] hF (kX4_get x0 y0 g0 5 a1 2 h (by omega)) (cwX0_X4_get hts ⟨Nat.le_of_ble_eq_true rfl, Nat.le_of_ble_eq_true rfl⟩) rfl (cA_R _ _ _ _ _ _ _ _ _ _ (i := 5) (by omega)) hP hD hS rfl rfl hl.1 (Nat.le_of_ble_eq_true rfl) dX0_isMet_50 ⟨Nat.le_refl _, Nat.le_refl _⟩ (fun r_50 H locs h hP hD hS => ?_)
      refine lv_icmp_ge (pc := 53) (tgt := 60) hx hb dX0_isMet_53 (by decide) (fun c_53 => ?_) (fun c_53 => ?_)
      · have h := h.1 c_53
        refine lv_iconst (pc := 60) (v := 0) hx hb dX0_isMet_60 (by decide) ?_
        exact zirV (pc := 61) (Wd := cW E ad wd cI cB cP cT) (u := (x0, y0, g0)) hx hb hr hlocks hAe hK hP hD hS rfl dX0_isMet_61 (Nat.le_refl _) (Nat.le_refl _) ⟨rfl, (Or.inl rfl), h⟩
      · have h := h.2 c_53
        refine lv_iconst (pc := 56) (v := 1) hx hb dX0_isMet_56 (by decide) ?_
        refine lv_goto (pc := 57) (tgt := 61) hx hb dX0_isMet_57 (by decide) ?_
        exact zirV (pc := 61) (Wd := cW E ad wd cI cB cP cT) (u := (x0, y0, g0)) hx hb hr hlocks hAe hK hP hD hS rfl dX0_isMet_61 (Nat.le_refl _) (Nat.le_refl _) ⟨rfl, (Or.inr rfl), h⟩

def wX2_foldWith (x : Nat → Nat → Int32) (y : Nat → Nat → Nat) (g : Nat → Nat → Nat → Int32) (a1 : Int32) (a2 : Int32) (Φ : Int32 → Prop) : Prop := ((((y 3) 0) = 2 → (Φ (if a1 < a2 then a2 else a1))) ∧ (¬ ((y 3) 0) = 2 → (Φ (a1 + a2))))
set_option maxRecDepth 100000 in
set_option maxHeartbeats 4000000 in
theorem kX2_foldWith {l : Launch} {D : va_G} {E : va_W} {ad : Nat → Nat → Nat} {wd sk : Nat → Nat} {cI cB cP cT : ClassId} {sz : Nat} (x0 : Nat → Nat → Int32) (y0 : Nat → Nat → Nat) (g0 : Nat → Nat → Nat → Int32) (a1 : Int32) (a2 : Int32) {Φ : Int32 → Prop} (h : wX2_foldWith x0 y0 g0 a1 a2 Φ) : Met l yX2_foldWith (zws yX2_foldWith cX2_foldWith 3 (some .int)) { frames := 1, cells := 0, slots := 0, locals := 60 } (zPc D (cTy cI cB cP cT) (cX wd sk) (cW E ad wd cI cB cP cT (x0, y0, g0)) [.ref (y0 2 0), .int a1, .int a2] sz) (zQi D (cTy cI cB cP cT) (cW E ad wd cI cB cP cT) (fun r u => u = (x0, y0, g0) ∧ Φ r) (cW E ad wd cI cB cP cT (x0, y0, g0)) sz) 0 0 (va_A (cW E ad wd cI cB cP cT (x0, y0, g0)) sz) := by
  refine zMet (by decide) (Nat.le_of_ble_eq_true rfl) ?_
  intro p e s m args below meth c A hx hb hr hml hown hts hlocks hsz hAe hA hS hP hK hD hX ls hl
  subst hsz
  have hF : zFx p s m args c cX2_foldWith RX2 A D (cTy cI cB cP cT) (cX wd sk) 3 := ⟨hx, hb, hml, hown, hts, hA, hK, cX_cl wd sk, hX⟩
  have hl : lv_has ls 3 [(0, .ref (y0 2 0)), (1, .int a1), (2, .int a2)] := hl
  unfold wX2_foldWith at h
  refine lv_aload_n (pc := 0) hx hb dX2_foldWith_0 rfl (lv_at hl 0 rfl) ?_
  refine cG_X2_fold (pc := 1) hF hP lkX2_15 dX2_foldWith_1 ?_
  refine c_word (pc := 4) hF hP hS (k := 2) (by decide) rfl lkX2_67 dX2_foldWith_4 ?_
  refine c_acmp_ne (pc := 7) (i := ((y0 3) 0)) (j := 2) (tgt := 18) hF hP dX2_foldWith_7 (by decide) (fun c_7 => ?_) (fun c_7 => ?_)
  · have h := h.2 c_7
    refine lv_iload_n (pc := 18) hx hb dX2_foldWith_18 rfl (lv_at hl 1 rfl) ?_
    refine lv_iload_n (pc := 19) hx hb dX2_foldWith_19 rfl (lv_at hl 2 rfl) ?_
    refine lv_iadd (pc := 20) hx hb dX2_foldWith_20 ?_
    exact zirV (pc := 21) (Wd := cW E ad wd cI cB cP cT) (u := (x0, y0, g0)) hx hb hr hlocks hAe hK hP hD hS rfl dX2_foldWith_21 (Nat.le_refl _) (Nat.le_refl _) ⟨rfl, h⟩
  · have h := h.1 c_7
    refine lv_iload_n (pc := 10) hx hb dX2_foldWith_10 rfl (lv_at hl 1 rfl) ?_
    refine lv_iload_n (pc := 11) hx hb dX2_foldWith_11 rfl (lv_at hl 2 rfl) ?_
    refine c_max (pc := 12) hF hl.1 mlX2_70 ⟨Nat.le_of_ble_eq_true rfl, Nat.le_of_ble_eq_true rfl⟩ ⟨Nat.le_refl _, Nat.le_refl _⟩ dX2_foldWith_12 ?_
    refine lv_goto (pc := 15) (tgt := 21) hx hb dX2_foldWith_15 (by decide) ?_
    exact zirV (pc := 21) (Wd := cW E ad wd cI cB cP cT) (u := (x0, y0, g0)) hx hb hr hlocks hAe hK hP hD hS rfl dX2_foldWith_21 (Nat.le_refl _) (Nat.le_refl _) ⟨rfl, h⟩

def wX4_makeRoom (x : Nat → Nat → Int32) (y : Nat → Nat → Nat) (g : Nat → Nat → Nat → Int32) (q0 : Nat) (a1 : Int32) (bc bs : Nat) (Φ : (Nat → Nat → Int32) → (Nat → Nat → Nat) → (Nat → Nat → Nat → Int32) → Prop) : Prop := (∀ v2_6 : Int32, v2_6 = (a1 * ((x 0) q0)) → (((nI ((y 1) q0)) < v2_6 → (¬ (if v2_6 < (2 * (nI ((y 1) q0))) then (2 * (nI ((y 1) q0))) else v2_6) < 0 ∧ (if v2_6 < (2 * (nI ((y 1) q0))) then (2 * (nI ((y 1) q0))) else v2_6).toNatClampNeg * 4 ≤ 536870912 ∧ ∃ bc_28 bs_28 : Nat, 1 + bc_28 ≤ bc ∧ (if v2_6 < (2 * (nI ((y 1) q0))) then (2 * (nI ((y 1) q0))) else v2_6).toNatClampNeg + bs_28 ≤ bs ∧ ∀ q_28 : Nat, (¬ (0 : Int32) < 0 ∧ ¬ (0 : Int32) < 0 ∧ ¬ (((x 1) q0) * ((x 0) q0)) < 0 ∧ (0 : Int32).toNatClampNeg + (((x 1) q0) * ((x 0) q0)).toNatClampNeg ≤ ((y 1) q0) ∧ (0 : Int32).toNatClampNeg + (((x 1) q0) * ((x 0) q0)).toNatClampNeg ≤ (if v2_6 < (2 * (nI ((y 1) q0))) then (2 * (nI ((y 1) q0))) else v2_6).toNatClampNeg ∧ (Φ x (va_up (va_up y 0 (va_up (y 0) q0 q_28)) 1 (va_up (y 1) q0 (if v2_6 < (2 * (nI ((y 1) q0))) then (2 * (nI ((y 1) q0))) else v2_6).toNatClampNeg)) (va_up g 0 (va_up (g 0) q0 (va_cpy ((g 0) q0) (fun _ => 0) (0 : Int32).toNatClampNeg (0 : Int32).toNatClampNeg (((x 1) q0) * ((x 0) q0)).toNatClampNeg))))))) ∧ (¬ (nI ((y 1) q0)) < v2_6 → (Φ x y g))))
set_option maxRecDepth 100000 in
set_option maxHeartbeats 4000000 in
theorem kX4_makeRoom {l : Launch} {D : va_G} {E : va_W} {ad : Nat → Nat → Nat} {wd sk : Nat → Nat} {cI cB cP cT : ClassId} {sz : Nat} (x0 : Nat → Nat → Int32) (y0 : Nat → Nat → Nat) (g0 : Nat → Nat → Nat → Int32) (q0 : Nat) (a1 : Int32) (BC BS : Nat) {Φ : (Nat → Nat → Int32) → (Nat → Nat → Nat) → (Nat → Nat → Nat → Int32) → Prop} (h : wX4_makeRoom x0 y0 g0 q0 a1 BC BS Φ) (hq0 : q0 < 12) : Met l yX4_makeRoom (zws yX4_makeRoom cX4_makeRoom 4 none) { frames := 1, cells := BC, slots := BS, locals := 60 } (zPc D (cTy cI cB cP cT) (cX wd sk) (cW E ad wd cI cB cP cT (x0, y0, g0)) [.ref (ad 5 q0), .int a1] sz) (zQv D (cTy cI cB cP cT) (cW E ad wd cI cB cP cT) (fun u => Φ u.1 u.2.1 u.2.2) (cW E ad wd cI cB cP cT (x0, y0, g0)) sz) BC BS (va_A (cW E ad wd cI cB cP cT (x0, y0, g0)) sz) := by
  refine zMet (by decide) (Nat.le_of_ble_eq_true rfl) ?_
  intro p e s m args below meth c A hx hb hr hml hown hts hlocks hsz hAe hA hS hP hK hD hX ls hl
  subst hsz
  have hF : zFx p s m args c cX4_makeRoom RX4 A D (cTy cI cB cP cT) (cX wd sk) 4 := ⟨hx, hb, hml, hown, hts, hA, hK, cX_cl wd sk, hX⟩
  have hl : lv_has ls 4 [(0, .ref (ad 5 q0)), (1, .int a1)] := hl
  have hB : 0 + BC ≤ BC ∧ 0 + BS ≤ BS := ⟨by omega, by omega⟩
  unfold wX4_makeRoom at h
  refine lv_iload_n (pc := 0) hx hb dX4_makeRoom_0 rfl (lv_at hl 1 rfl) ?_
  refine lv_aload_n (pc := 1) hx hb dX4_makeRoom_1 rfl (lv_at hl 0 rfl) ?_
  refine cG_X4_width (pc := 2) hF hP (i := q0) (by omega) lkX4_15 (v := ((x0 0) q0)) rfl dX4_makeRoom_2 ?_
  refine lv_imul (pc := 5) hx hb dX4_makeRoom_5 ?_
  refine lv_topi (fun v2_6 e_v2_6 => ?_)
  replace h := h v2_6 e_v2_6
  refine lv_istore_n (pc := 6) (lv' := [(2, .int v2_6), (0, .ref (ad 5 q0)), (1, .int a1)]) hx hb dX4_makeRoom_6 rfl hl (by decide) rfl (fun ls hl => ?_)
  refine lv_iload_n (pc := 7) hx hb dX4_makeRoom_7 rfl (lv_at hl 0 rfl) ?_
  refine lv_aload_n (pc := 8) hx hb dX4_makeRoom_8 rfl (lv_at hl 1 rfl) ?_
  refine cG_X4_cells (pc := 9) hF hP (i := q0) (by omega) lkX4_21 dX4_makeRoom_9 ?_
  refine c_len (pc := 12) hF hP (i := q0) (by omega) dX4_makeRoom_12 ?_
  refine lv_icmp_gt (pc := 13) (tgt := 17) hx hb dX4_makeRoom_13 (by decide) (fun c_13 => ?_) (fun c_13 => ?_)
  · have h := h.1 c_13
    refine lv_iload_n (pc := 17) hx hb dX4_makeRoom_17 rfl (lv_at hl 0 rfl) ?_
    refine lv_iconst (pc := 18) (v := 2) hx hb dX4_makeRoom_18 (by decide) ?_
    refine lv_aload_n (pc := 19) hx hb dX4_makeRoom_19 rfl (lv_at hl 1 rfl) ?_
    refine cG_X4_cells (pc := 20) hF hP (i := q0) (by omega) lkX4_21 dX4_makeRoom_20 ?_
    refine c_len (pc := 23) hF hP (i := q0) (by omega) dX4_makeRoom_23 ?_
    refine lv_imul (pc := 24) hx hb dX4_makeRoom_24 ?_
    refine c_max (pc := 25) hF hl.1 mlX4_9 ⟨Nat.le_of_ble_eq_true rfl, Nat.le_of_ble_eq_true rfl⟩ ⟨by show _ ≤ BC; omega, by show _ ≤ BS; omega⟩ dX4_makeRoom_25 ?_
    obtain ⟨hn_28, hm_28, bc_28, bs_28, ec_28, es_28, h⟩ := h
    refine c_newI (pc := 28) hF hP hD hS hn_28 hm_28 (by show _ ≤ BC; omega) (by show _ ≤ BS; omega) dX4_makeRoom_28 (fun q_28 H hP hD hS => ?_)
    replace h := h q_28
    have hB : (0 + 1) + bc_28 ≤ BC ∧ (0 + (if v2_6 < (2 * (nI ((y0 1) q0))) then (2 * (nI ((y0 1) q0))) else v2_6).toNatClampNeg) + bs_28 ≤ BS := ⟨by omega, by omega⟩
    refine lv_astore_n (pc := 30) (lv' := [(3, .ref q_28), (2, .int v2_6), (0, .ref (ad 5 q0)), (1, .int a1)]) hx hb dX4_makeRoom_30 rfl hl (by decide) rfl (fun ls hl => ?_)
    refine lv_aload_n (pc := 31) hx hb dX4_makeRoom_31 rfl (lv_at hl 2 rfl) ?_
    refine cG_X4_cells (pc := 32) hF hP (i := q0) (by omega) lkX4_21 dX4_makeRoom_32 ?_
    refine lv_iconst (pc := 35) (v := 0) hx hb dX4_makeRoom_35 (by decide) ?_
    refine lv_aload_n (pc := 36) hx hb dX4_makeRoom_36 rfl (lv_at hl 0 rfl) ?_
    refine lv_iconst (pc := 37) (v := 0) hx hb dX4_makeRoom_37 (by decide) ?_
    refine lv_aload_n (pc := 38) hx hb dX4_makeRoom_38 rfl (lv_at hl 2 rfl) ?_
    refine cG_X4_count (pc := 39) hF hP (i := q0) (by omega) lkX4_25 (v := ((x0 1) q0)) rfl dX4_makeRoom_39 ?_
    refine lv_aload_n (pc := 42) hx hb dX4_makeRoom_42 rfl (lv_at hl 2 rfl) ?_
    refine cG_X4_width (pc := 43) hF hP (i := q0) (by omega) lkX4_15 (v := ((x0 0) q0)) rfl dX4_makeRoom_43 ?_
    refine lv_imul (pc := 46) hx hb dX4_makeRoom_46 ?_
    obtain ⟨h1_47, h2_47, h3_47, h4_47, h5_47, h⟩ := h
    refine c_copyX (pc := 47) hF hP hD hS hl.1 (i := q0) (by omega) (f := ((g0 0) q0)) rfl h1_47 h2_47 h3_47 h4_47 h5_47 mlX4_36 ⟨Nat.le_of_ble_eq_true rfl, by show _ ≤ (60 : Nat); decide⟩ dX4_makeRoom_47 (fun H locs hP hD hS => ?_)
    refine lv_aload_n (pc := 50) hx hb dX4_makeRoom_50 rfl (lv_at hl 2 rfl) ?_
    refine lv_aload_n (pc := 51) hx hb dX4_makeRoom_51 rfl (lv_at hl 0 rfl) ?_
    refine c_cells (pc := 52) hF hP hD hS (i := q0) (by omega) lkX4_21 dX4_makeRoom_52 (fun H locs hP hD hS => ?_)
    exact zvr (pc := 55) (Wd := cW E ad wd cI cB cP cT) (u := (x0, (va_up (va_up y0 0 (va_up (y0 0) q0 q_28)) 1 (va_up (y0 1) q0 (if v2_6 < (2 * (nI ((y0 1) q0))) then (2 * (nI ((y0 1) q0))) else v2_6).toNatClampNeg)), (va_up g0 0 (va_up (g0 0) q0 (va_cpy ((g0 0) q0) (fun _ => 0) (0 : Int32).toNatClampNeg (0 : Int32).toNatClampNeg (((x0 1) q0) * ((x0 0) q0)).toNatClampNeg))))) hx hb hr hlocks hAe hK hP hD hS dX4_makeRoom_55 (by omega) (by omega) h
  · have h := h.2 c_13
    exact zvr (pc := 16) (Wd := cW E ad wd cI cB cP cT) (u := (x0, y0, g0)) hx hb hr hlocks hAe hK hP hD hS dX4_makeRoom_16 (by omega) (by omega) h

def lX4_insert_71 (Φ : (Nat → Nat → Int32) → (Nat → Nat → Nat) → (Nat → Nat → Nat → Int32) → Prop) : Nat → (Nat → Nat → Int32) → (Nat → Nat → Nat) → (Nat → Nat → Nat → Int32) → Nat → Int32 → Int32 → Nat → Nat → Prop
  | 0, _, _, _, _, _, _, _, _ => False
  | n71 + 1, x, y, g, q0, v2, v3, bc, bs => ((((x 0) q0) ≤ v3 → (Φ (va_up x 1 (va_up (x 1) q0 (((x 1) q0) + 1))) y g)) ∧ (¬ ((x 0) q0) ≤ v3 → (vp_in (v2 + v3) ((y 1) q0) ∧ (∀ v3_88 : Int32, v3_88 = v3 + 1 → ((lX4_insert_71 Φ n71) x y (va_up g 0 (va_up (g 0) q0 (upd ((g 0) q0) (v2 + v3).toNatClampNeg 0))) q0 v2 v3_88 bc bs)))))
def wX4_insert (x : Nat → Nat → Int32) (y : Nat → Nat → Nat) (g : Nat → Nat → Nat → Int32) (q0 : Nat) (a1 : Int32) (bc bs : Nat) (Φ : (Nat → Nat → Int32) → (Nat → Nat → Nat) → (Nat → Nat → Nat → Int32) → Prop) : Prop := ((a1 < 0 → (Φ x y g)) ∧ (¬ a1 < 0 → ((((x 1) q0) < a1 → (Φ x y g)) ∧ (¬ ((x 1) q0) < a1 → ((((x 1) q0) < 4096 → (∃ kc_30 ks_30 bc_30 bs_30 : Nat, kc_30 + bc_30 ≤ bc ∧ ks_30 + bs_30 ≤ bs ∧ (wX4_makeRoom x y g q0 (((x 1) q0) + 1) kc_30 ks_30 (fun x_30 y_30 g_30 => (∀ v2_39 : Int32, v2_39 = (a1 * ((x_30 0) q0)) → (¬ v2_39 < 0 ∧ ¬ (v2_39 + ((x_30 0) q0)) < 0 ∧ ¬ ((((x_30 1) q0) - a1) * ((x_30 0) q0)) < 0 ∧ v2_39.toNatClampNeg + ((((x_30 1) q0) - a1) * ((x_30 0) q0)).toNatClampNeg ≤ ((y_30 1) q0) ∧ (v2_39 + ((x_30 0) q0)).toNatClampNeg + ((((x_30 1) q0) - a1) * ((x_30 0) q0)).toNatClampNeg ≤ ((y_30 1) q0) ∧ (∃ n71 : Nat, lX4_insert_71 Φ n71 x_30 y_30 (va_up g_30 0 (va_up (g_30 0) q0 (va_cpy ((g_30 0) q0) ((g_30 0) q0) v2_39.toNatClampNeg (v2_39 + ((x_30 0) q0)).toNatClampNeg ((((x_30 1) q0) - a1) * ((x_30 0) q0)).toNatClampNeg))) q0 v2_39 0 bc_30 bs_30))))))) ∧ (¬ ((x 1) q0) < 4096 → (Φ x y g)))))))
set_option maxRecDepth 100000 in
set_option maxHeartbeats 4000000 in
theorem kX4_insert {l : Launch} {D : va_G} {E : va_W} {ad : Nat → Nat → Nat} {wd sk : Nat → Nat} {cI cB cP cT : ClassId} {sz : Nat} (x0 : Nat → Nat → Int32) (y0 : Nat → Nat → Nat) (g0 : Nat → Nat → Nat → Int32) (q0 : Nat) (a1 : Int32) (BC BS : Nat) {Φ : (Nat → Nat → Int32) → (Nat → Nat → Nat) → (Nat → Nat → Nat → Int32) → Prop} (h : wX4_insert x0 y0 g0 q0 a1 BC BS Φ) (hq0 : q0 < 12) : Met l yX4_insert (zws yX4_insert cX4_insert 4 none) { frames := 2, cells := BC, slots := BS, locals := 83 } (zPc D (cTy cI cB cP cT) (cX wd sk) (cW E ad wd cI cB cP cT (x0, y0, g0)) [.ref (ad 5 q0), .int a1] sz) (zQv D (cTy cI cB cP cT) (cW E ad wd cI cB cP cT) (fun u => Φ u.1 u.2.1 u.2.2) (cW E ad wd cI cB cP cT (x0, y0, g0)) sz) BC BS (va_A (cW E ad wd cI cB cP cT (x0, y0, g0)) sz) := by
  refine zMet (by decide) (Nat.le_of_ble_eq_true rfl) ?_
  intro p e s m args below meth c A hx hb hr hml hown hts hlocks hsz hAe hA hS hP hK hD hX ls hl
  subst hsz
  have hF : zFx p s m args c cX4_insert RX4 A D (cTy cI cB cP cT) (cX wd sk) 4 := ⟨hx, hb, hml, hown, hts, hA, hK, cX_cl wd sk, hX⟩
  have hl : lv_has ls 4 [(0, .ref (ad 5 q0)), (1, .int a1)] := hl
  have hB : 0 + BC ≤ BC ∧ 0 + BS ≤ BS := ⟨by omega, by omega⟩
  have L71 : ∀ n71 : Nat, ∀ (x : Nat → Nat → Int32) (y : Nat → Nat → Nat) (g : Nat → Nat → Nat → Int32) (q0 : Nat) (v2 : Int32) (v3 : Int32) (bc bs : Nat), lX4_insert_71 Φ n71 x y g q0 v2 v3 bc bs → q0 < 12 → ∀ (cells slots : Nat), (cells + bc ≤ BC ∧ slots + bs ≤ BS) → ∀ (H : Heap) (locs : List Loc) (ls : Array Slot), va_P D vwCl (cW E ad wd cI cB cP cT (x, y, g)) H → va_D A (cW E ad wd cI cB cP cT (x, y, g)) → va_S A s.heap H locs → lv_has ls 4 [(0, .ref (ad 5 q0)), (2, .int v2), (3, .int v3)] → W p l e { frames := 2, cells := BC, slots := BS, locals := 83 } s m args below meth c H locs cells slots (MQ below (zQv D (cTy cI cB cP cT) (cW E ad wd cI cB cP cT) (fun u => Φ u.1 u.2.1 u.2.2) (cW E ad wd cI cB cP cT (x0, y0, g0)) s.heap.size) args s BC BS (va_A (cW E ad wd cI cB cP cT (x0, y0, g0)) s.heap.size)) (F0 m 71 ls []) := by
    intro n71
    induction n71 with
    | zero => intro x y g q0 v2 v3 bc bs h hcq0 cells slots hB H locs ls hP hD hS hl; exact h.elim
    | succ n71 ih71 =>
      intro x y g q0 v2 v3 bc bs h hcq0 cells slots hB H locs ls hP hD hS hl
      unfold lX4_insert_71 at h
      refine lv_iload_n (pc := 71) hx hb dX4_insert_71 rfl (lv_at hl 2 rfl) ?_
      refine lv_aload_n (pc := 72) hx hb dX4_insert_72 rfl (lv_at hl 0 rfl) ?_
      refine cG_X4_width (pc := 73) hF hP (i := q0) (by omega) lkX4_15 (v := ((x 0) q0)) rfl dX4_insert_73 ?_
      refine lv_icmp_ge (pc := 76) (tgt := 94) hx hb dX4_insert_76 (by decide) (fun c_76 => ?_) (fun c_76 => ?_)
      · have h := h.1 c_76
        refine lv_aload_n (pc := 94) hx hb dX4_insert_94 rfl (lv_at hl 0 rfl) ?_
        refine lv_dup (pc := 95) hx hb dX4_insert_95 rfl ?_
        refine cG_X4_count (pc := 96) hF hP (i := q0) (by omega) lkX4_25 (v := ((x 1) q0)) rfl dX4_insert_96 ?_
        refine lv_iconst (pc := 99) (v := 1) hx hb dX4_insert_99 (by decide) ?_
        refine lv_iadd (pc := 100) hx hb dX4_insert_100 ?_
        refine cP_X4_count (pc := 101) hF hP hD hS (i := q0) (by omega) lkX4_25 dX4_insert_101 (fun H locs hP hD hS => ?_)
        exact zvr (pc := 104) (Wd := cW E ad wd cI cB cP cT) (u := ((va_up x 1 (va_up (x 1) q0 (((x 1) q0) + 1))), y, g)) hx hb hr hlocks hAe hK hP hD hS dX4_insert_104 (by omega) (by omega) h
      · have h := h.2 c_76
        refine lv_aload_n (pc := 79) hx hb dX4_insert_79 rfl (lv_at hl 0 rfl) ?_
        refine cG_X4_cells (pc := 80) hF hP (i := q0) (by omega) lkX4_21 dX4_insert_80 ?_
        refine lv_iload_n (pc := 83) hx hb dX4_insert_83 rfl (lv_at hl 1 rfl) ?_
        refine lv_iload_n (pc := 84) hx hb dX4_insert_84 rfl (lv_at hl 2 rfl) ?_
        refine lv_iadd (pc := 85) hx hb dX4_insert_85 ?_
        refine lv_iconst (pc := 86) (v := 0) hx hb dX4_insert_86 (by decide) ?_
        obtain ⟨hi_87, h⟩ := h
        refine cT_RA (pc := 87) hF hP hD hS (i := q0) (by omega) (f := ((g 0) q0)) rfl hi_87 dX4_insert_87 (fun H locs hP hD hS => ?_)
        obtain ⟨v3_88, e_v3_88⟩ : ∃ y : Int32, y = v3 + 1 := ⟨_, rfl⟩
        replace h := h v3_88 e_v3_88
        refine lv_iinc (pc := 88) (v := v3_88) (lv' := [(3, .int v3_88), (0, .ref (ad 5 q0)), (2, .int v2)]) hx hb dX4_insert_88 hl (k := 2) rfl (by rw [e_v3_88]; rfl) (by decide) rfl (fun ls hl => ?_)
        refine lv_goto (pc := 91) (tgt := 71) hx hb dX4_insert_91 (by decide) ?_
        exact ih71 x y (va_up g 0 (va_up (g 0) q0 (upd ((g 0) q0) (v2 + v3).toNatClampNeg 0))) q0 v2 v3_88 bc bs h (by omega) _ _ hB _ _ _ hP hD hS (lv_sub hl [1, 2, 0] rfl)
  unfold wX4_insert at h
  refine lv_iload_n (pc := 0) hx hb dX4_insert_0 rfl (lv_at hl 1 rfl) ?_
  refine lv_if_lt (pc := 1) (tgt := 22) hx hb dX4_insert_1 (by decide) (fun c_1 => ?_) (fun c_1 => ?_)
  · have h := h.1 c_1
    exact zvr (pc := 22) (Wd := cW E ad wd cI cB cP cT) (u := (x0, y0, g0)) hx hb hr hlocks hAe hK hP hD hS dX4_insert_22 (by omega) (by omega) h
  · have h := h.2 c_1
    refine lv_iload_n (pc := 4) hx hb dX4_insert_4 rfl (lv_at hl 1 rfl) ?_
    refine lv_aload_n (pc := 5) hx hb dX4_insert_5 rfl (lv_at hl 0 rfl) ?_
    refine cG_X4_count (pc := 6) hF hP (i := q0) (by omega) lkX4_25 (v := ((x0 1) q0)) rfl dX4_insert_6 ?_
    refine lv_icmp_gt (pc := 9) (tgt := 22) hx hb dX4_insert_9 (by decide) (fun c_9 => ?_) (fun c_9 => ?_)
    · have h := h.1 c_9
      exact zvr (pc := 22) (Wd := cW E ad wd cI cB cP cT) (u := (x0, y0, g0)) hx hb hr hlocks hAe hK hP hD hS dX4_insert_22 (by omega) (by omega) h
    · have h := h.2 c_9
      refine lv_aload_n (pc := 12) hx hb dX4_insert_12 rfl (lv_at hl 0 rfl) ?_
      refine cG_X4_count (pc := 13) hF hP (i := q0) (by omega) lkX4_25 (v := ((x0 1) q0)) rfl dX4_insert_13 ?_
      refine lv_sipush (pc := 16) (v := 4096) hx hb dX4_insert_16 (by decide) ?_
      refine lv_icmp_lt (pc := 19) (tgt := 23) hx hb dX4_insert_19 (by decide) (fun c_19 => ?_) (fun c_19 => ?_)
      · have h := h.1 c_19
        refine lv_aload_n (pc := 23) hx hb dX4_insert_23 rfl (lv_at hl 0 rfl) ?_
        refine lv_aload_n (pc := 24) hx hb dX4_insert_24 rfl (lv_at hl 0 rfl) ?_
        refine cG_X4_count (pc := 25) hF hP (i := q0) (by omega) lkX4_25 (v := ((x0 1) q0)) rfl dX4_insert_25 ?_
        refine lv_iconst (pc := 28) (v := 1) hx hb dX4_insert_28 (by decide) ?_
        refine lv_iadd (pc := 29) hx hb dX4_insert_29 ?_
        obtain ⟨kc_30, ks_30, bc_30, bs_30, ec_30, es_30, h⟩ := h
        refine cVv (pc := 30) (x := x0) (y := y0) (g := g0) [.int (((x0 1) q0) + 1)] hF (kX4_makeRoom x0 y0 g0 q0 (((x0 1) q0) + 1) kc_30 ks_30 h (by omega)) (cwX4_X4_makeRoom hts ⟨Nat.le_of_ble_eq_true rfl, Nat.le_of_ble_eq_true rfl⟩) rfl (cA_R _ _ _ _ _ _ _ _ _ _ (i := q0) (by omega)) hP hD hS rfl rfl hl.1 (Nat.le_of_ble_eq_true rfl) dX4_insert_30 ⟨by show _ ≤ BC; omega, by show _ ≤ BS; omega⟩ (fun x_30 y_30 g_30 H locs h hP hD hS => ?_)
        have hB : (0 + kc_30) + bc_30 ≤ BC ∧ (0 + ks_30) + bs_30 ≤ BS := ⟨by omega, by omega⟩
        refine lv_iload_n (pc := 33) hx hb dX4_insert_33 rfl (lv_at hl 1 rfl) ?_
        refine lv_aload_n (pc := 34) hx hb dX4_insert_34 rfl (lv_at hl 0 rfl) ?_
        refine cG_X4_width (pc := 35) hF hP (i := q0) (by omega) lkX4_15 (v := ((x_30 0) q0)) rfl dX4_insert_35 ?_
        refine lv_imul (pc := 38) hx hb dX4_insert_38 ?_
        refine lv_topi (fun v2_39 e_v2_39 => ?_)
        replace h := h v2_39 e_v2_39
        refine lv_istore_n (pc := 39) (lv' := [(2, .int v2_39), (0, .ref (ad 5 q0)), (1, .int a1)]) hx hb dX4_insert_39 rfl hl (by decide) rfl (fun ls hl => ?_)
        refine lv_aload_n (pc := 40) hx hb dX4_insert_40 rfl (lv_at hl 1 rfl) ?_
        refine cG_X4_cells (pc := 41) hF hP (i := q0) (by omega) lkX4_21 dX4_insert_41 ?_
        refine lv_iload_n (pc := 44) hx hb dX4_insert_44 rfl (lv_at hl 0 rfl) ?_
        refine lv_aload_n (pc := 45) hx hb dX4_insert_45 rfl (lv_at hl 1 rfl) ?_
        refine cG_X4_cells (pc := 46) hF hP (i := q0) (by omega) lkX4_21 dX4_insert_46 ?_
        refine lv_iload_n (pc := 49) hx hb dX4_insert_49 rfl (lv_at hl 0 rfl) ?_
        refine lv_aload_n (pc := 50) hx hb dX4_insert_50 rfl (lv_at hl 1 rfl) ?_
        refine cG_X4_width (pc := 51) hF hP (i := q0) (by omega) lkX4_15 (v := ((x_30 0) q0)) rfl dX4_insert_51 ?_
        refine lv_iadd (pc := 54) hx hb dX4_insert_54 ?_
        refine lv_aload_n (pc := 55) hx hb dX4_insert_55 rfl (lv_at hl 1 rfl) ?_
        refine cG_X4_count (pc := 56) hF hP (i := q0) (by omega) lkX4_25 (v := ((x_30 1) q0)) rfl dX4_insert_56 ?_
        refine lv_iload_n (pc := 59) hx hb dX4_insert_59 rfl (lv_at hl 2 rfl) ?_
        refine lv_isub (pc := 60) hx hb dX4_insert_60 ?_
        refine lv_aload_n (pc := 61) hx hb dX4_insert_61 rfl (lv_at hl 1 rfl) ?_
        refine cG_X4_width (pc := 62) hF hP (i := q0) (by omega) lkX4_15 (v := ((x_30 0) q0)) rfl dX4_insert_62 ?_
        refine lv_imul (pc := 65) hx hb dX4_insert_65 ?_
        obtain ⟨h1_66, h2_66, h3_66, h4_66, h5_66, h⟩ := h
        refine c_copy (pc := 66) hF hP hl.1 hD hS (i := q0) (j := q0) (by omega) (by omega) (f := ((g_30 0) q0)) (f1 := ((g_30 0) q0)) rfl rfl h1_66 h2_66 h3_66 h4_66 h5_66 mlX4_36 ⟨Nat.le_of_ble_eq_true rfl, by show _ ≤ (83 : Nat); decide⟩ dX4_insert_66 (fun H locs hP hD hS => ?_)
        refine lv_iconst (pc := 69) (v := 0) hx hb dX4_insert_69 (by decide) ?_
        refine lv_istore_n (pc := 70) (lv' := [(3, .int 0), (2, .int v2_39), (0, .ref (ad 5 q0)), (1, .int a1)]) hx hb dX4_insert_70 rfl hl (by decide) rfl (fun ls hl => ?_)
        obtain ⟨n71, h⟩ := h
        exact L71 n71 x_30 y_30 (va_up g_30 0 (va_up (g_30 0) q0 (va_cpy ((g_30 0) q0) ((g_30 0) q0) v2_39.toNatClampNeg (v2_39 + ((x_30 0) q0)).toNatClampNeg ((((x_30 1) q0) - a1) * ((x_30 0) q0)).toNatClampNeg))) q0 v2_39 0 bc_30 bs_30 h (by omega) _ _ hB _ _ _ hP hD hS (lv_sub hl [2, 1, 0] rfl)
      · have h := h.2 c_19
        exact zvr (pc := 22) (Wd := cW E ad wd cI cB cP cT) (u := (x0, y0, g0)) hx hb hr hlocks hAe hK hP hD hS dX4_insert_22 (by omega) (by omega) h

def wX0_putResult (x : Nat → Nat → Int32) (y : Nat → Nat → Nat) (g : Nat → Nat → Nat → Int32) (a1 : Int32) (a2 : Int32) (a3 : Int32) (bc bs : Nat) (Φ : (Nat → Nat → Int32) → (Nat → Nat → Nat) → (Nat → Nat → Nat → Int32) → Prop) : Prop := (∀ v4_7 : Int32, v4_7 = ((x 1) 4) → (∃ kc_15 ks_15 bc_15 bs_15 : Nat, kc_15 + bc_15 ≤ bc ∧ ks_15 + bs_15 ≤ bs ∧ (wX4_insert x y g 4 v4_7 kc_15 ks_15 (fun x_15 y_15 g_15 => (wX4_get x_15 y_15 g_15 5 a1 0 (fun r_34 => (wX4_set x_15 y_15 g_15 4 v4_7 0 r_34 (fun x_37 y_37 g_37 => (wX4_get x_37 y_37 g_37 5 a1 1 (fun r_56 => (wX4_set x_37 y_37 g_37 4 v4_7 1 r_56 (fun x_59 y_59 g_59 => (wX4_get x_59 y_59 g_59 5 a1 2 (fun r_78 => (wX4_set x_59 y_59 g_59 4 v4_7 2 r_78 (fun x_81 y_81 g_81 => (wX4_set x_81 y_81 g_81 4 v4_7 3 a2 (fun x_92 y_92 g_92 => (wX4_set x_92 y_92 g_92 4 v4_7 4 a3 (fun x_103 y_103 g_103 => (Φ x_103 y_103 g_103)))))))))))))))))))))
set_option maxRecDepth 100000 in
set_option maxHeartbeats 4000000 in
theorem kX0_putResult {l : Launch} {D : va_G} {E : va_W} {ad : Nat → Nat → Nat} {wd sk : Nat → Nat} {cI cB cP cT : ClassId} {sz : Nat} (x0 : Nat → Nat → Int32) (y0 : Nat → Nat → Nat) (g0 : Nat → Nat → Nat → Int32) (a1 : Int32) (a2 : Int32) (a3 : Int32) (BC BS : Nat) {Φ : (Nat → Nat → Int32) → (Nat → Nat → Nat) → (Nat → Nat → Nat → Int32) → Prop} (h : wX0_putResult x0 y0 g0 a1 a2 a3 BC BS Φ) : Met l yX0_putResult (zws yX0_putResult cX0_putResult 5 none) { frames := 3, cells := BC, slots := BS, locals := 106 } (zPc D (cTy cI cB cP cT) (cX wd sk) (cW E ad wd cI cB cP cT (x0, y0, g0)) [.ref (ad 2 0), .int a1, .int a2, .int a3] sz) (zQv D (cTy cI cB cP cT) (cW E ad wd cI cB cP cT) (fun u => Φ u.1 u.2.1 u.2.2) (cW E ad wd cI cB cP cT (x0, y0, g0)) sz) BC BS (va_A (cW E ad wd cI cB cP cT (x0, y0, g0)) sz) := by
  refine zMet (by decide) (Nat.le_of_ble_eq_true rfl) ?_
  intro p e s m args below meth c A hx hb hr hml hown hts hlocks hsz hAe hA hS hP hK hD hX ls hl
  subst hsz
  have hF : zFx p s m args c cX0_putResult RX0 A D (cTy cI cB cP cT) (cX wd sk) 5 := ⟨hx, hb, hml, hown, hts, hA, hK, cX_cl wd sk, hX⟩
  have hl : lv_has ls 5 [(0, .ref (ad 2 0)), (1, .int a1), (2, .int a2), (3, .int a3)] := hl
  have hB : 0 + BC ≤ BC ∧ 0 + BS ≤ BS := ⟨by omega, by omega⟩
  unfold wX0_putResult at h
  refine lv_aload_n (pc := 0) hx hb dX0_putResult_0 rfl (lv_at hl 0 rfl) ?_
  refine cG_X0_told (pc := 1) hF hP lkX0_26 dX0_putResult_1 ?_
  refine cGN_X4_count (pc := 4) hF hP (i := 4) (by omega) lkX0_53 (v := ((x0 1) 4)) rfl dX0_putResult_4 ?_
  refine lv_topi (fun v4_7 e_v4_7 => ?_)
  replace h := h v4_7 e_v4_7
  refine lv_istore (pc := 7) (lv' := [(4, .int v4_7), (0, .ref (ad 2 0)), (1, .int a1), (2, .int a2), (3, .int a3)]) hx hb dX0_putResult_7 hl (by decide) rfl (fun ls hl => ?_)
  refine lv_aload_n (pc := 9) hx hb dX0_putResult_9 rfl (lv_at hl 1 rfl) ?_
  refine cG_X0_told (pc := 10) hF hP lkX0_26 dX0_putResult_10 ?_
  refine lv_iload (pc := 13) hx hb dX0_putResult_13 (lv_at hl 0 rfl) ?_
  obtain ⟨kc_15, ks_15, bc_15, bs_15, ec_15, es_15, h⟩ := h
  refine cVv (pc := 15) (x := x0) (y := y0) (g := g0) [.int v4_7] hF (kX4_insert x0 y0 g0 4 v4_7 kc_15 ks_15 h (by omega)) (cwX0_X4_insert hts ⟨Nat.le_of_ble_eq_true rfl, Nat.le_of_ble_eq_true rfl⟩) rfl (cA_R _ _ _ _ _ _ _ _ _ _ (i := 4) (by omega)) hP hD hS rfl rfl hl.1 (Nat.le_of_ble_eq_true rfl) dX0_putResult_15 ⟨by show _ ≤ BC; omega, by show _ ≤ BS; omega⟩ (fun x_15 y_15 g_15 H locs h hP hD hS => ?_)
  have hB : (0 + kc_15) + bc_15 ≤ BC ∧ (0 + ks_15) + bs_15 ≤ BS := ⟨by omega, by omega⟩
  refine lv_aload_n (pc := 18) hx hb dX0_putResult_18 rfl (lv_at hl 1 rfl) ?_
  refine cG_X0_told (pc := 19) hF hP lkX0_26 dX0_putResult_19 ?_
  refine lv_iload (pc := 22) hx hb dX0_putResult_22 (lv_at hl 0 rfl) ?_
  refine lv_iconst (pc := 24) (v := 0) hx hb dX0_putResult_24 (by decide) ?_
  refine lv_aload_n (pc := 25) hx hb dX0_putResult_25 rfl (lv_at hl 1 rfl) ?_
  refine cG_X0_now (pc := 26) hF hP lkX0_32 dX0_putResult_26 ?_
  refine cGN_X6_windows (pc := 29) hF hP (i := 0) (by omega) lkX0_135 dX0_putResult_29 ?_
  refine lv_iload_n (pc := 32) hx hb dX0_putResult_32 rfl (lv_at hl 2 rfl) ?_
  refine lv_iconst (pc := 33) (v := 0) hx hb dX0_putResult_33 (by decide) ?_
  refine cVip (pc := 34) (x := x_15) (y := y_15) (g := g_15) [.int a1, .int 0] hF (kX4_get x_15 y_15 g_15 5 a1 0 h (by omega)) (cwX0_X4_get hts ⟨Nat.le_of_ble_eq_true rfl, Nat.le_of_ble_eq_true rfl⟩) rfl (cA_R _ _ _ _ _ _ _ _ _ _ (i := 5) (by omega)) hP hD hS rfl rfl hl.1 (Nat.le_of_ble_eq_true rfl) dX0_putResult_34 ⟨by show _ ≤ BC; omega, by show _ ≤ BS; omega⟩ (fun r_34 H locs h hP hD hS => ?_)
  refine cVv (pc := 37) (x := x_15) (y := y_15) (g := g_15) [.int v4_7, .int 0, .int r_34] hF (kX4_set x_15 y_15 g_15 4 v4_7 0 r_34 h (by omega)) (cwX0_X4_set hts ⟨Nat.le_of_ble_eq_true rfl, Nat.le_of_ble_eq_true rfl⟩) rfl (cA_R _ _ _ _ _ _ _ _ _ _ (i := 4) (by omega)) hP hD hS rfl rfl hl.1 (Nat.le_of_ble_eq_true rfl) dX0_putResult_37 ⟨by show _ ≤ BC; omega, by show _ ≤ BS; omega⟩ (fun x_37 y_37 g_37 H locs h hP hD hS => ?_)
  refine lv_aload_n (pc := 40) hx hb dX0_putResult_40 rfl (lv_at hl 1 rfl) ?_
  refine cG_X0_told (pc := 41) hF hP lkX0_26 dX0_putResult_41 ?_
  refine lv_iload (pc := 44) hx hb dX0_putResult_44 (lv_at hl 0 rfl) ?_
  refine lv_iconst (pc := 46) (v := 1) hx hb dX0_putResult_46 (by decide) ?_
  refine lv_aload_n (pc := 47) hx hb dX0_putResult_47 rfl (lv_at hl 1 rfl) ?_
  refine cG_X0_now (pc := 48) hF hP lkX0_32 dX0_putResult_48 ?_
  refine cGN_X6_windows (pc := 51) hF hP (i := 0) (by omega) lkX0_135 dX0_putResult_51 ?_
  refine lv_iload_n (pc := 54) hx hb dX0_putResult_54 rfl (lv_at hl 2 rfl) ?_
  refine lv_iconst (pc := 55) (v := 1) hx hb dX0_putResult_55 (by decide) ?_
  refine cVip (pc := 56) (x := x_37) (y := y_37) (g := g_37) [.int a1, .int 1] hF (kX4_get x_37 y_37 g_37 5 a1 1 h (by omega)) (cwX0_X4_get hts ⟨Nat.le_of_ble_eq_true rfl, Nat.le_of_ble_eq_true rfl⟩) rfl (cA_R _ _ _ _ _ _ _ _ _ _ (i := 5) (by omega)) hP hD hS rfl rfl hl.1 (Nat.le_of_ble_eq_true rfl) dX0_putResult_56 ⟨by show _ ≤ BC; omega, by show _ ≤ BS; omega⟩ (fun r_56 H locs h hP hD hS => ?_)
  refine cVv (pc := 59) (x := x_37) (y := y_37) (g := g_37) [.int v4_7, .int 1, .int r_56] hF (kX4_set x_37 y_37 g_37 4 v4_7 1 r_56 h (by omega)) (cwX0_X4_set hts ⟨Nat.le_of_ble_eq_true rfl, Nat.le_of_ble_eq_true rfl⟩) rfl (cA_R _ _ _ _ _ _ _ _ _ _ (i := 4) (by omega)) hP hD hS rfl rfl hl.1 (Nat.le_of_ble_eq_true rfl) dX0_putResult_59 ⟨by show _ ≤ BC; omega, by show _ ≤ BS; omega⟩ (fun x_59 y_59 g_59 H locs h hP hD hS => ?_)
  refine lv_aload_n (pc := 62) hx hb dX0_putResult_62 rfl (lv_at hl 1 rfl) ?_
  refine cG_X0_told (pc := 63) hF hP lkX0_26 dX0_putResult_63 ?_
  refine lv_iload (pc := 66) hx hb dX0_putResult_66 (lv_at hl 0 rfl) ?_
  refine lv_iconst (pc := 68) (v := 2) hx hb dX0_putResult_68 (by decide) ?_
  refine lv_aload_n (pc := 69) hx hb dX0_putResult_69 rfl (lv_at hl 1 rfl) ?_
  refine cG_X0_now (pc := 70) hF hP lkX0_32 dX0_putResult_70 ?_
  refine cGN_X6_windows (pc := 73) hF hP (i := 0) (by omega) lkX0_135 dX0_putResult_73 ?_
  refine lv_iload_n (pc := 76) hx hb dX0_putResult_76 rfl (lv_at hl 2 rfl) ?_
  refine lv_iconst (pc := 77) (v := 2) hx hb dX0_putResult_77 (by decide) ?_
  refine cVip (pc := 78) (x := x_59) (y := y_59) (g := g_59) [.int a1, .int 2] hF (kX4_get x_59 y_59 g_59 5 a1 2 h (by omega)) (cwX0_X4_get hts ⟨Nat.le_of_ble_eq_true rfl, Nat.le_of_ble_eq_true rfl⟩) rfl (cA_R _ _ _ _ _ _ _ _ _ _ (i := 5) (by omega)) hP hD hS rfl rfl hl.1 (Nat.le_of_ble_eq_true rfl) dX0_putResult_78 ⟨by show _ ≤ BC; omega, by show _ ≤ BS; omega⟩ (fun r_78 H locs h hP hD hS => ?_)
  refine cVv (pc := 81) (x := x_59) (y := y_59) (g := g_59) [.int v4_7, .int 2, .int r_78] hF (kX4_set x_59 y_59 g_59 4 v4_7 2 r_78 h (by omega)) (cwX0_X4_set hts ⟨Nat.le_of_ble_eq_true rfl, Nat.le_of_ble_eq_true rfl⟩) rfl (cA_R _ _ _ _ _ _ _ _ _ _ (i := 4) (by omega)) hP hD hS rfl rfl hl.1 (Nat.le_of_ble_eq_true rfl) dX0_putResult_81 ⟨by show _ ≤ BC; omega, by show _ ≤ BS; omega⟩ (fun x_81 y_81 g_81 H locs h hP hD hS => ?_)
  refine lv_aload_n (pc := 84) hx hb dX0_putResult_84 rfl (lv_at hl 1 rfl) ?_
  refine cG_X0_told (pc := 85) hF hP lkX0_26 dX0_putResult_85 ?_
  refine lv_iload (pc := 88) hx hb dX0_putResult_88 (lv_at hl 0 rfl) ?_
  refine lv_iconst (pc := 90) (v := 3) hx hb dX0_putResult_90 (by decide) ?_
  refine lv_iload_n (pc := 91) hx hb dX0_putResult_91 rfl (lv_at hl 3 rfl) ?_
  refine cVv (pc := 92) (x := x_81) (y := y_81) (g := g_81) [.int v4_7, .int 3, .int a2] hF (kX4_set x_81 y_81 g_81 4 v4_7 3 a2 h (by omega)) (cwX0_X4_set hts ⟨Nat.le_of_ble_eq_true rfl, Nat.le_of_ble_eq_true rfl⟩) rfl (cA_R _ _ _ _ _ _ _ _ _ _ (i := 4) (by omega)) hP hD hS rfl rfl hl.1 (Nat.le_of_ble_eq_true rfl) dX0_putResult_92 ⟨by show _ ≤ BC; omega, by show _ ≤ BS; omega⟩ (fun x_92 y_92 g_92 H locs h hP hD hS => ?_)
  refine lv_aload_n (pc := 95) hx hb dX0_putResult_95 rfl (lv_at hl 1 rfl) ?_
  refine cG_X0_told (pc := 96) hF hP lkX0_26 dX0_putResult_96 ?_
  refine lv_iload (pc := 99) hx hb dX0_putResult_99 (lv_at hl 0 rfl) ?_
  refine lv_iconst (pc := 101) (v := 4) hx hb dX0_putResult_101 (by decide) ?_
  refine lv_iload_n (pc := 102) hx hb dX0_putResult_102 rfl (lv_at hl 4 rfl) ?_
  refine cVv (pc := 103) (x := x_92) (y := y_92) (g := g_92) [.int v4_7, .int 4, .int a3] hF (kX4_set x_92 y_92 g_92 4 v4_7 4 a3 h (by omega)) (cwX0_X4_set hts ⟨Nat.le_of_ble_eq_true rfl, Nat.le_of_ble_eq_true rfl⟩) rfl (cA_R _ _ _ _ _ _ _ _ _ _ (i := 4) (by omega)) hP hD hS rfl rfl hl.1 (Nat.le_of_ble_eq_true rfl) dX0_putResult_103 ⟨by show _ ≤ BC; omega, by show _ ≤ BS; omega⟩ (fun x_103 y_103 g_103 H locs h hP hD hS => ?_)
  exact zvr (pc := 106) (Wd := cW E ad wd cI cB cP cT) (u := (x_103, y_103, g_103)) hx hb hr hlocks hAe hK hP hD hS dX0_putResult_106 (by omega) (by omega) h

def wX4_remove (x : Nat → Nat → Int32) (y : Nat → Nat → Nat) (g : Nat → Nat → Nat → Int32) (q0 : Nat) (a1 : Int32) (a2 : Int32) (Φ : (Nat → Nat → Int32) → (Nat → Nat → Nat) → (Nat → Nat → Nat → Int32) → Prop) : Prop := ((a1 < 0 → (Φ x y g)) ∧ (¬ a1 < 0 → ((a2 < 0 → (Φ x y g)) ∧ (¬ a2 < 0 → ((a1 ≤ (((x 1) q0) - a2) → (∀ v3_22 : Int32, v3_22 = (a1 + a2) → (¬ (v3_22 * ((x 0) q0)) < 0 ∧ ¬ (a1 * ((x 0) q0)) < 0 ∧ ¬ ((((x 1) q0) - v3_22) * ((x 0) q0)) < 0 ∧ (v3_22 * ((x 0) q0)).toNatClampNeg + ((((x 1) q0) - v3_22) * ((x 0) q0)).toNatClampNeg ≤ ((y 1) q0) ∧ (a1 * ((x 0) q0)).toNatClampNeg + ((((x 1) q0) - v3_22) * ((x 0) q0)).toNatClampNeg ≤ ((y 1) q0) ∧ (Φ (va_up x 1 (va_up (x 1) q0 (((x 1) q0) - a2))) y (va_up g 0 (va_up (g 0) q0 (va_cpy ((g 0) q0) ((g 0) q0) (v3_22 * ((x 0) q0)).toNatClampNeg (a1 * ((x 0) q0)).toNatClampNeg ((((x 1) q0) - v3_22) * ((x 0) q0)).toNatClampNeg))))))) ∧ (¬ a1 ≤ (((x 1) q0) - a2) → (Φ x y g)))))))
set_option maxRecDepth 100000 in
set_option maxHeartbeats 4000000 in
theorem kX4_remove {l : Launch} {D : va_G} {E : va_W} {ad : Nat → Nat → Nat} {wd sk : Nat → Nat} {cI cB cP cT : ClassId} {sz : Nat} (x0 : Nat → Nat → Int32) (y0 : Nat → Nat → Nat) (g0 : Nat → Nat → Nat → Int32) (q0 : Nat) (a1 : Int32) (a2 : Int32) {Φ : (Nat → Nat → Int32) → (Nat → Nat → Nat) → (Nat → Nat → Nat → Int32) → Prop} (h : wX4_remove x0 y0 g0 q0 a1 a2 Φ) (hq0 : q0 < 12) : Met l yX4_remove (zws yX4_remove cX4_remove 4 none) { frames := 1, cells := 0, slots := 0, locals := 60 } (zPc D (cTy cI cB cP cT) (cX wd sk) (cW E ad wd cI cB cP cT (x0, y0, g0)) [.ref (ad 5 q0), .int a1, .int a2] sz) (zQv D (cTy cI cB cP cT) (cW E ad wd cI cB cP cT) (fun u => Φ u.1 u.2.1 u.2.2) (cW E ad wd cI cB cP cT (x0, y0, g0)) sz) 0 0 (va_A (cW E ad wd cI cB cP cT (x0, y0, g0)) sz) := by
  refine zMet (by decide) (Nat.le_of_ble_eq_true rfl) ?_
  intro p e s m args below meth c A hx hb hr hml hown hts hlocks hsz hAe hA hS hP hK hD hX ls hl
  subst hsz
  have hF : zFx p s m args c cX4_remove RX4 A D (cTy cI cB cP cT) (cX wd sk) 4 := ⟨hx, hb, hml, hown, hts, hA, hK, cX_cl wd sk, hX⟩
  have hl : lv_has ls 4 [(0, .ref (ad 5 q0)), (1, .int a1), (2, .int a2)] := hl
  unfold wX4_remove at h
  refine lv_iload_n (pc := 0) hx hb dX4_remove_0 rfl (lv_at hl 1 rfl) ?_
  refine lv_if_lt (pc := 1) (tgt := 18) hx hb dX4_remove_1 (by decide) (fun c_1 => ?_) (fun c_1 => ?_)
  · have h := h.1 c_1
    exact zvr (pc := 18) (Wd := cW E ad wd cI cB cP cT) (u := (x0, y0, g0)) hx hb hr hlocks hAe hK hP hD hS dX4_remove_18 (Nat.le_refl _) (Nat.le_refl _) h
  · have h := h.2 c_1
    refine lv_iload_n (pc := 4) hx hb dX4_remove_4 rfl (lv_at hl 2 rfl) ?_
    refine lv_if_lt (pc := 5) (tgt := 18) hx hb dX4_remove_5 (by decide) (fun c_5 => ?_) (fun c_5 => ?_)
    · have h := h.1 c_5
      exact zvr (pc := 18) (Wd := cW E ad wd cI cB cP cT) (u := (x0, y0, g0)) hx hb hr hlocks hAe hK hP hD hS dX4_remove_18 (Nat.le_refl _) (Nat.le_refl _) h
    · have h := h.2 c_5
      refine lv_iload_n (pc := 8) hx hb dX4_remove_8 rfl (lv_at hl 1 rfl) ?_
      refine lv_aload_n (pc := 9) hx hb dX4_remove_9 rfl (lv_at hl 0 rfl) ?_
      refine cG_X4_count (pc := 10) hF hP (i := q0) (by omega) lkX4_25 (v := ((x0 1) q0)) rfl dX4_remove_10 ?_
      refine lv_iload_n (pc := 13) hx hb dX4_remove_13 rfl (lv_at hl 2 rfl) ?_
      refine lv_isub (pc := 14) hx hb dX4_remove_14 ?_
      refine lv_icmp_le (pc := 15) (tgt := 19) hx hb dX4_remove_15 (by decide) (fun c_15 => ?_) (fun c_15 => ?_)
      · have h := h.1 c_15
        refine lv_iload_n (pc := 19) hx hb dX4_remove_19 rfl (lv_at hl 1 rfl) ?_
        refine lv_iload_n (pc := 20) hx hb dX4_remove_20 rfl (lv_at hl 2 rfl) ?_
        refine lv_iadd (pc := 21) hx hb dX4_remove_21 ?_
        refine lv_topi (fun v3_22 e_v3_22 => ?_)
        replace h := h v3_22 e_v3_22
        refine lv_istore_n (pc := 22) (lv' := [(3, .int v3_22), (0, .ref (ad 5 q0)), (1, .int a1), (2, .int a2)]) hx hb dX4_remove_22 rfl hl (by decide) rfl (fun ls hl => ?_)
        refine lv_aload_n (pc := 23) hx hb dX4_remove_23 rfl (lv_at hl 1 rfl) ?_
        refine cG_X4_cells (pc := 24) hF hP (i := q0) (by omega) lkX4_21 dX4_remove_24 ?_
        refine lv_iload_n (pc := 27) hx hb dX4_remove_27 rfl (lv_at hl 0 rfl) ?_
        refine lv_aload_n (pc := 28) hx hb dX4_remove_28 rfl (lv_at hl 1 rfl) ?_
        refine cG_X4_width (pc := 29) hF hP (i := q0) (by omega) lkX4_15 (v := ((x0 0) q0)) rfl dX4_remove_29 ?_
        refine lv_imul (pc := 32) hx hb dX4_remove_32 ?_
        refine lv_aload_n (pc := 33) hx hb dX4_remove_33 rfl (lv_at hl 1 rfl) ?_
        refine cG_X4_cells (pc := 34) hF hP (i := q0) (by omega) lkX4_21 dX4_remove_34 ?_
        refine lv_iload_n (pc := 37) hx hb dX4_remove_37 rfl (lv_at hl 2 rfl) ?_
        refine lv_aload_n (pc := 38) hx hb dX4_remove_38 rfl (lv_at hl 1 rfl) ?_
        refine cG_X4_width (pc := 39) hF hP (i := q0) (by omega) lkX4_15 (v := ((x0 0) q0)) rfl dX4_remove_39 ?_
        refine lv_imul (pc := 42) hx hb dX4_remove_42 ?_
        refine lv_aload_n (pc := 43) hx hb dX4_remove_43 rfl (lv_at hl 1 rfl) ?_
        refine cG_X4_count (pc := 44) hF hP (i := q0) (by omega) lkX4_25 (v := ((x0 1) q0)) rfl dX4_remove_44 ?_
        refine lv_iload_n (pc := 47) hx hb dX4_remove_47 rfl (lv_at hl 0 rfl) ?_
        refine lv_isub (pc := 48) hx hb dX4_remove_48 ?_
        refine lv_aload_n (pc := 49) hx hb dX4_remove_49 rfl (lv_at hl 1 rfl) ?_
        refine cG_X4_width (pc := 50) hF hP (i := q0) (by omega) lkX4_15 (v := ((x0 0) q0)) rfl dX4_remove_50 ?_
        refine lv_imul (pc := 53) hx hb dX4_remove_53 ?_
        obtain ⟨h1_54, h2_54, h3_54, h4_54, h5_54, h⟩ := h
        refine c_copy (pc := 54) hF hP hl.1 hD hS (i := q0) (j := q0) (by omega) (by omega) (f := ((g0 0) q0)) (f1 := ((g0 0) q0)) rfl rfl h1_54 h2_54 h3_54 h4_54 h5_54 mlX4_36 ⟨Nat.le_of_ble_eq_true rfl, by show _ ≤ (60 : Nat); decide⟩ dX4_remove_54 (fun H locs hP hD hS => ?_)
        refine lv_aload_n (pc := 57) hx hb dX4_remove_57 rfl (lv_at hl 1 rfl) ?_
        refine lv_dup (pc := 58) hx hb dX4_remove_58 rfl ?_
        refine cG_X4_count (pc := 59) hF hP (i := q0) (by omega) lkX4_25 (v := ((x0 1) q0)) rfl dX4_remove_59 ?_
        refine lv_iload_n (pc := 62) hx hb dX4_remove_62 rfl (lv_at hl 3 rfl) ?_
        refine lv_isub (pc := 63) hx hb dX4_remove_63 ?_
        refine cP_X4_count (pc := 64) hF hP hD hS (i := q0) (by omega) lkX4_25 dX4_remove_64 (fun H locs hP hD hS => ?_)
        exact zvr (pc := 67) (Wd := cW E ad wd cI cB cP cT) (u := ((va_up x0 1 (va_up (x0 1) q0 (((x0 1) q0) - a2))), y0, (va_up g0 0 (va_up (g0 0) q0 (va_cpy ((g0 0) q0) ((g0 0) q0) (v3_22 * ((x0 0) q0)).toNatClampNeg (a1 * ((x0 0) q0)).toNatClampNeg ((((x0 1) q0) - v3_22) * ((x0 0) q0)).toNatClampNeg))))) hx hb hr hlocks hAe hK hP hD hS dX4_remove_67 (Nat.le_refl _) (Nat.le_refl _) h
      · have h := h.2 c_15
        exact zvr (pc := 18) (Wd := cW E ad wd cI cB cP cT) (u := (x0, y0, g0)) hx hb hr hlocks hAe hK hP hD hS dX4_remove_18 (Nat.le_refl _) (Nat.le_refl _) h

def lX0_endSessions_17 (Φ : (Nat → Nat → Int32) → (Nat → Nat → Nat) → (Nat → Nat → Nat → Int32) → Prop) : Nat → (Nat → Nat → Int32) → (Nat → Nat → Nat) → (Nat → Nat → Nat → Int32) → Int32 → Int32 → Int32 → Int32 → Nat → Nat → Prop
  | 0, _, _, _, _, _, _, _, _, _ => False
  | n17 + 1, x, y, g, v1, v2, v4, v5, bc, bs => ((v5 ≤ 0 → (Φ x y g)) ∧ (¬ v5 ≤ 0 → (wX0_isMet x y g v4 v1 v2 (fun r_27 => ((r_27 = 0 → (∀ v4_33 : Int32, v4_33 = v4 + 1 → (∀ v5_71 : Int32, v5_71 = v5 + (-1) → ((lX0_endSessions_17 Φ n17) x y g v1 v2 v4_33 v5_71 bc bs)))) ∧ (¬ r_27 = 0 → (wX4_get x y g 5 v4 4 (fun r_43 => ((r_43 = 1 → (wX4_get x y g 5 v4 5 (fun r_57 => (∃ kc_61 ks_61 bc_61 bs_61 : Nat, kc_61 + bc_61 ≤ bc ∧ ks_61 + bs_61 ≤ bs ∧ (wX0_putResult x y g v4 r_57 2 kc_61 ks_61 (fun x_61 y_61 g_61 => (wX4_remove x_61 y_61 g_61 5 v4 1 (fun x_68 y_68 g_68 => (∀ v5_71 : Int32, v5_71 = v5 + (-1) → ((lX0_endSessions_17 Φ n17) x_68 y_68 g_68 v1 v2 v4 v5_71 bc_61 bs_61)))))))))) ∧ (¬ r_43 = 1 → (wX4_remove x y g 5 v4 1 (fun x_68 y_68 g_68 => (∀ v5_71 : Int32, v5_71 = v5 + (-1) → ((lX0_endSessions_17 Φ n17) x_68 y_68 g_68 v1 v2 v4 v5_71 bc bs))))))))))))))
def wX0_endSessions (x : Nat → Nat → Int32) (y : Nat → Nat → Nat) (g : Nat → Nat → Nat → Int32) (a1 : Int32) (a2 : Int32) (bc bs : Nat) (Φ : (Nat → Nat → Int32) → (Nat → Nat → Nat) → (Nat → Nat → Nat → Int32) → Prop) : Prop := (∀ v5_15 : Int32, v5_15 = ((x 1) 5) → (∃ n17 : Nat, lX0_endSessions_17 Φ n17 x y g a1 a2 0 v5_15 bc bs))
set_option maxRecDepth 100000 in
set_option maxHeartbeats 4000000 in
theorem kX0_endSessions {l : Launch} {D : va_G} {E : va_W} {ad : Nat → Nat → Nat} {wd sk : Nat → Nat} {cI cB cP cT : ClassId} {sz : Nat} (x0 : Nat → Nat → Int32) (y0 : Nat → Nat → Nat) (g0 : Nat → Nat → Nat → Int32) (a1 : Int32) (a2 : Int32) (BC BS : Nat) {Φ : (Nat → Nat → Int32) → (Nat → Nat → Nat) → (Nat → Nat → Nat → Int32) → Prop} (h : wX0_endSessions x0 y0 g0 a1 a2 BC BS Φ) : Met l yX0_endSessions (zws yX0_endSessions cX0_endSessions 6 none) { frames := 4, cells := BC, slots := BS, locals := 130 } (zPc D (cTy cI cB cP cT) (cX wd sk) (cW E ad wd cI cB cP cT (x0, y0, g0)) [.ref (ad 2 0), .int a1, .int a2] sz) (zQv D (cTy cI cB cP cT) (cW E ad wd cI cB cP cT) (fun u => Φ u.1 u.2.1 u.2.2) (cW E ad wd cI cB cP cT (x0, y0, g0)) sz) BC BS (va_A (cW E ad wd cI cB cP cT (x0, y0, g0)) sz) := by
  refine zMet (by decide) (Nat.le_of_ble_eq_true rfl) ?_
  intro p e s m args below meth c A hx hb hr hml hown hts hlocks hsz hAe hA hS hP hK hD hX ls hl
  subst hsz
  have hF : zFx p s m args c cX0_endSessions RX0 A D (cTy cI cB cP cT) (cX wd sk) 6 := ⟨hx, hb, hml, hown, hts, hA, hK, cX_cl wd sk, hX⟩
  have hl : lv_has ls 6 [(0, .ref (ad 2 0)), (1, .int a1), (2, .int a2)] := hl
  have hB : 0 + BC ≤ BC ∧ 0 + BS ≤ BS := ⟨by omega, by omega⟩
  have L17 : ∀ n17 : Nat, ∀ (x : Nat → Nat → Int32) (y : Nat → Nat → Nat) (g : Nat → Nat → Nat → Int32) (v1 : Int32) (v2 : Int32) (v4 : Int32) (v5 : Int32) (bc bs : Nat), lX0_endSessions_17 Φ n17 x y g v1 v2 v4 v5 bc bs → ∀ (cells slots : Nat), (cells + bc ≤ BC ∧ slots + bs ≤ BS) → ∀ (H : Heap) (locs : List Loc) (ls : Array Slot), va_P D vwCl (cW E ad wd cI cB cP cT (x, y, g)) H → va_D A (cW E ad wd cI cB cP cT (x, y, g)) → va_S A s.heap H locs → lv_has ls 6 [(0, .ref (ad 2 0)), (1, .int v1), (2, .int v2), (3, .ref (ad 5 5)), (4, .int v4), (5, .int v5)] → W p l e { frames := 4, cells := BC, slots := BS, locals := 130 } s m args below meth c H locs cells slots (MQ below (zQv D (cTy cI cB cP cT) (cW E ad wd cI cB cP cT) (fun u => Φ u.1 u.2.1 u.2.2) (cW E ad wd cI cB cP cT (x0, y0, g0)) s.heap.size) args s BC BS (va_A (cW E ad wd cI cB cP cT (x0, y0, g0)) s.heap.size)) (F0 m 17 ls []) := by
    intro n17
    induction n17 with
    | zero => intro x y g v1 v2 v4 v5 bc bs h cells slots hB H locs ls hP hD hS hl; exact h.elim
    | succ n17 ih17 =>
      intro x y g v1 v2 v4 v5 bc bs h cells slots hB H locs ls hP hD hS hl
      unfold lX0_endSessions_17 at h
      refine lv_iload (pc := 17) hx hb dX0_endSessions_17 (lv_at hl 5 rfl) ?_
      refine lv_if_le (pc := 19) (tgt := 77) hx hb dX0_endSessions_19 (by decide) (fun c_19 => ?_) (fun c_19 => ?_)
      · have h := h.1 c_19
        exact zvr (pc := 77) (Wd := cW E ad wd cI cB cP cT) (u := (x, y, g)) hx hb hr hlocks hAe hK hP hD hS dX0_endSessions_77 (by omega) (by omega) h
      · have h := h.2 c_19
        refine lv_aload_n (pc := 22) hx hb dX0_endSessions_22 rfl (lv_at hl 0 rfl) ?_
        refine lv_iload (pc := 23) hx hb dX0_endSessions_23 (lv_at hl 4 rfl) ?_
        refine lv_iload_n (pc := 25) hx hb dX0_endSessions_25 rfl (lv_at hl 1 rfl) ?_
        refine lv_iload_n (pc := 26) hx hb dX0_endSessions_26 rfl (lv_at hl 2 rfl) ?_
        refine cVbp (pc := 27) (x := x) (y := y) (g := g) [.int v4, .int v1, .int v2] hF (kX0_isMet x y g v4 v1 v2 h) (cwX0_X0_isMet hts ⟨Nat.le_of_ble_eq_true rfl, Nat.le_of_ble_eq_true rfl⟩) rfl (cA_L ..) hP hD hS rfl rfl hl.1 (Nat.le_of_ble_eq_true rfl) dX0_endSessions_27 ⟨by show _ ≤ BC; omega, by show _ ≤ BS; omega⟩ (fun r_27 H locs hb_27 h hP hD hS => ?_)
        refine lv_if_ne (pc := 30) (tgt := 39) hx hb dX0_endSessions_30 (by decide) (fun c_30 => ?_) (fun c_30 => ?_)
        · have h := h.2 c_30
          refine lv_aload_n (pc := 39) hx hb dX0_endSessions_39 rfl (lv_at hl 3 rfl) ?_
          refine lv_iload (pc := 40) hx hb dX0_endSessions_40 (lv_at hl 4 rfl) ?_
          refine lv_iconst (pc := 42) (v := 4) hx hb dX0_endSessions_42 (by decide) ?_
          refine cVip (pc := 43) (x := x) (y := y) (g := g) [.int v4, .int 4] hF (kX4_get x y g 5 v4 4 h (by omega)) (cwX0_X4_get hts ⟨Nat.le_of_ble_eq_true rfl, Nat.le_of_ble_eq_true rfl⟩) rfl (cA_R _ _ _ _ _ _ _ _ _ _ (i := 5) (by omega)) hP hD hS rfl rfl hl.1 (Nat.le_of_ble_eq_true rfl) dX0_endSessions_43 ⟨by show _ ≤ BC; omega, by show _ ≤ BS; omega⟩ (fun r_43 H locs h hP hD hS => ?_)
          refine lv_iconst (pc := 46) (v := 1) hx hb dX0_endSessions_46 (by decide) ?_
          refine lv_icmp_ne (pc := 47) (tgt := 64) hx hb dX0_endSessions_47 (by decide) (fun c_47 => ?_) (fun c_47 => ?_)
          · have h := h.2 c_47
            refine lv_aload_n (pc := 64) hx hb dX0_endSessions_64 rfl (lv_at hl 3 rfl) ?_
            refine lv_iload (pc := 65) hx hb dX0_endSessions_65 (lv_at hl 4 rfl) ?_
            refine lv_iconst (pc := 67) (v := 1) hx hb dX0_endSessions_67 (by decide) ?_
            refine cVv (pc := 68) (x := x) (y := y) (g := g) [.int v4, .int 1] hF (kX4_remove x y g 5 v4 1 h (by omega)) (cwX0_X4_remove hts ⟨Nat.le_of_ble_eq_true rfl, Nat.le_of_ble_eq_true rfl⟩) rfl (cA_R _ _ _ _ _ _ _ _ _ _ (i := 5) (by omega)) hP hD hS rfl rfl hl.1 (Nat.le_of_ble_eq_true rfl) dX0_endSessions_68 ⟨by show _ ≤ BC; omega, by show _ ≤ BS; omega⟩ (fun x_68 y_68 g_68 H locs h hP hD hS => ?_)
            obtain ⟨v5_71, e_v5_71⟩ : ∃ y : Int32, y = v5 + (-1) := ⟨_, rfl⟩
            replace h := h v5_71 e_v5_71
            refine lv_iinc (pc := 71) (v := v5_71) (lv' := [(5, .int v5_71), (0, .ref (ad 2 0)), (1, .int v1), (2, .int v2), (3, .ref (ad 5 5)), (4, .int v4)]) hx hb dX0_endSessions_71 hl (k := 5) rfl (by rw [e_v5_71]; rfl) (by decide) rfl (fun ls hl => ?_)
            refine lv_goto (pc := 74) (tgt := 17) hx hb dX0_endSessions_74 (by decide) ?_
            exact ih17 x_68 y_68 g_68 v1 v2 v4 v5_71 bc bs h _ _ hB _ _ _ hP hD hS (lv_sub hl [1, 2, 3, 4, 5, 0] rfl)
          · have h := h.1 c_47
            refine lv_aload_n (pc := 50) hx hb dX0_endSessions_50 rfl (lv_at hl 0 rfl) ?_
            refine lv_iload (pc := 51) hx hb dX0_endSessions_51 (lv_at hl 4 rfl) ?_
            refine lv_aload_n (pc := 53) hx hb dX0_endSessions_53 rfl (lv_at hl 3 rfl) ?_
            refine lv_iload (pc := 54) hx hb dX0_endSessions_54 (lv_at hl 4 rfl) ?_
            refine lv_iconst (pc := 56) (v := 5) hx hb dX0_endSessions_56 (by decide) ?_
            refine cVip (pc := 57) (x := x) (y := y) (g := g) [.int v4, .int 5] hF (kX4_get x y g 5 v4 5 h (by omega)) (cwX0_X4_get hts ⟨Nat.le_of_ble_eq_true rfl, Nat.le_of_ble_eq_true rfl⟩) rfl (cA_R _ _ _ _ _ _ _ _ _ _ (i := 5) (by omega)) hP hD hS rfl rfl hl.1 (Nat.le_of_ble_eq_true rfl) dX0_endSessions_57 ⟨by show _ ≤ BC; omega, by show _ ≤ BS; omega⟩ (fun r_57 H locs h hP hD hS => ?_)
            refine lv_iconst (pc := 60) (v := 2) hx hb dX0_endSessions_60 (by decide) ?_
            obtain ⟨kc_61, ks_61, bc_61, bs_61, ec_61, es_61, h⟩ := h
            refine cVv (pc := 61) (x := x) (y := y) (g := g) [.int v4, .int r_57, .int 2] hF (kX0_putResult x y g v4 r_57 2 kc_61 ks_61 h) (cwX0_X0_putResult hts ⟨Nat.le_of_ble_eq_true rfl, Nat.le_of_ble_eq_true rfl⟩) rfl (cA_L ..) hP hD hS rfl rfl hl.1 (Nat.le_of_ble_eq_true rfl) dX0_endSessions_61 ⟨by show _ ≤ BC; omega, by show _ ≤ BS; omega⟩ (fun x_61 y_61 g_61 H locs h hP hD hS => ?_)
            have hB : ((((cells + 0) + 0) + 0) + kc_61) + bc_61 ≤ BC ∧ ((((slots + 0) + 0) + 0) + ks_61) + bs_61 ≤ BS := ⟨by omega, by omega⟩
            refine lv_aload_n (pc := 64) hx hb dX0_endSessions_64 rfl (lv_at hl 3 rfl) ?_
            refine lv_iload (pc := 65) hx hb dX0_endSessions_65 (lv_at hl 4 rfl) ?_
            refine lv_iconst (pc := 67) (v := 1) hx hb dX0_endSessions_67 (by decide) ?_
            refine cVv (pc := 68) (x := x_61) (y := y_61) (g := g_61) [.int v4, .int 1] hF (kX4_remove x_61 y_61 g_61 5 v4 1 h (by omega)) (cwX0_X4_remove hts ⟨Nat.le_of_ble_eq_true rfl, Nat.le_of_ble_eq_true rfl⟩) rfl (cA_R _ _ _ _ _ _ _ _ _ _ (i := 5) (by omega)) hP hD hS rfl rfl hl.1 (Nat.le_of_ble_eq_true rfl) dX0_endSessions_68 ⟨by show _ ≤ BC; omega, by show _ ≤ BS; omega⟩ (fun x_68 y_68 g_68 H locs h hP hD hS => ?_)
            obtain ⟨v5_71, e_v5_71⟩ : ∃ y : Int32, y = v5 + (-1) := ⟨_, rfl⟩
            replace h := h v5_71 e_v5_71
            refine lv_iinc (pc := 71) (v := v5_71) (lv' := [(5, .int v5_71), (0, .ref (ad 2 0)), (1, .int v1), (2, .int v2), (3, .ref (ad 5 5)), (4, .int v4)]) hx hb dX0_endSessions_71 hl (k := 5) rfl (by rw [e_v5_71]; rfl) (by decide) rfl (fun ls hl => ?_)
            refine lv_goto (pc := 74) (tgt := 17) hx hb dX0_endSessions_74 (by decide) ?_
            exact ih17 x_68 y_68 g_68 v1 v2 v4 v5_71 bc_61 bs_61 h _ _ hB _ _ _ hP hD hS (lv_sub hl [1, 2, 3, 4, 5, 0] rfl)
        · have h := h.1 c_30
          obtain ⟨v4_33, e_v4_33⟩ : ∃ y : Int32, y = v4 + 1 := ⟨_, rfl⟩
          replace h := h v4_33 e_v4_33
          refine lv_iinc (pc := 33) (v := v4_33) (lv' := [(4, .int v4_33), (0, .ref (ad 2 0)), (1, .int v1), (2, .int v2), (3, .ref (ad 5 5)), (5, .int v5)]) hx hb dX0_endSessions_33 hl (k := 4) rfl (by rw [e_v4_33]; rfl) (by decide) rfl (fun ls hl => ?_)
          refine lv_goto (pc := 36) (tgt := 71) hx hb dX0_endSessions_36 (by decide) ?_
          obtain ⟨v5_71, e_v5_71⟩ : ∃ y : Int32, y = v5 + (-1) := ⟨_, rfl⟩
          replace h := h v5_71 e_v5_71
          refine lv_iinc (pc := 71) (v := v5_71) (lv' := [(5, .int v5_71), (4, .int v4_33), (0, .ref (ad 2 0)), (1, .int v1), (2, .int v2), (3, .ref (ad 5 5))]) hx hb dX0_endSessions_71 hl (k := 5) rfl (by rw [e_v5_71]; rfl) (by decide) rfl (fun ls hl => ?_)
          refine lv_goto (pc := 74) (tgt := 17) hx hb dX0_endSessions_74 (by decide) ?_
          exact ih17 x y g v1 v2 v4_33 v5_71 bc bs h _ _ hB _ _ _ hP hD hS (lv_sub hl [2, 3, 4, 5, 1, 0] rfl)
  unfold wX0_endSessions at h
  refine lv_aload_n (pc := 0) hx hb dX0_endSessions_0 rfl (lv_at hl 0 rfl) ?_
  refine cG_X0_now (pc := 1) hF hP lkX0_32 dX0_endSessions_1 ?_
  refine cGN_X6_windows (pc := 4) hF hP (i := 0) (by omega) lkX0_135 dX0_endSessions_4 ?_
  refine lv_astore_n (pc := 7) (lv' := [(3, .ref (ad 5 5)), (0, .ref (ad 2 0)), (1, .int a1), (2, .int a2)]) hx hb dX0_endSessions_7 rfl hl (by decide) rfl (fun ls hl => ?_)
  refine lv_iconst (pc := 8) (v := 0) hx hb dX0_endSessions_8 (by decide) ?_
  refine lv_istore (pc := 9) (lv' := [(4, .int 0), (3, .ref (ad 5 5)), (0, .ref (ad 2 0)), (1, .int a1), (2, .int a2)]) hx hb dX0_endSessions_9 hl (by decide) rfl (fun ls hl => ?_)
  refine lv_aload_n (pc := 11) hx hb dX0_endSessions_11 rfl (lv_at hl 1 rfl) ?_
  refine cGN_X4_count (pc := 12) hF hP (i := 5) (by omega) lkX0_53 (v := ((x0 1) 5)) rfl dX0_endSessions_12 ?_
  refine lv_topi (fun v5_15 e_v5_15 => ?_)
  replace h := h v5_15 e_v5_15
  refine lv_istore (pc := 15) (lv' := [(5, .int v5_15), (4, .int 0), (3, .ref (ad 5 5)), (0, .ref (ad 2 0)), (1, .int a1), (2, .int a2)]) hx hb dX0_endSessions_15 hl (by decide) rfl (fun ls hl => ?_)
  obtain ⟨n17, h⟩ := h
  exact L17 n17 x0 y0 g0 a1 a2 0 v5_15 BC BS h _ _ hB _ _ _ hP hD hS (lv_sub hl [3, 4, 5, 2, 1, 0] rfl)

def wX6_isAhead (x : Nat → Nat → Int32) (y : Nat → Nat → Nat) (g : Nat → Nat → Nat → Int32) (q0 : Nat) (a1 : Int32) (a2 : Int32) (a3 : Int32) (a4 : Int32) (Φ : Int32 → Prop) : Prop := (wX4_get x y g (5 + q0) a1 2 (fun r_6 => ((r_6 = a4 → (wX4_get x y g (5 + q0) a1 1 (fun r_40 => ((r_40 = a3 → (wX4_get x y g (5 + q0) a1 0 (fun r_72 => ((a2 ≤ r_72 → (Φ 0)) ∧ (¬ a2 ≤ r_72 → (Φ 1)))))) ∧ (¬ r_40 = a3 → (wX4_get x y g (5 + q0) a1 1 (fun r_53 => ((a3 ≤ r_53 → (Φ 0)) ∧ (¬ a3 ≤ r_53 → (Φ 1)))))))))) ∧ (¬ r_6 = a4 → (wX4_get x y g (5 + q0) a1 2 (fun r_20 => ((a4 ≤ r_20 → (Φ 0)) ∧ (¬ a4 ≤ r_20 → (Φ 1)))))))))
set_option maxRecDepth 100000 in
set_option maxHeartbeats 4000000 in
theorem kX6_isAhead {l : Launch} {D : va_G} {E : va_W} {ad : Nat → Nat → Nat} {wd sk : Nat → Nat} {cI cB cP cT : ClassId} {sz : Nat} (x0 : Nat → Nat → Int32) (y0 : Nat → Nat → Nat) (g0 : Nat → Nat → Nat → Int32) (q0 : Nat) (a1 : Int32) (a2 : Int32) (a3 : Int32) (a4 : Int32) {Φ : Int32 → Prop} (h : wX6_isAhead x0 y0 g0 q0 a1 a2 a3 a4 Φ) (hq0 : q0 < 7) : Met l yX6_isAhead (zws yX6_isAhead cX6_isAhead 5 (some .boolean)) { frames := 2, cells := 0, slots := 0, locals := 44 } (zPc D (cTy cI cB cP cT) (cX wd sk) (cW E ad wd cI cB cP cT (x0, y0, g0)) [.ref (ad 6 q0), .int a1, .int a2, .int a3, .int a4] sz) (zQi D (cTy cI cB cP cT) (cW E ad wd cI cB cP cT) (fun r u => u = (x0, y0, g0) ∧ (r = 0 ∨ r = 1) ∧ Φ r) (cW E ad wd cI cB cP cT (x0, y0, g0)) sz) 0 0 (va_A (cW E ad wd cI cB cP cT (x0, y0, g0)) sz) := by
  refine zMet (by decide) (Nat.le_of_ble_eq_true rfl) ?_
  intro p e s m args below meth c A hx hb hr hml hown hts hlocks hsz hAe hA hS hP hK hD hX ls hl
  subst hsz
  have hF : zFx p s m args c cX6_isAhead RX6 A D (cTy cI cB cP cT) (cX wd sk) 5 := ⟨hx, hb, hml, hown, hts, hA, hK, cX_cl wd sk, hX⟩
  have hl : lv_has ls 5 [(0, .ref (ad 6 q0)), (1, .int a1), (2, .int a2), (3, .int a3), (4, .int a4)] := hl
  unfold wX6_isAhead at h
  refine lv_aload_n (pc := 0) hx hb dX6_isAhead_0 rfl (lv_at hl 0 rfl) ?_
  refine cG_X6_windows (pc := 1) hF hP (i := q0) (by omega) lkX6_23 dX6_isAhead_1 ?_
  refine lv_iload_n (pc := 4) hx hb dX6_isAhead_4 rfl (lv_at hl 1 rfl) ?_
  refine lv_iconst (pc := 5) (v := 2) hx hb dX6_isAhead_5 (by decide) ?_
  refine cVip (pc := 6) (x := x0) (y := y0) (g := g0) [.int a1, .int 2] hF (kX4_get x0 y0 g0 (5 + q0) a1 2 h (by omega)) (cwX6_X4_get hts ⟨Nat.le_of_ble_eq_true rfl, Nat.le_of_ble_eq_true rfl⟩) rfl (cA_R _ _ _ _ _ _ _ _ _ _ (i := (5 + q0)) (by omega)) hP hD hS rfl rfl hl.1 (Nat.le_of_ble_eq_true rfl) dX6_isAhead_6 ⟨Nat.le_refl _, Nat.le_refl _⟩ (fun r_6 H locs h hP hD hS => ?_)
  refine lv_iload (pc := 9) hx hb dX6_isAhead_9 (lv_at hl 4 rfl) ?_
  refine lv_icmp_eq (pc := 11) (tgt := 34) hx hb dX6_isAhead_11 (by decide) (fun c_11 => ?_) (fun c_11 => ?_)
  · have h := h.1 c_11
    refine lv_aload_n (pc := 34) hx hb dX6_isAhead_34 rfl (lv_at hl 0 rfl) ?_
    refine cG_X6_windows (pc := 35) hF hP (i := q0) (by omega) lkX6_23 dX6_isAhead_35 ?_
    refine lv_iload_n (pc := 38) hx hb dX6_isAhead_38 rfl (lv_at hl 1 rfl) ?_
    refine lv_iconst (pc := 39) (v := 1) hx hb dX6_isAhead_39 (by decide) ?_
    refine cVip (pc := 40) (x := x0) (y := y0) (g := g0) [.int a1, .int 1] hF (kX4_get x0 y0 g0 (5 + q0) a1 1 h (by omega)) (cwX6_X4_get hts ⟨Nat.le_of_ble_eq_true rfl, Nat.le_of_ble_eq_true rfl⟩) rfl (cA_R _ _ _ _ _ _ _ _ _ _ (i := (5 + q0)) (by omega)) hP hD hS rfl rfl hl.1 (Nat.le_of_ble_eq_true rfl) dX6_isAhead_40 ⟨Nat.le_refl _, Nat.le_refl _⟩ (fun r_40 H locs h hP hD hS => ?_)
    refine lv_iload_n (pc := 43) hx hb dX6_isAhead_43 rfl (lv_at hl 3 rfl) ?_
    refine lv_icmp_eq (pc := 44) (tgt := 66) hx hb dX6_isAhead_44 (by decide) (fun c_44 => ?_) (fun c_44 => ?_)
    · have h := h.1 c_44
      refine lv_aload_n (pc := 66) hx hb dX6_isAhead_66 rfl (lv_at hl 0 rfl) ?_
      refine cG_X6_windows (pc := 67) hF hP (i := q0) (by omega) lkX6_23 dX6_isAhead_67 ?_
      refine lv_iload_n (pc := 70) hx hb dX6_isAhead_70 rfl (lv_at hl 1 rfl) ?_
      refine lv_iconst (pc := 71) (v := 0) hx hb dX6_isAhead_71 (by decide) ?_
      refine cVip (pc := 72) (x := x0) (y := y0) (g := g0) [.int a1, .int 0] hF (kX4_get x0 y0 g0 (5 + q0) a1 0 h (by omega)) (cwX6_X4_get hts ⟨Nat.le_of_ble_eq_true rfl, Nat.le_of_ble_eq_true rfl⟩) rfl (cA_R _ _ _ _ _ _ _ _ _ _ (i := (5 + q0)) (by omega)) hP hD hS rfl rfl hl.1 (Nat.le_of_ble_eq_true rfl) dX6_isAhead_72 ⟨Nat.le_refl _, Nat.le_refl _⟩ (fun r_72 H locs h hP hD hS => ?_)
      refine lv_iload_n (pc := 75) hx hb dX6_isAhead_75 rfl (lv_at hl 2 rfl) ?_
      refine lv_icmp_ge (pc := 76) (tgt := 83) hx hb dX6_isAhead_76 (by decide) (fun c_76 => ?_) (fun c_76 => ?_)
      · have h := h.1 c_76
        refine lv_iconst (pc := 83) (v := 0) hx hb dX6_isAhead_83 (by decide) ?_
        exact zirV (pc := 84) (Wd := cW E ad wd cI cB cP cT) (u := (x0, y0, g0)) hx hb hr hlocks hAe hK hP hD hS rfl dX6_isAhead_84 (Nat.le_refl _) (Nat.le_refl _) ⟨rfl, (Or.inl rfl), h⟩
      · have h := h.2 c_76
        refine lv_iconst (pc := 79) (v := 1) hx hb dX6_isAhead_79 (by decide) ?_
        refine lv_goto (pc := 80) (tgt := 84) hx hb dX6_isAhead_80 (by decide) ?_
        exact zirV (pc := 84) (Wd := cW E ad wd cI cB cP cT) (u := (x0, y0, g0)) hx hb hr hlocks hAe hK hP hD hS rfl dX6_isAhead_84 (Nat.le_refl _) (Nat.le_refl _) ⟨rfl, (Or.inr rfl), h⟩
    · have h := h.2 c_44
      refine lv_aload_n (pc := 47) hx hb dX6_isAhead_47 rfl (lv_at hl 0 rfl) ?_
      refine cG_X6_windows (pc := 48) hF hP (i := q0) (by omega) lkX6_23 dX6_isAhead_48 ?_
      refine lv_iload_n (pc := 51) hx hb dX6_isAhead_51 rfl (lv_at hl 1 rfl) ?_
      refine lv_iconst (pc := 52) (v := 1) hx hb dX6_isAhead_52 (by decide) ?_
      refine cVip (pc := 53) (x := x0) (y := y0) (g := g0) [.int a1, .int 1] hF (kX4_get x0 y0 g0 (5 + q0) a1 1 h (by omega)) (cwX6_X4_get hts ⟨Nat.le_of_ble_eq_true rfl, Nat.le_of_ble_eq_true rfl⟩) rfl (cA_R _ _ _ _ _ _ _ _ _ _ (i := (5 + q0)) (by omega)) hP hD hS rfl rfl hl.1 (Nat.le_of_ble_eq_true rfl) dX6_isAhead_53 ⟨Nat.le_refl _, Nat.le_refl _⟩ (fun r_53 H locs h hP hD hS => ?_)
      refine lv_iload_n (pc := 56) hx hb dX6_isAhead_56 rfl (lv_at hl 3 rfl) ?_
      refine lv_icmp_ge (pc := 57) (tgt := 64) hx hb dX6_isAhead_57 (by decide) (fun c_57 => ?_) (fun c_57 => ?_)
      · have h := h.1 c_57
        refine lv_iconst (pc := 64) (v := 0) hx hb dX6_isAhead_64 (by decide) ?_
        exact zirV (pc := 65) (Wd := cW E ad wd cI cB cP cT) (u := (x0, y0, g0)) hx hb hr hlocks hAe hK hP hD hS rfl dX6_isAhead_65 (Nat.le_refl _) (Nat.le_refl _) ⟨rfl, (Or.inl rfl), h⟩
      · have h := h.2 c_57
        refine lv_iconst (pc := 60) (v := 1) hx hb dX6_isAhead_60 (by decide) ?_
        refine lv_goto (pc := 61) (tgt := 65) hx hb dX6_isAhead_61 (by decide) ?_
        exact zirV (pc := 65) (Wd := cW E ad wd cI cB cP cT) (u := (x0, y0, g0)) hx hb hr hlocks hAe hK hP hD hS rfl dX6_isAhead_65 (Nat.le_refl _) (Nat.le_refl _) ⟨rfl, (Or.inr rfl), h⟩
  · have h := h.2 c_11
    refine lv_aload_n (pc := 14) hx hb dX6_isAhead_14 rfl (lv_at hl 0 rfl) ?_
    refine cG_X6_windows (pc := 15) hF hP (i := q0) (by omega) lkX6_23 dX6_isAhead_15 ?_
    refine lv_iload_n (pc := 18) hx hb dX6_isAhead_18 rfl (lv_at hl 1 rfl) ?_
    refine lv_iconst (pc := 19) (v := 2) hx hb dX6_isAhead_19 (by decide) ?_
    refine cVip (pc := 20) (x := x0) (y := y0) (g := g0) [.int a1, .int 2] hF (kX4_get x0 y0 g0 (5 + q0) a1 2 h (by omega)) (cwX6_X4_get hts ⟨Nat.le_of_ble_eq_true rfl, Nat.le_of_ble_eq_true rfl⟩) rfl (cA_R _ _ _ _ _ _ _ _ _ _ (i := (5 + q0)) (by omega)) hP hD hS rfl rfl hl.1 (Nat.le_of_ble_eq_true rfl) dX6_isAhead_20 ⟨Nat.le_refl _, Nat.le_refl _⟩ (fun r_20 H locs h hP hD hS => ?_)
    refine lv_iload (pc := 23) hx hb dX6_isAhead_23 (lv_at hl 4 rfl) ?_
    refine lv_icmp_ge (pc := 25) (tgt := 32) hx hb dX6_isAhead_25 (by decide) (fun c_25 => ?_) (fun c_25 => ?_)
    · have h := h.1 c_25
      refine lv_iconst (pc := 32) (v := 0) hx hb dX6_isAhead_32 (by decide) ?_
      exact zirV (pc := 33) (Wd := cW E ad wd cI cB cP cT) (u := (x0, y0, g0)) hx hb hr hlocks hAe hK hP hD hS rfl dX6_isAhead_33 (Nat.le_refl _) (Nat.le_refl _) ⟨rfl, (Or.inl rfl), h⟩
    · have h := h.2 c_25
      refine lv_iconst (pc := 28) (v := 1) hx hb dX6_isAhead_28 (by decide) ?_
      refine lv_goto (pc := 29) (tgt := 33) hx hb dX6_isAhead_29 (by decide) ?_
      exact zirV (pc := 33) (Wd := cW E ad wd cI cB cP cT) (u := (x0, y0, g0)) hx hb hr hlocks hAe hK hP hD hS rfl dX6_isAhead_33 (Nat.le_refl _) (Nat.le_refl _) ⟨rfl, (Or.inr rfl), h⟩
