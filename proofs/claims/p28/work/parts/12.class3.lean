def wX0_isIn (x : Nat → Nat → Int32) (y : Nat → Nat → Nat) (g : Nat → Nat → Nat → Int32) (q1 : Nat) (a2 : Int32) (a3 : Int32) (a4 : Int32) (Φ : Int32 → Prop) : Prop := (∀ v5_10 : Int32, v5_10 = (a4 + ((x 10) 0)) → (wX4_get x y g q1 a2 3 (fun r_15 => ((r_15 = 1 → (wX4_get x y g q1 a2 0 (fun r_25 => ((r_25 = a3 → (wX4_get x y g q1 a2 1 (fun r_35 => ((r_35 < a4 → (Φ 0)) ∧ (¬ r_35 < a4 → (wX4_get x y g q1 a2 1 (fun r_46 => ((v5_10 ≤ r_46 → (Φ 0)) ∧ (¬ v5_10 ≤ r_46 → (wX4_get x y g q1 a2 5 (fun r_59 => ((v5_10 ≤ r_59 → (Φ 0)) ∧ (¬ v5_10 ≤ r_59 → (Φ 1)))))))))))))) ∧ (¬ r_25 = a3 → (Φ 0)))))) ∧ (¬ r_15 = 1 → (Φ 0))))))
set_option maxRecDepth 100000 in
set_option maxHeartbeats 4000000 in
theorem kX0_isIn {l : Launch} {D : va_G} {E : va_W} {ad : Nat → Nat → Nat} {wd sk : Nat → Nat} {cI cB cP cT : ClassId} {sz : Nat} (x0 : Nat → Nat → Int32) (y0 : Nat → Nat → Nat) (g0 : Nat → Nat → Nat → Int32) (q1 : Nat) (a2 : Int32) (a3 : Int32) (a4 : Int32) {Φ : Int32 → Prop} (h : wX0_isIn x0 y0 g0 q1 a2 a3 a4 Φ) (hq1 : q1 < 12) : Met l yX0_isIn (zws yX0_isIn cX0_isIn 6 (some .boolean)) { frames := 2, cells := 0, slots := 0, locals := 44 } (zPc D (cTy cI cB cP cT) (cX wd sk) (cW E ad wd cI cB cP cT (x0, y0, g0)) [.ref (ad 2 0), .ref (ad 5 q1), .int a2, .int a3, .int a4] sz) (zQi D (cTy cI cB cP cT) (cW E ad wd cI cB cP cT) (fun r u => u = (x0, y0, g0) ∧ (r = 0 ∨ r = 1) ∧ Φ r) (cW E ad wd cI cB cP cT (x0, y0, g0)) sz) 0 0 (va_A (cW E ad wd cI cB cP cT (x0, y0, g0)) sz) := by
  refine zMet (by decide) (Nat.le_of_ble_eq_true rfl) ?_
  intro p e s m args below meth c A hx hb hr hml hown hts hlocks hsz hAe hA hS hP hK hD hX ls hl
  subst hsz
  have hF : zFx p s m args c cX0_isIn RX0 A D (cTy cI cB cP cT) (cX wd sk) 6 := ⟨hx, hb, hml, hown, hts, hA, hK, cX_cl wd sk, hX⟩
  have hl : lv_has ls 6 [(0, .ref (ad 2 0)), (1, .ref (ad 5 q1)), (2, .int a2), (3, .int a3), (4, .int a4)] := hl
  unfold wX0_isIn at h
  refine lv_iload (pc := 0) hx hb dX0_isIn_0 (lv_at hl 4 rfl) ?_
  refine lv_aload_n (pc := 2) hx hb dX0_isIn_2 rfl (lv_at hl 0 rfl) ?_
  refine cG_X0_query (pc := 3) hF hP lkX0_39 dX0_isIn_3 ?_
  refine cGN_X2_size (pc := 6) hF hP lkX0_119 (v := ((x0 10) 0)) rfl dX0_isIn_6 ?_
  refine lv_iadd (pc := 9) hx hb dX0_isIn_9 ?_
  refine lv_topi (fun v5_10 e_v5_10 => ?_)
  replace h := h v5_10 e_v5_10
  refine lv_istore (pc := 10) (lv' := [(5, .int v5_10), (0, .ref (ad 2 0)), (1, .ref (ad 5 q1)), (2, .int a2), (3, .int a3), (4, .int a4)]) hx hb dX0_isIn_10 hl (by decide) rfl (fun ls hl => ?_)
  refine lv_aload_n (pc := 12) hx hb dX0_isIn_12 rfl (lv_at hl 2 rfl) ?_
  refine lv_iload_n (pc := 13) hx hb dX0_isIn_13 rfl (lv_at hl 3 rfl) ?_
  refine lv_iconst (pc := 14) (v := 3) hx hb dX0_isIn_14 (by decide) ?_
  refine cVip (pc := 15) (x := x0) (y := y0) (g := g0) [.int a2, .int 3] hF (kX4_get x0 y0 g0 q1 a2 3 h (by omega)) (cwX0_X4_get hts ⟨Nat.le_of_ble_eq_true rfl, Nat.le_of_ble_eq_true rfl⟩) rfl (cA_R _ _ _ _ _ _ _ _ _ _ (i := q1) (by omega)) hP hD hS rfl rfl hl.1 (Nat.le_of_ble_eq_true rfl) dX0_isIn_15 ⟨Nat.le_refl _, Nat.le_refl _⟩ (fun r_15 H locs h hP hD hS => ?_)
  refine lv_iconst (pc := 18) (v := 1) hx hb dX0_isIn_18 (by decide) ?_
  refine lv_icmp_ne (pc := 19) (tgt := 69) hx hb dX0_isIn_19 (by decide) (fun c_19 => ?_) (fun c_19 => ?_)
  · have h := h.2 c_19
    refine lv_iconst (pc := 69) (v := 0) hx hb dX0_isIn_69 (by decide) ?_
    exact zirV (pc := 70) (Wd := cW E ad wd cI cB cP cT) (u := (x0, y0, g0)) hx hb hr hlocks hAe hK hP hD hS rfl dX0_isIn_70 (Nat.le_refl _) (Nat.le_refl _) ⟨rfl, (Or.inl rfl), h⟩
  · have h := h.1 c_19
    refine lv_aload_n (pc := 22) hx hb dX0_isIn_22 rfl (lv_at hl 2 rfl) ?_
    refine lv_iload_n (pc := 23) hx hb dX0_isIn_23 rfl (lv_at hl 3 rfl) ?_
    refine lv_iconst (pc := 24) (v := 0) hx hb dX0_isIn_24 (by decide) ?_
    refine cVip (pc := 25) (x := x0) (y := y0) (g := g0) [.int a2, .int 0] hF (kX4_get x0 y0 g0 q1 a2 0 h (by omega)) (cwX0_X4_get hts ⟨Nat.le_of_ble_eq_true rfl, Nat.le_of_ble_eq_true rfl⟩) rfl (cA_R _ _ _ _ _ _ _ _ _ _ (i := q1) (by omega)) hP hD hS rfl rfl hl.1 (Nat.le_of_ble_eq_true rfl) dX0_isIn_25 ⟨Nat.le_refl _, Nat.le_refl _⟩ (fun r_25 H locs h hP hD hS => ?_)
    refine lv_iload_n (pc := 28) hx hb dX0_isIn_28 rfl (lv_at hl 4 rfl) ?_
    refine lv_icmp_ne (pc := 29) (tgt := 69) hx hb dX0_isIn_29 (by decide) (fun c_29 => ?_) (fun c_29 => ?_)
    · have h := h.2 c_29
      refine lv_iconst (pc := 69) (v := 0) hx hb dX0_isIn_69 (by decide) ?_
      exact zirV (pc := 70) (Wd := cW E ad wd cI cB cP cT) (u := (x0, y0, g0)) hx hb hr hlocks hAe hK hP hD hS rfl dX0_isIn_70 (Nat.le_refl _) (Nat.le_refl _) ⟨rfl, (Or.inl rfl), h⟩
    · have h := h.1 c_29
      refine lv_aload_n (pc := 32) hx hb dX0_isIn_32 rfl (lv_at hl 2 rfl) ?_
      refine lv_iload_n (pc := 33) hx hb dX0_isIn_33 rfl (lv_at hl 3 rfl) ?_
      refine lv_iconst (pc := 34) (v := 1) hx hb dX0_isIn_34 (by decide) ?_
      refine cVip (pc := 35) (x := x0) (y := y0) (g := g0) [.int a2, .int 1] hF (kX4_get x0 y0 g0 q1 a2 1 h (by omega)) (cwX0_X4_get hts ⟨Nat.le_of_ble_eq_true rfl, Nat.le_of_ble_eq_true rfl⟩) rfl (cA_R _ _ _ _ _ _ _ _ _ _ (i := q1) (by omega)) hP hD hS rfl rfl hl.1 (Nat.le_of_ble_eq_true rfl) dX0_isIn_35 ⟨Nat.le_refl _, Nat.le_refl _⟩ (fun r_35 H locs h hP hD hS => ?_)
      refine lv_iload (pc := 38) hx hb dX0_isIn_38 (lv_at hl 5 rfl) ?_
      refine lv_icmp_lt (pc := 40) (tgt := 69) hx hb dX0_isIn_40 (by decide) (fun c_40 => ?_) (fun c_40 => ?_)
      · have h := h.1 c_40
        refine lv_iconst (pc := 69) (v := 0) hx hb dX0_isIn_69 (by decide) ?_
        exact zirV (pc := 70) (Wd := cW E ad wd cI cB cP cT) (u := (x0, y0, g0)) hx hb hr hlocks hAe hK hP hD hS rfl dX0_isIn_70 (Nat.le_refl _) (Nat.le_refl _) ⟨rfl, (Or.inl rfl), h⟩
      · have h := h.2 c_40
        refine lv_aload_n (pc := 43) hx hb dX0_isIn_43 rfl (lv_at hl 2 rfl) ?_
        refine lv_iload_n (pc := 44) hx hb dX0_isIn_44 rfl (lv_at hl 3 rfl) ?_
        refine lv_iconst (pc := 45) (v := 1) hx hb dX0_isIn_45 (by decide) ?_
        refine cVip (pc := 46) (x := x0) (y := y0) (g := g0) [.int a2, .int 1] hF (kX4_get x0 y0 g0 q1 a2 1 h (by omega)) (cwX0_X4_get hts ⟨Nat.le_of_ble_eq_true rfl, Nat.le_of_ble_eq_true rfl⟩) rfl (cA_R _ _ _ _ _ _ _ _ _ _ (i := q1) (by omega)) hP hD hS rfl rfl hl.1 (Nat.le_of_ble_eq_true rfl) dX0_isIn_46 ⟨Nat.le_refl _, Nat.le_refl _⟩ (fun r_46 H locs h hP hD hS => ?_)
        refine lv_iload (pc := 49) hx hb dX0_isIn_49 (lv_at hl 0 rfl) ?_
        refine lv_icmp_ge (pc := 51) (tgt := 69) hx hb dX0_isIn_51 (by decide) (fun c_51 => ?_) (fun c_51 => ?_)
        · have h := h.1 c_51
          refine lv_iconst (pc := 69) (v := 0) hx hb dX0_isIn_69 (by decide) ?_
          exact zirV (pc := 70) (Wd := cW E ad wd cI cB cP cT) (u := (x0, y0, g0)) hx hb hr hlocks hAe hK hP hD hS rfl dX0_isIn_70 (Nat.le_refl _) (Nat.le_refl _) ⟨rfl, (Or.inl rfl), h⟩
        · have h := h.2 c_51
          refine lv_iload (pc := 54) hx hb dX0_isIn_54 (lv_at hl 0 rfl) ?_
          refine lv_aload_n (pc := 56) hx hb dX0_isIn_56 rfl (lv_at hl 2 rfl) ?_
          refine lv_iload_n (pc := 57) hx hb dX0_isIn_57 rfl (lv_at hl 3 rfl) ?_
          refine lv_iconst (pc := 58) (v := 5) hx hb dX0_isIn_58 (by decide) ?_
          refine cVip (pc := 59) (x := x0) (y := y0) (g := g0) [.int a2, .int 5] hF (kX4_get x0 y0 g0 q1 a2 5 h (by omega)) (cwX0_X4_get hts ⟨Nat.le_of_ble_eq_true rfl, Nat.le_of_ble_eq_true rfl⟩) rfl (cA_R _ _ _ _ _ _ _ _ _ _ (i := q1) (by omega)) hP hD hS rfl rfl hl.1 (Nat.le_of_ble_eq_true rfl) dX0_isIn_59 ⟨Nat.le_refl _, Nat.le_refl _⟩ (fun r_59 H locs h hP hD hS => ?_)
          refine lv_icmp_le (pc := 62) (tgt := 69) hx hb dX0_isIn_62 (by decide) (fun c_62 => ?_) (fun c_62 => ?_)
          · have h := h.1 c_62
            refine lv_iconst (pc := 69) (v := 0) hx hb dX0_isIn_69 (by decide) ?_
            exact zirV (pc := 70) (Wd := cW E ad wd cI cB cP cT) (u := (x0, y0, g0)) hx hb hr hlocks hAe hK hP hD hS rfl dX0_isIn_70 (Nat.le_refl _) (Nat.le_refl _) ⟨rfl, (Or.inl rfl), h⟩
          · have h := h.2 c_62
            refine lv_iconst (pc := 65) (v := 1) hx hb dX0_isIn_65 (by decide) ?_
            refine lv_goto (pc := 66) (tgt := 70) hx hb dX0_isIn_66 (by decide) ?_
            exact zirV (pc := 70) (Wd := cW E ad wd cI cB cP cT) (u := (x0, y0, g0)) hx hb hr hlocks hAe hK hP hD hS rfl dX0_isIn_70 (Nat.le_refl _) (Nat.le_refl _) ⟨rfl, (Or.inr rfl), h⟩

def lX0_totalOfEvents_84 (W63 : (Nat → Nat → Int32) → (Nat → Nat → Nat) → (Nat → Nat → Nat → Int32) → Int32 → Int32 → Int32 → Int32 → Int32 → Prop) (Φ : Int32 → Prop) : Nat → (Nat → Nat → Int32) → (Nat → Nat → Nat) → (Nat → Nat → Nat → Int32) → Int32 → Int32 → Int32 → Int32 → Int32 → Nat → Int32 → Prop
  | 0, _, _, _, _, _, _, _, _, _, _ => False
  | n84 + 1, x, y, g, v1, v2, v3, v4, v5, q6, v7 => (vp_in v5 3 ∧ (((((g 1) 0) v5.toNatClampNeg) ≤ v7 → (∀ v5_152 : Int32, v5_152 = v5 + 1 → (W63 x y g v1 v2 v3 v4 v5_152))) ∧ (¬ (((g 1) 0) v5.toNatClampNeg) ≤ v7 → (wX0_isIn x y g q6 v7 v1 v2 (fun r_106 => ((r_106 = 0 → (∀ v7_146 : Int32, v7_146 = v7 + 1 → ((lX0_totalOfEvents_84 W63 Φ n84) x y g v1 v2 v3 v4 v5 q6 v7_146))) ∧ (¬ r_106 = 0 → (wX4_get x y g q6 v7 4 (fun r_117 => ((v4 = 0 → (wX2_foldWith x y g v3 r_117 (fun r_139 => (∀ v7_146 : Int32, v7_146 = v7 + 1 → ((lX0_totalOfEvents_84 W63 Φ n84) x y g v1 v2 r_139 0 v5 q6 v7_146))))) ∧ (¬ v4 = 0 → (∀ v7_146 : Int32, v7_146 = v7 + 1 → ((lX0_totalOfEvents_84 W63 Φ n84) x y g v1 v2 r_117 0 v5 q6 v7_146)))))))))))))
def lX0_totalOfEvents_63 (Φ : Int32 → Prop) : Nat → (Nat → Nat → Int32) → (Nat → Nat → Nat) → (Nat → Nat → Nat → Int32) → Int32 → Int32 → Int32 → Int32 → Int32 → Prop
  | 0, _, _, _, _, _, _, _, _ => False
  | n63 + 1, x, y, g, v1, v2, v3, v4, v5 => ((3 ≤ v5 → (Φ v3)) ∧ (¬ 3 ≤ v5 → (vp_in v5 3 ∧ (∃ n84 : Nat, lX0_totalOfEvents_84 (lX0_totalOfEvents_63 Φ n63) Φ n84 x y g v1 v2 v3 v4 v5 (v5.toNatClampNeg) 0))))
def wX0_totalOfEvents (x : Nat → Nat → Int32) (y : Nat → Nat → Nat) (g : Nat → Nat → Nat → Int32) (a1 : Int32) (a2 : Int32) (Φ : Int32 → Prop) : Prop := ((a2 < 0 → (Φ 0)) ∧ (¬ a2 < 0 → ((999 < a2 → (Φ 0)) ∧ (¬ 999 < a2 → ((((x 11) 0) < 1 → (Φ 0)) ∧ (¬ ((x 11) 0) < 1 → (¬ ((x 11) 0) = 0 ∧ (((a2 - a2 / ((x 11) 0) * ((x 11) 0)) = 0 → (((a2 + ((x 10) 0)) ≤ ((x 2) 0) → (∃ n63 : Nat, lX0_totalOfEvents_63 Φ n63 x y g a1 a2 0 1 0)) ∧ (¬ (a2 + ((x 10) 0)) ≤ ((x 2) 0) → (Φ 0)))) ∧ (¬ (a2 - a2 / ((x 11) 0) * ((x 11) 0)) = 0 → (Φ 0))))))))))
set_option maxRecDepth 100000 in
set_option maxHeartbeats 4000000 in
theorem kX0_totalOfEvents {l : Launch} {D : va_G} {E : va_W} {ad : Nat → Nat → Nat} {wd sk : Nat → Nat} {cI cB cP cT : ClassId} {sz : Nat} (x0 : Nat → Nat → Int32) (y0 : Nat → Nat → Nat) (g0 : Nat → Nat → Nat → Int32) (a1 : Int32) (a2 : Int32) {Φ : Int32 → Prop} (h : wX0_totalOfEvents x0 y0 g0 a1 a2 Φ) : Met l yX0_totalOfEvents (zws yX0_totalOfEvents cX0_totalOfEvents 9 (some .int)) { frames := 3, cells := 0, slots := 0, locals := 82 } (zPc D (cTy cI cB cP cT) (cX wd sk) (cW E ad wd cI cB cP cT (x0, y0, g0)) [.ref (ad 2 0), .int a1, .int a2] sz) (zQi D (cTy cI cB cP cT) (cW E ad wd cI cB cP cT) (fun r u => u = (x0, y0, g0) ∧ Φ r) (cW E ad wd cI cB cP cT (x0, y0, g0)) sz) 0 0 (va_A (cW E ad wd cI cB cP cT (x0, y0, g0)) sz) := by
  refine zMet (by decide) (Nat.le_of_ble_eq_true rfl) ?_
  intro p e s m args below meth c A hx hb hr hml hown hts hlocks hsz hAe hA hS hP hK hD hX ls hl
  subst hsz
  have hF : zFx p s m args c cX0_totalOfEvents RX0 A D (cTy cI cB cP cT) (cX wd sk) 9 := ⟨hx, hb, hml, hown, hts, hA, hK, cX_cl wd sk, hX⟩
  have hl : lv_has ls 9 [(0, .ref (ad 2 0)), (1, .int a1), (2, .int a2)] := hl
  have L63 : ∀ n63 : Nat, ∀ (v1 : Int32) (v2 : Int32) (v3 : Int32) (v4 : Int32) (v5 : Int32), lX0_totalOfEvents_63 Φ n63 x0 y0 g0 v1 v2 v3 v4 v5 → ∀ (H : Heap) (locs : List Loc) (ls : Array Slot), va_P D vwCl (cW E ad wd cI cB cP cT (x0, y0, g0)) H → va_D A (cW E ad wd cI cB cP cT (x0, y0, g0)) → va_S A s.heap H locs → lv_has ls 9 [(0, .ref (ad 2 0)), (1, .int v1), (2, .int v2), (3, .int v3), (4, .int v4), (5, .int v5)] → W p l e { frames := 3, cells := 0, slots := 0, locals := 82 } s m args below meth c H locs 0 0 (MQ below (zQi D (cTy cI cB cP cT) (cW E ad wd cI cB cP cT) (fun r u => u = (x0, y0, g0) ∧ Φ r) (cW E ad wd cI cB cP cT (x0, y0, g0)) s.heap.size) args s 0 0 (va_A (cW E ad wd cI cB cP cT (x0, y0, g0)) s.heap.size)) (F0 m 63 ls []) := by
    intro n63
    induction n63 with
    | zero => intro v1 v2 v3 v4 v5 h H locs ls hP hD hS hl; exact h.elim
    | succ n63 ih63 =>
      have L84 : ∀ n84 : Nat, ∀ (v1 : Int32) (v2 : Int32) (v3 : Int32) (v4 : Int32) (v5 : Int32) (q6 : Nat) (v7 : Int32), lX0_totalOfEvents_84 (lX0_totalOfEvents_63 Φ n63) Φ n84 x0 y0 g0 v1 v2 v3 v4 v5 q6 v7 → q6 < 12 → ∀ (H : Heap) (locs : List Loc) (ls : Array Slot), va_P D vwCl (cW E ad wd cI cB cP cT (x0, y0, g0)) H → va_D A (cW E ad wd cI cB cP cT (x0, y0, g0)) → va_S A s.heap H locs → lv_has ls 9 [(0, .ref (ad 2 0)), (1, .int v1), (2, .int v2), (3, .int v3), (4, .int v4), (5, .int v5), (6, .ref (ad 5 q6)), (7, .int v7)] → W p l e { frames := 3, cells := 0, slots := 0, locals := 82 } s m args below meth c H locs 0 0 (MQ below (zQi D (cTy cI cB cP cT) (cW E ad wd cI cB cP cT) (fun r u => u = (x0, y0, g0) ∧ Φ r) (cW E ad wd cI cB cP cT (x0, y0, g0)) s.heap.size) args s 0 0 (va_A (cW E ad wd cI cB cP cT (x0, y0, g0)) s.heap.size)) (F0 m 84 ls []) := by
        intro n84
        induction n84 with
        | zero => intro v1 v2 v3 v4 v5 q6 v7 h hcq6 H locs ls hP hD hS hl; exact h.elim
        | succ n84 ih84 =>
          intro v1 v2 v3 v4 v5 q6 v7 h hcq6 H locs ls hP hD hS hl
          unfold lX0_totalOfEvents_84 at h
          refine lv_iload (pc := 84) hx hb dX0_totalOfEvents_84 (lv_at hl 7 rfl) ?_
          refine lv_aload_n (pc := 86) hx hb dX0_totalOfEvents_86 rfl (lv_at hl 0 rfl) ?_
          refine cG_X0_now (pc := 87) hF hP lkX0_32 dX0_totalOfEvents_87 ?_
          refine cGN_X6_read (pc := 90) hF hP (i := 0) (by omega) lkX0_63 dX0_totalOfEvents_90 ?_
          refine lv_iload (pc := 93) hx hb dX0_totalOfEvents_93 (lv_at hl 5 rfl) ?_
          obtain ⟨hi_95, h⟩ := h
          refine cL_TR (pc := 95) hF hP (i := 0) (by omega) (f := ((g0 1) 0)) rfl hi_95 dX0_totalOfEvents_95 ?_
          refine lv_icmp_ge (pc := 96) (tgt := 152) hx hb dX0_totalOfEvents_96 (by decide) (fun c_96 => ?_) (fun c_96 => ?_)
          · have h := h.1 c_96
            obtain ⟨v5_152, e_v5_152⟩ : ∃ y : Int32, y = v5 + 1 := ⟨_, rfl⟩
            replace h := h v5_152 e_v5_152
            refine lv_iinc (pc := 152) (v := v5_152) (lv' := [(5, .int v5_152), (0, .ref (ad 2 0)), (1, .int v1), (2, .int v2), (3, .int v3), (4, .int v4), (6, .ref (ad 5 q6)), (7, .int v7)]) hx hb dX0_totalOfEvents_152 hl (k := 5) rfl (by rw [e_v5_152]; rfl) (by decide) rfl (fun ls hl => ?_)
            refine lv_goto (pc := 155) (tgt := 63) hx hb dX0_totalOfEvents_155 (by decide) ?_
            exact ih63 v1 v2 v3 v4 v5_152 h _ _ _ hP hD hS (lv_sub hl [1, 2, 3, 4, 5, 0] rfl)
          · have h := h.2 c_96
            refine lv_aload_n (pc := 99) hx hb dX0_totalOfEvents_99 rfl (lv_at hl 0 rfl) ?_
            refine lv_aload (pc := 100) hx hb dX0_totalOfEvents_100 (lv_at hl 6 rfl) ?_
            refine lv_iload (pc := 102) hx hb dX0_totalOfEvents_102 (lv_at hl 7 rfl) ?_
            refine lv_iload_n (pc := 104) hx hb dX0_totalOfEvents_104 rfl (lv_at hl 1 rfl) ?_
            refine lv_iload_n (pc := 105) hx hb dX0_totalOfEvents_105 rfl (lv_at hl 2 rfl) ?_
            refine cVbp (pc := 106) (x := x0) (y := y0) (g := g0) [.ref (ad 5 q6), .int v7, .int v1, .int v2] hF (kX0_isIn x0 y0 g0 q6 v7 v1 v2 h (by omega)) (cwX0_X0_isIn hts ⟨Nat.le_of_ble_eq_true rfl, Nat.le_of_ble_eq_true rfl⟩) rfl (cA_L ..) hP hD hS rfl rfl hl.1 (Nat.le_of_ble_eq_true rfl) dX0_totalOfEvents_106 ⟨Nat.le_refl _, Nat.le_refl _⟩ (fun r_106 H locs hb_106 h hP hD hS => ?_)
            refine lv_if_eq (pc := 109) (tgt := 146) hx hb dX0_totalOfEvents_109 (by decide) (fun c_109 => ?_) (fun c_109 => ?_)
            · have h := h.1 c_109
              obtain ⟨v7_146, e_v7_146⟩ : ∃ y : Int32, y = v7 + 1 := ⟨_, rfl⟩
              replace h := h v7_146 e_v7_146
              refine lv_iinc (pc := 146) (v := v7_146) (lv' := [(7, .int v7_146), (0, .ref (ad 2 0)), (1, .int v1), (2, .int v2), (3, .int v3), (4, .int v4), (5, .int v5), (6, .ref (ad 5 q6))]) hx hb dX0_totalOfEvents_146 hl (k := 7) rfl (by rw [e_v7_146]; rfl) (by decide) rfl (fun ls hl => ?_)
              refine lv_goto (pc := 149) (tgt := 84) hx hb dX0_totalOfEvents_149 (by decide) ?_
              exact ih84 v1 v2 v3 v4 v5 q6 v7_146 h (by omega) _ _ _ hP hD hS (lv_sub hl [1, 2, 3, 4, 5, 6, 7, 0] rfl)
            · have h := h.2 c_109
              refine lv_aload (pc := 112) hx hb dX0_totalOfEvents_112 (lv_at hl 6 rfl) ?_
              refine lv_iload (pc := 114) hx hb dX0_totalOfEvents_114 (lv_at hl 7 rfl) ?_
              refine lv_iconst (pc := 116) (v := 4) hx hb dX0_totalOfEvents_116 (by decide) ?_
              refine cVip (pc := 117) (x := x0) (y := y0) (g := g0) [.int v7, .int 4] hF (kX4_get x0 y0 g0 q6 v7 4 h (by omega)) (cwX0_X4_get hts ⟨Nat.le_of_ble_eq_true rfl, Nat.le_of_ble_eq_true rfl⟩) rfl (cA_R _ _ _ _ _ _ _ _ _ _ (i := q6) (by omega)) hP hD hS rfl rfl hl.1 (Nat.le_of_ble_eq_true rfl) dX0_totalOfEvents_117 ⟨Nat.le_refl _, Nat.le_refl _⟩ (fun r_117 H locs h hP hD hS => ?_)
              refine lv_istore (pc := 120) (lv' := [(8, .int r_117), (0, .ref (ad 2 0)), (1, .int v1), (2, .int v2), (3, .int v3), (4, .int v4), (5, .int v5), (6, .ref (ad 5 q6)), (7, .int v7)]) hx hb dX0_totalOfEvents_120 hl (by decide) rfl (fun ls hl => ?_)
              refine lv_iload (pc := 122) hx hb dX0_totalOfEvents_122 (lv_at hl 5 rfl) ?_
              refine lv_if_eq (pc := 124) (tgt := 132) hx hb dX0_totalOfEvents_124 (by decide) (fun c_124 => ?_) (fun c_124 => ?_)
              · have h := h.1 c_124
                refine lv_aload_n (pc := 132) hx hb dX0_totalOfEvents_132 rfl (lv_at hl 1 rfl) ?_
                refine cG_X0_query (pc := 133) hF hP lkX0_39 dX0_totalOfEvents_133 ?_
                refine lv_iload_n (pc := 136) hx hb dX0_totalOfEvents_136 rfl (lv_at hl 4 rfl) ?_
                refine lv_iload (pc := 137) hx hb dX0_totalOfEvents_137 (lv_at hl 0 rfl) ?_
                refine cVip (pc := 139) (x := x0) (y := y0) (g := g0) [.int v3, .int r_117] hF (kX2_foldWith x0 y0 g0 v3 r_117 h) (cwX0_X2_foldWith hts ⟨Nat.le_of_ble_eq_true rfl, Nat.le_of_ble_eq_true rfl⟩) rfl (cA_Q ..) hP hD hS rfl rfl hl.1 (Nat.le_of_ble_eq_true rfl) dX0_totalOfEvents_139 ⟨Nat.le_refl _, Nat.le_refl _⟩ (fun r_139 H locs h hP hD hS => ?_)
                refine lv_istore_n (pc := 142) (lv' := [(3, .int r_139), (8, .int r_117), (0, .ref (ad 2 0)), (1, .int v1), (2, .int v2), (4, .int v4), (5, .int v5), (6, .ref (ad 5 q6)), (7, .int v7)]) hx hb dX0_totalOfEvents_142 rfl hl (by decide) rfl (fun ls hl => ?_)
                refine lv_iconst (pc := 143) (v := 0) hx hb dX0_totalOfEvents_143 (by decide) ?_
                refine lv_istore (pc := 144) (lv' := [(4, .int 0), (3, .int r_139), (8, .int r_117), (0, .ref (ad 2 0)), (1, .int v1), (2, .int v2), (5, .int v5), (6, .ref (ad 5 q6)), (7, .int v7)]) hx hb dX0_totalOfEvents_144 hl (by decide) rfl (fun ls hl => ?_)
                obtain ⟨v7_146, e_v7_146⟩ : ∃ y : Int32, y = v7 + 1 := ⟨_, rfl⟩
                replace h := h v7_146 e_v7_146
                refine lv_iinc (pc := 146) (v := v7_146) (lv' := [(7, .int v7_146), (4, .int 0), (3, .int r_139), (8, .int r_117), (0, .ref (ad 2 0)), (1, .int v1), (2, .int v2), (5, .int v5), (6, .ref (ad 5 q6))]) hx hb dX0_totalOfEvents_146 hl (k := 8) rfl (by rw [e_v7_146]; rfl) (by decide) rfl (fun ls hl => ?_)
                refine lv_goto (pc := 149) (tgt := 84) hx hb dX0_totalOfEvents_149 (by decide) ?_
                exact ih84 v1 v2 r_139 0 v5 q6 v7_146 h (by omega) _ _ _ hP hD hS (lv_sub hl [4, 5, 6, 2, 1, 7, 8, 0] rfl)
              · have h := h.2 c_124
                refine lv_iload (pc := 127) hx hb dX0_totalOfEvents_127 (lv_at hl 0 rfl) ?_
                refine lv_goto (pc := 129) (tgt := 142) hx hb dX0_totalOfEvents_129 (by decide) ?_
                refine lv_istore_n (pc := 142) (lv' := [(3, .int r_117), (8, .int r_117), (0, .ref (ad 2 0)), (1, .int v1), (2, .int v2), (4, .int v4), (5, .int v5), (6, .ref (ad 5 q6)), (7, .int v7)]) hx hb dX0_totalOfEvents_142 rfl hl (by decide) rfl (fun ls hl => ?_)
                refine lv_iconst (pc := 143) (v := 0) hx hb dX0_totalOfEvents_143 (by decide) ?_
                refine lv_istore (pc := 144) (lv' := [(4, .int 0), (3, .int r_117), (8, .int r_117), (0, .ref (ad 2 0)), (1, .int v1), (2, .int v2), (5, .int v5), (6, .ref (ad 5 q6)), (7, .int v7)]) hx hb dX0_totalOfEvents_144 hl (by decide) rfl (fun ls hl => ?_)
                obtain ⟨v7_146, e_v7_146⟩ : ∃ y : Int32, y = v7 + 1 := ⟨_, rfl⟩
                replace h := h v7_146 e_v7_146
                refine lv_iinc (pc := 146) (v := v7_146) (lv' := [(7, .int v7_146), (4, .int 0), (3, .int r_117), (8, .int r_117), (0, .ref (ad 2 0)), (1, .int v1), (2, .int v2), (5, .int v5), (6, .ref (ad 5 q6))]) hx hb dX0_totalOfEvents_146 hl (k := 8) rfl (by rw [e_v7_146]; rfl) (by decide) rfl (fun ls hl => ?_)
                refine lv_goto (pc := 149) (tgt := 84) hx hb dX0_totalOfEvents_149 (by decide) ?_
                exact ih84 v1 v2 r_117 0 v5 q6 v7_146 h (by omega) _ _ _ hP hD hS (lv_sub hl [4, 5, 6, 2, 1, 7, 8, 0] rfl)
      intro v1 v2 v3 v4 v5 h H locs ls hP hD hS hl
      unfold lX0_totalOfEvents_63 at h
      refine lv_iload (pc := 63) hx hb dX0_totalOfEvents_63 (lv_at hl 5 rfl) ?_
      refine lv_iconst (pc := 65) (v := 3) hx hb dX0_totalOfEvents_65 (by decide) ?_
      refine lv_icmp_ge (pc := 66) (tgt := 158) hx hb dX0_totalOfEvents_66 (by decide) (fun c_66 => ?_) (fun c_66 => ?_)
      · have h := h.1 c_66
        refine lv_iload_n (pc := 158) hx hb dX0_totalOfEvents_158 rfl (lv_at hl 3 rfl) ?_
        exact zirV (pc := 159) (Wd := cW E ad wd cI cB cP cT) (u := (x0, y0, g0)) hx hb hr hlocks hAe hK hP hD hS rfl dX0_totalOfEvents_159 (Nat.le_refl _) (Nat.le_refl _) ⟨rfl, h⟩
      · have h := h.2 c_66
        refine lv_aload_n (pc := 69) hx hb dX0_totalOfEvents_69 rfl (lv_at hl 0 rfl) ?_
        refine cG_X0_partitions (pc := 70) hF hP lkX0_11 dX0_totalOfEvents_70 ?_
        refine lv_iload (pc := 73) hx hb dX0_totalOfEvents_73 (lv_at hl 5 rfl) ?_
        obtain ⟨hi_75, h⟩ := h
        have hj_75 := vp_lt hi_75
        refine cL_PA (pc := 75) hF hP hi_75 dX0_totalOfEvents_75 ?_
        refine cGN_X1_events (pc := 76) hF hP (i := (v5.toNatClampNeg)) (by omega) lkX0_50 dX0_totalOfEvents_76 ?_
        refine lv_astore (pc := 79) (lv' := [(6, .ref (ad 5 (v5.toNatClampNeg))), (0, .ref (ad 2 0)), (1, .int v1), (2, .int v2), (3, .int v3), (4, .int v4), (5, .int v5)]) hx hb dX0_totalOfEvents_79 hl (by decide) rfl (fun ls hl => ?_)
        refine lv_iconst (pc := 81) (v := 0) hx hb dX0_totalOfEvents_81 (by decide) ?_
        refine lv_istore (pc := 82) (lv' := [(7, .int 0), (6, .ref (ad 5 (v5.toNatClampNeg))), (0, .ref (ad 2 0)), (1, .int v1), (2, .int v2), (3, .int v3), (4, .int v4), (5, .int v5)]) hx hb dX0_totalOfEvents_82 hl (by decide) rfl (fun ls hl => ?_)
        obtain ⟨n84, h⟩ := h
        exact L84 n84 v1 v2 v3 v4 v5 (v5.toNatClampNeg) 0 h (by omega) _ _ _ hP hD hS (lv_sub hl [2, 3, 4, 5, 6, 7, 1, 0] rfl)
  unfold wX0_totalOfEvents at h
  refine lv_iload_n (pc := 0) hx hb dX0_totalOfEvents_0 rfl (lv_at hl 2 rfl) ?_
  refine lv_if_lt (pc := 1) (tgt := 53) hx hb dX0_totalOfEvents_1 (by decide) (fun c_1 => ?_) (fun c_1 => ?_)
  · have h := h.1 c_1
    refine lv_iconst (pc := 53) (v := 0) hx hb dX0_totalOfEvents_53 (by decide) ?_
    exact zirV (pc := 54) (Wd := cW E ad wd cI cB cP cT) (u := (x0, y0, g0)) hx hb hr hlocks hAe hK hP hD hS rfl dX0_totalOfEvents_54 (Nat.le_refl _) (Nat.le_refl _) ⟨rfl, h⟩
  · have h := h.2 c_1
    refine lv_iload_n (pc := 4) hx hb dX0_totalOfEvents_4 rfl (lv_at hl 2 rfl) ?_
    refine lv_sipush (pc := 5) (v := 999) hx hb dX0_totalOfEvents_5 (by decide) ?_
    refine lv_icmp_gt (pc := 8) (tgt := 53) hx hb dX0_totalOfEvents_8 (by decide) (fun c_8 => ?_) (fun c_8 => ?_)
    · have h := h.1 c_8
      refine lv_iconst (pc := 53) (v := 0) hx hb dX0_totalOfEvents_53 (by decide) ?_
      exact zirV (pc := 54) (Wd := cW E ad wd cI cB cP cT) (u := (x0, y0, g0)) hx hb hr hlocks hAe hK hP hD hS rfl dX0_totalOfEvents_54 (Nat.le_refl _) (Nat.le_refl _) ⟨rfl, h⟩
    · have h := h.2 c_8
      refine lv_aload_n (pc := 11) hx hb dX0_totalOfEvents_11 rfl (lv_at hl 0 rfl) ?_
      refine cG_X0_query (pc := 12) hF hP lkX0_39 dX0_totalOfEvents_12 ?_
      refine cGN_X2_slide (pc := 15) hF hP lkX0_116 (v := ((x0 11) 0)) rfl dX0_totalOfEvents_15 ?_
      refine lv_iconst (pc := 18) (v := 1) hx hb dX0_totalOfEvents_18 (by decide) ?_
      refine lv_icmp_lt (pc := 19) (tgt := 53) hx hb dX0_totalOfEvents_19 (by decide) (fun c_19 => ?_) (fun c_19 => ?_)
      · have h := h.1 c_19
        refine lv_iconst (pc := 53) (v := 0) hx hb dX0_totalOfEvents_53 (by decide) ?_
        exact zirV (pc := 54) (Wd := cW E ad wd cI cB cP cT) (u := (x0, y0, g0)) hx hb hr hlocks hAe hK hP hD hS rfl dX0_totalOfEvents_54 (Nat.le_refl _) (Nat.le_refl _) ⟨rfl, h⟩
      · have h := h.2 c_19
        refine lv_iload_n (pc := 22) hx hb dX0_totalOfEvents_22 rfl (lv_at hl 2 rfl) ?_
        refine lv_aload_n (pc := 23) hx hb dX0_totalOfEvents_23 rfl (lv_at hl 0 rfl) ?_
        refine cG_X0_query (pc := 24) hF hP lkX0_39 dX0_totalOfEvents_24 ?_
        refine cGN_X2_slide (pc := 27) hF hP lkX0_116 (v := ((x0 11) 0)) rfl dX0_totalOfEvents_27 ?_
        obtain ⟨h0_30, h⟩ := h
        refine lv_irem (pc := 30) hx hb dX0_totalOfEvents_30 h0_30 ?_
        refine lv_if_ne (pc := 31) (tgt := 53) hx hb dX0_totalOfEvents_31 (by decide) (fun c_31 => ?_) (fun c_31 => ?_)
        · have h := h.2 c_31
          refine lv_iconst (pc := 53) (v := 0) hx hb dX0_totalOfEvents_53 (by decide) ?_
          exact zirV (pc := 54) (Wd := cW E ad wd cI cB cP cT) (u := (x0, y0, g0)) hx hb hr hlocks hAe hK hP hD hS rfl dX0_totalOfEvents_54 (Nat.le_refl _) (Nat.le_refl _) ⟨rfl, h⟩
        · have h := h.1 c_31
          refine lv_iload_n (pc := 34) hx hb dX0_totalOfEvents_34 rfl (lv_at hl 2 rfl) ?_
          refine lv_aload_n (pc := 35) hx hb dX0_totalOfEvents_35 rfl (lv_at hl 0 rfl) ?_
          refine cG_X0_query (pc := 36) hF hP lkX0_39 dX0_totalOfEvents_36 ?_
          refine cGN_X2_size (pc := 39) hF hP lkX0_119 (v := ((x0 10) 0)) rfl dX0_totalOfEvents_39 ?_
          refine lv_iadd (pc := 42) hx hb dX0_totalOfEvents_42 ?_
          refine lv_aload_n (pc := 43) hx hb dX0_totalOfEvents_43 rfl (lv_at hl 0 rfl) ?_
          refine cG_X0_now (pc := 44) hF hP lkX0_32 dX0_totalOfEvents_44 ?_
          refine cGN_X6_mark (pc := 47) hF hP (i := 0) (by omega) lkX0_57 (v := ((x0 2) 0)) rfl dX0_totalOfEvents_47 ?_
          refine lv_icmp_le (pc := 50) (tgt := 55) hx hb dX0_totalOfEvents_50 (by decide) (fun c_50 => ?_) (fun c_50 => ?_)
          · have h := h.1 c_50
            refine lv_iconst (pc := 55) (v := 0) hx hb dX0_totalOfEvents_55 (by decide) ?_
            refine lv_istore_n (pc := 56) (lv' := [(3, .int 0), (0, .ref (ad 2 0)), (1, .int a1), (2, .int a2)]) hx hb dX0_totalOfEvents_56 rfl hl (by decide) rfl (fun ls hl => ?_)
            refine lv_iconst (pc := 57) (v := 1) hx hb dX0_totalOfEvents_57 (by decide) ?_
            refine lv_istore (pc := 58) (lv' := [(4, .int 1), (3, .int 0), (0, .ref (ad 2 0)), (1, .int a1), (2, .int a2)]) hx hb dX0_totalOfEvents_58 hl (by decide) rfl (fun ls hl => ?_)
            refine lv_iconst (pc := 60) (v := 0) hx hb dX0_totalOfEvents_60 (by decide) ?_
            refine lv_istore (pc := 61) (lv' := [(5, .int 0), (4, .int 1), (3, .int 0), (0, .ref (ad 2 0)), (1, .int a1), (2, .int a2)]) hx hb dX0_totalOfEvents_61 hl (by decide) rfl (fun ls hl => ?_)
            obtain ⟨n63, h⟩ := h
            exact L63 n63 a1 a2 0 1 0 h _ _ _ hP hD hS (lv_sub hl [3, 4, 5, 2, 1, 0] rfl)
          · have h := h.2 c_50
            refine lv_iconst (pc := 53) (v := 0) hx hb dX0_totalOfEvents_53 (by decide) ?_
            exact zirV (pc := 54) (Wd := cW E ad wd cI cB cP cT) (u := (x0, y0, g0)) hx hb hr hlocks hAe hK hP hD hS rfl dX0_totalOfEvents_54 (Nat.le_refl _) (Nat.le_refl _) ⟨rfl, h⟩

def wX4_copyFrom (x : Nat → Nat → Int32) (y : Nat → Nat → Nat) (g : Nat → Nat → Nat → Int32) (q0 : Nat) (q1 : Nat) (bc bs : Nat) (Φ : (Nat → Nat → Int32) → (Nat → Nat → Nat) → (Nat → Nat → Nat → Int32) → Prop) : Prop := ((((x 0) q1) = ((x 0) q0) → (∃ kc_17 ks_17 bc_17 bs_17 : Nat, kc_17 + bc_17 ≤ bc ∧ ks_17 + bs_17 ≤ bs ∧ (wX4_makeRoom x y g q0 ((x 1) q1) kc_17 ks_17 (fun x_17 y_17 g_17 => (¬ (0 : Int32) < 0 ∧ ¬ (0 : Int32) < 0 ∧ ¬ (((x_17 1) q1) * ((x_17 0) q0)) < 0 ∧ (0 : Int32).toNatClampNeg + (((x_17 1) q1) * ((x_17 0) q0)).toNatClampNeg ≤ ((y_17 1) q1) ∧ (0 : Int32).toNatClampNeg + (((x_17 1) q1) * ((x_17 0) q0)).toNatClampNeg ≤ ((y_17 1) q0) ∧ (Φ (va_up x_17 1 (va_up (x_17 1) q0 ((x_17 1) q1))) y_17 (va_up g_17 0 (va_up (g_17 0) q0 (va_cpy ((g_17 0) q1) ((g_17 0) q0) (0 : Int32).toNatClampNeg (0 : Int32).toNatClampNeg (((x_17 1) q1) * ((x_17 0) q0)).toNatClampNeg))))))))) ∧ (¬ ((x 0) q1) = ((x 0) q0) → (Φ x y g)))
set_option maxRecDepth 100000 in
set_option maxHeartbeats 4000000 in
theorem kX4_copyFrom {l : Launch} {D : va_G} {E : va_W} {ad : Nat → Nat → Nat} {wd sk : Nat → Nat} {cI cB cP cT : ClassId} {sz : Nat} (x0 : Nat → Nat → Int32) (y0 : Nat → Nat → Nat) (g0 : Nat → Nat → Nat → Int32) (q0 : Nat) (q1 : Nat) (BC BS : Nat) {Φ : (Nat → Nat → Int32) → (Nat → Nat → Nat) → (Nat → Nat → Nat → Int32) → Prop} (h : wX4_copyFrom x0 y0 g0 q0 q1 BC BS Φ) (hq0 : q0 < 12) (hq1 : q1 < 12) : Met l yX4_copyFrom (zws yX4_copyFrom cX4_copyFrom 2 none) { frames := 2, cells := BC, slots := BS, locals := 83 } (zPc D (cTy cI cB cP cT) (cX wd sk) (cW E ad wd cI cB cP cT (x0, y0, g0)) [.ref (ad 5 q0), .ref (ad 5 q1)] sz) (zQv D (cTy cI cB cP cT) (cW E ad wd cI cB cP cT) (fun u => Φ u.1 u.2.1 u.2.2) (cW E ad wd cI cB cP cT (x0, y0, g0)) sz) BC BS (va_A (cW E ad wd cI cB cP cT (x0, y0, g0)) sz) := by
  refine zMet (by decide) (Nat.le_of_ble_eq_true rfl) ?_
  intro p e s m args below meth c A hx hb hr hml hown hts hlocks hsz hAe hA hS hP hK hD hX ls hl
  subst hsz
  have hF : zFx p s m args c cX4_copyFrom RX4 A D (cTy cI cB cP cT) (cX wd sk) 2 := ⟨hx, hb, hml, hown, hts, hA, hK, cX_cl wd sk, hX⟩
  have hl : lv_has ls 2 [(0, .ref (ad 5 q0)), (1, .ref (ad 5 q1))] := hl
  have hB : 0 + BC ≤ BC ∧ 0 + BS ≤ BS := ⟨by omega, by omega⟩
  unfold wX4_copyFrom at h
  refine lv_aload_n (pc := 0) hx hb dX4_copyFrom_0 rfl (lv_at hl 1 rfl) ?_
  refine cG_X4_width (pc := 1) hF hP (i := q1) (by omega) lkX4_15 (v := ((x0 0) q1)) rfl dX4_copyFrom_1 ?_
  refine lv_aload_n (pc := 4) hx hb dX4_copyFrom_4 rfl (lv_at hl 0 rfl) ?_
  refine cG_X4_width (pc := 5) hF hP (i := q0) (by omega) lkX4_15 (v := ((x0 0) q0)) rfl dX4_copyFrom_5 ?_
  refine lv_icmp_eq (pc := 8) (tgt := 12) hx hb dX4_copyFrom_8 (by decide) (fun c_8 => ?_) (fun c_8 => ?_)
  · have h := h.1 c_8
    refine lv_aload_n (pc := 12) hx hb dX4_copyFrom_12 rfl (lv_at hl 0 rfl) ?_
    refine lv_aload_n (pc := 13) hx hb dX4_copyFrom_13 rfl (lv_at hl 1 rfl) ?_
    refine cG_X4_count (pc := 14) hF hP (i := q1) (by omega) lkX4_25 (v := ((x0 1) q1)) rfl dX4_copyFrom_14 ?_
    obtain ⟨kc_17, ks_17, bc_17, bs_17, ec_17, es_17, h⟩ := h
    refine cVv (pc := 17) (x := x0) (y := y0) (g := g0) [.int ((x0 1) q1)] hF (kX4_makeRoom x0 y0 g0 q0 ((x0 1) q1) kc_17 ks_17 h (by omega)) (cwX4_X4_makeRoom hts ⟨Nat.le_of_ble_eq_true rfl, Nat.le_of_ble_eq_true rfl⟩) rfl (cA_R _ _ _ _ _ _ _ _ _ _ (i := q0) (by omega)) hP hD hS rfl rfl hl.1 (Nat.le_of_ble_eq_true rfl) dX4_copyFrom_17 ⟨by show _ ≤ BC; omega, by show _ ≤ BS; omega⟩ (fun x_17 y_17 g_17 H locs h hP hD hS => ?_)
    have hB : (0 + kc_17) + bc_17 ≤ BC ∧ (0 + ks_17) + bs_17 ≤ BS := ⟨by omega, by omega⟩
    refine lv_aload_n (pc := 20) hx hb dX4_copyFrom_20 rfl (lv_at hl 1 rfl) ?_
    refine cG_X4_cells (pc := 21) hF hP (i := q1) (by omega) lkX4_21 dX4_copyFrom_21 ?_
    refine lv_iconst (pc := 24) (v := 0) hx hb dX4_copyFrom_24 (by decide) ?_
    refine lv_aload_n (pc := 25) hx hb dX4_copyFrom_25 rfl (lv_at hl 0 rfl) ?_
    refine cG_X4_cells (pc := 26) hF hP (i := q0) (by omega) lkX4_21 dX4_copyFrom_26 ?_
    refine lv_iconst (pc := 29) (v := 0) hx hb dX4_copyFrom_29 (by decide) ?_
    refine lv_aload_n (pc := 30) hx hb dX4_copyFrom_30 rfl (lv_at hl 1 rfl) ?_
    refine cG_X4_count (pc := 31) hF hP (i := q1) (by omega) lkX4_25 (v := ((x_17 1) q1)) rfl dX4_copyFrom_31 ?_
    refine lv_aload_n (pc := 34) hx hb dX4_copyFrom_34 rfl (lv_at hl 0 rfl) ?_
    refine cG_X4_width (pc := 35) hF hP (i := q0) (by omega) lkX4_15 (v := ((x_17 0) q0)) rfl dX4_copyFrom_35 ?_
    refine lv_imul (pc := 38) hx hb dX4_copyFrom_38 ?_
    obtain ⟨h1_39, h2_39, h3_39, h4_39, h5_39, h⟩ := h
    refine c_copy (pc := 39) hF hP hl.1 hD hS (i := q1) (j := q0) (by omega) (by omega) (f := ((g_17 0) q1)) (f1 := ((g_17 0) q0)) rfl rfl h1_39 h2_39 h3_39 h4_39 h5_39 mlX4_36 ⟨Nat.le_of_ble_eq_true rfl, by show _ ≤ (83 : Nat); decide⟩ dX4_copyFrom_39 (fun H locs hP hD hS => ?_)
    refine lv_aload_n (pc := 42) hx hb dX4_copyFrom_42 rfl (lv_at hl 0 rfl) ?_
    refine lv_aload_n (pc := 43) hx hb dX4_copyFrom_43 rfl (lv_at hl 1 rfl) ?_
    refine cG_X4_count (pc := 44) hF hP (i := q1) (by omega) lkX4_25 (v := ((x_17 1) q1)) rfl dX4_copyFrom_44 ?_
    refine cP_X4_count (pc := 47) hF hP hD hS (i := q0) (by omega) lkX4_25 dX4_copyFrom_47 (fun H locs hP hD hS => ?_)
    exact zvr (pc := 50) (Wd := cW E ad wd cI cB cP cT) (u := ((va_up x_17 1 (va_up (x_17 1) q0 ((x_17 1) q1))), y_17, (va_up g_17 0 (va_up (g_17 0) q0 (va_cpy ((g_17 0) q1) ((g_17 0) q0) (0 : Int32).toNatClampNeg (0 : Int32).toNatClampNeg (((x_17 1) q1) * ((x_17 0) q0)).toNatClampNeg))))) hx hb hr hlocks hAe hK hP hD hS dX4_copyFrom_50 (by omega) (by omega) h
  · have h := h.2 c_8
    exact zvr (pc := 11) (Wd := cW E ad wd cI cB cP cT) (u := (x0, y0, g0)) hx hb hr hlocks hAe hK hP hD hS dX4_copyFrom_11 (by omega) (by omega) h

def wX5_beginAnew (x : Nat → Nat → Int32) (y : Nat → Nat → Nat) (g : Nat → Nat → Nat → Int32) (Φ : (Nat → Nat → Int32) → (Nat → Nat → Nat) → (Nat → Nat → Nat → Int32) → Prop) : Prop := (wX6_beginAnew (va_up (va_up x 13 (va_up (x 13) 0 0)) 14 (va_up (x 14) 0 0)) y g 1 (fun x_14 y_14 g_14 => (Φ x_14 y_14 g_14)))
set_option maxRecDepth 100000 in
set_option maxHeartbeats 4000000 in
theorem kX5_beginAnew {l : Launch} {D : va_G} {E : va_W} {ad : Nat → Nat → Nat} {wd sk : Nat → Nat} {cI cB cP cT : ClassId} {sz : Nat} (x0 : Nat → Nat → Int32) (y0 : Nat → Nat → Nat) (g0 : Nat → Nat → Nat → Int32) {Φ : (Nat → Nat → Int32) → (Nat → Nat → Nat) → (Nat → Nat → Nat → Int32) → Prop} (h : wX5_beginAnew x0 y0 g0 Φ) : Met l yX5_beginAnew (zws yX5_beginAnew cX5_beginAnew 1 none) { frames := 2, cells := 0, slots := 0, locals := 42 } (zPc D (cTy cI cB cP cT) (cX wd sk) (cW E ad wd cI cB cP cT (x0, y0, g0)) [.ref (ad 9 0)] sz) (zQv D (cTy cI cB cP cT) (cW E ad wd cI cB cP cT) (fun u => Φ u.1 u.2.1 u.2.2) (cW E ad wd cI cB cP cT (x0, y0, g0)) sz) 0 0 (va_A (cW E ad wd cI cB cP cT (x0, y0, g0)) sz) := by
  refine zMet (by decide) (Nat.le_of_ble_eq_true rfl) ?_
  intro p e s m args below meth c A hx hb hr hml hown hts hlocks hsz hAe hA hS hP hK hD hX ls hl
  subst hsz
  have hF : zFx p s m args c cX5_beginAnew RX5 A D (cTy cI cB cP cT) (cX wd sk) 1 := ⟨hx, hb, hml, hown, hts, hA, hK, cX_cl wd sk, hX⟩
  have hl : lv_has ls 1 [(0, .ref (ad 9 0))] := hl
  unfold wX5_beginAnew at h
  refine lv_aload_n (pc := 0) hx hb dX5_beginAnew_0 rfl (lv_at hl 0 rfl) ?_
  refine lv_iconst (pc := 1) (v := 0) hx hb dX5_beginAnew_1 (by decide) ?_
  refine cP_X5_count (pc := 2) hF hP hD hS lkX5_22 dX5_beginAnew_2 (fun H locs hP hD hS => ?_)
  refine lv_aload_n (pc := 5) hx hb dX5_beginAnew_5 rfl (lv_at hl 0 rfl) ?_
  refine lv_iconst (pc := 6) (v := 0) hx hb dX5_beginAnew_6 (by decide) ?_
  refine cP_X5_taken (pc := 7) hF hP hD hS lkX5_26 dX5_beginAnew_7 (fun H locs hP hD hS => ?_)
  refine lv_aload_n (pc := 10) hx hb dX5_beginAnew_10 rfl (lv_at hl 0 rfl) ?_
  refine cG_X5_completed (pc := 11) hF hP lkX5_18 dX5_beginAnew_11 ?_
  refine cVv (pc := 14) (x := (va_up (va_up x0 13 (va_up (x0 13) 0 0)) 14 (va_up (x0 14) 0 0))) (y := y0) (g := g0) [] hF (kX6_beginAnew (va_up (va_up x0 13 (va_up (x0 13) 0 0)) 14 (va_up (x0 14) 0 0)) y0 g0 1 h (by omega)) (cwX5_X6_beginAnew hts ⟨Nat.le_of_ble_eq_true rfl, Nat.le_of_ble_eq_true rfl⟩) rfl (cA_T _ _ _ _ _ _ _ _ _ _ (i := 1) (by omega)) hP hD hS rfl rfl hl.1 (Nat.le_of_ble_eq_true rfl) dX5_beginAnew_14 ⟨Nat.le_refl _, Nat.le_refl _⟩ (fun x_14 y_14 g_14 H locs h hP hD hS => ?_)
  exact zvr (pc := 17) (Wd := cW E ad wd cI cB cP cT) (u := (x_14, y_14, g_14)) hx hb hr hlocks hAe hK hP hD hS dX5_beginAnew_17 (Nat.le_refl _) (Nat.le_refl _) h

def wX5_forgetDoubtful (x : Nat → Nat → Int32) (y : Nat → Nat → Nat) (g : Nat → Nat → Nat → Int32) (Φ : (Nat → Nat → Int32) → (Nat → Nat → Nat) → (Nat → Nat → Nat → Int32) → Prop) : Prop := (Φ (va_up x 13 (va_up (x 13) 0 0)) y g)
set_option maxRecDepth 100000 in
set_option maxHeartbeats 4000000 in
theorem kX5_forgetDoubtful {l : Launch} {D : va_G} {E : va_W} {ad : Nat → Nat → Nat} {wd sk : Nat → Nat} {cI cB cP cT : ClassId} {sz : Nat} (x0 : Nat → Nat → Int32) (y0 : Nat → Nat → Nat) (g0 : Nat → Nat → Nat → Int32) {Φ : (Nat → Nat → Int32) → (Nat → Nat → Nat) → (Nat → Nat → Nat → Int32) → Prop} (h : wX5_forgetDoubtful x0 y0 g0 Φ) : Met l yX5_forgetDoubtful (zws yX5_forgetDoubtful cX5_forgetDoubtful 1 none) { frames := 0, cells := 0, slots := 0, locals := 0 } (zPc D (cTy cI cB cP cT) (cX wd sk) (cW E ad wd cI cB cP cT (x0, y0, g0)) [.ref (ad 9 0)] sz) (zQv D (cTy cI cB cP cT) (cW E ad wd cI cB cP cT) (fun u => Φ u.1 u.2.1 u.2.2) (cW E ad wd cI cB cP cT (x0, y0, g0)) sz) 0 0 (va_A (cW E ad wd cI cB cP cT (x0, y0, g0)) sz) := by
  refine zMet (by decide) (Nat.le_of_ble_eq_true rfl) ?_
  intro p e s m args below meth c A hx hb hr hml hown hts hlocks hsz hAe hA hS hP hK hD hX ls hl
  subst hsz
  have hF : zFx p s m args c cX5_forgetDoubtful RX5 A D (cTy cI cB cP cT) (cX wd sk) 1 := ⟨hx, hb, hml, hown, hts, hA, hK, cX_cl wd sk, hX⟩
  have hl : lv_has ls 1 [(0, .ref (ad 9 0))] := hl
  unfold wX5_forgetDoubtful at h
  refine lv_aload_n (pc := 0) hx hb dX5_forgetDoubtful_0 rfl (lv_at hl 0 rfl) ?_
  refine lv_iconst (pc := 1) (v := 0) hx hb dX5_forgetDoubtful_1 (by decide) ?_
  refine cP_X5_count (pc := 2) hF hP hD hS lkX5_22 dX5_forgetDoubtful_2 (fun H locs hP hD hS => ?_)
  exact zvr (pc := 5) (Wd := cW E ad wd cI cB cP cT) (u := ((va_up x0 13 (va_up (x0 13) 0 0)), y0, g0)) hx hb hr hlocks hAe hK hP hD hS dX5_forgetDoubtful_5 (Nat.le_refl _) (Nat.le_refl _) h

def lX6_copyFrom_2 (Φ : (Nat → Nat → Int32) → (Nat → Nat → Nat) → (Nat → Nat → Nat → Int32) → Prop) : Nat → (Nat → Nat → Int32) → (Nat → Nat → Nat) → (Nat → Nat → Nat → Int32) → Nat → Nat → Int32 → Nat → Nat → Prop
  | 0, _, _, _, _, _, _, _, _ => False
  | n2 + 1, x, y, g, q0, q1, v2, bc, bs => ((3 ≤ v2 → (∃ kc_45 ks_45 bc_45 bs_45 : Nat, kc_45 + bc_45 ≤ bc ∧ ks_45 + bs_45 ≤ bs ∧ (wX4_copyFrom x y g (5 + q0) (5 + q1) kc_45 ks_45 (fun x_45 y_45 g_45 => (Φ (va_up (va_up (va_up (va_up x_45 2 (va_up (x_45 2) q0 ((x_45 2) q1))) 3 (va_up (x_45 3) q0 ((x_45 3) q1))) 4 (va_up (x_45 4) q0 ((x_45 4) q1))) 5 (va_up (x_45 5) q0 ((x_45 5) q1))) y_45 g_45))))) ∧ (¬ 3 ≤ v2 → (vp_in v2 3 ∧ (vp_in v2 3 ∧ (vp_in v2 3 ∧ (vp_in v2 3 ∧ (∀ v2_31 : Int32, v2_31 = v2 + 1 → ((lX6_copyFrom_2 Φ n2) x y (va_up (va_up g 1 (va_up (g 1) q0 (upd ((g 1) q0) v2.toNatClampNeg (((g 1) q1) v2.toNatClampNeg)))) 2 (va_up (g 2) q0 (upd ((g 2) q0) v2.toNatClampNeg (((g 2) q1) v2.toNatClampNeg)))) q0 q1 v2_31 bc bs))))))))
def wX6_copyFrom (x : Nat → Nat → Int32) (y : Nat → Nat → Nat) (g : Nat → Nat → Nat → Int32) (q0 : Nat) (q1 : Nat) (bc bs : Nat) (Φ : (Nat → Nat → Int32) → (Nat → Nat → Nat) → (Nat → Nat → Nat → Int32) → Prop) : Prop := (∃ n2 : Nat, lX6_copyFrom_2 Φ n2 x y g q0 q1 0 bc bs)
set_option maxRecDepth 100000 in
set_option maxHeartbeats 4000000 in
theorem kX6_copyFrom {l : Launch} {D : va_G} {E : va_W} {ad : Nat → Nat → Nat} {wd sk : Nat → Nat} {cI cB cP cT : ClassId} {sz : Nat} (x0 : Nat → Nat → Int32) (y0 : Nat → Nat → Nat) (g0 : Nat → Nat → Nat → Int32) (q0 : Nat) (q1 : Nat) (BC BS : Nat) {Φ : (Nat → Nat → Int32) → (Nat → Nat → Nat) → (Nat → Nat → Nat → Int32) → Prop} (h : wX6_copyFrom x0 y0 g0 q0 q1 BC BS Φ) (hq0 : q0 < 7) (hq1 : q1 < 7) : Met l yX6_copyFrom (zws yX6_copyFrom cX6_copyFrom 3 none) { frames := 3, cells := BC, slots := BS, locals := 104 } (zPc D (cTy cI cB cP cT) (cX wd sk) (cW E ad wd cI cB cP cT (x0, y0, g0)) [.ref (ad 6 q0), .ref (ad 6 q1)] sz) (zQv D (cTy cI cB cP cT) (cW E ad wd cI cB cP cT) (fun u => Φ u.1 u.2.1 u.2.2) (cW E ad wd cI cB cP cT (x0, y0, g0)) sz) BC BS (va_A (cW E ad wd cI cB cP cT (x0, y0, g0)) sz) := by
  refine zMet (by decide) (Nat.le_of_ble_eq_true rfl) ?_
  intro p e s m args below meth c A hx hb hr hml hown hts hlocks hsz hAe hA hS hP hK hD hX ls hl
  subst hsz
  have hF : zFx p s m args c cX6_copyFrom RX6 A D (cTy cI cB cP cT) (cX wd sk) 3 := ⟨hx, hb, hml, hown, hts, hA, hK, cX_cl wd sk, hX⟩
  have hl : lv_has ls 3 [(0, .ref (ad 6 q0)), (1, .ref (ad 6 q1))] := hl
  have hB : 0 + BC ≤ BC ∧ 0 + BS ≤ BS := ⟨by omega, by omega⟩
  have L2 : ∀ n2 : Nat, ∀ (x : Nat → Nat → Int32) (y : Nat → Nat → Nat) (g : Nat → Nat → Nat → Int32) (q0 : Nat) (q1 : Nat) (v2 : Int32) (bc bs : Nat), lX6_copyFrom_2 Φ n2 x y g q0 q1 v2 bc bs → q0 < 7 → q1 < 7 → ∀ (cells slots : Nat), (cells + bc ≤ BC ∧ slots + bs ≤ BS) → ∀ (H : Heap) (locs : List Loc) (ls : Array Slot), va_P D vwCl (cW E ad wd cI cB cP cT (x, y, g)) H → va_D A (cW E ad wd cI cB cP cT (x, y, g)) → va_S A s.heap H locs → lv_has ls 3 [(0, .ref (ad 6 q0)), (1, .ref (ad 6 q1)), (2, .int v2)] → W p l e { frames := 3, cells := BC, slots := BS, locals := 104 } s m args below meth c H locs cells slots (MQ below (zQv D (cTy cI cB cP cT) (cW E ad wd cI cB cP cT) (fun u => Φ u.1 u.2.1 u.2.2) (cW E ad wd cI cB cP cT (x0, y0, g0)) s.heap.size) args s BC BS (va_A (cW E ad wd cI cB cP cT (x0, y0, g0)) s.heap.size)) (F0 m 2 ls []) := by
    intro n2
    induction n2 with
    | zero => intro x y g q0 q1 v2 bc bs h hcq0 hcq1 cells slots hB H locs ls hP hD hS hl; exact h.elim
    | succ n2 ih2 =>
      intro x y g q0 q1 v2 bc bs h hcq0 hcq1 cells slots hB H locs ls hP hD hS hl
      unfold lX6_copyFrom_2 at h
      refine lv_iload_n (pc := 2) hx hb dX6_copyFrom_2 rfl (lv_at hl 2 rfl) ?_
      refine lv_iconst (pc := 3) (v := 3) hx hb dX6_copyFrom_3 (by decide) ?_
      refine lv_icmp_ge (pc := 4) (tgt := 37) hx hb dX6_copyFrom_4 (by decide) (fun c_4 => ?_) (fun c_4 => ?_)
      · have h := h.1 c_4
        refine lv_aload_n (pc := 37) hx hb dX6_copyFrom_37 rfl (lv_at hl 0 rfl) ?_
        refine cG_X6_windows (pc := 38) hF hP (i := q0) (by omega) lkX6_23 dX6_copyFrom_38 ?_
        refine lv_aload_n (pc := 41) hx hb dX6_copyFrom_41 rfl (lv_at hl 1 rfl) ?_
        refine cG_X6_windows (pc := 42) hF hP (i := q1) (by omega) lkX6_23 dX6_copyFrom_42 ?_
        obtain ⟨kc_45, ks_45, bc_45, bs_45, ec_45, es_45, h⟩ := h
        refine cVv (pc := 45) (x := x) (y := y) (g := g) [.ref (ad 5 (5 + q1))] hF (kX4_copyFrom x y g (5 + q0) (5 + q1) kc_45 ks_45 h (by omega) (by omega)) (cwX6_X4_copyFrom hts ⟨Nat.le_of_ble_eq_true rfl, Nat.le_of_ble_eq_true rfl⟩) rfl (cA_R _ _ _ _ _ _ _ _ _ _ (i := (5 + q0)) (by omega)) hP hD hS rfl rfl hl.1 (Nat.le_of_ble_eq_true rfl) dX6_copyFrom_45 ⟨by show _ ≤ BC; omega, by show _ ≤ BS; omega⟩ (fun x_45 y_45 g_45 H locs h hP hD hS => ?_)
        have hB : (cells + kc_45) + bc_45 ≤ BC ∧ (slots + ks_45) + bs_45 ≤ BS := ⟨by omega, by omega⟩
        refine lv_aload_n (pc := 48) hx hb dX6_copyFrom_48 rfl (lv_at hl 0 rfl) ?_
        refine lv_aload_n (pc := 49) hx hb dX6_copyFrom_49 rfl (lv_at hl 1 rfl) ?_
        refine cG_X6_mark (pc := 50) hF hP (i := q1) (by omega) lkX6_27 (v := ((x_45 2) q1)) rfl dX6_copyFrom_50 ?_
        refine cP_X6_mark (pc := 53) hF hP hD hS (i := q0) (by omega) lkX6_27 dX6_copyFrom_53 (fun H locs hP hD hS => ?_)
        refine lv_aload_n (pc := 56) hx hb dX6_copyFrom_56 rfl (lv_at hl 0 rfl) ?_
        refine lv_aload_n (pc := 57) hx hb dX6_copyFrom_57 rfl (lv_at hl 1 rfl) ?_
        refine cG_X6_lateCount (pc := 58) hF hP (i := q1) (by omega) lkX6_31 (v := ((x_45 3) q1)) rfl dX6_copyFrom_58 ?_
        refine cP_X6_lateCount (pc := 61) hF hP hD hS (i := q0) (by omega) lkX6_31 dX6_copyFrom_61 (fun H locs hP hD hS => ?_)
        refine lv_aload_n (pc := 64) hx hb dX6_copyFrom_64 rfl (lv_at hl 0 rfl) ?_
        refine lv_aload_n (pc := 65) hx hb dX6_copyFrom_65 rfl (lv_at hl 1 rfl) ?_
        refine cG_X6_resultCount (pc := 66) hF hP (i := q1) (by omega) lkX6_34 (v := ((x_45 4) q1)) rfl dX6_copyFrom_66 ?_
        refine cP_X6_resultCount (pc := 69) hF hP hD hS (i := q0) (by omega) lkX6_34 dX6_copyFrom_69 (fun H locs hP hD hS => ?_)
        refine lv_aload_n (pc := 72) hx hb dX6_copyFrom_72 rfl (lv_at hl 0 rfl) ?_
        refine lv_aload_n (pc := 73) hx hb dX6_copyFrom_73 rfl (lv_at hl 1 rfl) ?_
        refine cG_X6_number (pc := 74) hF hP (i := q1) (by omega) lkX6_37 (v := ((x_45 5) q1)) rfl dX6_copyFrom_74 ?_
        refine cP_X6_number (pc := 77) hF hP hD hS (i := q0) (by omega) lkX6_37 dX6_copyFrom_77 (fun H locs hP hD hS => ?_)
        exact zvr (pc := 80) (Wd := cW E ad wd cI cB cP cT) (u := ((va_up (va_up (va_up (va_up x_45 2 (va_up (x_45 2) q0 ((x_45 2) q1))) 3 (va_up (x_45 3) q0 ((x_45 3) q1))) 4 (va_up (x_45 4) q0 ((x_45 4) q1))) 5 (va_up (x_45 5) q0 ((x_45 5) q1))), y_45, g_45)) hx hb hr hlocks hAe hK hP hD hS dX6_copyFrom_80 (by omega) (by omega) h
      · have h := h.2 c_4
        refine lv_aload_n (pc := 7) hx hb dX6_copyFrom_7 rfl (lv_at hl 0 rfl) ?_
        refine cG_X6_read (pc := 8) hF hP (i := q0) (by omega) lkX6_9 dX6_copyFrom_8 ?_
        refine lv_iload_n (pc := 11) hx hb dX6_copyFrom_11 rfl (lv_at hl 2 rfl) ?_
        refine lv_aload_n (pc := 12) hx hb dX6_copyFrom_12 rfl (lv_at hl 1 rfl) ?_
        refine cG_X6_read (pc := 13) hF hP (i := q1) (by omega) lkX6_9 dX6_copyFrom_13 ?_
        refine lv_iload_n (pc := 16) hx hb dX6_copyFrom_16 rfl (lv_at hl 2 rfl) ?_
        obtain ⟨hi_17, h⟩ := h
        refine cL_TR (pc := 17) hF hP (i := q1) (by omega) (f := ((g 1) q1)) rfl hi_17 dX6_copyFrom_17 ?_
        obtain ⟨hi_18, h⟩ := h
        refine cT_TR (pc := 18) hF hP hD hS (i := q0) (by omega) (f := ((g 1) q0)) rfl hi_18 dX6_copyFrom_18 (fun H locs hP hD hS => ?_)
        refine lv_aload_n (pc := 19) hx hb dX6_copyFrom_19 rfl (lv_at hl 0 rfl) ?_
        refine cG_X6_greatest (pc := 20) hF hP (i := q0) (by omega) lkX6_15 dX6_copyFrom_20 ?_
        refine lv_iload_n (pc := 23) hx hb dX6_copyFrom_23 rfl (lv_at hl 2 rfl) ?_
        refine lv_aload_n (pc := 24) hx hb dX6_copyFrom_24 rfl (lv_at hl 1 rfl) ?_
        refine cG_X6_greatest (pc := 25) hF hP (i := q1) (by omega) lkX6_15 dX6_copyFrom_25 ?_
        refine lv_iload_n (pc := 28) hx hb dX6_copyFrom_28 rfl (lv_at hl 2 rfl) ?_
        obtain ⟨hi_29, h⟩ := h
        refine cL_TG (pc := 29) hF hP (i := q1) (by omega) (f := ((g 2) q1)) rfl hi_29 dX6_copyFrom_29 ?_
        obtain ⟨hi_30, h⟩ := h
        refine cT_TG (pc := 30) hF hP hD hS (i := q0) (by omega) (f := ((g 2) q0)) rfl hi_30 dX6_copyFrom_30 (fun H locs hP hD hS => ?_)
        obtain ⟨v2_31, e_v2_31⟩ : ∃ y : Int32, y = v2 + 1 := ⟨_, rfl⟩
        replace h := h v2_31 e_v2_31
        refine lv_iinc (pc := 31) (v := v2_31) (lv' := [(2, .int v2_31), (0, .ref (ad 6 q0)), (1, .ref (ad 6 q1))]) hx hb dX6_copyFrom_31 hl (k := 2) rfl (by rw [e_v2_31]; rfl) (by decide) rfl (fun ls hl => ?_)
        refine lv_goto (pc := 34) (tgt := 2) hx hb dX6_copyFrom_34 (by decide) ?_
        exact ih2 x y (va_up (va_up g 1 (va_up (g 1) q0 (upd ((g 1) q0) v2.toNatClampNeg (((g 1) q1) v2.toNatClampNeg)))) 2 (va_up (g 2) q0 (upd ((g 2) q0) v2.toNatClampNeg (((g 2) q1) v2.toNatClampNeg)))) q0 q1 v2_31 bc bs h (by omega) (by omega) _ _ hB _ _ _ hP hD hS (lv_sub hl [1, 2, 0] rfl)
  unfold wX6_copyFrom at h
  refine lv_iconst (pc := 0) (v := 0) hx hb dX6_copyFrom_0 (by decide) ?_
  refine lv_istore_n (pc := 1) (lv' := [(2, .int 0), (0, .ref (ad 6 q0)), (1, .ref (ad 6 q1))]) hx hb dX6_copyFrom_1 rfl hl (by decide) rfl (fun ls hl => ?_)
  obtain ⟨n2, h⟩ := h
  exact L2 n2 x0 y0 g0 q0 q1 0 BC BS h (by omega) (by omega) _ _ hB _ _ _ hP hD hS (lv_sub hl [1, 2, 0] rfl)

def wX5_take (x : Nat → Nat → Int32) (y : Nat → Nat → Nat) (g : Nat → Nat → Nat → Int32) (q1 : Nat) (a2 : Int32) (bc bs : Nat) (Φ : Int32 → (Nat → Nat → Int32) → (Nat → Nat → Nat) → (Nat → Nat → Nat → Int32) → Prop) : Prop := ((((x 13) 0) < 5 → (vp_in ((x 13) 0) 5 ∧ ((y 7) ((x 13) 0).toNatClampNeg) < 7 ∧ (∃ kc_22 ks_22 bc_22 bs_22 : Nat, kc_22 + bc_22 ≤ bc ∧ ks_22 + bs_22 ≤ bs ∧ (wX6_copyFrom x y g ((y 7) ((x 13) 0).toNatClampNeg) q1 kc_22 ks_22 (fun x_22 y_22 g_22 => (Φ ((va_up (x_22 5) ((y 7) ((x 13) 0).toNatClampNeg) ((x_22 14) 0)) ((y 7) ((x 13) 0).toNatClampNeg)) (va_up (va_up (va_up (va_up x_22 4 (va_up (x_22 4) ((y 7) ((x 13) 0).toNatClampNeg) a2)) 5 (va_up (x_22 5) ((y 7) ((x 13) 0).toNatClampNeg) ((x_22 14) 0))) 13 (va_up (x_22 13) 0 (((x_22 13) 0) + 1))) 14 (va_up (x_22 14) 0 (((x_22 14) 0) + 1))) y_22 g_22)))))) ∧ (¬ ((x 13) 0) < 5 → (Φ (-1) x y g)))
set_option maxRecDepth 100000 in
set_option maxHeartbeats 4000000 in
theorem kX5_take {l : Launch} {D : va_G} {E : va_W} {ad : Nat → Nat → Nat} {wd sk : Nat → Nat} {cI cB cP cT : ClassId} {sz : Nat} (x0 : Nat → Nat → Int32) (y0 : Nat → Nat → Nat) (g0 : Nat → Nat → Nat → Int32) (q1 : Nat) (a2 : Int32) (BC BS : Nat) {Φ : Int32 → (Nat → Nat → Int32) → (Nat → Nat → Nat) → (Nat → Nat → Nat → Int32) → Prop} (h : wX5_take x0 y0 g0 q1 a2 BC BS Φ) (hq1 : q1 < 7) : Met l yX5_take (zws yX5_take cX5_take 4 (some .int)) { frames := 4, cells := BC, slots := BS, locals := 126 } (zPc D (cTy cI cB cP cT) (cX wd sk) (cW E ad wd cI cB cP cT (x0, y0, g0)) [.ref (ad 9 0), .ref (ad 6 q1), .int a2] sz) (zQi D (cTy cI cB cP cT) (cW E ad wd cI cB cP cT) (fun r u => Φ r u.1 u.2.1 u.2.2) (cW E ad wd cI cB cP cT (x0, y0, g0)) sz) BC BS (va_A (cW E ad wd cI cB cP cT (x0, y0, g0)) sz) := by
  refine zMet (by decide) (Nat.le_of_ble_eq_true rfl) ?_
  intro p e s m args below meth c A hx hb hr hml hown hts hlocks hsz hAe hA hS hP hK hD hX ls hl
  subst hsz
  have hF : zFx p s m args c cX5_take RX5 A D (cTy cI cB cP cT) (cX wd sk) 4 := ⟨hx, hb, hml, hown, hts, hA, hK, cX_cl wd sk, hX⟩
  have hl : lv_has ls 4 [(0, .ref (ad 9 0)), (1, .ref (ad 6 q1)), (2, .int a2)] := hl
  have hB : 0 + BC ≤ BC ∧ 0 + BS ≤ BS := ⟨by omega, by omega⟩
  unfold wX5_take at h
  refine lv_aload_n (pc := 0) hx hb dX5_take_0 rfl (lv_at hl 0 rfl) ?_
  refine cG_X5_count (pc := 1) hF hP lkX5_22 (v := ((x0 13) 0)) rfl dX5_take_1 ?_
  refine lv_iconst (pc := 4) (v := 5) hx hb dX5_take_4 (by decide) ?_
  refine lv_icmp_lt (pc := 5) (tgt := 10) hx hb dX5_take_5 (by decide) (fun c_5 => ?_) (fun c_5 => ?_)
  · have h := h.1 c_5
    refine lv_aload_n (pc := 10) hx hb dX5_take_10 rfl (lv_at hl 0 rfl) ?_
    refine cG_X5_doubted (pc := 11) hF hP lkX5_11 dX5_take_11 ?_
    refine lv_aload_n (pc := 14) hx hb dX5_take_14 rfl (lv_at hl 0 rfl) ?_
    refine cG_X5_count (pc := 15) hF hP lkX5_22 (v := ((x0 13) 0)) rfl dX5_take_15 ?_
    obtain ⟨hi_18, hj_18, h⟩ := h
    refine cL_NA (pc := 18) hF hP hi_18 dX5_take_18 ?_
    refine lv_astore_n (pc := 19) (lv' := [(3, .ref (ad 6 ((y0 7) ((x0 13) 0).toNatClampNeg))), (0, .ref (ad 9 0)), (1, .ref (ad 6 q1)), (2, .int a2)]) hx hb dX5_take_19 rfl hl (by decide) rfl (fun ls hl => ?_)
    refine lv_aload_n (pc := 20) hx hb dX5_take_20 rfl (lv_at hl 0 rfl) ?_
    refine lv_aload_n (pc := 21) hx hb dX5_take_21 rfl (lv_at hl 2 rfl) ?_
    obtain ⟨kc_22, ks_22, bc_22, bs_22, ec_22, es_22, h⟩ := h
    refine cVv (pc := 22) (x := x0) (y := y0) (g := g0) [.ref (ad 6 q1)] hF (kX6_copyFrom x0 y0 g0 ((y0 7) ((x0 13) 0).toNatClampNeg) q1 kc_22 ks_22 h (by omega) (by omega)) (cwX5_X6_copyFrom hts ⟨Nat.le_of_ble_eq_true rfl, Nat.le_of_ble_eq_true rfl⟩) rfl (cA_T _ _ _ _ _ _ _ _ _ _ (i := ((y0 7) ((x0 13) 0).toNatClampNeg)) (by omega)) hP hD hS rfl rfl hl.1 (Nat.le_of_ble_eq_true rfl) dX5_take_22 ⟨by show _ ≤ BC; omega, by show _ ≤ BS; omega⟩ (fun x_22 y_22 g_22 H locs h hP hD hS => ?_)
    have hB : (0 + kc_22) + bc_22 ≤ BC ∧ (0 + ks_22) + bs_22 ≤ BS := ⟨by omega, by omega⟩
    refine lv_aload_n (pc := 25) hx hb dX5_take_25 rfl (lv_at hl 0 rfl) ?_
    refine lv_iload_n (pc := 26) hx hb dX5_take_26 rfl (lv_at hl 3 rfl) ?_
    refine cPN_X6_resultCount (pc := 27) hF hP hD hS (i := ((y0 7) ((x0 13) 0).toNatClampNeg)) (by omega) lkX5_36 dX5_take_27 (fun H locs hP hD hS => ?_)
    refine lv_aload_n (pc := 30) hx hb dX5_take_30 rfl (lv_at hl 0 rfl) ?_
    refine lv_aload_n (pc := 31) hx hb dX5_take_31 rfl (lv_at hl 1 rfl) ?_
    refine cG_X5_taken (pc := 32) hF hP lkX5_26 (v := ((x_22 14) 0)) rfl dX5_take_32 ?_
    refine cPN_X6_number (pc := 35) hF hP hD hS (i := ((y0 7) ((x0 13) 0).toNatClampNeg)) (by omega) lkX5_39 dX5_take_35 (fun H locs hP hD hS => ?_)
    refine lv_aload_n (pc := 38) hx hb dX5_take_38 rfl (lv_at hl 1 rfl) ?_
    refine lv_dup (pc := 39) hx hb dX5_take_39 rfl ?_
    refine cG_X5_count (pc := 40) hF hP lkX5_22 (v := ((x_22 13) 0)) rfl dX5_take_40 ?_
    refine lv_iconst (pc := 43) (v := 1) hx hb dX5_take_43 (by decide) ?_
    refine lv_iadd (pc := 44) hx hb dX5_take_44 ?_
    refine cP_X5_count (pc := 45) hF hP hD hS lkX5_22 dX5_take_45 (fun H locs hP hD hS => ?_)
    refine lv_aload_n (pc := 48) hx hb dX5_take_48 rfl (lv_at hl 1 rfl) ?_
    refine lv_dup (pc := 49) hx hb dX5_take_49 rfl ?_
    refine cG_X5_taken (pc := 50) hF hP lkX5_26 (v := ((x_22 14) 0)) rfl dX5_take_50 ?_
    refine lv_iconst (pc := 53) (v := 1) hx hb dX5_take_53 (by decide) ?_
    refine lv_iadd (pc := 54) hx hb dX5_take_54 ?_
    refine cP_X5_taken (pc := 55) hF hP hD hS lkX5_26 dX5_take_55 (fun H locs hP hD hS => ?_)
    refine lv_aload_n (pc := 58) hx hb dX5_take_58 rfl (lv_at hl 0 rfl) ?_
    refine cGN_X6_number (pc := 59) hF hP (i := ((y0 7) ((x0 13) 0).toNatClampNeg)) (by omega) lkX5_39 (v := ((va_up (x_22 5) ((y0 7) ((x0 13) 0).toNatClampNeg) ((x_22 14) 0)) ((y0 7) ((x0 13) 0).toNatClampNeg))) rfl dX5_take_59 ?_
    exact zirV (pc := 62) (Wd := cW E ad wd cI cB cP cT) (u := ((va_up (va_up (va_up (va_up x_22 4 (va_up (x_22 4) ((y0 7) ((x0 13) 0).toNatClampNeg) a2)) 5 (va_up (x_22 5) ((y0 7) ((x0 13) 0).toNatClampNeg) ((x_22 14) 0))) 13 (va_up (x_22 13) 0 (((x_22 13) 0) + 1))) 14 (va_up (x_22 14) 0 (((x_22 14) 0) + 1))), y_22, g_22)) hx hb hr hlocks hAe hK hP hD hS rfl dX5_take_62 (by omega) (by omega) h
  · have h := h.2 c_5
    refine lv_iconst (pc := 8) (v := (-1)) hx hb dX5_take_8 (by decide) ?_
    exact zirV (pc := 9) (Wd := cW E ad wd cI cB cP cT) (u := (x0, y0, g0)) hx hb hr hlocks hAe hK hP hD hS rfl dX5_take_9 (by omega) (by omega) h

def lX5_placeOf_2 (Φ : Int32 → Prop) : Nat → (Nat → Nat → Int32) → (Nat → Nat → Nat) → (Nat → Nat → Nat → Int32) → Int32 → Int32 → Prop
  | 0, _, _, _, _, _ => False
  | n2 + 1, x, y, g, v1, v2 => ((((x 13) 0) ≤ v2 → (Φ (-1))) ∧ (¬ ((x 13) 0) ≤ v2 → (vp_in v2 5 ∧ ((y 7) v2.toNatClampNeg) < 7 ∧ ((((x 5) ((y 7) v2.toNatClampNeg)) = v1 → (Φ v2)) ∧ (¬ ((x 5) ((y 7) v2.toNatClampNeg)) = v1 → (∀ v2_25 : Int32, v2_25 = v2 + 1 → ((lX5_placeOf_2 Φ n2) x y g v1 v2_25)))))))
def wX5_placeOf (x : Nat → Nat → Int32) (y : Nat → Nat → Nat) (g : Nat → Nat → Nat → Int32) (a1 : Int32) (Φ : Int32 → Prop) : Prop := (∃ n2 : Nat, lX5_placeOf_2 Φ n2 x y g a1 0)
set_option maxRecDepth 100000 in
set_option maxHeartbeats 4000000 in
theorem kX5_placeOf {l : Launch} {D : va_G} {E : va_W} {ad : Nat → Nat → Nat} {wd sk : Nat → Nat} {cI cB cP cT : ClassId} {sz : Nat} (x0 : Nat → Nat → Int32) (y0 : Nat → Nat → Nat) (g0 : Nat → Nat → Nat → Int32) (a1 : Int32) {Φ : Int32 → Prop} (h : wX5_placeOf x0 y0 g0 a1 Φ) : Met l yX5_placeOf (zws yX5_placeOf cX5_placeOf 3 (some .int)) { frames := 0, cells := 0, slots := 0, locals := 0 } (zPc D (cTy cI cB cP cT) (cX wd sk) (cW E ad wd cI cB cP cT (x0, y0, g0)) [.ref (ad 9 0), .int a1] sz) (zQi D (cTy cI cB cP cT) (cW E ad wd cI cB cP cT) (fun r u => u = (x0, y0, g0) ∧ Φ r) (cW E ad wd cI cB cP cT (x0, y0, g0)) sz) 0 0 (va_A (cW E ad wd cI cB cP cT (x0, y0, g0)) sz) := by
  refine zMet (by decide) (Nat.le_of_ble_eq_true rfl) ?_
  intro p e s m args below meth c A hx hb hr hml hown hts hlocks hsz hAe hA hS hP hK hD hX ls hl
  subst hsz
  have hF : zFx p s m args c cX5_placeOf RX5 A D (cTy cI cB cP cT) (cX wd sk) 3 := ⟨hx, hb, hml, hown, hts, hA, hK, cX_cl wd sk, hX⟩
  have hl : lv_has ls 3 [(0, .ref (ad 9 0)), (1, .int a1)] := hl
  have L2 : ∀ n2 : Nat, ∀ (v1 : Int32) (v2 : Int32), lX5_placeOf_2 Φ n2 x0 y0 g0 v1 v2 → ∀ (H : Heap) (locs : List Loc) (ls : Array Slot), va_P D vwCl (cW E ad wd cI cB cP cT (x0, y0, g0)) H → va_D A (cW E ad wd cI cB cP cT (x0, y0, g0)) → va_S A s.heap H locs → lv_has ls 3 [(0, .ref (ad 9 0)), (1, .int v1), (2, .int v2)] → W p l e { frames := 0, cells := 0, slots := 0, locals := 0 } s m args below meth c H locs 0 0 (MQ below (zQi D (cTy cI cB cP cT) (cW E ad wd cI cB cP cT) (fun r u => u = (x0, y0, g0) ∧ Φ r) (cW E ad wd cI cB cP cT (x0, y0, g0)) s.heap.size) args s 0 0 (va_A (cW E ad wd cI cB cP cT (x0, y0, g0)) s.heap.size)) (F0 m 2 ls []) := by
    intro n2
    induction n2 with
    | zero => intro v1 v2 h H locs ls hP hD hS hl; exact h.elim
    | succ n2 ih2 =>
      intro v1 v2 h H locs ls hP hD hS hl
      unfold lX5_placeOf_2 at h
      refine lv_iload_n (pc := 2) hx hb dX5_placeOf_2 rfl (lv_at hl 2 rfl) ?_
      refine lv_aload_n (pc := 3) hx hb dX5_placeOf_3 rfl (lv_at hl 0 rfl) ?_
      refine cG_X5_count (pc := 4) hF hP lkX5_22 (v := ((x0 13) 0)) rfl dX5_placeOf_4 ?_
      refine lv_icmp_ge (pc := 7) (tgt := 31) hx hb dX5_placeOf_7 (by decide) (fun c_7 => ?_) (fun c_7 => ?_)
      · have h := h.1 c_7
        refine lv_iconst (pc := 31) (v := (-1)) hx hb dX5_placeOf_31 (by decide) ?_
        exact zirV (pc := 32) (Wd := cW E ad wd cI cB cP cT) (u := (x0, y0, g0)) hx hb hr hlocks hAe hK hP hD hS rfl dX5_placeOf_32 (Nat.le_refl _) (Nat.le_refl _) ⟨rfl, h⟩
      · have h := h.2 c_7
        refine lv_aload_n (pc := 10) hx hb dX5_placeOf_10 rfl (lv_at hl 0 rfl) ?_
        refine cG_X5_doubted (pc := 11) hF hP lkX5_11 dX5_placeOf_11 ?_
        refine lv_iload_n (pc := 14) hx hb dX5_placeOf_14 rfl (lv_at hl 2 rfl) ?_
        obtain ⟨hi_15, hj_15, h⟩ := h
        refine cL_NA (pc := 15) hF hP hi_15 dX5_placeOf_15 ?_
        refine cGN_X6_number (pc := 16) hF hP (i := ((y0 7) v2.toNatClampNeg)) (by omega) lkX5_39 (v := ((x0 5) ((y0 7) v2.toNatClampNeg))) rfl dX5_placeOf_16 ?_
        refine lv_iload_n (pc := 19) hx hb dX5_placeOf_19 rfl (lv_at hl 1 rfl) ?_
        refine lv_icmp_ne (pc := 20) (tgt := 25) hx hb dX5_placeOf_20 (by decide) (fun c_20 => ?_) (fun c_20 => ?_)
        · have h := h.2 c_20
          obtain ⟨v2_25, e_v2_25⟩ : ∃ y : Int32, y = v2 + 1 := ⟨_, rfl⟩
          replace h := h v2_25 e_v2_25
          refine lv_iinc (pc := 25) (v := v2_25) (lv' := [(2, .int v2_25), (0, .ref (ad 9 0)), (1, .int v1)]) hx hb dX5_placeOf_25 hl (k := 2) rfl (by rw [e_v2_25]; rfl) (by decide) rfl (fun ls hl => ?_)
          refine lv_goto (pc := 28) (tgt := 2) hx hb dX5_placeOf_28 (by decide) ?_
          exact ih2 v1 v2_25 h _ _ _ hP hD hS (lv_sub hl [1, 2, 0] rfl)
        · have h := h.1 c_20
          refine lv_iload_n (pc := 23) hx hb dX5_placeOf_23 rfl (lv_at hl 2 rfl) ?_
          exact zirV (pc := 24) (Wd := cW E ad wd cI cB cP cT) (u := (x0, y0, g0)) hx hb hr hlocks hAe hK hP hD hS rfl dX5_placeOf_24 (Nat.le_refl _) (Nat.le_refl _) ⟨rfl, h⟩
  unfold wX5_placeOf at h
  refine lv_iconst (pc := 0) (v := 0) hx hb dX5_placeOf_0 (by decide) ?_
  refine lv_istore_n (pc := 1) (lv' := [(2, .int 0), (0, .ref (ad 9 0)), (1, .int a1)]) hx hb dX5_placeOf_1 rfl hl (by decide) rfl (fun ls hl => ?_)
  obtain ⟨n2, h⟩ := h
  exact L2 n2 a1 0 h _ _ _ hP hD hS (lv_sub hl [1, 2, 0] rfl)

def lX5_completeAt_32 (Φ : (Nat → Nat → Int32) → (Nat → Nat → Nat) → (Nat → Nat → Nat → Int32) → Prop) : Nat → (Nat → Nat → Int32) → (Nat → Nat → Nat) → (Nat → Nat → Nat → Int32) → Int32 → Int32 → Nat → Nat → Prop
  | 0, _, _, _, _, _, _, _ => False
  | n32 + 1, x, y, g, v2, v3, bc, bs => ((((x 13) 0) ≤ (v3 + v2) → (Φ (va_up x 13 (va_up (x 13) 0 (((x 13) 0) - v2))) y g)) ∧ (¬ ((x 13) 0) ≤ (v3 + v2) → (vp_in v3 5 ∧ ((y 7) v3.toNatClampNeg) < 7 ∧ (vp_in (v3 + v2) 5 ∧ ((y 7) (v3 + v2).toNatClampNeg) < 7 ∧ (vp_in v3 5 ∧ (vp_in (v3 + v2) 5 ∧ (∀ v3_74 : Int32, v3_74 = v3 + 1 → ((lX5_completeAt_32 Φ n32) x (va_up (va_up y 7 (va_up (y 7) v3.toNatClampNeg ((y 7) (v3 + v2).toNatClampNeg))) 7 (va_up (va_up (y 7) v3.toNatClampNeg ((y 7) (v3 + v2).toNatClampNeg)) (v3 + v2).toNatClampNeg ((y 7) v3.toNatClampNeg))) g v2 v3_74 bc bs))))))))
def wX5_completeAt (x : Nat → Nat → Int32) (y : Nat → Nat → Nat) (g : Nat → Nat → Nat → Int32) (a1 : Int32) (bc bs : Nat) (Φ : (Nat → Nat → Int32) → (Nat → Nat → Nat) → (Nat → Nat → Nat → Int32) → Prop) : Prop := ((a1 < 0 → (Φ x y g)) ∧ (¬ a1 < 0 → ((a1 < ((x 13) 0) → (vp_in a1 5 ∧ ((y 7) a1.toNatClampNeg) < 7 ∧ (∃ kc_23 ks_23 bc_23 bs_23 : Nat, kc_23 + bc_23 ≤ bc ∧ ks_23 + bs_23 ≤ bs ∧ (wX6_copyFrom x y g 1 ((y 7) a1.toNatClampNeg) kc_23 ks_23 (fun x_23 y_23 g_23 => (∀ v2_29 : Int32, v2_29 = (a1 + 1) → (∃ n32 : Nat, lX5_completeAt_32 Φ n32 x_23 y_23 g_23 v2_29 0 bc_23 bs_23))))))) ∧ (¬ a1 < ((x 13) 0) → (Φ x y g)))))
set_option maxRecDepth 100000 in
set_option maxHeartbeats 4000000 in
theorem kX5_completeAt {l : Launch} {D : va_G} {E : va_W} {ad : Nat → Nat → Nat} {wd sk : Nat → Nat} {cI cB cP cT : ClassId} {sz : Nat} (x0 : Nat → Nat → Int32) (y0 : Nat → Nat → Nat) (g0 : Nat → Nat → Nat → Int32) (a1 : Int32) (BC BS : Nat) {Φ : (Nat → Nat → Int32) → (Nat → Nat → Nat) → (Nat → Nat → Nat → Int32) → Prop} (h : wX5_completeAt x0 y0 g0 a1 BC BS Φ) : Met l yX5_completeAt (zws yX5_completeAt cX5_completeAt 5 none) { frames := 4, cells := BC, slots := BS, locals := 126 } (zPc D (cTy cI cB cP cT) (cX wd sk) (cW E ad wd cI cB cP cT (x0, y0, g0)) [.ref (ad 9 0), .int a1] sz) (zQv D (cTy cI cB cP cT) (cW E ad wd cI cB cP cT) (fun u => Φ u.1 u.2.1 u.2.2) (cW E ad wd cI cB cP cT (x0, y0, g0)) sz) BC BS (va_A (cW E ad wd cI cB cP cT (x0, y0, g0)) sz) := by
  refine zMet (by decide) (Nat.le_of_ble_eq_true rfl) ?_
  intro p e s m args below meth c A hx hb hr hml hown hts hlocks hsz hAe hA hS hP hK hD hX ls hl
  subst hsz
  have hF : zFx p s m args c cX5_completeAt RX5 A D (cTy cI cB cP cT) (cX wd sk) 5 := ⟨hx, hb, hml, hown, hts, hA, hK, cX_cl wd sk, hX⟩
  have hl : lv_has ls 5 [(0, .ref (ad 9 0)), (1, .int a1)] := hl
  have hB : 0 + BC ≤ BC ∧ 0 + BS ≤ BS := ⟨by omega, by omega⟩
  have L32 : ∀ n32 : Nat, ∀ (x : Nat → Nat → Int32) (y : Nat → Nat → Nat) (g : Nat → Nat → Nat → Int32) (v2 : Int32) (v3 : Int32) (bc bs : Nat), lX5_completeAt_32 Φ n32 x y g v2 v3 bc bs → ∀ (cells slots : Nat), (cells + bc ≤ BC ∧ slots + bs ≤ BS) → ∀ (H : Heap) (locs : List Loc) (ls : Array Slot), va_P D vwCl (cW E ad wd cI cB cP cT (x, y, g)) H → va_D A (cW E ad wd cI cB cP cT (x, y, g)) → va_S A s.heap H locs → lv_has ls 5 [(0, .ref (ad 9 0)), (2, .int v2), (3, .int v3)] → W p l e { frames := 4, cells := BC, slots := BS, locals := 126 } s m args below meth c H locs cells slots (MQ below (zQv D (cTy cI cB cP cT) (cW E ad wd cI cB cP cT) (fun u => Φ u.1 u.2.1 u.2.2) (cW E ad wd cI cB cP cT (x0, y0, g0)) s.heap.size) args s BC BS (va_A (cW E ad wd cI cB cP cT (x0, y0, g0)) s.heap.size)) (F0 m 32 ls []) := by
    intro n32
    induction n32 with
    | zero => intro x y g v2 v3 bc bs h cells slots hB H locs ls hP hD hS hl; exact h.elim
    | succ n32 ih32 =>
      intro x y g v2 v3 bc bs h cells slots hB H locs ls hP hD hS hl
      unfold lX5_completeAt_32 at h
      refine lv_iload_n (pc := 32) hx hb dX5_completeAt_32 rfl (lv_at hl 2 rfl) ?_
      refine lv_iload_n (pc := 33) hx hb dX5_completeAt_33 rfl (lv_at hl 1 rfl) ?_
      refine lv_iadd (pc := 34) hx hb dX5_completeAt_34 ?_
      refine lv_aload_n (pc := 35) hx hb dX5_completeAt_35 rfl (lv_at hl 0 rfl) ?_
      refine cG_X5_count (pc := 36) hF hP lkX5_22 (v := ((x 13) 0)) rfl dX5_completeAt_36 ?_
      refine lv_icmp_ge (pc := 39) (tgt := 80) hx hb dX5_completeAt_39 (by decide) (fun c_39 => ?_) (fun c_39 => ?_)
      · have h := h.1 c_39
        refine lv_aload_n (pc := 80) hx hb dX5_completeAt_80 rfl (lv_at hl 0 rfl) ?_
        refine lv_dup (pc := 81) hx hb dX5_completeAt_81 rfl ?_
        refine cG_X5_count (pc := 82) hF hP lkX5_22 (v := ((x 13) 0)) rfl dX5_completeAt_82 ?_
        refine lv_iload_n (pc := 85) hx hb dX5_completeAt_85 rfl (lv_at hl 1 rfl) ?_
        refine lv_isub (pc := 86) hx hb dX5_completeAt_86 ?_
        refine cP_X5_count (pc := 87) hF hP hD hS lkX5_22 dX5_completeAt_87 (fun H locs hP hD hS => ?_)
        exact zvr (pc := 90) (Wd := cW E ad wd cI cB cP cT) (u := ((va_up x 13 (va_up (x 13) 0 (((x 13) 0) - v2))), y, g)) hx hb hr hlocks hAe hK hP hD hS dX5_completeAt_90 (by omega) (by omega) h
      · have h := h.2 c_39
        refine lv_aload_n (pc := 42) hx hb dX5_completeAt_42 rfl (lv_at hl 0 rfl) ?_
        refine cG_X5_doubted (pc := 43) hF hP lkX5_11 dX5_completeAt_43 ?_
        refine lv_iload_n (pc := 46) hx hb dX5_completeAt_46 rfl (lv_at hl 2 rfl) ?_
        obtain ⟨hi_47, hj_47, h⟩ := h
        refine cL_NA (pc := 47) hF hP hi_47 dX5_completeAt_47 ?_
        refine lv_astore (pc := 48) (lv' := [(4, .ref (ad 6 ((y 7) v3.toNatClampNeg))), (0, .ref (ad 9 0)), (2, .int v2), (3, .int v3)]) hx hb dX5_completeAt_48 hl (by decide) rfl (fun ls hl => ?_)
        refine lv_aload_n (pc := 50) hx hb dX5_completeAt_50 rfl (lv_at hl 1 rfl) ?_
        refine cG_X5_doubted (pc := 51) hF hP lkX5_11 dX5_completeAt_51 ?_
        refine lv_iload_n (pc := 54) hx hb dX5_completeAt_54 rfl (lv_at hl 3 rfl) ?_
        refine lv_aload_n (pc := 55) hx hb dX5_completeAt_55 rfl (lv_at hl 1 rfl) ?_
        refine cG_X5_doubted (pc := 56) hF hP lkX5_11 dX5_completeAt_56 ?_
        refine lv_iload_n (pc := 59) hx hb dX5_completeAt_59 rfl (lv_at hl 3 rfl) ?_
        refine lv_iload_n (pc := 60) hx hb dX5_completeAt_60 rfl (lv_at hl 2 rfl) ?_
        refine lv_iadd (pc := 61) hx hb dX5_completeAt_61 ?_
        obtain ⟨hi_62, hj_62, h⟩ := h
        refine cL_NA (pc := 62) hF hP hi_62 dX5_completeAt_62 ?_
        obtain ⟨hi_63, h⟩ := h
        refine cT_NA (pc := 63) hF hP hD hS (j := ((y 7) (v3 + v2).toNatClampNeg)) (by omega) hi_63 dX5_completeAt_63 (fun H locs hP hD hS => ?_)
        refine lv_aload_n (pc := 64) hx hb dX5_completeAt_64 rfl (lv_at hl 1 rfl) ?_
        refine cG_X5_doubted (pc := 65) hF hP lkX5_11 dX5_completeAt_65 ?_
        refine lv_iload_n (pc := 68) hx hb dX5_completeAt_68 rfl (lv_at hl 3 rfl) ?_
        refine lv_iload_n (pc := 69) hx hb dX5_completeAt_69 rfl (lv_at hl 2 rfl) ?_
        refine lv_iadd (pc := 70) hx hb dX5_completeAt_70 ?_
        refine lv_aload (pc := 71) hx hb dX5_completeAt_71 (lv_at hl 0 rfl) ?_
        obtain ⟨hi_73, h⟩ := h
        refine cT_NA (pc := 73) hF hP hD hS (j := ((y 7) v3.toNatClampNeg)) (by omega) hi_73 dX5_completeAt_73 (fun H locs hP hD hS => ?_)
        obtain ⟨v3_74, e_v3_74⟩ : ∃ y : Int32, y = v3 + 1 := ⟨_, rfl⟩
        replace h := h v3_74 e_v3_74
        refine lv_iinc (pc := 74) (v := v3_74) (lv' := [(3, .int v3_74), (4, .ref (ad 6 ((y 7) v3.toNatClampNeg))), (0, .ref (ad 9 0)), (2, .int v2)]) hx hb dX5_completeAt_74 hl (k := 3) rfl (by rw [e_v3_74]; rfl) (by decide) rfl (fun ls hl => ?_)
        refine lv_goto (pc := 77) (tgt := 32) hx hb dX5_completeAt_77 (by decide) ?_
        exact ih32 x (va_up (va_up y 7 (va_up (y 7) v3.toNatClampNeg ((y 7) (v3 + v2).toNatClampNeg))) 7 (va_up (va_up (y 7) v3.toNatClampNeg ((y 7) (v3 + v2).toNatClampNeg)) (v3 + v2).toNatClampNeg ((y 7) v3.toNatClampNeg))) g v2 v3_74 bc bs h _ _ hB _ _ _ hP hD hS (lv_sub hl [2, 3, 0] rfl)
  unfold wX5_completeAt at h
  refine lv_iload_n (pc := 0) hx hb dX5_completeAt_0 rfl (lv_at hl 1 rfl) ?_
  refine lv_if_lt (pc := 1) (tgt := 12) hx hb dX5_completeAt_1 (by decide) (fun c_1 => ?_) (fun c_1 => ?_)
  · have h := h.1 c_1
    exact zvr (pc := 12) (Wd := cW E ad wd cI cB cP cT) (u := (x0, y0, g0)) hx hb hr hlocks hAe hK hP hD hS dX5_completeAt_12 (by omega) (by omega) h
  · have h := h.2 c_1
    refine lv_iload_n (pc := 4) hx hb dX5_completeAt_4 rfl (lv_at hl 1 rfl) ?_
    refine lv_aload_n (pc := 5) hx hb dX5_completeAt_5 rfl (lv_at hl 0 rfl) ?_
    refine cG_X5_count (pc := 6) hF hP lkX5_22 (v := ((x0 13) 0)) rfl dX5_completeAt_6 ?_
    refine lv_icmp_lt (pc := 9) (tgt := 13) hx hb dX5_completeAt_9 (by decide) (fun c_9 => ?_) (fun c_9 => ?_)
    · have h := h.1 c_9
      refine lv_aload_n (pc := 13) hx hb dX5_completeAt_13 rfl (lv_at hl 0 rfl) ?_
      refine cG_X5_completed (pc := 14) hF hP lkX5_18 dX5_completeAt_14 ?_
      refine lv_aload_n (pc := 17) hx hb dX5_completeAt_17 rfl (lv_at hl 0 rfl) ?_
      refine cG_X5_doubted (pc := 18) hF hP lkX5_11 dX5_completeAt_18 ?_
      refine lv_iload_n (pc := 21) hx hb dX5_completeAt_21 rfl (lv_at hl 1 rfl) ?_
      obtain ⟨hi_22, hj_22, h⟩ := h
      refine cL_NA (pc := 22) hF hP hi_22 dX5_completeAt_22 ?_
      obtain ⟨kc_23, ks_23, bc_23, bs_23, ec_23, es_23, h⟩ := h
      refine cVv (pc := 23) (x := x0) (y := y0) (g := g0) [.ref (ad 6 ((y0 7) a1.toNatClampNeg))] hF (kX6_copyFrom x0 y0 g0 1 ((y0 7) a1.toNatClampNeg) kc_23 ks_23 h (by omega) (by omega)) (cwX5_X6_copyFrom hts ⟨Nat.le_of_ble_eq_true rfl, Nat.le_of_ble_eq_true rfl⟩) rfl (cA_T _ _ _ _ _ _ _ _ _ _ (i := 1) (by omega)) hP hD hS rfl rfl hl.1 (Nat.le_of_ble_eq_true rfl) dX5_completeAt_23 ⟨by show _ ≤ BC; omega, by show _ ≤ BS; omega⟩ (fun x_23 y_23 g_23 H locs h hP hD hS => ?_)
      have hB : (0 + kc_23) + bc_23 ≤ BC ∧ (0 + ks_23) + bs_23 ≤ BS := ⟨by omega, by omega⟩
      refine lv_iload_n (pc := 26) hx hb dX5_completeAt_26 rfl (lv_at hl 1 rfl) ?_
      refine lv_iconst (pc := 27) (v := 1) hx hb dX5_completeAt_27 (by decide) ?_
      refine lv_iadd (pc := 28) hx hb dX5_completeAt_28 ?_
      refine lv_topi (fun v2_29 e_v2_29 => ?_)
      replace h := h v2_29 e_v2_29
      refine lv_istore_n (pc := 29) (lv' := [(2, .int v2_29), (0, .ref (ad 9 0)), (1, .int a1)]) hx hb dX5_completeAt_29 rfl hl (by decide) rfl (fun ls hl => ?_)
      refine lv_iconst (pc := 30) (v := 0) hx hb dX5_completeAt_30 (by decide) ?_
      refine lv_istore_n (pc := 31) (lv' := [(3, .int 0), (2, .int v2_29), (0, .ref (ad 9 0)), (1, .int a1)]) hx hb dX5_completeAt_31 rfl hl (by decide) rfl (fun ls hl => ?_)
      obtain ⟨n32, h⟩ := h
      exact L32 n32 x_23 y_23 g_23 v2_29 0 bc_23 bs_23 h _ _ hB _ _ _ hP hD hS (lv_sub hl [2, 1, 0] rfl)
    · have h := h.2 c_9
      exact zvr (pc := 12) (Wd := cW E ad wd cI cB cP cT) (u := (x0, y0, g0)) hx hb hr hlocks hAe hK hP hD hS dX5_completeAt_12 (by omega) (by omega) h

def wX5_closedResults (x : Nat → Nat → Int32) (y : Nat → Nat → Nat) (g : Nat → Nat → Nat → Int32) (Φ : Int32 → Prop) : Prop := ((((x 13) 0) ≤ 0 → (Φ ((x 4) 1))) ∧ (¬ ((x 13) 0) ≤ 0 → (vp_in (((x 13) 0) - 1) 5 ∧ ((y 7) (((x 13) 0) - 1).toNatClampNeg) < 7 ∧ (Φ ((x 4) ((y 7) (((x 13) 0) - 1).toNatClampNeg))))))
set_option maxRecDepth 100000 in
set_option maxHeartbeats 4000000 in
theorem kX5_closedResults {l : Launch} {D : va_G} {E : va_W} {ad : Nat → Nat → Nat} {wd sk : Nat → Nat} {cI cB cP cT : ClassId} {sz : Nat} (x0 : Nat → Nat → Int32) (y0 : Nat → Nat → Nat) (g0 : Nat → Nat → Nat → Int32) {Φ : Int32 → Prop} (h : wX5_closedResults x0 y0 g0 Φ) : Met l yX5_closedResults (zws yX5_closedResults cX5_closedResults 1 (some .int)) { frames := 0, cells := 0, slots := 0, locals := 0 } (zPc D (cTy cI cB cP cT) (cX wd sk) (cW E ad wd cI cB cP cT (x0, y0, g0)) [.ref (ad 9 0)] sz) (zQi D (cTy cI cB cP cT) (cW E ad wd cI cB cP cT) (fun r u => u = (x0, y0, g0) ∧ Φ r) (cW E ad wd cI cB cP cT (x0, y0, g0)) sz) 0 0 (va_A (cW E ad wd cI cB cP cT (x0, y0, g0)) sz) := by
  refine zMet (by decide) (Nat.le_of_ble_eq_true rfl) ?_
  intro p e s m args below meth c A hx hb hr hml hown hts hlocks hsz hAe hA hS hP hK hD hX ls hl
  subst hsz
  have hF : zFx p s m args c cX5_closedResults RX5 A D (cTy cI cB cP cT) (cX wd sk) 1 := ⟨hx, hb, hml, hown, hts, hA, hK, cX_cl wd sk, hX⟩
  have hl : lv_has ls 1 [(0, .ref (ad 9 0))] := hl
  unfold wX5_closedResults at h
  refine lv_aload_n (pc := 0) hx hb dX5_closedResults_0 rfl (lv_at hl 0 rfl) ?_
  refine cG_X5_count (pc := 1) hF hP lkX5_22 (v := ((x0 13) 0)) rfl dX5_closedResults_1 ?_
  refine lv_if_le (pc := 4) (tgt := 24) hx hb dX5_closedResults_4 (by decide) (fun c_4 => ?_) (fun c_4 => ?_)
  · have h := h.1 c_4
    refine lv_aload_n (pc := 24) hx hb dX5_closedResults_24 rfl (lv_at hl 0 rfl) ?_
    refine cG_X5_completed (pc := 25) hF hP lkX5_18 dX5_closedResults_25 ?_
    refine cGN_X6_resultCount (pc := 28) hF hP (i := 1) (by omega) lkX5_36 (v := ((x0 4) 1)) rfl dX5_closedResults_28 ?_
    exact zirV (pc := 31) (Wd := cW E ad wd cI cB cP cT) (u := (x0, y0, g0)) hx hb hr hlocks hAe hK hP hD hS rfl dX5_closedResults_31 (Nat.le_refl _) (Nat.le_refl _) ⟨rfl, h⟩
  · have h := h.2 c_4
    refine lv_aload_n (pc := 7) hx hb dX5_closedResults_7 rfl (lv_at hl 0 rfl) ?_
    refine cG_X5_doubted (pc := 8) hF hP lkX5_11 dX5_closedResults_8 ?_
    refine lv_aload_n (pc := 11) hx hb dX5_closedResults_11 rfl (lv_at hl 0 rfl) ?_
    refine cG_X5_count (pc := 12) hF hP lkX5_22 (v := ((x0 13) 0)) rfl dX5_closedResults_12 ?_
    refine lv_iconst (pc := 15) (v := 1) hx hb dX5_closedResults_15 (by decide) ?_
    refine lv_isub (pc := 16) hx hb dX5_closedResults_16 ?_
    obtain ⟨hi_17, hj_17, h⟩ := h
    refine cL_NA (pc := 17) hF hP hi_17 dX5_closedResults_17 ?_
    refine cGN_X6_resultCount (pc := 18) hF hP (i := ((y0 7) (((x0 13) 0) - 1).toNatClampNeg)) (by omega) lkX5_36 (v := ((x0 4) ((y0 7) (((x0 13) 0) - 1).toNatClampNeg))) rfl dX5_closedResults_18 ?_
    refine lv_goto (pc := 21) (tgt := 31) hx hb dX5_closedResults_21 (by decide) ?_
    exact zirV (pc := 31) (Wd := cW E ad wd cI cB cP cT) (u := (x0, y0, g0)) hx hb hr hlocks hAe hK hP hD hS rfl dX5_closedResults_31 (Nat.le_refl _) (Nat.le_refl _) ⟨rfl, h⟩

def lX6_windowByKey_13 (W4 : (Nat → Nat → Int32) → (Nat → Nat → Nat) → (Nat → Nat → Nat → Int32) → Nat → Int32 → Int32 → Int32 → Prop) (Φ : Int32 → Prop) : Nat → (Nat → Nat → Int32) → (Nat → Nat → Nat) → (Nat → Nat → Nat → Int32) → Nat → Int32 → Int32 → Int32 → Int32 → Prop
  | 0, _, _, _, _, _, _, _, _ => False
  | n13 + 1, x, y, g, q0, v1, v2, v3, v4 => ((((x 1) (5 + q0)) ≤ v4 → (∀ v3_56 : Int32, v3_56 = v3 + 1 → (W4 x y g q0 v1 v2 v3_56))) ∧ (¬ ((x 1) (5 + q0)) ≤ v4 → (wX4_get x y g (5 + q0) v4 0 (fun r_32 => ((r_32 = v3 → ((v2 = v1 → (Φ v4)) ∧ (¬ v2 = v1 → (∀ v2_47 : Int32, v2_47 = v2 + 1 → (∀ v4_50 : Int32, v4_50 = v4 + 1 → ((lX6_windowByKey_13 W4 Φ n13) x y g q0 v1 v2_47 v3 v4_50)))))) ∧ (¬ r_32 = v3 → (∀ v4_50 : Int32, v4_50 = v4 + 1 → ((lX6_windowByKey_13 W4 Φ n13) x y g q0 v1 v2 v3 v4_50))))))))
def lX6_windowByKey_4 (Φ : Int32 → Prop) : Nat → (Nat → Nat → Int32) → (Nat → Nat → Nat) → (Nat → Nat → Nat → Int32) → Nat → Int32 → Int32 → Int32 → Prop
  | 0, _, _, _, _, _, _, _ => False
  | n4 + 1, x, y, g, q0, v1, v2, v3 => ((8 ≤ v3 → (Φ (-1))) ∧ (¬ 8 ≤ v3 → (∃ n13 : Nat, lX6_windowByKey_13 (lX6_windowByKey_4 Φ n4) Φ n13 x y g q0 v1 v2 v3 0)))
def wX6_windowByKey (x : Nat → Nat → Int32) (y : Nat → Nat → Nat) (g : Nat → Nat → Nat → Int32) (q0 : Nat) (a1 : Int32) (Φ : Int32 → Prop) : Prop := (∃ n4 : Nat, lX6_windowByKey_4 Φ n4 x y g q0 a1 0 0)
set_option maxRecDepth 100000 in
set_option maxHeartbeats 4000000 in
theorem kX6_windowByKey {l : Launch} {D : va_G} {E : va_W} {ad : Nat → Nat → Nat} {wd sk : Nat → Nat} {cI cB cP cT : ClassId} {sz : Nat} (x0 : Nat → Nat → Int32) (y0 : Nat → Nat → Nat) (g0 : Nat → Nat → Nat → Int32) (q0 : Nat) (a1 : Int32) {Φ : Int32 → Prop} (h : wX6_windowByKey x0 y0 g0 q0 a1 Φ) (hq0 : q0 < 7) : Met l yX6_windowByKey (zws yX6_windowByKey cX6_windowByKey 5 (some .int)) { frames := 2, cells := 0, slots := 0, locals := 44 } (zPc D (cTy cI cB cP cT) (cX wd sk) (cW E ad wd cI cB cP cT (x0, y0, g0)) [.ref (ad 6 q0), .int a1] sz) (zQi D (cTy cI cB cP cT) (cW E ad wd cI cB cP cT) (fun r u => u = (x0, y0, g0) ∧ Φ r) (cW E ad wd cI cB cP cT (x0, y0, g0)) sz) 0 0 (va_A (cW E ad wd cI cB cP cT (x0, y0, g0)) sz) := by
  refine zMet (by decide) (Nat.le_of_ble_eq_true rfl) ?_
  intro p e s m args below meth c A hx hb hr hml hown hts hlocks hsz hAe hA hS hP hK hD hX ls hl
  subst hsz
  have hF : zFx p s m args c cX6_windowByKey RX6 A D (cTy cI cB cP cT) (cX wd sk) 5 := ⟨hx, hb, hml, hown, hts, hA, hK, cX_cl wd sk, hX⟩
  have hl : lv_has ls 5 [(0, .ref (ad 6 q0)), (1, .int a1)] := hl
  have L4 : ∀ n4 : Nat, ∀ (q0 : Nat) (v1 : Int32) (v2 : Int32) (v3 : Int32), lX6_windowByKey_4 Φ n4 x0 y0 g0 q0 v1 v2 v3 → q0 < 7 → ∀ (H : Heap) (locs : List Loc) (ls : Array Slot), va_P D vwCl (cW E ad wd cI cB cP cT (x0, y0, g0)) H → va_D A (cW E ad wd cI cB cP cT (x0, y0, g0)) → va_S A s.heap H locs → lv_has ls 5 [(0, .ref (ad 6 q0)), (1, .int v1), (2, .int v2), (3, .int v3)] → W p l e { frames := 2, cells := 0, slots := 0, locals := 44 } s m args below meth c H locs 0 0 (MQ below (zQi D (cTy cI cB cP cT) (cW E ad wd cI cB cP cT) (fun r u => u = (x0, y0, g0) ∧ Φ r) (cW E ad wd cI cB cP cT (x0, y0, g0)) s.heap.size) args s 0 0 (va_A (cW E ad wd cI cB cP cT (x0, y0, g0)) s.heap.size)) (F0 m 4 ls []) := by
    intro n4
    induction n4 with
    | zero => intro q0 v1 v2 v3 h hcq0 H locs ls hP hD hS hl; exact h.elim
    | succ n4 ih4 =>
      have L13 : ∀ n13 : Nat, ∀ (q0 : Nat) (v1 : Int32) (v2 : Int32) (v3 : Int32) (v4 : Int32), lX6_windowByKey_13 (lX6_windowByKey_4 Φ n4) Φ n13 x0 y0 g0 q0 v1 v2 v3 v4 → q0 < 7 → ∀ (H : Heap) (locs : List Loc) (ls : Array Slot), va_P D vwCl (cW E ad wd cI cB cP cT (x0, y0, g0)) H → va_D A (cW E ad wd cI cB cP cT (x0, y0, g0)) → va_S A s.heap H locs → lv_has ls 5 [(0, .ref (ad 6 q0)), (1, .int v1), (2, .int v2), (3, .int v3), (4, .int v4)] → W p l e { frames := 2, cells := 0, slots := 0, locals := 44 } s m args below meth c H locs 0 0 (MQ below (zQi D (cTy cI cB cP cT) (cW E ad wd cI cB cP cT) (fun r u => u = (x0, y0, g0) ∧ Φ r) (cW E ad wd cI cB cP cT (x0, y0, g0)) s.heap.size) args s 0 0 (va_A (cW E ad wd cI cB cP cT (x0, y0, g0)) s.heap.size)) (F0 m 13 ls []) := by
        intro n13
        induction n13 with
        | zero => intro q0 v1 v2 v3 v4 h hcq0 H locs ls hP hD hS hl; exact h.elim
        | succ n13 ih13 =>
          intro q0 v1 v2 v3 v4 h hcq0 H locs ls hP hD hS hl
          unfold lX6_windowByKey_13 at h
          refine lv_iload (pc := 13) hx hb dX6_windowByKey_13 (lv_at hl 4 rfl) ?_
          refine lv_aload_n (pc := 15) hx hb dX6_windowByKey_15 rfl (lv_at hl 0 rfl) ?_
          refine cG_X6_windows (pc := 16) hF hP (i := q0) (by omega) lkX6_23 dX6_windowByKey_16 ?_
          refine cGN_X4_count (pc := 19) hF hP (i := (5 + q0)) (by omega) lkX6_47 (v := ((x0 1) (5 + q0))) rfl dX6_windowByKey_19 ?_
          refine lv_icmp_ge (pc := 22) (tgt := 56) hx hb dX6_windowByKey_22 (by decide) (fun c_22 => ?_) (fun c_22 => ?_)
          · have h := h.1 c_22
            obtain ⟨v3_56, e_v3_56⟩ : ∃ y : Int32, y = v3 + 1 := ⟨_, rfl⟩
            replace h := h v3_56 e_v3_56
            refine lv_iinc (pc := 56) (v := v3_56) (lv' := [(3, .int v3_56), (0, .ref (ad 6 q0)), (1, .int v1), (2, .int v2), (4, .int v4)]) hx hb dX6_windowByKey_56 hl (k := 3) rfl (by rw [e_v3_56]; rfl) (by decide) rfl (fun ls hl => ?_)
            refine lv_goto (pc := 59) (tgt := 4) hx hb dX6_windowByKey_59 (by decide) ?_
            exact ih4 q0 v1 v2 v3_56 h (by omega) _ _ _ hP hD hS (lv_sub hl [1, 2, 3, 0] rfl)
          · have h := h.2 c_22
            refine lv_aload_n (pc := 25) hx hb dX6_windowByKey_25 rfl (lv_at hl 0 rfl) ?_
            refine cG_X6_windows (pc := 26) hF hP (i := q0) (by omega) lkX6_23 dX6_windowByKey_26 ?_
            refine lv_iload (pc := 29) hx hb dX6_windowByKey_29 (lv_at hl 4 rfl) ?_
            refine lv_iconst (pc := 31) (v := 0) hx hb dX6_windowByKey_31 (by decide) ?_
            refine cVip (pc := 32) (x := x0) (y := y0) (g := g0) [.int v4, .int 0] hF (kX4_get x0 y0 g0 (5 + q0) v4 0 h (by omega)) (cwX6_X4_get hts ⟨Nat.le_of_ble_eq_true rfl, Nat.le_of_ble_eq_true rfl⟩) rfl (cA_R _ _ _ _ _ _ _ _ _ _ (i := (5 + q0)) (by omega)) hP hD hS rfl rfl hl.1 (Nat.le_of_ble_eq_true rfl) dX6_windowByKey_32 ⟨Nat.le_refl _, Nat.le_refl _⟩ (fun r_32 H locs h hP hD hS => ?_)
            refine lv_iload_n (pc := 35) hx hb dX6_windowByKey_35 rfl (lv_at hl 3 rfl) ?_
            refine lv_icmp_ne (pc := 36) (tgt := 50) hx hb dX6_windowByKey_36 (by decide) (fun c_36 => ?_) (fun c_36 => ?_)
            · have h := h.2 c_36
              obtain ⟨v4_50, e_v4_50⟩ : ∃ y : Int32, y = v4 + 1 := ⟨_, rfl⟩
              replace h := h v4_50 e_v4_50
              refine lv_iinc (pc := 50) (v := v4_50) (lv' := [(4, .int v4_50), (0, .ref (ad 6 q0)), (1, .int v1), (2, .int v2), (3, .int v3)]) hx hb dX6_windowByKey_50 hl (k := 4) rfl (by rw [e_v4_50]; rfl) (by decide) rfl (fun ls hl => ?_)
              refine lv_goto (pc := 53) (tgt := 13) hx hb dX6_windowByKey_53 (by decide) ?_
              exact ih13 q0 v1 v2 v3 v4_50 h (by omega) _ _ _ hP hD hS (lv_sub hl [1, 2, 3, 4, 0] rfl)
            · have h := h.1 c_36
              refine lv_iload_n (pc := 39) hx hb dX6_windowByKey_39 rfl (lv_at hl 2 rfl) ?_
              refine lv_iload_n (pc := 40) hx hb dX6_windowByKey_40 rfl (lv_at hl 1 rfl) ?_
              refine lv_icmp_ne (pc := 41) (tgt := 47) hx hb dX6_windowByKey_41 (by decide) (fun c_41 => ?_) (fun c_41 => ?_)
              · have h := h.2 c_41
                obtain ⟨v2_47, e_v2_47⟩ : ∃ y : Int32, y = v2 + 1 := ⟨_, rfl⟩
                replace h := h v2_47 e_v2_47
                refine lv_iinc (pc := 47) (v := v2_47) (lv' := [(2, .int v2_47), (0, .ref (ad 6 q0)), (1, .int v1), (3, .int v3), (4, .int v4)]) hx hb dX6_windowByKey_47 hl (k := 2) rfl (by rw [e_v2_47]; rfl) (by decide) rfl (fun ls hl => ?_)
                obtain ⟨v4_50, e_v4_50⟩ : ∃ y : Int32, y = v4 + 1 := ⟨_, rfl⟩
                replace h := h v4_50 e_v4_50
                refine lv_iinc (pc := 50) (v := v4_50) (lv' := [(4, .int v4_50), (2, .int v2_47), (0, .ref (ad 6 q0)), (1, .int v1), (3, .int v3)]) hx hb dX6_windowByKey_50 hl (k := 4) rfl (by rw [e_v4_50]; rfl) (by decide) rfl (fun ls hl => ?_)
                refine lv_goto (pc := 53) (tgt := 13) hx hb dX6_windowByKey_53 (by decide) ?_
                exact ih13 q0 v1 v2_47 v3 v4_50 h (by omega) _ _ _ hP hD hS (lv_sub hl [2, 3, 1, 4, 0] rfl)
              · have h := h.1 c_41
                refine lv_iload (pc := 44) hx hb dX6_windowByKey_44 (lv_at hl 4 rfl) ?_
                exact zirV (pc := 46) (Wd := cW E ad wd cI cB cP cT) (u := (x0, y0, g0)) hx hb hr hlocks hAe hK hP hD hS rfl dX6_windowByKey_46 (Nat.le_refl _) (Nat.le_refl _) ⟨rfl, h⟩
      intro q0 v1 v2 v3 h hcq0 H locs ls hP hD hS hl
      unfold lX6_windowByKey_4 at h
      refine lv_iload_n (pc := 4) hx hb dX6_windowByKey_4 rfl (lv_at hl 3 rfl) ?_
      refine lv_bipush (pc := 5) (v := 8) hx hb dX6_windowByKey_5 (by decide) ?_
      refine lv_icmp_ge (pc := 7) (tgt := 62) hx hb dX6_windowByKey_7 (by decide) (fun c_7 => ?_) (fun c_7 => ?_)
      · have h := h.1 c_7
        refine lv_iconst (pc := 62) (v := (-1)) hx hb dX6_windowByKey_62 (by decide) ?_
        exact zirV (pc := 63) (Wd := cW E ad wd cI cB cP cT) (u := (x0, y0, g0)) hx hb hr hlocks hAe hK hP hD hS rfl dX6_windowByKey_63 (Nat.le_refl _) (Nat.le_refl _) ⟨rfl, h⟩
      · have h := h.2 c_7
        refine lv_iconst (pc := 10) (v := 0) hx hb dX6_windowByKey_10 (by decide) ?_
        refine lv_istore (pc := 11) (lv' := [(4, .int 0), (0, .ref (ad 6 q0)), (1, .int v1), (2, .int v2), (3, .int v3)]) hx hb dX6_windowByKey_11 hl (by decide) rfl (fun ls hl => ?_)
        obtain ⟨n13, h⟩ := h
        exact L13 n13 q0 v1 v2 v3 0 h (by omega) _ _ _ hP hD hS (lv_sub hl [1, 2, 3, 4, 0] rfl)
  unfold wX6_windowByKey at h
  refine lv_iconst (pc := 0) (v := 0) hx hb dX6_windowByKey_0 (by decide) ?_
  refine lv_istore_n (pc := 1) (lv' := [(2, .int 0), (0, .ref (ad 6 q0)), (1, .int a1)]) hx hb dX6_windowByKey_1 rfl hl (by decide) rfl (fun ls hl => ?_)
  refine lv_iconst (pc := 2) (v := 0) hx hb dX6_windowByKey_2 (by decide) ?_
  refine lv_istore_n (pc := 3) (lv' := [(3, .int 0), (2, .int 0), (0, .ref (ad 6 q0)), (1, .int a1)]) hx hb dX6_windowByKey_3 rfl hl (by decide) rfl (fun ls hl => ?_)
  obtain ⟨n4, h⟩ := h
  exact L4 n4 q0 a1 0 0 h (by omega) _ _ _ hP hD hS (lv_sub hl [2, 3, 1, 0] rfl)

def wX8_isOutside (a0 : Int32) (a1 : Int32) (Φ : Int32 → Prop) : Prop := ((a0 < 0 → (Φ 1)) ∧ (¬ a0 < 0 → ((a0 < a1 → (Φ 0)) ∧ (¬ a0 < a1 → (Φ 1)))))
set_option maxRecDepth 100000 in
set_option maxHeartbeats 4000000 in
theorem kX8_isOutside {l : Launch} {D : va_G} {E : va_W} {ad : Nat → Nat → Nat} {wd sk : Nat → Nat} {cI cB cP cT : ClassId} {sz : Nat} (x0 : Nat → Nat → Int32) (y0 : Nat → Nat → Nat) (g0 : Nat → Nat → Nat → Int32) (a0 : Int32) (a1 : Int32) {Φ : Int32 → Prop} (h : wX8_isOutside a0 a1 Φ) : Met l yX8_isOutside (zws yX8_isOutside cX8_isOutside 2 (some .boolean)) { frames := 0, cells := 0, slots := 0, locals := 0 } (zPc D (cTy cI cB cP cT) (cX wd sk) (cW E ad wd cI cB cP cT (x0, y0, g0)) [.int a0, .int a1] sz) (zQi D (cTy cI cB cP cT) (cW E ad wd cI cB cP cT) (fun r u => u = (x0, y0, g0) ∧ (r = 0 ∨ r = 1) ∧ Φ r) (cW E ad wd cI cB cP cT (x0, y0, g0)) sz) 0 0 (va_A (cW E ad wd cI cB cP cT (x0, y0, g0)) sz) := by
  refine zMet (by decide) (Nat.le_of_ble_eq_true rfl) ?_
  intro p e s m args below meth c A hx hb hr hml hown hts hlocks hsz hAe hA hS hP hK hD hX ls hl
  subst hsz
  have hF : zFx p s m args c cX8_isOutside RX8 A D (cTy cI cB cP cT) (cX wd sk) 2 := ⟨hx, hb, hml, hown, hts, hA, hK, cX_cl wd sk, hX⟩
  have hl : lv_has ls 2 [(0, .int a0), (1, .int a1)] := hl
  unfold wX8_isOutside at h
  refine lv_iload_n (pc := 0) hx hb dX8_isOutside_0 rfl (lv_at hl 0 rfl) ?_
  refine lv_if_lt (pc := 1) (tgt := 9) hx hb dX8_isOutside_1 (by decide) (fun c_1 => ?_) (fun c_1 => ?_)
  · have h := h.1 c_1
    refine lv_iconst (pc := 9) (v := 1) hx hb dX8_isOutside_9 (by decide) ?_
    refine lv_goto (pc := 10) (tgt := 14) hx hb dX8_isOutside_10 (by decide) ?_
    exact zirV (pc := 14) (Wd := cW E ad wd cI cB cP cT) (u := (x0, y0, g0)) hx hb hr hlocks hAe hK hP hD hS rfl dX8_isOutside_14 (Nat.le_refl _) (Nat.le_refl _) ⟨rfl, (Or.inr rfl), h⟩
  · have h := h.2 c_1
    refine lv_iload_n (pc := 4) hx hb dX8_isOutside_4 rfl (lv_at hl 0 rfl) ?_
    refine lv_iload_n (pc := 5) hx hb dX8_isOutside_5 rfl (lv_at hl 1 rfl) ?_
    refine lv_icmp_lt (pc := 6) (tgt := 13) hx hb dX8_isOutside_6 (by decide) (fun c_6 => ?_) (fun c_6 => ?_)
    · have h := h.1 c_6
      refine lv_iconst (pc := 13) (v := 0) hx hb dX8_isOutside_13 (by decide) ?_
      exact zirV (pc := 14) (Wd := cW E ad wd cI cB cP cT) (u := (x0, y0, g0)) hx hb hr hlocks hAe hK hP hD hS rfl dX8_isOutside_14 (Nat.le_refl _) (Nat.le_refl _) ⟨rfl, (Or.inl rfl), h⟩
    · have h := h.2 c_6
      refine lv_iconst (pc := 9) (v := 1) hx hb dX8_isOutside_9 (by decide) ?_
      refine lv_goto (pc := 10) (tgt := 14) hx hb dX8_isOutside_10 (by decide) ?_
      exact zirV (pc := 14) (Wd := cW E ad wd cI cB cP cT) (u := (x0, y0, g0)) hx hb hr hlocks hAe hK hP hD hS rfl dX8_isOutside_14 (Nat.le_refl _) (Nat.le_refl _) ⟨rfl, (Or.inr rfl), h⟩

def wX8_isTime (a0 : Int32) (Φ : Int32 → Prop) : Prop := ((a0 < 0 → (Φ 0)) ∧ (¬ a0 < 0 → ((999 < a0 → (Φ 0)) ∧ (¬ 999 < a0 → (Φ 1)))))
set_option maxRecDepth 100000 in
set_option maxHeartbeats 4000000 in
theorem kX8_isTime {l : Launch} {D : va_G} {E : va_W} {ad : Nat → Nat → Nat} {wd sk : Nat → Nat} {cI cB cP cT : ClassId} {sz : Nat} (x0 : Nat → Nat → Int32) (y0 : Nat → Nat → Nat) (g0 : Nat → Nat → Nat → Int32) (a0 : Int32) {Φ : Int32 → Prop} (h : wX8_isTime a0 Φ) : Met l yX8_isTime (zws yX8_isTime cX8_isTime 1 (some .boolean)) { frames := 0, cells := 0, slots := 0, locals := 0 } (zPc D (cTy cI cB cP cT) (cX wd sk) (cW E ad wd cI cB cP cT (x0, y0, g0)) [.int a0] sz) (zQi D (cTy cI cB cP cT) (cW E ad wd cI cB cP cT) (fun r u => u = (x0, y0, g0) ∧ (r = 0 ∨ r = 1) ∧ Φ r) (cW E ad wd cI cB cP cT (x0, y0, g0)) sz) 0 0 (va_A (cW E ad wd cI cB cP cT (x0, y0, g0)) sz) := by
  refine zMet (by decide) (Nat.le_of_ble_eq_true rfl) ?_
  intro p e s m args below meth c A hx hb hr hml hown hts hlocks hsz hAe hA hS hP hK hD hX ls hl
  subst hsz
  have hF : zFx p s m args c cX8_isTime RX8 A D (cTy cI cB cP cT) (cX wd sk) 1 := ⟨hx, hb, hml, hown, hts, hA, hK, cX_cl wd sk, hX⟩
  have hl : lv_has ls 1 [(0, .int a0)] := hl
  unfold wX8_isTime at h
  refine lv_iload_n (pc := 0) hx hb dX8_isTime_0 rfl (lv_at hl 0 rfl) ?_
  refine lv_if_lt (pc := 1) (tgt := 15) hx hb dX8_isTime_1 (by decide) (fun c_1 => ?_) (fun c_1 => ?_)
  · have h := h.1 c_1
    refine lv_iconst (pc := 15) (v := 0) hx hb dX8_isTime_15 (by decide) ?_
    exact zirV (pc := 16) (Wd := cW E ad wd cI cB cP cT) (u := (x0, y0, g0)) hx hb hr hlocks hAe hK hP hD hS rfl dX8_isTime_16 (Nat.le_refl _) (Nat.le_refl _) ⟨rfl, (Or.inl rfl), h⟩
  · have h := h.2 c_1
    refine lv_iload_n (pc := 4) hx hb dX8_isTime_4 rfl (lv_at hl 0 rfl) ?_
    refine lv_sipush (pc := 5) (v := 999) hx hb dX8_isTime_5 (by decide) ?_
    refine lv_icmp_gt (pc := 8) (tgt := 15) hx hb dX8_isTime_8 (by decide) (fun c_8 => ?_) (fun c_8 => ?_)
    · have h := h.1 c_8
      refine lv_iconst (pc := 15) (v := 0) hx hb dX8_isTime_15 (by decide) ?_
      exact zirV (pc := 16) (Wd := cW E ad wd cI cB cP cT) (u := (x0, y0, g0)) hx hb hr hlocks hAe hK hP hD hS rfl dX8_isTime_16 (Nat.le_refl _) (Nat.le_refl _) ⟨rfl, (Or.inl rfl), h⟩
    · have h := h.2 c_8
      refine lv_iconst (pc := 11) (v := 1) hx hb dX8_isTime_11 (by decide) ?_
      refine lv_goto (pc := 12) (tgt := 16) hx hb dX8_isTime_12 (by decide) ?_
      exact zirV (pc := 16) (Wd := cW E ad wd cI cB cP cT) (u := (x0, y0, g0)) hx hb hr hlocks hAe hK hP hD hS rfl dX8_isTime_16 (Nat.le_refl _) (Nat.le_refl _) ⟨rfl, (Or.inr rfl), h⟩

def wX8_isValue (a0 : Int32) (Φ : Int32 → Prop) : Prop := ((a0 < (-99) → (Φ 0)) ∧ (¬ a0 < (-99) → ((99 < a0 → (Φ 0)) ∧ (¬ 99 < a0 → (Φ 1)))))
set_option maxRecDepth 100000 in
set_option maxHeartbeats 4000000 in
theorem kX8_isValue {l : Launch} {D : va_G} {E : va_W} {ad : Nat → Nat → Nat} {wd sk : Nat → Nat} {cI cB cP cT : ClassId} {sz : Nat} (x0 : Nat → Nat → Int32) (y0 : Nat → Nat → Nat) (g0 : Nat → Nat → Nat → Int32) (a0 : Int32) {Φ : Int32 → Prop} (h : wX8_isValue a0 Φ) : Met l yX8_isValue (zws yX8_isValue cX8_isValue 1 (some .boolean)) { frames := 0, cells := 0, slots := 0, locals := 0 } (zPc D (cTy cI cB cP cT) (cX wd sk) (cW E ad wd cI cB cP cT (x0, y0, g0)) [.int a0] sz) (zQi D (cTy cI cB cP cT) (cW E ad wd cI cB cP cT) (fun r u => u = (x0, y0, g0) ∧ (r = 0 ∨ r = 1) ∧ Φ r) (cW E ad wd cI cB cP cT (x0, y0, g0)) sz) 0 0 (va_A (cW E ad wd cI cB cP cT (x0, y0, g0)) sz) := by
  refine zMet (by decide) (Nat.le_of_ble_eq_true rfl) ?_
  intro p e s m args below meth c A hx hb hr hml hown hts hlocks hsz hAe hA hS hP hK hD hX ls hl
  subst hsz
  have hF : zFx p s m args c cX8_isValue RX8 A D (cTy cI cB cP cT) (cX wd sk) 1 := ⟨hx, hb, hml, hown, hts, hA, hK, cX_cl wd sk, hX⟩
  have hl : lv_has ls 1 [(0, .int a0)] := hl
  unfold wX8_isValue at h
  refine lv_iload_n (pc := 0) hx hb dX8_isValue_0 rfl (lv_at hl 0 rfl) ?_
  refine lv_bipush (pc := 1) (v := (-99)) hx hb dX8_isValue_1 (by decide) ?_
  refine lv_icmp_lt (pc := 3) (tgt := 16) hx hb dX8_isValue_3 (by decide) (fun c_3 => ?_) (fun c_3 => ?_)
  · have h := h.1 c_3
    refine lv_iconst (pc := 16) (v := 0) hx hb dX8_isValue_16 (by decide) ?_
    exact zirV (pc := 17) (Wd := cW E ad wd cI cB cP cT) (u := (x0, y0, g0)) hx hb hr hlocks hAe hK hP hD hS rfl dX8_isValue_17 (Nat.le_refl _) (Nat.le_refl _) ⟨rfl, (Or.inl rfl), h⟩
  · have h := h.2 c_3
    refine lv_iload_n (pc := 6) hx hb dX8_isValue_6 rfl (lv_at hl 0 rfl) ?_
    refine lv_bipush (pc := 7) (v := 99) hx hb dX8_isValue_7 (by decide) ?_
    refine lv_icmp_gt (pc := 9) (tgt := 16) hx hb dX8_isValue_9 (by decide) (fun c_9 => ?_) (fun c_9 => ?_)
    · have h := h.1 c_9
      refine lv_iconst (pc := 16) (v := 0) hx hb dX8_isValue_16 (by decide) ?_
      exact zirV (pc := 17) (Wd := cW E ad wd cI cB cP cT) (u := (x0, y0, g0)) hx hb hr hlocks hAe hK hP hD hS rfl dX8_isValue_17 (Nat.le_refl _) (Nat.le_refl _) ⟨rfl, (Or.inl rfl), h⟩
    · have h := h.2 c_9
      refine lv_iconst (pc := 12) (v := 1) hx hb dX8_isValue_12 (by decide) ?_
      refine lv_goto (pc := 13) (tgt := 17) hx hb dX8_isValue_13 (by decide) ?_
      exact zirV (pc := 17) (Wd := cW E ad wd cI cB cP cT) (u := (x0, y0, g0)) hx hb hr hlocks hAe hK hP hD hS rfl dX8_isValue_17 (Nat.le_refl _) (Nat.le_refl _) ⟨rfl, (Or.inr rfl), h⟩

def wX8_putTold (x : Nat → Nat → Int32) (y : Nat → Nat → Nat) (g : Nat → Nat → Nat → Int32) (q0 : Nat) (a1 : Int32) (a2 : Int32) (a3 : Int32) (bc bs : Nat) (Φ : (Nat → Nat → Int32) → (Nat → Nat → Nat) → (Nat → Nat → Nat → Int32) → Prop) : Prop := (∀ v4_4 : Int32, v4_4 = ((x 1) q0) → (∃ kc_9 ks_9 bc_9 bs_9 : Nat, kc_9 + bc_9 ≤ bc ∧ ks_9 + bs_9 ≤ bs ∧ (wX4_insert x y g q0 v4_4 kc_9 ks_9 (fun x_9 y_9 g_9 => (wX4_set x_9 y_9 g_9 q0 v4_4 0 a1 (fun x_17 y_17 g_17 => (wX4_set x_17 y_17 g_17 q0 v4_4 1 a2 (fun x_25 y_25 g_25 => (wX4_set x_25 y_25 g_25 q0 v4_4 2 a3 (fun x_33 y_33 g_33 => (Φ x_33 y_33 g_33)))))))))))
set_option maxRecDepth 100000 in
set_option maxHeartbeats 4000000 in
theorem kX8_putTold {l : Launch} {D : va_G} {E : va_W} {ad : Nat → Nat → Nat} {wd sk : Nat → Nat} {cI cB cP cT : ClassId} {sz : Nat} (x0 : Nat → Nat → Int32) (y0 : Nat → Nat → Nat) (g0 : Nat → Nat → Nat → Int32) (q0 : Nat) (a1 : Int32) (a2 : Int32) (a3 : Int32) (BC BS : Nat) {Φ : (Nat → Nat → Int32) → (Nat → Nat → Nat) → (Nat → Nat → Nat → Int32) → Prop} (h : wX8_putTold x0 y0 g0 q0 a1 a2 a3 BC BS Φ) (hq0 : q0 < 12) : Met l yX8_putTold (zws yX8_putTold cX8_putTold 5 none) { frames := 3, cells := BC, slots := BS, locals := 106 } (zPc D (cTy cI cB cP cT) (cX wd sk) (cW E ad wd cI cB cP cT (x0, y0, g0)) [.ref (ad 5 q0), .int a1, .int a2, .int a3] sz) (zQv D (cTy cI cB cP cT) (cW E ad wd cI cB cP cT) (fun u => Φ u.1 u.2.1 u.2.2) (cW E ad wd cI cB cP cT (x0, y0, g0)) sz) BC BS (va_A (cW E ad wd cI cB cP cT (x0, y0, g0)) sz) := by
  refine zMet (by decide) (Nat.le_of_ble_eq_true rfl) ?_
  intro p e s m args below meth c A hx hb hr hml hown hts hlocks hsz hAe hA hS hP hK hD hX ls hl
  subst hsz
  have hF : zFx p s m args c cX8_putTold RX8 A D (cTy cI cB cP cT) (cX wd sk) 5 := ⟨hx, hb, hml, hown, hts, hA, hK, cX_cl wd sk, hX⟩
  have hl : lv_has ls 5 [(0, .ref (ad 5 q0)), (1, .int a1), (2, .int a2), (3, .int a3)] := hl
  have hB : 0 + BC ≤ BC ∧ 0 + BS ≤ BS := ⟨by omega, by omega⟩
  unfold wX8_putTold at h
  refine lv_aload_n (pc := 0) hx hb dX8_putTold_0 rfl (lv_at hl 0 rfl) ?_
  refine cGN_X4_count (pc := 1) hF hP (i := q0) (by omega) lkX8_93 (v := ((x0 1) q0)) rfl dX8_putTold_1 ?_
  refine lv_topi (fun v4_4 e_v4_4 => ?_)
  replace h := h v4_4 e_v4_4
  refine lv_istore (pc := 4) (lv' := [(4, .int v4_4), (0, .ref (ad 5 q0)), (1, .int a1), (2, .int a2), (3, .int a3)]) hx hb dX8_putTold_4 hl (by decide) rfl (fun ls hl => ?_)
  refine lv_aload_n (pc := 6) hx hb dX8_putTold_6 rfl (lv_at hl 1 rfl) ?_
  refine lv_iload (pc := 7) hx hb dX8_putTold_7 (lv_at hl 0 rfl) ?_
  obtain ⟨kc_9, ks_9, bc_9, bs_9, ec_9, es_9, h⟩ := h
  refine cVv (pc := 9) (x := x0) (y := y0) (g := g0) [.int v4_4] hF (kX4_insert x0 y0 g0 q0 v4_4 kc_9 ks_9 h (by omega)) (cwX8_X4_insert hts ⟨Nat.le_of_ble_eq_true rfl, Nat.le_of_ble_eq_true rfl⟩) rfl (cA_R _ _ _ _ _ _ _ _ _ _ (i := q0) (by omega)) hP hD hS rfl rfl hl.1 (Nat.le_of_ble_eq_true rfl) dX8_putTold_9 ⟨by show _ ≤ BC; omega, by show _ ≤ BS; omega⟩ (fun x_9 y_9 g_9 H locs h hP hD hS => ?_)
  have hB : (0 + kc_9) + bc_9 ≤ BC ∧ (0 + ks_9) + bs_9 ≤ BS := ⟨by omega, by omega⟩
  refine lv_aload_n (pc := 12) hx hb dX8_putTold_12 rfl (lv_at hl 1 rfl) ?_
  refine lv_iload (pc := 13) hx hb dX8_putTold_13 (lv_at hl 0 rfl) ?_
  refine lv_iconst (pc := 15) (v := 0) hx hb dX8_putTold_15 (by decide) ?_
  refine lv_iload_n (pc := 16) hx hb dX8_putTold_16 rfl (lv_at hl 2 rfl) ?_
  refine cVv (pc := 17) (x := x_9) (y := y_9) (g := g_9) [.int v4_4, .int 0, .int a1] hF (kX4_set x_9 y_9 g_9 q0 v4_4 0 a1 h (by omega)) (cwX8_X4_set hts ⟨Nat.le_of_ble_eq_true rfl, Nat.le_of_ble_eq_true rfl⟩) rfl (cA_R _ _ _ _ _ _ _ _ _ _ (i := q0) (by omega)) hP hD hS rfl rfl hl.1 (Nat.le_of_ble_eq_true rfl) dX8_putTold_17 ⟨by show _ ≤ BC; omega, by show _ ≤ BS; omega⟩ (fun x_17 y_17 g_17 H locs h hP hD hS => ?_)
  refine lv_aload_n (pc := 20) hx hb dX8_putTold_20 rfl (lv_at hl 1 rfl) ?_
  refine lv_iload (pc := 21) hx hb dX8_putTold_21 (lv_at hl 0 rfl) ?_
  refine lv_iconst (pc := 23) (v := 1) hx hb dX8_putTold_23 (by decide) ?_
  refine lv_iload_n (pc := 24) hx hb dX8_putTold_24 rfl (lv_at hl 3 rfl) ?_
  refine cVv (pc := 25) (x := x_17) (y := y_17) (g := g_17) [.int v4_4, .int 1, .int a2] hF (kX4_set x_17 y_17 g_17 q0 v4_4 1 a2 h (by omega)) (cwX8_X4_set hts ⟨Nat.le_of_ble_eq_true rfl, Nat.le_of_ble_eq_true rfl⟩) rfl (cA_R _ _ _ _ _ _ _ _ _ _ (i := q0) (by omega)) hP hD hS rfl rfl hl.1 (Nat.le_of_ble_eq_true rfl) dX8_putTold_25 ⟨by show _ ≤ BC; omega, by show _ ≤ BS; omega⟩ (fun x_25 y_25 g_25 H locs h hP hD hS => ?_)
  refine lv_aload_n (pc := 28) hx hb dX8_putTold_28 rfl (lv_at hl 1 rfl) ?_
  refine lv_iload (pc := 29) hx hb dX8_putTold_29 (lv_at hl 0 rfl) ?_
  refine lv_iconst (pc := 31) (v := 2) hx hb dX8_putTold_31 (by decide) ?_
  refine lv_iload_n (pc := 32) hx hb dX8_putTold_32 rfl (lv_at hl 4 rfl) ?_
  refine cVv (pc := 33) (x := x_25) (y := y_25) (g := g_25) [.int v4_4, .int 2, .int a3] hF (kX4_set x_25 y_25 g_25 q0 v4_4 2 a3 h (by omega)) (cwX8_X4_set hts ⟨Nat.le_of_ble_eq_true rfl, Nat.le_of_ble_eq_true rfl⟩) rfl (cA_R _ _ _ _ _ _ _ _ _ _ (i := q0) (by omega)) hP hD hS rfl rfl hl.1 (Nat.le_of_ble_eq_true rfl) dX8_putTold_33 ⟨by show _ ≤ BC; omega, by show _ ≤ BS; omega⟩ (fun x_33 y_33 g_33 H locs h hP hD hS => ?_)
  exact zvr (pc := 36) (Wd := cW E ad wd cI cB cP cT) (u := (x_33, y_33, g_33)) hx hb hr hlocks hAe hK hP hD hS dX8_putTold_36 (by omega) (by omega) h

def wX8_event (x : Nat → Nat → Int32) (y : Nat → Nat → Nat) (g : Nat → Nat → Nat → Int32) (a1 : Int32) (a2 : Int32) (a3 : Int32) (a4 : Int32) (bc bs : Nat) (Φ : Int32 → (Nat → Nat → Int32) → (Nat → Nat → Nat) → (Nat → Nat → Nat → Int32) → Prop) (Ψ : String → (Nat → Nat → Int32) → (Nat → Nat → Nat) → (Nat → Nat → Nat → Int32) → Prop) : Prop := (wX8_isOutside a1 3 (fun r_2 => ((r_2 = 0 → (wX8_isOutside a2 8 (fun r_11 => ((r_11 = 0 → (wX8_isTime a3 (fun r_26 => ((r_26 = 0 → (1 ≤ bc ∧ 6 ≤ bs ∧ Ψ "java/lang/IllegalArgumentException" x y g)) ∧ (¬ r_26 = 0 → (wX8_isValue a4 (fun r_34 => ((r_34 = 0 → (1 ≤ bc ∧ 6 ≤ bs ∧ Ψ "java/lang/IllegalArgumentException" x y g)) ∧ (¬ r_34 = 0 → (wX0_eventCount x y g (fun r_52 => ((r_52 < 300 → (vp_in a1 3 ∧ (∃ kc_89 ks_89 bc_89 bs_89 : Nat, kc_89 + bc_89 ≤ bc ∧ ks_89 + bs_89 ≤ bs ∧ (wX8_putTold x y g (a1.toNatClampNeg) a2 a3 a4 kc_89 ks_89 (fun x_89 y_89 g_89 => (Φ ((x_89 1) (a1.toNatClampNeg)) x_89 y_89 g_89)))))) ∧ (¬ r_52 < 300 → (1 ≤ bc ∧ 6 ≤ bs ∧ Ψ "java/lang/IllegalStateException" x y g)))))))))))))) ∧ (¬ r_11 = 0 → (1 ≤ bc ∧ 6 ≤ bs ∧ Ψ "java/lang/IndexOutOfBoundsException" x y g)))))) ∧ (¬ r_2 = 0 → (1 ≤ bc ∧ 6 ≤ bs ∧ Ψ "java/lang/IndexOutOfBoundsException" x y g)))))
set_option maxRecDepth 100000 in
set_option maxHeartbeats 4000000 in
theorem kX8_event {l : Launch} {D : va_G} {E : va_W} {ad : Nat → Nat → Nat} {wd sk : Nat → Nat} {cI cB cP cT : ClassId} {sz : Nat} (x0 : Nat → Nat → Int32) (y0 : Nat → Nat → Nat) (g0 : Nat → Nat → Nat → Int32) (a1 : Int32) (a2 : Int32) (a3 : Int32) (a4 : Int32) (BC BS : Nat) {Φ : Int32 → (Nat → Nat → Int32) → (Nat → Nat → Nat) → (Nat → Nat → Nat → Int32) → Prop} {Ψ : String → (Nat → Nat → Int32) → (Nat → Nat → Nat) → (Nat → Nat → Nat → Int32) → Prop} (hlf : l.stackTraces = false) (h : wX8_event x0 y0 g0 a1 a2 a3 a4 BC BS Φ Ψ) : vx_Met l yX8_event (zws yX8_event cX8_event 6 (some .int)) { frames := 6, cells := BC, slots := BS, locals := 130 } (zPc D (cTy cI cB cP cT) (cX wd sk) (cW E ad wd cI cB cP cT (x0, y0, g0)) [.ref (ad 0 0), .int a1, .int a2, .int a3, .int a4] sz) (zQi D (cTy cI cB cP cT) (cW E ad wd cI cB cP cT) (fun r u => Φ r u.1 u.2.1 u.2.2) (cW E ad wd cI cB cP cT (x0, y0, g0)) sz) (vx_X (S := cS) (fun _ => True) (fun E2 u t => Ψ E2 u.1 u.2.1 u.2.2 ∧ zB D (cTy cI cB cP cT) (cW E ad wd cI cB cP cT) (va_A (cW E ad wd cI cB cP cT (x0, y0, g0)) sz) u t) (va_A (cW E ad wd cI cB cP cT (x0, y0, g0)) sz)) BC BS (va_A (cW E ad wd cI cB cP cT (x0, y0, g0)) sz) := by
  refine zMetX (by decide) (Nat.le_of_ble_eq_true rfl) ?_
  intro p e s m args below meth c A hx hb hr hml hown hts hlocks hexc hsz hAe hA hS hP hK hD hX ls hl
  subst hsz
  have hF : zFx p s m args c cX8_event RX8 A D (cTy cI cB cP cT) (cX wd sk) 6 := ⟨hx, hb, hml, hown, hts, hA, hK, cX_cl wd sk, hX⟩
  have hl : lv_has ls 6 [(0, .ref (ad 0 0)), (1, .int a1), (2, .int a2), (3, .int a3), (4, .int a4)] := hl
  have hB : 0 + BC ≤ BC ∧ 0 + BS ≤ BS := ⟨by omega, by omega⟩
  unfold wX8_event at h
  refine lv_iload_n (pc := 0) hx hb dX8_event_0 rfl (lv_at hl 1 rfl) ?_
  refine lv_iconst (pc := 1) (v := 3) hx hb dX8_event_1 (by decide) ?_
  refine cSbp (pc := 2) (x := x0) (y := y0) (g := g0) [.int a1, .int 3] hF (kX8_isOutside x0 y0 g0 a1 3 h) (cwX8_X8_isOutside hts ⟨Nat.le_of_ble_eq_true rfl, Nat.le_of_ble_eq_true rfl⟩) hP hD hS rfl rfl hl.1 (Nat.le_of_ble_eq_true rfl) dX8_event_2 ⟨by show _ ≤ BC; omega, by show _ ≤ BS; omega⟩ (fun r_2 H locs hb_2 h hP hD hS => ?_)
  refine lv_if_ne (pc := 5) (tgt := 17) hx hb dX8_event_5 (by decide) (fun c_5 => ?_) (fun c_5 => ?_)
  · have h := h.2 c_5
    obtain ⟨ec_17, es_17, h⟩ := h
    exact c_throw (pc := 17) hF hP hD hS hlf hexc hlocks hl.1 hAe (names := xn_IOB) (by decide) (by decide) xl_X8_IOB xi_IOB xa_X8_IOB_104 xg_X8_IOB_104 dX8_event_17 dX8_event_20 dX8_event_21 dX8_event_24 ⟨by show _ < (6 : Nat); decide, Nat.le_of_ble_eq_true rfl, by show _ ≤ BC; omega, by show _ ≤ BS; omega⟩ (by omega) (by omega) h
  · have h := h.1 c_5
    refine lv_iload_n (pc := 8) hx hb dX8_event_8 rfl (lv_at hl 2 rfl) ?_
    refine lv_bipush (pc := 9) (v := 8) hx hb dX8_event_9 (by decide) ?_
    refine cSbp (pc := 11) (x := x0) (y := y0) (g := g0) [.int a2, .int 8] hF (kX8_isOutside x0 y0 g0 a2 8 h) (cwX8_X8_isOutside hts ⟨Nat.le_of_ble_eq_true rfl, Nat.le_of_ble_eq_true rfl⟩) hP hD hS rfl rfl hl.1 (Nat.le_of_ble_eq_true rfl) dX8_event_11 ⟨by show _ ≤ BC; omega, by show _ ≤ BS; omega⟩ (fun r_11 H locs hb_11 h hP hD hS => ?_)
    refine lv_if_eq (pc := 14) (tgt := 25) hx hb dX8_event_14 (by decide) (fun c_14 => ?_) (fun c_14 => ?_)
    · have h := h.1 c_14
      refine lv_iload_n (pc := 25) hx hb dX8_event_25 rfl (lv_at hl 3 rfl) ?_
      refine cSbp (pc := 26) (x := x0) (y := y0) (g := g0) [.int a3] hF (kX8_isTime x0 y0 g0 a3 h) (cwX8_X8_isTime hts ⟨Nat.le_of_ble_eq_true rfl, Nat.le_of_ble_eq_true rfl⟩) hP hD hS rfl rfl hl.1 (Nat.le_of_ble_eq_true rfl) dX8_event_26 ⟨by show _ ≤ BC; omega, by show _ ≤ BS; omega⟩ (fun r_26 H locs hb_26 h hP hD hS => ?_)
      refine lv_if_eq (pc := 29) (tgt := 40) hx hb dX8_event_29 (by decide) (fun c_29 => ?_) (fun c_29 => ?_)
      · have h := h.1 c_29
        obtain ⟨ec_40, es_40, h⟩ := h
        exact c_throw (pc := 40) hF hP hD hS hlf hexc hlocks hl.1 hAe (names := xn_IAE) (by decide) (by decide) xl_X8_IAE xi_IAE xa_X8_IAE_40 xg_X8_IAE_40 dX8_event_40 dX8_event_43 dX8_event_44 dX8_event_47 ⟨by show _ < (6 : Nat); decide, Nat.le_of_ble_eq_true rfl, by show _ ≤ BC; omega, by show _ ≤ BS; omega⟩ (by omega) (by omega) h
      · have h := h.2 c_29
        refine lv_iload (pc := 32) hx hb dX8_event_32 (lv_at hl 4 rfl) ?_
        refine cSbp (pc := 34) (x := x0) (y := y0) (g := g0) [.int a4] hF (kX8_isValue x0 y0 g0 a4 h) (cwX8_X8_isValue hts ⟨Nat.le_of_ble_eq_true rfl, Nat.le_of_ble_eq_true rfl⟩) hP hD hS rfl rfl hl.1 (Nat.le_of_ble_eq_true rfl) dX8_event_34 ⟨by show _ ≤ BC; omega, by show _ ≤ BS; omega⟩ (fun r_34 H locs hb_34 h hP hD hS => ?_)
        refine lv_if_ne (pc := 37) (tgt := 48) hx hb dX8_event_37 (by decide) (fun c_37 => ?_) (fun c_37 => ?_)
        · have h := h.2 c_37
          refine lv_aload_n (pc := 48) hx hb dX8_event_48 rfl (lv_at hl 0 rfl) ?_
          refine cG_X8_loom (pc := 49) hF hP lkX8_19 dX8_event_49 ?_
          refine cVip (pc := 52) (x := x0) (y := y0) (g := g0) [] hF (kX0_eventCount x0 y0 g0 h) (cwX8_X0_eventCount hts ⟨Nat.le_of_ble_eq_true rfl, Nat.le_of_ble_eq_true rfl⟩) rfl (cA_L ..) hP hD hS rfl rfl hl.1 (Nat.le_of_ble_eq_true rfl) dX8_event_52 ⟨by show _ ≤ BC; omega, by show _ ≤ BS; omega⟩ (fun r_52 H locs h hP hD hS => ?_)
          refine lv_sipush (pc := 55) (v := 300) hx hb dX8_event_55 (by decide) ?_
          refine lv_icmp_lt (pc := 58) (tgt := 69) hx hb dX8_event_58 (by decide) (fun c_58 => ?_) (fun c_58 => ?_)
          · have h := h.1 c_58
            refine lv_aload_n (pc := 69) hx hb dX8_event_69 rfl (lv_at hl 0 rfl) ?_
            refine cG_X8_loom (pc := 70) hF hP lkX8_19 dX8_event_70 ?_
            refine cGN_X0_partitions (pc := 73) hF hP lkX8_115 dX8_event_73 ?_
            refine lv_iload_n (pc := 76) hx hb dX8_event_76 rfl (lv_at hl 1 rfl) ?_
            obtain ⟨hi_77, h⟩ := h
            have hj_77 := vp_lt hi_77
            refine cL_PA (pc := 77) hF hP hi_77 dX8_event_77 ?_
            refine cGN_X1_events (pc := 78) hF hP (i := (a1.toNatClampNeg)) (by omega) lkX8_119 dX8_event_78 ?_
            refine lv_astore (pc := 81) (lv' := [(5, .ref (ad 5 (a1.toNatClampNeg))), (0, .ref (ad 0 0)), (1, .int a1), (2, .int a2), (3, .int a3), (4, .int a4)]) hx hb dX8_event_81 hl (by decide) rfl (fun ls hl => ?_)
            refine lv_aload (pc := 83) hx hb dX8_event_83 (lv_at hl 0 rfl) ?_
            refine lv_iload_n (pc := 85) hx hb dX8_event_85 rfl (lv_at hl 3 rfl) ?_
            refine lv_iload_n (pc := 86) hx hb dX8_event_86 rfl (lv_at hl 4 rfl) ?_
            refine lv_iload (pc := 87) hx hb dX8_event_87 (lv_at hl 5 rfl) ?_
            obtain ⟨kc_89, ks_89, bc_89, bs_89, ec_89, es_89, h⟩ := h
            refine cSv (pc := 89) (x := x0) (y := y0) (g := g0) [.ref (ad 5 (a1.toNatClampNeg)), .int a2, .int a3, .int a4] hF (kX8_putTold x0 y0 g0 (a1.toNatClampNeg) a2 a3 a4 kc_89 ks_89 h (by omega)) (cwX8_X8_putTold hts ⟨Nat.le_of_ble_eq_true rfl, Nat.le_of_ble_eq_true rfl⟩) hP hD hS rfl rfl hl.1 (Nat.le_of_ble_eq_true rfl) dX8_event_89 ⟨by show _ ≤ BC; omega, by show _ ≤ BS; omega⟩ (fun x_89 y_89 g_89 H locs h hP hD hS => ?_)
            have hB : ((((((0 + 0) + 0) + 0) + 0) + 0) + kc_89) + bc_89 ≤ BC ∧ ((((((0 + 0) + 0) + 0) + 0) + 0) + ks_89) + bs_89 ≤ BS := ⟨by omega, by omega⟩
            refine lv_aload (pc := 92) hx hb dX8_event_92 (lv_at hl 0 rfl) ?_
            refine cGN_X4_count (pc := 94) hF hP (i := (a1.toNatClampNeg)) (by omega) lkX8_93 (v := ((x_89 1) (a1.toNatClampNeg))) rfl dX8_event_94 ?_
            exact vx_ret (zirV (pc := 97) (Wd := cW E ad wd cI cB cP cT) (u := (x_89, y_89, g_89)) hx hb hr hlocks hAe hK hP hD hS rfl dX8_event_97 (by omega) (by omega) h)
          · have h := h.2 c_58
            obtain ⟨ec_61, es_61, h⟩ := h
            exact c_throw (pc := 61) hF hP hD hS hlf hexc hlocks hl.1 hAe (names := xn_ISE) (by decide) (by decide) xl_X8_ISE xi_ISE xa_X8_ISE_47 xg_X8_ISE_47 dX8_event_61 dX8_event_64 dX8_event_65 dX8_event_68 ⟨by show _ < (6 : Nat); decide, Nat.le_of_ble_eq_true rfl, by show _ ≤ BC; omega, by show _ ≤ BS; omega⟩ (by omega) (by omega) h
        · have h := h.1 c_37
          obtain ⟨ec_40, es_40, h⟩ := h
          exact c_throw (pc := 40) hF hP hD hS hlf hexc hlocks hl.1 hAe (names := xn_IAE) (by decide) (by decide) xl_X8_IAE xi_IAE xa_X8_IAE_40 xg_X8_IAE_40 dX8_event_40 dX8_event_43 dX8_event_44 dX8_event_47 ⟨by show _ < (6 : Nat); decide, Nat.le_of_ble_eq_true rfl, by show _ ≤ BC; omega, by show _ ≤ BS; omega⟩ (by omega) (by omega) h
    · have h := h.2 c_14
      obtain ⟨ec_17, es_17, h⟩ := h
      exact c_throw (pc := 17) hF hP hD hS hlf hexc hlocks hl.1 hAe (names := xn_IOB) (by decide) (by decide) xl_X8_IOB xi_IOB xa_X8_IOB_104 xg_X8_IOB_104 dX8_event_17 dX8_event_20 dX8_event_21 dX8_event_24 ⟨by show _ < (6 : Nat); decide, Nat.le_of_ble_eq_true rfl, by show _ ≤ BC; omega, by show _ ≤ BS; omega⟩ (by omega) (by omega) h

def wX8_bound (x : Nat → Nat → Int32) (y : Nat → Nat → Nat) (g : Nat → Nat → Nat → Int32) (a1 : Int32) (a2 : Int32) (bc bs : Nat) (Φ : Int32 → (Nat → Nat → Int32) → (Nat → Nat → Nat) → (Nat → Nat → Nat → Int32) → Prop) (Ψ : String → (Nat → Nat → Int32) → (Nat → Nat → Nat) → (Nat → Nat → Nat → Int32) → Prop) : Prop := (wX8_isOutside a1 3 (fun r_2 => ((r_2 = 0 → ((a2 < 0 → (1 ≤ bc ∧ 6 ≤ bs ∧ Ψ "java/lang/IllegalArgumentException" x y g)) ∧ (¬ a2 < 0 → ((a2 ≤ 99 → (vp_in a1 3 ∧ (∀ v3_46 : Int32, v3_46 = ((x 6) (a1.toNatClampNeg)) → (vp_in a1 3 ∧ (Φ v3_46 (va_up x 6 (va_up (x 6) (a1.toNatClampNeg) a2)) y g))))) ∧ (¬ a2 ≤ 99 → (1 ≤ bc ∧ 6 ≤ bs ∧ Ψ "java/lang/IllegalArgumentException" x y g)))))) ∧ (¬ r_2 = 0 → (1 ≤ bc ∧ 6 ≤ bs ∧ Ψ "java/lang/IndexOutOfBoundsException" x y g)))))
set_option maxRecDepth 100000 in
set_option maxHeartbeats 4000000 in
theorem kX8_bound {l : Launch} {D : va_G} {E : va_W} {ad : Nat → Nat → Nat} {wd sk : Nat → Nat} {cI cB cP cT : ClassId} {sz : Nat} (x0 : Nat → Nat → Int32) (y0 : Nat → Nat → Nat) (g0 : Nat → Nat → Nat → Int32) (a1 : Int32) (a2 : Int32) (BC BS : Nat) {Φ : Int32 → (Nat → Nat → Int32) → (Nat → Nat → Nat) → (Nat → Nat → Nat → Int32) → Prop} {Ψ : String → (Nat → Nat → Int32) → (Nat → Nat → Nat) → (Nat → Nat → Nat → Int32) → Prop} (hlf : l.stackTraces = false) (h : wX8_bound x0 y0 g0 a1 a2 BC BS Φ Ψ) : vx_Met l yX8_bound (zws yX8_bound cX8_bound 4 (some .int)) { frames := 6, cells := BC, slots := BS, locals := 120 } (zPc D (cTy cI cB cP cT) (cX wd sk) (cW E ad wd cI cB cP cT (x0, y0, g0)) [.ref (ad 0 0), .int a1, .int a2] sz) (zQi D (cTy cI cB cP cT) (cW E ad wd cI cB cP cT) (fun r u => Φ r u.1 u.2.1 u.2.2) (cW E ad wd cI cB cP cT (x0, y0, g0)) sz) (vx_X (S := cS) (fun _ => True) (fun E2 u t => Ψ E2 u.1 u.2.1 u.2.2 ∧ zB D (cTy cI cB cP cT) (cW E ad wd cI cB cP cT) (va_A (cW E ad wd cI cB cP cT (x0, y0, g0)) sz) u t) (va_A (cW E ad wd cI cB cP cT (x0, y0, g0)) sz)) BC BS (va_A (cW E ad wd cI cB cP cT (x0, y0, g0)) sz) := by
  refine zMetX (by decide) (Nat.le_of_ble_eq_true rfl) ?_
  intro p e s m args below meth c A hx hb hr hml hown hts hlocks hexc hsz hAe hA hS hP hK hD hX ls hl
  subst hsz
  have hF : zFx p s m args c cX8_bound RX8 A D (cTy cI cB cP cT) (cX wd sk) 4 := ⟨hx, hb, hml, hown, hts, hA, hK, cX_cl wd sk, hX⟩
  have hl : lv_has ls 4 [(0, .ref (ad 0 0)), (1, .int a1), (2, .int a2)] := hl
  have hB : 0 + BC ≤ BC ∧ 0 + BS ≤ BS := ⟨by omega, by omega⟩
  unfold wX8_bound at h
  refine lv_iload_n (pc := 0) hx hb dX8_bound_0 rfl (lv_at hl 1 rfl) ?_
  refine lv_iconst (pc := 1) (v := 3) hx hb dX8_bound_1 (by decide) ?_
  refine cSbp (pc := 2) (x := x0) (y := y0) (g := g0) [.int a1, .int 3] hF (kX8_isOutside x0 y0 g0 a1 3 h) (cwX8_X8_isOutside hts ⟨Nat.le_of_ble_eq_true rfl, Nat.le_of_ble_eq_true rfl⟩) hP hD hS rfl rfl hl.1 (Nat.le_of_ble_eq_true rfl) dX8_bound_2 ⟨by show _ ≤ BC; omega, by show _ ≤ BS; omega⟩ (fun r_2 H locs hb_2 h hP hD hS => ?_)
  refine lv_if_eq (pc := 5) (tgt := 16) hx hb dX8_bound_5 (by decide) (fun c_5 => ?_) (fun c_5 => ?_)
  · have h := h.1 c_5
    refine lv_iload_n (pc := 16) hx hb dX8_bound_16 rfl (lv_at hl 2 rfl) ?_
    refine lv_if_lt (pc := 17) (tgt := 26) hx hb dX8_bound_17 (by decide) (fun c_17 => ?_) (fun c_17 => ?_)
    · have h := h.1 c_17
      obtain ⟨ec_26, es_26, h⟩ := h
      exact c_throw (pc := 26) hF hP hD hS hlf hexc hlocks hl.1 hAe (names := xn_IAE) (by decide) (by decide) xl_X8_IAE xi_IAE xa_X8_IAE_40 xg_X8_IAE_40 dX8_bound_26 dX8_bound_29 dX8_bound_30 dX8_bound_33 ⟨by show _ < (6 : Nat); decide, Nat.le_of_ble_eq_true rfl, by show _ ≤ BC; omega, by show _ ≤ BS; omega⟩ (by omega) (by omega) h
    · have h := h.2 c_17
      refine lv_iload_n (pc := 20) hx hb dX8_bound_20 rfl (lv_at hl 2 rfl) ?_
      refine lv_bipush (pc := 21) (v := 99) hx hb dX8_bound_21 (by decide) ?_
      refine lv_icmp_le (pc := 23) (tgt := 34) hx hb dX8_bound_23 (by decide) (fun c_23 => ?_) (fun c_23 => ?_)
      · have h := h.1 c_23
        refine lv_aload_n (pc := 34) hx hb dX8_bound_34 rfl (lv_at hl 0 rfl) ?_
        refine cG_X8_loom (pc := 35) hF hP lkX8_19 dX8_bound_35 ?_
        refine cGN_X0_partitions (pc := 38) hF hP lkX8_115 dX8_bound_38 ?_
        refine lv_iload_n (pc := 41) hx hb dX8_bound_41 rfl (lv_at hl 1 rfl) ?_
        obtain ⟨hi_42, h⟩ := h
        have hj_42 := vp_lt hi_42
        refine cL_PA (pc := 42) hF hP hi_42 dX8_bound_42 ?_
        refine cGN_X1_lag (pc := 43) hF hP (i := (a1.toNatClampNeg)) (by omega) lkX8_128 (v := ((x0 6) (a1.toNatClampNeg))) rfl dX8_bound_43 ?_
        refine lv_topi (fun v3_46 e_v3_46 => ?_)
        replace h := h v3_46 e_v3_46
        refine lv_istore_n (pc := 46) (lv' := [(3, .int v3_46), (0, .ref (ad 0 0)), (1, .int a1), (2, .int a2)]) hx hb dX8_bound_46 rfl hl (by decide) rfl (fun ls hl => ?_)
        refine lv_aload_n (pc := 47) hx hb dX8_bound_47 rfl (lv_at hl 1 rfl) ?_
        refine cG_X8_loom (pc := 48) hF hP lkX8_19 dX8_bound_48 ?_
        refine cGN_X0_partitions (pc := 51) hF hP lkX8_115 dX8_bound_51 ?_
        refine lv_iload_n (pc := 54) hx hb dX8_bound_54 rfl (lv_at hl 2 rfl) ?_
        obtain ⟨hi_55, h⟩ := h
        have hj_55 := vp_lt hi_55
        refine cL_PA (pc := 55) hF hP hi_55 dX8_bound_55 ?_
        refine lv_iload_n (pc := 56) hx hb dX8_bound_56 rfl (lv_at hl 3 rfl) ?_
        refine cPN_X1_lag (pc := 57) hF hP hD hS (i := (a1.toNatClampNeg)) (by omega) lkX8_128 dX8_bound_57 (fun H locs hP hD hS => ?_)
        refine lv_iload_n (pc := 60) hx hb dX8_bound_60 rfl (lv_at hl 0 rfl) ?_
        exact vx_ret (zirV (pc := 61) (Wd := cW E ad wd cI cB cP cT) (u := ((va_up x0 6 (va_up (x0 6) (a1.toNatClampNeg) a2)), y0, g0)) hx hb hr hlocks hAe hK hP hD hS rfl dX8_bound_61 (by omega) (by omega) h)
      · have h := h.2 c_23
        obtain ⟨ec_26, es_26, h⟩ := h
        exact c_throw (pc := 26) hF hP hD hS hlf hexc hlocks hl.1 hAe (names := xn_IAE) (by decide) (by decide) xl_X8_IAE xi_IAE xa_X8_IAE_40 xg_X8_IAE_40 dX8_bound_26 dX8_bound_29 dX8_bound_30 dX8_bound_33 ⟨by show _ < (6 : Nat); decide, Nat.le_of_ble_eq_true rfl, by show _ ≤ BC; omega, by show _ ≤ BS; omega⟩ (by omega) (by omega) h
  · have h := h.2 c_5
    obtain ⟨ec_8, es_8, h⟩ := h
    exact c_throw (pc := 8) hF hP hD hS hlf hexc hlocks hl.1 hAe (names := xn_IOB) (by decide) (by decide) xl_X8_IOB xi_IOB xa_X8_IOB_104 xg_X8_IOB_104 dX8_bound_8 dX8_bound_11 dX8_bound_12 dX8_bound_15 ⟨by show _ < (6 : Nat); decide, Nat.le_of_ble_eq_true rfl, by show _ ≤ BC; omega, by show _ ≤ BS; omega⟩ (by omega) (by omega) h

def wX8_idle (x : Nat → Nat → Int32) (y : Nat → Nat → Nat) (g : Nat → Nat → Nat → Int32) (a1 : Int32) (a2 : Int32) (bc bs : Nat) (Φ : Int32 → (Nat → Nat → Int32) → (Nat → Nat → Nat) → (Nat → Nat → Nat → Int32) → Prop) (Ψ : String → (Nat → Nat → Int32) → (Nat → Nat → Nat) → (Nat → Nat → Nat → Int32) → Prop) : Prop := (wX8_isOutside a1 3 (fun r_2 => ((r_2 = 0 → (vp_in a1 3 ∧ ((((x 15) 0) = 0 → (Φ ((x 2) 0) (va_up x 7 (va_up (x 7) (a1.toNatClampNeg) a2)) y g)) ∧ (¬ ((x 15) 0) = 0 → (∃ kc_40 ks_40 bc_40 bs_40 : Nat, kc_40 + bc_40 ≤ bc ∧ ks_40 + bs_40 ≤ bs ∧ (wX0_findWatermark (va_up x 7 (va_up (x 7) (a1.toNatClampNeg) a2)) y g kc_40 ks_40 (fun x_40 y_40 g_40 => (Φ ((x_40 2) 0) x_40 y_40 g_40)))))))) ∧ (¬ r_2 = 0 → (1 ≤ bc ∧ 6 ≤ bs ∧ Ψ "java/lang/IndexOutOfBoundsException" x y g)))))
set_option maxRecDepth 100000 in
set_option maxHeartbeats 4000000 in
theorem kX8_idle {l : Launch} {D : va_G} {E : va_W} {ad : Nat → Nat → Nat} {wd sk : Nat → Nat} {cI cB cP cT : ClassId} {sz : Nat} (x0 : Nat → Nat → Int32) (y0 : Nat → Nat → Nat) (g0 : Nat → Nat → Nat → Int32) (a1 : Int32) (a2 : Int32) (BC BS : Nat) {Φ : Int32 → (Nat → Nat → Int32) → (Nat → Nat → Nat) → (Nat → Nat → Nat → Int32) → Prop} {Ψ : String → (Nat → Nat → Int32) → (Nat → Nat → Nat) → (Nat → Nat → Nat → Int32) → Prop} (hlf : l.stackTraces = false) (h : wX8_idle x0 y0 g0 a1 a2 BC BS Φ Ψ) (hb2 : a2 = 0 ∨ a2 = 1) : vx_Met l yX8_idle (zws yX8_idle cX8_idle 3 (some .int)) { frames := 7, cells := BC, slots := BS, locals := 199 } (zPc D (cTy cI cB cP cT) (cX wd sk) (cW E ad wd cI cB cP cT (x0, y0, g0)) [.ref (ad 0 0), .int a1, .int a2] sz) (zQi D (cTy cI cB cP cT) (cW E ad wd cI cB cP cT) (fun r u => Φ r u.1 u.2.1 u.2.2) (cW E ad wd cI cB cP cT (x0, y0, g0)) sz) (vx_X (S := cS) (fun _ => True) (fun E2 u t => Ψ E2 u.1 u.2.1 u.2.2 ∧ zB D (cTy cI cB cP cT) (cW E ad wd cI cB cP cT) (va_A (cW E ad wd cI cB cP cT (x0, y0, g0)) sz) u t) (va_A (cW E ad wd cI cB cP cT (x0, y0, g0)) sz)) BC BS (va_A (cW E ad wd cI cB cP cT (x0, y0, g0)) sz) := by
  refine zMetX (by decide) (Nat.le_of_ble_eq_true rfl) ?_
  intro p e s m args below meth c A hx hb hr hml hown hts hlocks hexc hsz hAe hA hS hP hK hD hX ls hl
  subst hsz
  have hF : zFx p s m args c cX8_idle RX8 A D (cTy cI cB cP cT) (cX wd sk) 3 := ⟨hx, hb, hml, hown, hts, hA, hK, cX_cl wd sk, hX⟩
  have hl : lv_has ls 3 [(0, .ref (ad 0 0)), (1, .int a1), (2, .int a2)] := hl
  have hB : 0 + BC ≤ BC ∧ 0 + BS ≤ BS := ⟨by omega, by omega⟩
  unfold wX8_idle at h
  refine lv_iload_n (pc := 0) hx hb dX8_idle_0 rfl (lv_at hl 1 rfl) ?_
  refine lv_iconst (pc := 1) (v := 3) hx hb dX8_idle_1 (by decide) ?_
  refine cSbp (pc := 2) (x := x0) (y := y0) (g := g0) [.int a1, .int 3] hF (kX8_isOutside x0 y0 g0 a1 3 h) (cwX8_X8_isOutside hts ⟨Nat.le_of_ble_eq_true rfl, Nat.le_of_ble_eq_true rfl⟩) hP hD hS rfl rfl hl.1 (Nat.le_of_ble_eq_true rfl) dX8_idle_2 ⟨by show _ ≤ BC; omega, by show _ ≤ BS; omega⟩ (fun r_2 H locs hb_2 h hP hD hS => ?_)
  refine lv_if_eq (pc := 5) (tgt := 16) hx hb dX8_idle_5 (by decide) (fun c_5 => ?_) (fun c_5 => ?_)
  · have h := h.1 c_5
    refine lv_aload_n (pc := 16) hx hb dX8_idle_16 rfl (lv_at hl 0 rfl) ?_
    refine cG_X8_loom (pc := 17) hF hP lkX8_19 dX8_idle_17 ?_
    refine cGN_X0_partitions (pc := 20) hF hP lkX8_115 dX8_idle_20 ?_
    refine lv_iload_n (pc := 23) hx hb dX8_idle_23 rfl (lv_at hl 1 rfl) ?_
    obtain ⟨hi_24, h⟩ := h
    have hj_24 := vp_lt hi_24
    refine cL_PA (pc := 24) hF hP hi_24 dX8_idle_24 ?_
    refine lv_iload_n (pc := 25) hx hb dX8_idle_25 rfl (lv_at hl 2 rfl) ?_
    refine cPN_X1_isIdle (pc := 26) hF hP hD hS (i := (a1.toNatClampNeg)) (by omega) lkX8_131 (znB hb2) (by rcases hb2 with q | q <;> rw [q] <;> rfl) dX8_idle_26 (fun H locs hP hD hS => ?_)
    refine lv_aload_n (pc := 29) hx hb dX8_idle_29 rfl (lv_at hl 0 rfl) ?_
    refine cG_X8_isPlanned (pc := 30) hF hP lkX8_30 (v := ((x0 15) 0)) rfl dX8_idle_30 ?_
    refine lv_if_eq (pc := 33) (tgt := 43) hx hb dX8_idle_33 (by decide) (fun c_33 => ?_) (fun c_33 => ?_)
    · have h := h.1 c_33
      refine lv_aload_n (pc := 43) hx hb dX8_idle_43 rfl (lv_at hl 0 rfl) ?_
      refine cG_X8_loom (pc := 44) hF hP lkX8_19 dX8_idle_44 ?_
      refine cGN_X0_now (pc := 47) hF hP lkX8_83 dX8_idle_47 ?_
      refine cGN_X6_mark (pc := 50) hF hP (i := 0) (by omega) lkX8_137 (v := ((x0 2) 0)) rfl dX8_idle_50 ?_
      exact vx_ret (zirV (pc := 53) (Wd := cW E ad wd cI cB cP cT) (u := ((va_up x0 7 (va_up (x0 7) (a1.toNatClampNeg) a2)), y0, g0)) hx hb hr hlocks hAe hK hP hD hS rfl dX8_idle_53 (by omega) (by omega) h)
    · have h := h.2 c_33
      refine lv_aload_n (pc := 36) hx hb dX8_idle_36 rfl (lv_at hl 0 rfl) ?_
      refine cG_X8_loom (pc := 37) hF hP lkX8_19 dX8_idle_37 ?_
      obtain ⟨kc_40, ks_40, bc_40, bs_40, ec_40, es_40, h⟩ := h
      refine cVv (pc := 40) (x := (va_up x0 7 (va_up (x0 7) (a1.toNatClampNeg) a2))) (y := y0) (g := g0) [] hF (kX0_findWatermark (va_up x0 7 (va_up (x0 7) (a1.toNatClampNeg) a2)) y0 g0 kc_40 ks_40 h) (cwX8_X0_findWatermark hts ⟨Nat.le_of_ble_eq_true rfl, Nat.le_of_ble_eq_true rfl⟩) rfl (cA_L ..) hP hD hS rfl rfl hl.1 (Nat.le_of_ble_eq_true rfl) dX8_idle_40 ⟨by show _ ≤ BC; omega, by show _ ≤ BS; omega⟩ (fun x_40 y_40 g_40 H locs h hP hD hS => ?_)
      have hB : ((0 + 0) + kc_40) + bc_40 ≤ BC ∧ ((0 + 0) + ks_40) + bs_40 ≤ BS := ⟨by omega, by omega⟩
      refine lv_aload_n (pc := 43) hx hb dX8_idle_43 rfl (lv_at hl 0 rfl) ?_
      refine cG_X8_loom (pc := 44) hF hP lkX8_19 dX8_idle_44 ?_
      refine cGN_X0_now (pc := 47) hF hP lkX8_83 dX8_idle_47 ?_
      refine cGN_X6_mark (pc := 50) hF hP (i := 0) (by omega) lkX8_137 (v := ((x_40 2) 0)) rfl dX8_idle_50 ?_
      exact vx_ret (zirV (pc := 53) (Wd := cW E ad wd cI cB cP cT) (u := (x_40, y_40, g_40)) hx hb hr hlocks hAe hK hP hD hS rfl dX8_idle_53 (by omega) (by omega) h)
  · have h := h.2 c_5
    obtain ⟨ec_8, es_8, h⟩ := h
    exact c_throw (pc := 8) hF hP hD hS hlf hexc hlocks hl.1 hAe (names := xn_IOB) (by decide) (by decide) xl_X8_IOB xi_IOB xa_X8_IOB_104 xg_X8_IOB_104 dX8_idle_8 dX8_idle_11 dX8_idle_12 dX8_idle_15 ⟨by show _ < (7 : Nat); decide, Nat.le_of_ble_eq_true rfl, by show _ ≤ BC; omega, by show _ ≤ BS; omega⟩ (by omega) (by omega) h

def wX8_table (x : Nat → Nat → Int32) (y : Nat → Nat → Nat) (g : Nat → Nat → Nat → Int32) (a1 : Int32) (a2 : Int32) (a3 : Int32) (bc bs : Nat) (Φ : Int32 → (Nat → Nat → Int32) → (Nat → Nat → Nat) → (Nat → Nat → Nat → Int32) → Prop) (Ψ : String → (Nat → Nat → Int32) → (Nat → Nat → Nat) → (Nat → Nat → Nat → Int32) → Prop) : Prop := (wX8_isOutside a1 8 (fun r_3 => ((r_3 = 0 → (wX8_isTime a2 (fun r_18 => ((r_18 = 0 → (1 ≤ bc ∧ 6 ≤ bs ∧ Ψ "java/lang/IllegalArgumentException" x y g)) ∧ (¬ r_18 = 0 → (wX8_isValue a3 (fun r_25 => ((r_25 = 0 → (1 ≤ bc ∧ 6 ≤ bs ∧ Ψ "java/lang/IllegalArgumentException" x y g)) ∧ (¬ r_25 = 0 → ((((x 1) 3) < 60 → (∃ kc_72 ks_72 bc_72 bs_72 : Nat, kc_72 + bc_72 ≤ bc ∧ ks_72 + bs_72 ≤ bs ∧ (wX8_putTold x y g 3 a1 a2 a3 kc_72 ks_72 (fun x_72 y_72 g_72 => (Φ ((x_72 1) 3) x_72 y_72 g_72))))) ∧ (¬ ((x 1) 3) < 60 → (1 ≤ bc ∧ 6 ≤ bs ∧ Ψ "java/lang/IllegalStateException" x y g)))))))))))) ∧ (¬ r_3 = 0 → (1 ≤ bc ∧ 6 ≤ bs ∧ Ψ "java/lang/IndexOutOfBoundsException" x y g)))))
set_option maxRecDepth 100000 in
set_option maxHeartbeats 4000000 in
theorem kX8_table {l : Launch} {D : va_G} {E : va_W} {ad : Nat → Nat → Nat} {wd sk : Nat → Nat} {cI cB cP cT : ClassId} {sz : Nat} (x0 : Nat → Nat → Int32) (y0 : Nat → Nat → Nat) (g0 : Nat → Nat → Nat → Int32) (a1 : Int32) (a2 : Int32) (a3 : Int32) (BC BS : Nat) {Φ : Int32 → (Nat → Nat → Int32) → (Nat → Nat → Nat) → (Nat → Nat → Nat → Int32) → Prop} {Ψ : String → (Nat → Nat → Int32) → (Nat → Nat → Nat) → (Nat → Nat → Nat → Int32) → Prop} (hlf : l.stackTraces = false) (h : wX8_table x0 y0 g0 a1 a2 a3 BC BS Φ Ψ) : vx_Met l yX8_table (zws yX8_table cX8_table 4 (some .int)) { frames := 6, cells := BC, slots := BS, locals := 130 } (zPc D (cTy cI cB cP cT) (cX wd sk) (cW E ad wd cI cB cP cT (x0, y0, g0)) [.ref (ad 0 0), .int a1, .int a2, .int a3] sz) (zQi D (cTy cI cB cP cT) (cW E ad wd cI cB cP cT) (fun r u => Φ r u.1 u.2.1 u.2.2) (cW E ad wd cI cB cP cT (x0, y0, g0)) sz) (vx_X (S := cS) (fun _ => True) (fun E2 u t => Ψ E2 u.1 u.2.1 u.2.2 ∧ zB D (cTy cI cB cP cT) (cW E ad wd cI cB cP cT) (va_A (cW E ad wd cI cB cP cT (x0, y0, g0)) sz) u t) (va_A (cW E ad wd cI cB cP cT (x0, y0, g0)) sz)) BC BS (va_A (cW E ad wd cI cB cP cT (x0, y0, g0)) sz) := by
  refine zMetX (by decide) (Nat.le_of_ble_eq_true rfl) ?_
  intro p e s m args below meth c A hx hb hr hml hown hts hlocks hexc hsz hAe hA hS hP hK hD hX ls hl
  subst hsz
  have hF : zFx p s m args c cX8_table RX8 A D (cTy cI cB cP cT) (cX wd sk) 4 := ⟨hx, hb, hml, hown, hts, hA, hK, cX_cl wd sk, hX⟩
  have hl : lv_has ls 4 [(0, .ref (ad 0 0)), (1, .int a1), (2, .int a2), (3, .int a3)] := hl
  have hB : 0 + BC ≤ BC ∧ 0 + BS ≤ BS := ⟨by omega, by omega⟩
  unfold wX8_table at h
  refine lv_iload_n (pc := 0) hx hb dX8_table_0 rfl (lv_at hl 1 rfl) ?_
  refine lv_bipush (pc := 1) (v := 8) hx hb dX8_table_1 (by decide) ?_
  refine cSbp (pc := 3) (x := x0) (y := y0) (g := g0) [.int a1, .int 8] hF (kX8_isOutside x0 y0 g0 a1 8 h) (cwX8_X8_isOutside hts ⟨Nat.le_of_ble_eq_true rfl, Nat.le_of_ble_eq_true rfl⟩) hP hD hS rfl rfl hl.1 (Nat.le_of_ble_eq_true rfl) dX8_table_3 ⟨by show _ ≤ BC; omega, by show _ ≤ BS; omega⟩ (fun r_3 H locs hb_3 h hP hD hS => ?_)
  refine lv_if_eq (pc := 6) (tgt := 17) hx hb dX8_table_6 (by decide) (fun c_6 => ?_) (fun c_6 => ?_)
  · have h := h.1 c_6
    refine lv_iload_n (pc := 17) hx hb dX8_table_17 rfl (lv_at hl 2 rfl) ?_
    refine cSbp (pc := 18) (x := x0) (y := y0) (g := g0) [.int a2] hF (kX8_isTime x0 y0 g0 a2 h) (cwX8_X8_isTime hts ⟨Nat.le_of_ble_eq_true rfl, Nat.le_of_ble_eq_true rfl⟩) hP hD hS rfl rfl hl.1 (Nat.le_of_ble_eq_true rfl) dX8_table_18 ⟨by show _ ≤ BC; omega, by show _ ≤ BS; omega⟩ (fun r_18 H locs hb_18 h hP hD hS => ?_)
    refine lv_if_eq (pc := 21) (tgt := 31) hx hb dX8_table_21 (by decide) (fun c_21 => ?_) (fun c_21 => ?_)
    · have h := h.1 c_21
      obtain ⟨ec_31, es_31, h⟩ := h
      exact c_throw (pc := 31) hF hP hD hS hlf hexc hlocks hl.1 hAe (names := xn_IAE) (by decide) (by decide) xl_X8_IAE xi_IAE xa_X8_IAE_40 xg_X8_IAE_40 dX8_table_31 dX8_table_34 dX8_table_35 dX8_table_38 ⟨by show _ < (6 : Nat); decide, Nat.le_of_ble_eq_true rfl, by show _ ≤ BC; omega, by show _ ≤ BS; omega⟩ (by omega) (by omega) h
    · have h := h.2 c_21
      refine lv_iload_n (pc := 24) hx hb dX8_table_24 rfl (lv_at hl 3 rfl) ?_
      refine cSbp (pc := 25) (x := x0) (y := y0) (g := g0) [.int a3] hF (kX8_isValue x0 y0 g0 a3 h) (cwX8_X8_isValue hts ⟨Nat.le_of_ble_eq_true rfl, Nat.le_of_ble_eq_true rfl⟩) hP hD hS rfl rfl hl.1 (Nat.le_of_ble_eq_true rfl) dX8_table_25 ⟨by show _ ≤ BC; omega, by show _ ≤ BS; omega⟩ (fun r_25 H locs hb_25 h hP hD hS => ?_)
      refine lv_if_ne (pc := 28) (tgt := 39) hx hb dX8_table_28 (by decide) (fun c_28 => ?_) (fun c_28 => ?_)
      · have h := h.2 c_28
        refine lv_aload_n (pc := 39) hx hb dX8_table_39 rfl (lv_at hl 0 rfl) ?_
        refine cG_X8_loom (pc := 40) hF hP lkX8_19 dX8_table_40 ?_
        refine cGN_X0_joined (pc := 43) hF hP lkX8_140 dX8_table_43 ?_
        refine cGN_X4_count (pc := 46) hF hP (i := 3) (by omega) lkX8_93 (v := ((x0 1) 3)) rfl dX8_table_46 ?_
        refine lv_bipush (pc := 49) (v := 60) hx hb dX8_table_49 (by decide) ?_
        refine lv_icmp_lt (pc := 51) (tgt := 62) hx hb dX8_table_51 (by decide) (fun c_51 => ?_) (fun c_51 => ?_)
        · have h := h.1 c_51
          refine lv_aload_n (pc := 62) hx hb dX8_table_62 rfl (lv_at hl 0 rfl) ?_
          refine cG_X8_loom (pc := 63) hF hP lkX8_19 dX8_table_63 ?_
          refine cGN_X0_joined (pc := 66) hF hP lkX8_140 dX8_table_66 ?_
          refine lv_iload_n (pc := 69) hx hb dX8_table_69 rfl (lv_at hl 1 rfl) ?_
          refine lv_iload_n (pc := 70) hx hb dX8_table_70 rfl (lv_at hl 2 rfl) ?_
          refine lv_iload_n (pc := 71) hx hb dX8_table_71 rfl (lv_at hl 3 rfl) ?_
          obtain ⟨kc_72, ks_72, bc_72, bs_72, ec_72, es_72, h⟩ := h
          refine cSv (pc := 72) (x := x0) (y := y0) (g := g0) [.ref (ad 5 3), .int a1, .int a2, .int a3] hF (kX8_putTold x0 y0 g0 3 a1 a2 a3 kc_72 ks_72 h (by omega)) (cwX8_X8_putTold hts ⟨Nat.le_of_ble_eq_true rfl, Nat.le_of_ble_eq_true rfl⟩) hP hD hS rfl rfl hl.1 (Nat.le_of_ble_eq_true rfl) dX8_table_72 ⟨by show _ ≤ BC; omega, by show _ ≤ BS; omega⟩ (fun x_72 y_72 g_72 H locs h hP hD hS => ?_)
          have hB : ((((0 + 0) + 0) + 0) + kc_72) + bc_72 ≤ BC ∧ ((((0 + 0) + 0) + 0) + ks_72) + bs_72 ≤ BS := ⟨by omega, by omega⟩
          refine lv_aload_n (pc := 75) hx hb dX8_table_75 rfl (lv_at hl 0 rfl) ?_
          refine cG_X8_loom (pc := 76) hF hP lkX8_19 dX8_table_76 ?_
          refine cGN_X0_joined (pc := 79) hF hP lkX8_140 dX8_table_79 ?_
          refine cGN_X4_count (pc := 82) hF hP (i := 3) (by omega) lkX8_93 (v := ((x_72 1) 3)) rfl dX8_table_82 ?_
          exact vx_ret (zirV (pc := 85) (Wd := cW E ad wd cI cB cP cT) (u := (x_72, y_72, g_72)) hx hb hr hlocks hAe hK hP hD hS rfl dX8_table_85 (by omega) (by omega) h)
        · have h := h.2 c_51
          obtain ⟨ec_54, es_54, h⟩ := h
          exact c_throw (pc := 54) hF hP hD hS hlf hexc hlocks hl.1 hAe (names := xn_ISE) (by decide) (by decide) xl_X8_ISE xi_ISE xa_X8_ISE_47 xg_X8_ISE_47 dX8_table_54 dX8_table_57 dX8_table_58 dX8_table_61 ⟨by show _ < (6 : Nat); decide, Nat.le_of_ble_eq_true rfl, by show _ ≤ BC; omega, by show _ ≤ BS; omega⟩ (by omega) (by omega) h
      · have h := h.1 c_28
        obtain ⟨ec_31, es_31, h⟩ := h
        exact c_throw (pc := 31) hF hP hD hS hlf hexc hlocks hl.1 hAe (names := xn_IAE) (by decide) (by decide) xl_X8_IAE xi_IAE xa_X8_IAE_40 xg_X8_IAE_40 dX8_table_31 dX8_table_34 dX8_table_35 dX8_table_38 ⟨by show _ < (6 : Nat); decide, Nat.le_of_ble_eq_true rfl, by show _ ≤ BC; omega, by show _ ≤ BS; omega⟩ (by omega) (by omega) h
  · have h := h.2 c_6
    obtain ⟨ec_9, es_9, h⟩ := h
    exact c_throw (pc := 9) hF hP hD hS hlf hexc hlocks hl.1 hAe (names := xn_IOB) (by decide) (by decide) xl_X8_IOB xi_IOB xa_X8_IOB_104 xg_X8_IOB_104 dX8_table_9 dX8_table_12 dX8_table_13 dX8_table_16 ⟨by show _ < (6 : Nat); decide, Nat.le_of_ble_eq_true rfl, by show _ ≤ BC; omega, by show _ ≤ BS; omega⟩ (by omega) (by omega) h

def jX8_step_122 (Φ : Int32 → (Nat → Nat → Int32) → (Nat → Nat → Nat) → (Nat → Nat → Nat → Int32) → Prop) (Ψ : String → (Nat → Nat → Int32) → (Nat → Nat → Nat) → (Nat → Nat → Nat → Int32) → Prop) (x : Nat → Nat → Int32) (y : Nat → Nat → Nat) (g : Nat → Nat → Nat → Int32) (v2 : Int32) (bc bs : Nat) : Prop := (∃ kc_126 ks_126 bc_126 bs_126 : Nat, kc_126 + bc_126 ≤ bc ∧ ks_126 + bs_126 ≤ bs ∧ (wX0_findWatermark x y g kc_126 ks_126 (fun x_126 y_126 g_126 => (Φ (((x_126 1) 4) - v2) x_126 y_126 g_126))))
def wX8_step (x : Nat → Nat → Int32) (y : Nat → Nat → Nat) (g : Nat → Nat → Nat → Int32) (a1 : Int32) (bc bs : Nat) (Φ : Int32 → (Nat → Nat → Int32) → (Nat → Nat → Nat) → (Nat → Nat → Nat → Int32) → Prop) (Ψ : String → (Nat → Nat → Int32) → (Nat → Nat → Nat) → (Nat → Nat → Nat → Int32) → Prop) : Prop := (wX8_isOutside a1 3 (fun r_2 => ((r_2 = 0 → ((((x 15) 0) = 0 → (1 ≤ bc ∧ 6 ≤ bs ∧ Ψ "java/lang/IllegalStateException" x y g)) ∧ (¬ ((x 15) 0) = 0 → (wX5_closedResults x y g (fun r_37 => (((((x 1) 4) - r_37) < 30 → (vp_in a1 3 ∧ (vp_in a1 3 ∧ (((((g 1) 0) a1.toNatClampNeg) < ((x 1) (a1.toNatClampNeg)) → (∀ v2_102 : Int32, v2_102 = ((x 1) 4) → (wX0_readNext x y g a1 (fun r_108 x_108 y_108 g_108 => ((r_108 = 0 → (jX8_step_122 Φ Ψ x_108 y_108 g_108 v2_102 bc bs)) ∧ (¬ r_108 = 0 → (∃ kc_119 ks_119 bc_119 bs_119 : Nat, kc_119 + bc_119 ≤ bc ∧ ks_119 + bs_119 ≤ bs ∧ (wX0_putIntoWindows x_108 y_108 g_108 a1 kc_119 ks_119 (fun x_119 y_119 g_119 => (jX8_step_122 Φ Ψ x_119 y_119 g_119 v2_102 bc_119 bs_119)))))))))) ∧ (¬ (((g 1) 0) a1.toNatClampNeg) < ((x 1) (a1.toNatClampNeg)) → (1 ≤ bc ∧ 6 ≤ bs ∧ Ψ "java/util/NoSuchElementException" x y g)))))) ∧ (¬ (((x 1) 4) - r_37) < 30 → (1 ≤ bc ∧ 6 ≤ bs ∧ Ψ "java/lang/IllegalStateException" x y g)))))))) ∧ (¬ r_2 = 0 → (1 ≤ bc ∧ 6 ≤ bs ∧ Ψ "java/lang/IndexOutOfBoundsException" x y g)))))
set_option maxRecDepth 100000 in
set_option maxHeartbeats 4000000 in
theorem kX8_step {l : Launch} {D : va_G} {E : va_W} {ad : Nat → Nat → Nat} {wd sk : Nat → Nat} {cI cB cP cT : ClassId} {sz : Nat} (x0 : Nat → Nat → Int32) (y0 : Nat → Nat → Nat) (g0 : Nat → Nat → Nat → Int32) (a1 : Int32) (BC BS : Nat) {Φ : Int32 → (Nat → Nat → Int32) → (Nat → Nat → Nat) → (Nat → Nat → Nat → Int32) → Prop} {Ψ : String → (Nat → Nat → Int32) → (Nat → Nat → Nat) → (Nat → Nat → Nat → Int32) → Prop} (hlf : l.stackTraces = false) (h : wX8_step x0 y0 g0 a1 BC BS Φ Ψ) : vx_Met l yX8_step (zws yX8_step cX8_step 3 (some .int)) { frames := 7, cells := BC, slots := BS, locals := 213 } (zPc D (cTy cI cB cP cT) (cX wd sk) (cW E ad wd cI cB cP cT (x0, y0, g0)) [.ref (ad 0 0), .int a1] sz) (zQi D (cTy cI cB cP cT) (cW E ad wd cI cB cP cT) (fun r u => Φ r u.1 u.2.1 u.2.2) (cW E ad wd cI cB cP cT (x0, y0, g0)) sz) (vx_X (S := cS) (fun _ => True) (fun E2 u t => Ψ E2 u.1 u.2.1 u.2.2 ∧ zB D (cTy cI cB cP cT) (cW E ad wd cI cB cP cT) (va_A (cW E ad wd cI cB cP cT (x0, y0, g0)) sz) u t) (va_A (cW E ad wd cI cB cP cT (x0, y0, g0)) sz)) BC BS (va_A (cW E ad wd cI cB cP cT (x0, y0, g0)) sz) := by
  refine zMetX (by decide) (Nat.le_of_ble_eq_true rfl) ?_
  intro p e s m args below meth c A hx hb hr hml hown hts hlocks hexc hsz hAe hA hS hP hK hD hX ls hl
  subst hsz
  have hF : zFx p s m args c cX8_step RX8 A D (cTy cI cB cP cT) (cX wd sk) 3 := ⟨hx, hb, hml, hown, hts, hA, hK, cX_cl wd sk, hX⟩
  have hl : lv_has ls 3 [(0, .ref (ad 0 0)), (1, .int a1)] := hl
  have hB : 0 + BC ≤ BC ∧ 0 + BS ≤ BS := ⟨by omega, by omega⟩
  have J122 : ∀ (x : Nat → Nat → Int32) (y : Nat → Nat → Nat) (g : Nat → Nat → Nat → Int32) (v2 : Int32) (bc bs : Nat), jX8_step_122 Φ Ψ x y g v2 bc bs → ∀ (cells slots : Nat), (cells + bc ≤ BC ∧ slots + bs ≤ BS) → ∀ (H : Heap) (locs : List Loc) (ls : Array Slot), va_P D vwCl (cW E ad wd cI cB cP cT (x, y, g)) H → va_D A (cW E ad wd cI cB cP cT (x, y, g)) → va_S A s.heap H locs → lv_has ls 3 [(0, .ref (ad 0 0)), (2, .int v2)] → W p l e { frames := 7, cells := BC, slots := BS, locals := 213 } s m args below meth c H locs cells slots (vx_MQ below (zQi D (cTy cI cB cP cT) (cW E ad wd cI cB cP cT) (fun r u => Φ r u.1 u.2.1 u.2.2) (cW E ad wd cI cB cP cT (x0, y0, g0)) s.heap.size) (vx_X (S := cS) (fun _ => True) (fun E2 u t => Ψ E2 u.1 u.2.1 u.2.2 ∧ zB D (cTy cI cB cP cT) (cW E ad wd cI cB cP cT) (va_A (cW E ad wd cI cB cP cT (x0, y0, g0)) s.heap.size) u t) (va_A (cW E ad wd cI cB cP cT (x0, y0, g0)) s.heap.size)) args s BC BS (va_A (cW E ad wd cI cB cP cT (x0, y0, g0)) s.heap.size)) (F0 m 122 ls []) := by
    intro x y g v2 bc bs h cells slots hB H locs ls hP hD hS hl
    unfold jX8_step_122 at h
    refine lv_aload_n (pc := 122) hx hb dX8_step_122 rfl (lv_at hl 0 rfl) ?_
    refine cG_X8_loom (pc := 123) hF hP lkX8_19 dX8_step_123 ?_
    obtain ⟨kc_126, ks_126, bc_126, bs_126, ec_126, es_126, h⟩ := h
    refine cVv (pc := 126) (x := x) (y := y) (g := g) [] hF (kX0_findWatermark x y g kc_126 ks_126 h) (cwX8_X0_findWatermark hts ⟨Nat.le_of_ble_eq_true rfl, Nat.le_of_ble_eq_true rfl⟩) rfl (cA_L ..) hP hD hS rfl rfl hl.1 (Nat.le_of_ble_eq_true rfl) dX8_step_126 ⟨by show _ ≤ BC; omega, by show _ ≤ BS; omega⟩ (fun x_126 y_126 g_126 H locs h hP hD hS => ?_)
    have hB : (cells + kc_126) + bc_126 ≤ BC ∧ (slots + ks_126) + bs_126 ≤ BS := ⟨by omega, by omega⟩
    refine lv_aload_n (pc := 129) hx hb dX8_step_129 rfl (lv_at hl 0 rfl) ?_
    refine cG_X8_loom (pc := 130) hF hP lkX8_19 dX8_step_130 ?_
    refine cGN_X0_told (pc := 133) hF hP lkX8_143 dX8_step_133 ?_
    refine cGN_X4_count (pc := 136) hF hP (i := 4) (by omega) lkX8_93 (v := ((x_126 1) 4)) rfl dX8_step_136 ?_
    refine lv_iload_n (pc := 139) hx hb dX8_step_139 rfl (lv_at hl 1 rfl) ?_
    refine lv_isub (pc := 140) hx hb dX8_step_140 ?_
    exact vx_ret (zirV (pc := 141) (Wd := cW E ad wd cI cB cP cT) (u := (x_126, y_126, g_126)) hx hb hr hlocks hAe hK hP hD hS rfl dX8_step_141 (by omega) (by omega) h)
  unfold wX8_step at h
  refine lv_iload_n (pc := 0) hx hb dX8_step_0 rfl (lv_at hl 1 rfl) ?_
  refine lv_iconst (pc := 1) (v := 3) hx hb dX8_step_1 (by decide) ?_
  refine cSbp (pc := 2) (x := x0) (y := y0) (g := g0) [.int a1, .int 3] hF (kX8_isOutside x0 y0 g0 a1 3 h) (cwX8_X8_isOutside hts ⟨Nat.le_of_ble_eq_true rfl, Nat.le_of_ble_eq_true rfl⟩) hP hD hS rfl rfl hl.1 (Nat.le_of_ble_eq_true rfl) dX8_step_2 ⟨by show _ ≤ BC; omega, by show _ ≤ BS; omega⟩ (fun r_2 H locs hb_2 h hP hD hS => ?_)
  refine lv_if_eq (pc := 5) (tgt := 16) hx hb dX8_step_5 (by decide) (fun c_5 => ?_) (fun c_5 => ?_)
  · have h := h.1 c_5
    refine lv_aload_n (pc := 16) hx hb dX8_step_16 rfl (lv_at hl 0 rfl) ?_
    refine cG_X8_isPlanned (pc := 17) hF hP lkX8_30 (v := ((x0 15) 0)) rfl dX8_step_17 ?_
    refine lv_if_eq (pc := 20) (tgt := 46) hx hb dX8_step_20 (by decide) (fun c_20 => ?_) (fun c_20 => ?_)
    · have h := h.1 c_20
      obtain ⟨ec_46, es_46, h⟩ := h
      exact c_throw (pc := 46) hF hP hD hS hlf hexc hlocks hl.1 hAe (names := xn_ISE) (by decide) (by decide) xl_X8_ISE xi_ISE xa_X8_ISE_47 xg_X8_ISE_47 dX8_step_46 dX8_step_49 dX8_step_50 dX8_step_53 ⟨by show _ < (7 : Nat); decide, Nat.le_of_ble_eq_true rfl, by show _ ≤ BC; omega, by show _ ≤ BS; omega⟩ (by omega) (by omega) h
    · have h := h.2 c_20
      refine lv_aload_n (pc := 23) hx hb dX8_step_23 rfl (lv_at hl 0 rfl) ?_
      refine cG_X8_loom (pc := 24) hF hP lkX8_19 dX8_step_24 ?_
      refine cGN_X0_told (pc := 27) hF hP lkX8_143 dX8_step_27 ?_
      refine cGN_X4_count (pc := 30) hF hP (i := 4) (by omega) lkX8_93 (v := ((x0 1) 4)) rfl dX8_step_30 ?_
      refine lv_aload_n (pc := 33) hx hb dX8_step_33 rfl (lv_at hl 0 rfl) ?_
      refine cG_X8_snapshots (pc := 34) hF hP lkX8_26 dX8_step_34 ?_
      refine cVip (pc := 37) (x := x0) (y := y0) (g := g0) [] hF (kX5_closedResults x0 y0 g0 h) (cwX8_X5_closedResults hts ⟨Nat.le_of_ble_eq_true rfl, Nat.le_of_ble_eq_true rfl⟩) rfl (cA_N ..) hP hD hS rfl rfl hl.1 (Nat.le_of_ble_eq_true rfl) dX8_step_37 ⟨by show _ ≤ BC; omega, by show _ ≤ BS; omega⟩ (fun r_37 H locs h hP hD hS => ?_)
      refine lv_isub (pc := 40) hx hb dX8_step_40 ?_
      refine lv_bipush (pc := 41) (v := 30) hx hb dX8_step_41 (by decide) ?_
      refine lv_icmp_lt (pc := 43) (tgt := 54) hx hb dX8_step_43 (by decide) (fun c_43 => ?_) (fun c_43 => ?_)
      · have h := h.1 c_43
        refine lv_aload_n (pc := 54) hx hb dX8_step_54 rfl (lv_at hl 0 rfl) ?_
        refine cG_X8_loom (pc := 55) hF hP lkX8_19 dX8_step_55 ?_
        refine cGN_X0_now (pc := 58) hF hP lkX8_83 dX8_step_58 ?_
        refine cGN_X6_read (pc := 61) hF hP (i := 0) (by omega) lkX8_149 dX8_step_61 ?_
        refine lv_iload_n (pc := 64) hx hb dX8_step_64 rfl (lv_at hl 1 rfl) ?_
        obtain ⟨hi_65, h⟩ := h
        refine cL_TR (pc := 65) hF hP (i := 0) (by omega) (f := ((g0 1) 0)) rfl hi_65 dX8_step_65 ?_
        refine lv_aload_n (pc := 66) hx hb dX8_step_66 rfl (lv_at hl 0 rfl) ?_
        refine cG_X8_loom (pc := 67) hF hP lkX8_19 dX8_step_67 ?_
        refine cGN_X0_partitions (pc := 70) hF hP lkX8_115 dX8_step_70 ?_
        refine lv_iload_n (pc := 73) hx hb dX8_step_73 rfl (lv_at hl 1 rfl) ?_
        obtain ⟨hi_74, h⟩ := h
        have hj_74 := vp_lt hi_74
        refine cL_PA (pc := 74) hF hP hi_74 dX8_step_74 ?_
        refine cGN_X1_events (pc := 75) hF hP (i := (a1.toNatClampNeg)) (by omega) lkX8_119 dX8_step_75 ?_
        refine cGN_X4_count (pc := 78) hF hP (i := (a1.toNatClampNeg)) (by omega) lkX8_93 (v := ((x0 1) (a1.toNatClampNeg))) rfl dX8_step_78 ?_
        refine lv_icmp_lt (pc := 81) (tgt := 92) hx hb dX8_step_81 (by decide) (fun c_81 => ?_) (fun c_81 => ?_)
        · have h := h.1 c_81
          refine lv_aload_n (pc := 92) hx hb dX8_step_92 rfl (lv_at hl 0 rfl) ?_
          refine cG_X8_loom (pc := 93) hF hP lkX8_19 dX8_step_93 ?_
          refine cGN_X0_told (pc := 96) hF hP lkX8_143 dX8_step_96 ?_
          refine cGN_X4_count (pc := 99) hF hP (i := 4) (by omega) lkX8_93 (v := ((x0 1) 4)) rfl dX8_step_99 ?_
          refine lv_topi (fun v2_102 e_v2_102 => ?_)
          replace h := h v2_102 e_v2_102
          refine lv_istore_n (pc := 102) (lv' := [(2, .int v2_102), (0, .ref (ad 0 0)), (1, .int a1)]) hx hb dX8_step_102 rfl hl (by decide) rfl (fun ls hl => ?_)
          refine lv_aload_n (pc := 103) hx hb dX8_step_103 rfl (lv_at hl 1 rfl) ?_
          refine cG_X8_loom (pc := 104) hF hP lkX8_19 dX8_step_104 ?_
          refine lv_iload_n (pc := 107) hx hb dX8_step_107 rfl (lv_at hl 2 rfl) ?_
          refine cVb (pc := 108) (x := x0) (y := y0) (g := g0) [.int a1] hF (kX0_readNext x0 y0 g0 a1 h) (cwX8_X0_readNext hts ⟨Nat.le_of_ble_eq_true rfl, Nat.le_of_ble_eq_true rfl⟩) rfl (cA_L ..) hP hD hS rfl rfl hl.1 (Nat.le_of_ble_eq_true rfl) dX8_step_108 ⟨by show _ ≤ BC; omega, by show _ ≤ BS; omega⟩ (fun r_108 x_108 y_108 g_108 H locs hb_108 h hP hD hS => ?_)
          refine lv_if_eq (pc := 111) (tgt := 122) hx hb dX8_step_111 (by decide) (fun c_111 => ?_) (fun c_111 => ?_)
          · have h := h.1 c_111
            exact J122 x_108 y_108 g_108 v2_102 BC BS h _ _ hB _ _ _ hP hD hS (lv_sub hl [1, 0] rfl)
          · have h := h.2 c_111
            refine lv_aload_n (pc := 114) hx hb dX8_step_114 rfl (lv_at hl 1 rfl) ?_
            refine cG_X8_loom (pc := 115) hF hP lkX8_19 dX8_step_115 ?_
            refine lv_iload_n (pc := 118) hx hb dX8_step_118 rfl (lv_at hl 2 rfl) ?_
            obtain ⟨kc_119, ks_119, bc_119, bs_119, ec_119, es_119, h⟩ := h
            refine cVv (pc := 119) (x := x_108) (y := y_108) (g := g_108) [.int a1] hF (kX0_putIntoWindows x_108 y_108 g_108 a1 kc_119 ks_119 h) (cwX8_X0_putIntoWindows hts ⟨Nat.le_of_ble_eq_true rfl, Nat.le_of_ble_eq_true rfl⟩) rfl (cA_L ..) hP hD hS rfl rfl hl.1 (Nat.le_of_ble_eq_true rfl) dX8_step_119 ⟨by show _ ≤ BC; omega, by show _ ≤ BS; omega⟩ (fun x_119 y_119 g_119 H locs h hP hD hS => ?_)
            have hB : ((((0 + 0) + 0) + 0) + kc_119) + bc_119 ≤ BC ∧ ((((0 + 0) + 0) + 0) + ks_119) + bs_119 ≤ BS := ⟨by omega, by omega⟩
            exact J122 x_119 y_119 g_119 v2_102 bc_119 bs_119 h _ _ hB _ _ _ hP hD hS (lv_sub hl [1, 0] rfl)
        · have h := h.2 c_81
          obtain ⟨ec_84, es_84, h⟩ := h
          exact c_throw (pc := 84) hF hP hD hS hlf hexc hlocks hl.1 hAe (names := xn_NSE) (by decide) (by decide) xl_X8_NSE xi_NSE xa_X8_NSE_155 xg_X8_NSE_155 dX8_step_84 dX8_step_87 dX8_step_88 dX8_step_91 ⟨by show _ < (7 : Nat); decide, Nat.le_of_ble_eq_true rfl, by show _ ≤ BC; omega, by show _ ≤ BS; omega⟩ (by omega) (by omega) h
      · have h := h.2 c_43
        obtain ⟨ec_46, es_46, h⟩ := h
        exact c_throw (pc := 46) hF hP hD hS hlf hexc hlocks hl.1 hAe (names := xn_ISE) (by decide) (by decide) xl_X8_ISE xi_ISE xa_X8_ISE_47 xg_X8_ISE_47 dX8_step_46 dX8_step_49 dX8_step_50 dX8_step_53 ⟨by show _ < (7 : Nat); decide, Nat.le_of_ble_eq_true rfl, by show _ ≤ BC; omega, by show _ ≤ BS; omega⟩ (by omega) (by omega) h
  · have h := h.2 c_5
    obtain ⟨ec_8, es_8, h⟩ := h
    exact c_throw (pc := 8) hF hP hD hS hlf hexc hlocks hl.1 hAe (names := xn_IOB) (by decide) (by decide) xl_X8_IOB xi_IOB xa_X8_IOB_104 xg_X8_IOB_104 dX8_step_8 dX8_step_11 dX8_step_12 dX8_step_15 ⟨by show _ < (7 : Nat); decide, Nat.le_of_ble_eq_true rfl, by show _ ≤ BC; omega, by show _ ≤ BS; omega⟩ (by omega) (by omega) h
