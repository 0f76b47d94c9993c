def wX9_thrown (x : Nat → Int32) (g : Nat → Nat → Int32) (Φ : Int32 → Prop) : Prop := (Φ (x 44))
set_option maxRecDepth 100000 in
set_option maxHeartbeats 4000000 in
theorem kX9_thrown {l : Launch} {D : va_G} {E : va_W} {o : Nat} {ad : Nat → Nat} {cI cZ : ClassId} {sz : Nat} (x0 : Nat → Int32) (g0 : Nat → Nat → Int32) {Φ : Int32 → Prop} (h : wX9_thrown x0 g0 Φ) : Met l yX9_thrown (zws yX9_thrown cX9_thrown 1 (some .int)) { frames := 0, cells := 0, slots := 0, locals := 0 } (zPc D (mT cI cZ) zX0 (mW E o ad cI cZ (x0, g0)) [.ref o] sz) (zQi D (mT cI cZ) (mW E o ad cI cZ) (fun r u => u = (x0, g0) ∧ Φ r) (mW E o ad cI cZ (x0, g0)) sz) 0 0 (va_A (mW E o ad cI cZ (x0, g0)) sz) := by
  refine zMet (by decide) (Nat.le_of_ble_eq_true rfl) ?_
  intro p e s m args below meth c A hx hb hr hml hown hts hlocks hsz hAe hA hS hP hK hD hX ls hl
  subst hsz
  have hF : zFx p s m args c cX9_thrown RX9 A D (mT cI cZ) zX0 1 := ⟨hx, hb, hml, hown, hts, hA, hK, zX0_cl, hX⟩
  have hl : lv_has ls 1 [(0, .ref o)] := hl
  unfold wX9_thrown at h
  refine lv_aload_n (pc := 0) hx hb dX9_thrown_0 rfl (lv_at hl 0 rfl) ?_
  refine mG_44 (pc := 1) (v := (x0 44)) hF hP rfl dX9_thrown_1 ?_
  exact zirV (pc := 4) (Wd := mW E o ad cI cZ) (u := (x0, g0)) hx hb hr hlocks hAe hK hP hD hS rfl dX9_thrown_4 (Nat.le_refl _) (Nat.le_refl _) ⟨rfl, h⟩

def wX9_can (x : Nat → Int32) (g : Nat → Nat → Int32) (a1 : Int32) (Φ : Int32 → (Nat → Int32) → (Nat → Nat → Int32) → Prop) : Prop := ((a1 = 0 → (Φ 1 (va_up x 44 a1) g)) ∧ (¬ a1 = 0 → (Φ 0 (va_up x 44 a1) g)))
set_option maxRecDepth 100000 in
set_option maxHeartbeats 4000000 in
theorem kX9_can {l : Launch} {D : va_G} {E : va_W} {o : Nat} {ad : Nat → Nat} {cI cZ : ClassId} {sz : Nat} (x0 : Nat → Int32) (g0 : Nat → Nat → Int32) (a1 : Int32) {Φ : Int32 → (Nat → Int32) → (Nat → Nat → Int32) → Prop} (h : wX9_can x0 g0 a1 Φ) : Met l yX9_can (zws yX9_can cX9_can 2 (some .boolean)) { frames := 0, cells := 0, slots := 0, locals := 0 } (zPc D (mT cI cZ) zX0 (mW E o ad cI cZ (x0, g0)) [.ref o, .int a1] sz) (zQi D (mT cI cZ) (mW E o ad cI cZ) (fun r u => (r = 0 ∨ r = 1) ∧ Φ r u.1 u.2) (mW E o ad cI cZ (x0, g0)) sz) 0 0 (va_A (mW E o ad cI cZ (x0, g0)) sz) := by
  refine zMet (by decide) (Nat.le_of_ble_eq_true rfl) ?_
  intro p e s m args below meth c A hx hb hr hml hown hts hlocks hsz hAe hA hS hP hK hD hX ls hl
  subst hsz
  have hF : zFx p s m args c cX9_can RX9 A D (mT cI cZ) zX0 2 := ⟨hx, hb, hml, hown, hts, hA, hK, zX0_cl, hX⟩
  have hl : lv_has ls 2 [(0, .ref o), (1, .int a1)] := hl
  unfold wX9_can at h
  refine lv_aload_n (pc := 0) hx hb dX9_can_0 rfl (lv_at hl 0 rfl) ?_
  refine lv_iload_n (pc := 1) hx hb dX9_can_1 rfl (lv_at hl 1 rfl) ?_
  refine mP_44 (pc := 2) hF hP hD hS dX9_can_2 (fun H locs hP hD hS => ?_)
  refine lv_iload_n (pc := 5) hx hb dX9_can_5 rfl (lv_at hl 1 rfl) ?_
  refine lv_if_ne (pc := 6) (tgt := 13) hx hb dX9_can_6 (by decide) (fun c_6 => ?_) (fun c_6 => ?_)
  · have h := h.2 c_6
    refine lv_iconst (pc := 13) (v := 0) hx hb dX9_can_13 (by decide) ?_
    exact zirV (pc := 14) (Wd := mW E o ad cI cZ) (u := ((va_up x0 44 a1), g0)) hx hb hr hlocks hAe hK hP hD hS rfl dX9_can_14 (Nat.le_refl _) (Nat.le_refl _) ⟨(Or.inl rfl), h⟩
  · have h := h.1 c_6
    refine lv_iconst (pc := 9) (v := 1) hx hb dX9_can_9 (by decide) ?_
    refine lv_goto (pc := 10) (tgt := 14) hx hb dX9_can_10 (by decide) ?_
    exact zirV (pc := 14) (Wd := mW E o ad cI cZ) (u := ((va_up x0 44 a1), g0)) hx hb hr hlocks hAe hK hP hD hS rfl dX9_can_14 (Nat.le_refl _) (Nat.le_refl _) ⟨(Or.inr rfl), h⟩

def wX9_isIn (a0 a1 a2 : Int32) (Φ : Int32 → Prop) : Prop := ((a0 < a1 → (Φ 0)) ∧ (¬ a0 < a1 → ((a2 < a0 → (Φ 0)) ∧ (¬ a2 < a0 → (Φ 1)))))
set_option maxRecDepth 100000 in
set_option maxHeartbeats 4000000 in
theorem kX9_isIn {l : Launch} {D : va_G} {E : va_W} {o : Nat} {ad : Nat → Nat} {cI cZ : ClassId} {sz : Nat} (x0 : Nat → Int32) (g0 : Nat → Nat → Int32) (a0 a1 a2 : Int32) {Φ : Int32 → Prop} (h : wX9_isIn a0 a1 a2 Φ) : Met l yX9_isIn (zws yX9_isIn cX9_isIn 3 (some .boolean)) { frames := 0, cells := 0, slots := 0, locals := 0 } (zPc D (mT cI cZ) zX0 (mW E o ad cI cZ (x0, g0)) [.int a0, .int a1, .int a2] sz) (zQi D (mT cI cZ) (mW E o ad cI cZ) (fun r u => u = (x0, g0) ∧ (r = 0 ∨ r = 1) ∧ Φ r) (mW E o ad cI cZ (x0, g0)) sz) 0 0 (va_A (mW E o ad cI cZ (x0, g0)) sz) := by
  refine zMet (by decide) (Nat.le_of_ble_eq_true rfl) ?_
  intro p e s m args below meth c A hx hb hr hml hown hts hlocks hsz hAe hA hS hP hK hD hX ls hl
  subst hsz
  have hF : zFx p s m args c cX9_isIn RX9 A D (mT cI cZ) zX0 3 := ⟨hx, hb, hml, hown, hts, hA, hK, zX0_cl, hX⟩
  have hl : lv_has ls 3 [(0, .int a0), (1, .int a1), (2, .int a2)] := hl
  unfold wX9_isIn at h
  refine lv_iload_n (pc := 0) hx hb dX9_isIn_0 rfl (lv_at hl 0 rfl) ?_
  refine lv_iload_n (pc := 1) hx hb dX9_isIn_1 rfl (lv_at hl 1 rfl) ?_
  refine lv_icmp_lt (pc := 2) (tgt := 14) hx hb dX9_isIn_2 (by decide) (fun c_2 => ?_) (fun c_2 => ?_)
  · have h := h.1 c_2
    refine lv_iconst (pc := 14) (v := 0) hx hb dX9_isIn_14 (by decide) ?_
    exact zirV (pc := 15) (Wd := mW E o ad cI cZ) (u := (x0, g0)) hx hb hr hlocks hAe hK hP hD hS rfl dX9_isIn_15 (Nat.le_refl _) (Nat.le_refl _) ⟨rfl, (Or.inl rfl), h⟩
  · have h := h.2 c_2
    refine lv_iload_n (pc := 5) hx hb dX9_isIn_5 rfl (lv_at hl 0 rfl) ?_
    refine lv_iload_n (pc := 6) hx hb dX9_isIn_6 rfl (lv_at hl 2 rfl) ?_
    refine lv_icmp_gt (pc := 7) (tgt := 14) hx hb dX9_isIn_7 (by decide) (fun c_7 => ?_) (fun c_7 => ?_)
    · have h := h.1 c_7
      refine lv_iconst (pc := 14) (v := 0) hx hb dX9_isIn_14 (by decide) ?_
      exact zirV (pc := 15) (Wd := mW E o ad cI cZ) (u := (x0, g0)) hx hb hr hlocks hAe hK hP hD hS rfl dX9_isIn_15 (Nat.le_refl _) (Nat.le_refl _) ⟨rfl, (Or.inl rfl), h⟩
    · have h := h.2 c_7
      refine lv_iconst (pc := 10) (v := 1) hx hb dX9_isIn_10 (by decide) ?_
      refine lv_goto (pc := 11) (tgt := 15) hx hb dX9_isIn_11 (by decide) ?_
      exact zirV (pc := 15) (Wd := mW E o ad cI cZ) (u := (x0, g0)) hx hb hr hlocks hAe hK hP hD hS rfl dX9_isIn_15 (Nat.le_refl _) (Nat.le_refl _) ⟨rfl, (Or.inr rfl), h⟩

def wX9_isPartition (a0 : Int32) (Φ : Int32 → Prop) : Prop := (wX9_isIn a0 0 2 (fun r_3 => (Φ r_3)))
set_option maxRecDepth 100000 in
set_option maxHeartbeats 4000000 in
theorem kX9_isPartition {l : Launch} {D : va_G} {E : va_W} {o : Nat} {ad : Nat → Nat} {cI cZ : ClassId} {sz : Nat} (x0 : Nat → Int32) (g0 : Nat → Nat → Int32) (a0 : Int32) {Φ : Int32 → Prop} (h : wX9_isPartition a0 Φ) : Met l yX9_isPartition (zws yX9_isPartition cX9_isPartition 1 (some .boolean)) { frames := 1, cells := 0, slots := 0, locals := 22 } (zPc D (mT cI cZ) zX0 (mW E o ad cI cZ (x0, g0)) [.int a0] sz) (zQi D (mT cI cZ) (mW E o ad cI cZ) (fun r u => u = (x0, g0) ∧ (r = 0 ∨ r = 1) ∧ Φ r) (mW E o ad cI cZ (x0, g0)) sz) 0 0 (va_A (mW E o ad cI cZ (x0, g0)) sz) := by
  refine zMet (by decide) (Nat.le_of_ble_eq_true rfl) ?_
  intro p e s m args below meth c A hx hb hr hml hown hts hlocks hsz hAe hA hS hP hK hD hX ls hl
  subst hsz
  have hF : zFx p s m args c cX9_isPartition RX9 A D (mT cI cZ) zX0 1 := ⟨hx, hb, hml, hown, hts, hA, hK, zX0_cl, hX⟩
  have hl : lv_has ls 1 [(0, .int a0)] := hl
  unfold wX9_isPartition at h
  refine lv_iload_n (pc := 0) hx hb dX9_isPartition_0 rfl (lv_at hl 0 rfl) ?_
  refine lv_iconst (pc := 1) (v := 0) hx hb dX9_isPartition_1 (by decide) ?_
  refine lv_iconst (pc := 2) (v := 2) hx hb dX9_isPartition_2 (by decide) ?_
  refine mSbp (pc := 3) (x := x0) (g := g0) [.int a0, .int 0, .int 2] hF (kX9_isIn x0 g0 a0 0 2 h) (cwX9_X9_isIn hts ⟨Nat.le_of_ble_eq_true rfl, Nat.le_of_ble_eq_true rfl⟩) hP hD hS rfl rfl hl.1 (Nat.le_of_ble_eq_true rfl) dX9_isPartition_3 ⟨Nat.le_refl _, Nat.le_refl _⟩ (fun r_3 H locs hb_3 h hP hD hS => ?_)
  exact zirV (pc := 6) (Wd := mW E o ad cI cZ) (u := (x0, g0)) hx hb hr hlocks hAe hK hP hD hS (znB hb_3) dX9_isPartition_6 (Nat.le_refl _) (Nat.le_refl _) ⟨rfl, hb_3, h⟩

def wX9_isKey (a0 : Int32) (Φ : Int32 → Prop) : Prop := (wX9_isIn a0 0 7 (fun r_4 => (Φ r_4)))
set_option maxRecDepth 100000 in
set_option maxHeartbeats 4000000 in
theorem kX9_isKey {l : Launch} {D : va_G} {E : va_W} {o : Nat} {ad : Nat → Nat} {cI cZ : ClassId} {sz : Nat} (x0 : Nat → Int32) (g0 : Nat → Nat → Int32) (a0 : Int32) {Φ : Int32 → Prop} (h : wX9_isKey a0 Φ) : Met l yX9_isKey (zws yX9_isKey cX9_isKey 1 (some .boolean)) { frames := 1, cells := 0, slots := 0, locals := 22 } (zPc D (mT cI cZ) zX0 (mW E o ad cI cZ (x0, g0)) [.int a0] sz) (zQi D (mT cI cZ) (mW E o ad cI cZ) (fun r u => u = (x0, g0) ∧ (r = 0 ∨ r = 1) ∧ Φ r) (mW E o ad cI cZ (x0, g0)) sz) 0 0 (va_A (mW E o ad cI cZ (x0, g0)) sz) := by
  refine zMet (by decide) (Nat.le_of_ble_eq_true rfl) ?_
  intro p e s m args below meth c A hx hb hr hml hown hts hlocks hsz hAe hA hS hP hK hD hX ls hl
  subst hsz
  have hF : zFx p s m args c cX9_isKey RX9 A D (mT cI cZ) zX0 1 := ⟨hx, hb, hml, hown, hts, hA, hK, zX0_cl, hX⟩
  have hl : lv_has ls 1 [(0, .int a0)] := hl
  unfold wX9_isKey at h
  refine lv_iload_n (pc := 0) hx hb dX9_isKey_0 rfl (lv_at hl 0 rfl) ?_
  refine lv_iconst (pc := 1) (v := 0) hx hb dX9_isKey_1 (by decide) ?_
  refine lv_bipush (pc := 2) (v := 7) hx hb dX9_isKey_2 (by decide) ?_
  refine mSbp (pc := 4) (x := x0) (g := g0) [.int a0, .int 0, .int 7] hF (kX9_isIn x0 g0 a0 0 7 h) (cwX9_X9_isIn hts ⟨Nat.le_of_ble_eq_true rfl, Nat.le_of_ble_eq_true rfl⟩) hP hD hS rfl rfl hl.1 (Nat.le_of_ble_eq_true rfl) dX9_isKey_4 ⟨Nat.le_refl _, Nat.le_refl _⟩ (fun r_4 H locs hb_4 h hP hD hS => ?_)
  exact zirV (pc := 7) (Wd := mW E o ad cI cZ) (u := (x0, g0)) hx hb hr hlocks hAe hK hP hD hS (znB hb_4) dX9_isKey_7 (Nat.le_refl _) (Nat.le_refl _) ⟨rfl, hb_4, h⟩

def lX9_begins_2 (Φ : (Nat → Int32) → (Nat → Nat → Int32) → Prop) : Nat → (Nat → Int32) → (Nat → Nat → Int32) → Int32 → Int32 → Prop
  | 0, _, _, _, _ => False
  | n2 + 1, x, g, v1, v2 => ((3 ≤ v2 → (vp_in v1 7 ∧ (vp_in v1 7 ∧ (vp_in v1 7 ∧ (vp_in v1 7 ∧ (Φ x (va_up (va_up (va_up (va_up g 25 (upd (g 25) v1.toNatClampNeg (-1))) 26 (upd (g 26) v1.toNatClampNeg 0)) 27 (upd (g 27) v1.toNatClampNeg 0)) 28 (upd (g 28) v1.toNatClampNeg 0)))))))) ∧ (¬ 3 ≤ v2 → (vp_in ((3 * v1) + v2) 21 ∧ (vp_in ((3 * v1) + v2) 21 ∧ (∀ v2_29 : Int32, v2_29 = v2 + 1 → ((lX9_begins_2 Φ n2) x (va_up (va_up g 23 (upd (g 23) ((3 * v1) + v2).toNatClampNeg 0)) 24 (upd (g 24) ((3 * v1) + v2).toNatClampNeg (-1))) v1 v2_29))))))
def wX9_begins (x : Nat → Int32) (g : Nat → Nat → Int32) (a1 : Int32) (Φ : (Nat → Int32) → (Nat → Nat → Int32) → Prop) : Prop := (∃ n2 : Nat, lX9_begins_2 Φ n2 x g a1 0)
set_option maxRecDepth 100000 in
set_option maxHeartbeats 4000000 in
theorem kX9_begins {l : Launch} {D : va_G} {E : va_W} {o : Nat} {ad : Nat → Nat} {cI cZ : ClassId} {sz : Nat} (x0 : Nat → Int32) (g0 : Nat → Nat → Int32) (a1 : Int32) {Φ : (Nat → Int32) → (Nat → Nat → Int32) → Prop} (h : wX9_begins x0 g0 a1 Φ) : Met l yX9_begins (zws yX9_begins cX9_begins 3 none) { frames := 0, cells := 0, slots := 0, locals := 0 } (zPc D (mT cI cZ) zX0 (mW E o ad cI cZ (x0, g0)) [.ref o, .int a1] sz) (zQv D (mT cI cZ) (mW E o ad cI cZ) (fun u => Φ u.1 u.2) (mW E o ad cI cZ (x0, g0)) sz) 0 0 (va_A (mW E o ad cI cZ (x0, g0)) sz) := by
  refine zMet (by decide) (Nat.le_of_ble_eq_true rfl) ?_
  intro p e s m args below meth c A hx hb hr hml hown hts hlocks hsz hAe hA hS hP hK hD hX ls hl
  subst hsz
  have hF : zFx p s m args c cX9_begins RX9 A D (mT cI cZ) zX0 3 := ⟨hx, hb, hml, hown, hts, hA, hK, zX0_cl, hX⟩
  have hl : lv_has ls 3 [(0, .ref o), (1, .int a1)] := hl
  have L2 : ∀ n2 : Nat, ∀ (x : Nat → Int32) (g : Nat → Nat → Int32) (v1 v2 : Int32), lX9_begins_2 Φ n2 x g v1 v2 → ∀ (H : Heap) (locs : List Loc) (ls : Array Slot), va_P D vwCl (mW E o ad cI cZ (x, g)) H → va_D A (mW E o ad cI cZ (x, g)) → va_S A s.heap H locs → lv_has ls 3 [(0, .ref o), (1, .int v1), (2, .int v2)] → W p l e { frames := 0, cells := 0, slots := 0, locals := 0 } s m args below meth c H locs 0 0 (MQ below (zQv D (mT cI cZ) (mW E o ad cI cZ) (fun u => Φ u.1 u.2) (mW E o ad cI cZ (x0, g0)) s.heap.size) args s 0 0 (va_A (mW E o ad cI cZ (x0, g0)) s.heap.size)) (F0 m 2 ls []) := by
    intro n2
    induction n2 with
    | zero => intro x g v1 v2 h H locs ls hP hD hS hl; exact h.elim
    | succ n2 ih2 =>
      intro x g v1 v2 h H locs ls hP hD hS hl
      unfold lX9_begins_2 at h
      refine lv_iload_n (pc := 2) hx hb dX9_begins_2 rfl (lv_at hl 2 rfl) ?_
      refine lv_iconst (pc := 3) (v := 3) hx hb dX9_begins_3 (by decide) ?_
      refine lv_icmp_ge (pc := 4) (tgt := 35) hx hb dX9_begins_4 (by decide) (fun c_4 => ?_) (fun c_4 => ?_)
      · have h := h.1 c_4
        refine lv_aload_n (pc := 35) hx hb dX9_begins_35 rfl (lv_at hl 0 rfl) ?_
        refine mG_25 (pc := 36) hF hP dX9_begins_36 ?_
        refine lv_iload_n (pc := 39) hx hb dX9_begins_39 rfl (lv_at hl 1 rfl) ?_
        refine lv_iconst (pc := 40) (v := (-1)) hx hb dX9_begins_40 (by decide) ?_
        obtain ⟨hi_41, h⟩ := h
        refine mP_25 (pc := 41) hF hP hD hS (f := (g 25)) rfl hi_41 dX9_begins_41 (fun H locs hP hD hS => ?_)
        refine lv_aload_n (pc := 42) hx hb dX9_begins_42 rfl (lv_at hl 0 rfl) ?_
        refine mG_26 (pc := 43) hF hP dX9_begins_43 ?_
        refine lv_iload_n (pc := 46) hx hb dX9_begins_46 rfl (lv_at hl 1 rfl) ?_
        refine lv_iconst (pc := 47) (v := 0) hx hb dX9_begins_47 (by decide) ?_
        obtain ⟨hi_48, h⟩ := h
        refine mP_26 (pc := 48) hF hP hD hS (f := (g 26)) rfl hi_48 dX9_begins_48 (fun H locs hP hD hS => ?_)
        refine lv_aload_n (pc := 49) hx hb dX9_begins_49 rfl (lv_at hl 0 rfl) ?_
        refine mG_27 (pc := 50) hF hP dX9_begins_50 ?_
        refine lv_iload_n (pc := 53) hx hb dX9_begins_53 rfl (lv_at hl 1 rfl) ?_
        refine lv_iconst (pc := 54) (v := 0) hx hb dX9_begins_54 (by decide) ?_
        obtain ⟨hi_55, h⟩ := h
        refine mP_27 (pc := 55) hF hP hD hS (f := (g 27)) rfl hi_55 dX9_begins_55 (fun H locs hP hD hS => ?_)
        refine lv_aload_n (pc := 56) hx hb dX9_begins_56 rfl (lv_at hl 0 rfl) ?_
        refine mG_28 (pc := 57) hF hP dX9_begins_57 ?_
        refine lv_iload_n (pc := 60) hx hb dX9_begins_60 rfl (lv_at hl 1 rfl) ?_
        refine lv_iconst (pc := 61) (v := 0) hx hb dX9_begins_61 (by decide) ?_
        obtain ⟨hi_62, h⟩ := h
        refine mP_28 (pc := 62) hF hP hD hS (f := (g 28)) rfl hi_62 dX9_begins_62 (fun H locs hP hD hS => ?_)
        exact zvr (pc := 63) (Wd := mW E o ad cI cZ) (u := (x, (va_up (va_up (va_up (va_up g 25 (upd (g 25) v1.toNatClampNeg (-1))) 26 (upd (g 26) v1.toNatClampNeg 0)) 27 (upd (g 27) v1.toNatClampNeg 0)) 28 (upd (g 28) v1.toNatClampNeg 0)))) hx hb hr hlocks hAe hK hP hD hS dX9_begins_63 (Nat.le_refl _) (Nat.le_refl _) h
      · have h := h.2 c_4
        refine lv_aload_n (pc := 7) hx hb dX9_begins_7 rfl (lv_at hl 0 rfl) ?_
        refine mG_23 (pc := 8) hF hP dX9_begins_8 ?_
        refine lv_iconst (pc := 11) (v := 3) hx hb dX9_begins_11 (by decide) ?_
        refine lv_iload_n (pc := 12) hx hb dX9_begins_12 rfl (lv_at hl 1 rfl) ?_
        refine lv_imul (pc := 13) hx hb dX9_begins_13 ?_
        refine lv_iload_n (pc := 14) hx hb dX9_begins_14 rfl (lv_at hl 2 rfl) ?_
        refine lv_iadd (pc := 15) hx hb dX9_begins_15 ?_
        refine lv_iconst (pc := 16) (v := 0) hx hb dX9_begins_16 (by decide) ?_
        obtain ⟨hi_17, h⟩ := h
        refine mP_23 (pc := 17) hF hP hD hS (f := (g 23)) rfl hi_17 dX9_begins_17 (fun H locs hP hD hS => ?_)
        refine lv_aload_n (pc := 18) hx hb dX9_begins_18 rfl (lv_at hl 0 rfl) ?_
        refine mG_24 (pc := 19) hF hP dX9_begins_19 ?_
        refine lv_iconst (pc := 22) (v := 3) hx hb dX9_begins_22 (by decide) ?_
        refine lv_iload_n (pc := 23) hx hb dX9_begins_23 rfl (lv_at hl 1 rfl) ?_
        refine lv_imul (pc := 24) hx hb dX9_begins_24 ?_
        refine lv_iload_n (pc := 25) hx hb dX9_begins_25 rfl (lv_at hl 2 rfl) ?_
        refine lv_iadd (pc := 26) hx hb dX9_begins_26 ?_
        refine lv_iconst (pc := 27) (v := (-1)) hx hb dX9_begins_27 (by decide) ?_
        obtain ⟨hi_28, h⟩ := h
        refine mP_24 (pc := 28) hF hP hD hS (f := (g 24)) rfl hi_28 dX9_begins_28 (fun H locs hP hD hS => ?_)
        obtain ⟨v2_29, e_v2_29⟩ : ∃ y : Int32, y = v2 + 1 := ⟨_, rfl⟩
        replace h := h v2_29 e_v2_29
        refine lv_iinc (pc := 29) (v := v2_29) (lv' := [(2, .int v2_29), (0, .ref o), (1, .int v1)]) hx hb dX9_begins_29 hl (k := 2) rfl (by rw [e_v2_29]; rfl) (by decide) rfl (fun ls hl => ?_)
        refine lv_goto (pc := 32) (tgt := 2) hx hb dX9_begins_32 (by decide) ?_
        exact ih2 x (va_up (va_up g 23 (upd (g 23) ((3 * v1) + v2).toNatClampNeg 0)) 24 (upd (g 24) ((3 * v1) + v2).toNatClampNeg (-1))) v1 v2_29 h _ _ _ hP hD hS (lv_sub hl [1, 2, 0] rfl)
  unfold wX9_begins at h
  refine lv_iconst (pc := 0) (v := 0) hx hb dX9_begins_0 (by decide) ?_
  refine lv_istore_n (pc := 1) (lv' := [(2, .int 0), (0, .ref o), (1, .int a1)]) hx hb dX9_begins_1 rfl hl (by decide) rfl (fun ls hl => ?_)
  obtain ⟨n2, h⟩ := h
  exact L2 n2 x0 g0 a1 0 h _ _ _ hP hD hS (lv_sub hl [1, 2, 0] rfl)

def jX9_type_30 (Φ : Int32 → (Nat → Int32) → (Nat → Nat → Int32) → Prop) (x : Nat → Int32) (g : Nat → Nat → Int32) (v1 s1 : Int32) : Prop := (wX9_can x g s1 (fun r_30 x_30 g_30 => ((r_30 = 0 → (Φ 0 x_30 g_30)) ∧ (¬ r_30 = 0 → (vp_in (x_30 0) 60 ∧ (Φ ((x_30 0) + 1) (va_up x_30 0 ((x_30 0) + 1)) (va_up g_30 4 (upd (g_30 4) (x_30 0).toNatClampNeg v1))))))))
def wX9_type (x : Nat → Int32) (g : Nat → Nat → Int32) (a1 : Int32) (Φ : Int32 → (Nat → Int32) → (Nat → Nat → Int32) → Prop) : Prop := (wX9_isIn a1 32 126 (fun r_6 => ((r_6 = 0 → (jX9_type_30 Φ x g a1 1)) ∧ (¬ r_6 = 0 → (((x 0) = 60 → (jX9_type_30 Φ x g a1 2)) ∧ (¬ (x 0) = 60 → (jX9_type_30 Φ x g a1 0)))))))
set_option maxRecDepth 100000 in
set_option maxHeartbeats 4000000 in
theorem kX9_type {l : Launch} {D : va_G} {E : va_W} {o : Nat} {ad : Nat → Nat} {cI cZ : ClassId} {sz : Nat} (x0 : Nat → Int32) (g0 : Nat → Nat → Int32) (a1 : Int32) {Φ : Int32 → (Nat → Int32) → (Nat → Nat → Int32) → Prop} (h : wX9_type x0 g0 a1 Φ) : Met l yX9_type (zws yX9_type cX9_type 2 (some .int)) { frames := 1, cells := 0, slots := 0, locals := 22 } (zPc D (mT cI cZ) zX0 (mW E o ad cI cZ (x0, g0)) [.ref o, .int a1] sz) (zQi D (mT cI cZ) (mW E o ad cI cZ) (fun r u => Φ r u.1 u.2) (mW E o ad cI cZ (x0, g0)) sz) 0 0 (va_A (mW E o ad cI cZ (x0, g0)) sz) := by
  refine zMet (by decide) (Nat.le_of_ble_eq_true rfl) ?_
  intro p e s m args below meth c A hx hb hr hml hown hts hlocks hsz hAe hA hS hP hK hD hX ls hl
  subst hsz
  have hF : zFx p s m args c cX9_type RX9 A D (mT cI cZ) zX0 2 := ⟨hx, hb, hml, hown, hts, hA, hK, zX0_cl, hX⟩
  have hl : lv_has ls 2 [(0, .ref o), (1, .int a1)] := hl
  have J30 : ∀ (x : Nat → Int32) (g : Nat → Nat → Int32) (v1 s1 : Int32), jX9_type_30 Φ x g v1 s1 → ∀ (H : Heap) (locs : List Loc) (ls : Array Slot), va_P D vwCl (mW E o ad cI cZ (x, g)) H → va_D A (mW E o ad cI cZ (x, g)) → va_S A s.heap H locs → lv_has ls 2 [(0, .ref o), (1, .int v1)] → W p l e { frames := 1, cells := 0, slots := 0, locals := 22 } s m args below meth c H locs 0 0 (MQ below (zQi D (mT cI cZ) (mW E o ad cI cZ) (fun r u => Φ r u.1 u.2) (mW E o ad cI cZ (x0, g0)) s.heap.size) args s 0 0 (va_A (mW E o ad cI cZ (x0, g0)) s.heap.size)) (F0 m 30 ls [.int s1, .ref o]) := by
    intro x g v1 s1 h H locs ls hP hD hS hl
    unfold jX9_type_30 at h
    refine mVb (pc := 30) (x := x) (g := g) [.int s1] hF (kX9_can x g s1 h) (cwX9_X9_can hts ⟨Nat.le_of_ble_eq_true rfl, Nat.le_of_ble_eq_true rfl⟩) hP hD hS rfl rfl hl.1 (Nat.le_of_ble_eq_true rfl) dX9_type_30 ⟨Nat.le_refl _, Nat.le_refl _⟩ (fun r_30 x_30 g_30 H locs hb_30 h hP hD hS => ?_)
    refine lv_if_ne (pc := 33) (tgt := 38) hx hb dX9_type_33 (by decide) (fun c_33 => ?_) (fun c_33 => ?_)
    · have h := h.2 c_33
      refine lv_aload_n (pc := 38) hx hb dX9_type_38 rfl (lv_at hl 0 rfl) ?_
      refine mG_4 (pc := 39) hF hP dX9_type_39 ?_
      refine lv_aload_n (pc := 42) hx hb dX9_type_42 rfl (lv_at hl 0 rfl) ?_
      refine mG_0 (pc := 43) (v := (x_30 0)) hF hP rfl dX9_type_43 ?_
      refine lv_iload_n (pc := 46) hx hb dX9_type_46 rfl (lv_at hl 1 rfl) ?_
      obtain ⟨hi_47, h⟩ := h
      refine mP_4 (pc := 47) hF hP hD hS (f := (g_30 4)) rfl hi_47 dX9_type_47 (fun H locs hP hD hS => ?_)
      refine lv_aload_n (pc := 48) hx hb dX9_type_48 rfl (lv_at hl 0 rfl) ?_
      refine lv_dup (pc := 49) hx hb dX9_type_49 rfl ?_
      refine mG_0 (pc := 50) (v := (x_30 0)) hF hP rfl dX9_type_50 ?_
      refine lv_iconst (pc := 53) (v := 1) hx hb dX9_type_53 (by decide) ?_
      refine lv_iadd (pc := 54) hx hb dX9_type_54 ?_
      refine mP_0 (pc := 55) hF hP hD hS dX9_type_55 (fun H locs hP hD hS => ?_)
      refine lv_aload_n (pc := 58) hx hb dX9_type_58 rfl (lv_at hl 0 rfl) ?_
      refine mG_0 (pc := 59) (v := ((x_30 0) + 1)) hF hP rfl dX9_type_59 ?_
      exact zirV (pc := 62) (Wd := mW E o ad cI cZ) (u := ((va_up x_30 0 ((x_30 0) + 1)), (va_up g_30 4 (upd (g_30 4) (x_30 0).toNatClampNeg v1)))) hx hb hr hlocks hAe hK hP hD hS rfl dX9_type_62 (Nat.le_refl _) (Nat.le_refl _) h
    · have h := h.1 c_33
      refine lv_iconst (pc := 36) (v := 0) hx hb dX9_type_36 (by decide) ?_
      exact zirV (pc := 37) (Wd := mW E o ad cI cZ) (u := (x_30, g_30)) hx hb hr hlocks hAe hK hP hD hS rfl dX9_type_37 (Nat.le_refl _) (Nat.le_refl _) h
  unfold wX9_type at h
  refine lv_aload_n (pc := 0) hx hb dX9_type_0 rfl (lv_at hl 0 rfl) ?_
  refine lv_iload_n (pc := 1) hx hb dX9_type_1 rfl (lv_at hl 1 rfl) ?_
  refine lv_bipush (pc := 2) (v := 32) hx hb dX9_type_2 (by decide) ?_
  refine lv_bipush (pc := 4) (v := 126) hx hb dX9_type_4 (by decide) ?_
  refine mSbp (pc := 6) (x := x0) (g := g0) [.int a1, .int 32, .int 126] hF (kX9_isIn x0 g0 a1 32 126 h) (cwX9_X9_isIn hts ⟨Nat.le_of_ble_eq_true rfl, Nat.le_of_ble_eq_true rfl⟩) hP hD hS rfl rfl hl.1 (Nat.le_of_ble_eq_true rfl) dX9_type_6 ⟨Nat.le_refl _, Nat.le_refl _⟩ (fun r_6 H locs hb_6 h hP hD hS => ?_)
  refine lv_if_ne (pc := 9) (tgt := 16) hx hb dX9_type_9 (by decide) (fun c_9 => ?_) (fun c_9 => ?_)
  · have h := h.2 c_9
    refine lv_aload_n (pc := 16) hx hb dX9_type_16 rfl (lv_at hl 0 rfl) ?_
    refine mG_0 (pc := 17) (v := (x0 0)) hF hP rfl dX9_type_17 ?_
    refine lv_bipush (pc := 20) (v := 60) hx hb dX9_type_20 (by decide) ?_
    refine lv_icmp_ne (pc := 22) (tgt := 29) hx hb dX9_type_22 (by decide) (fun c_22 => ?_) (fun c_22 => ?_)
    · have h := h.2 c_22
      refine lv_iconst (pc := 29) (v := 0) hx hb dX9_type_29 (by decide) ?_
      exact J30 x0 g0 a1 0 h _ _ _ hP hD hS (lv_sub hl [0, 1] rfl)
    · have h := h.1 c_22
      refine lv_iconst (pc := 25) (v := 2) hx hb dX9_type_25 (by decide) ?_
      refine lv_goto (pc := 26) (tgt := 30) hx hb dX9_type_26 (by decide) ?_
      exact J30 x0 g0 a1 2 h _ _ _ hP hD hS (lv_sub hl [0, 1] rfl)
  · have h := h.1 c_9
    refine lv_iconst (pc := 12) (v := 1) hx hb dX9_type_12 (by decide) ?_
    refine lv_goto (pc := 13) (tgt := 30) hx hb dX9_type_13 (by decide) ?_
    exact J30 x0 g0 a1 1 h _ _ _ hP hD hS (lv_sub hl [0, 1] rfl)

def wX9_wipe (x : Nat → Int32) (g : Nat → Nat → Int32) (Φ : Int32 → (Nat → Int32) → (Nat → Nat → Int32) → Prop) : Prop := (∀ v1_9 : Int32, v1_9 = (x 0) → (Φ v1_9 (va_up (va_up x 44 0) 0 0) g))
set_option maxRecDepth 100000 in
set_option maxHeartbeats 4000000 in
theorem kX9_wipe {l : Launch} {D : va_G} {E : va_W} {o : Nat} {ad : Nat → Nat} {cI cZ : ClassId} {sz : Nat} (x0 : Nat → Int32) (g0 : Nat → Nat → Int32) {Φ : Int32 → (Nat → Int32) → (Nat → Nat → Int32) → Prop} (h : wX9_wipe x0 g0 Φ) : Met l yX9_wipe (zws yX9_wipe cX9_wipe 2 (some .int)) { frames := 0, cells := 0, slots := 0, locals := 0 } (zPc D (mT cI cZ) zX0 (mW E o ad cI cZ (x0, g0)) [.ref o] sz) (zQi D (mT cI cZ) (mW E o ad cI cZ) (fun r u => Φ r u.1 u.2) (mW E o ad cI cZ (x0, g0)) sz) 0 0 (va_A (mW E o ad cI cZ (x0, g0)) sz) := by
  refine zMet (by decide) (Nat.le_of_ble_eq_true rfl) ?_
  intro p e s m args below meth c A hx hb hr hml hown hts hlocks hsz hAe hA hS hP hK hD hX ls hl
  subst hsz
  have hF : zFx p s m args c cX9_wipe RX9 A D (mT cI cZ) zX0 2 := ⟨hx, hb, hml, hown, hts, hA, hK, zX0_cl, hX⟩
  have hl : lv_has ls 2 [(0, .ref o)] := hl
  unfold wX9_wipe at h
  refine lv_aload_n (pc := 0) hx hb dX9_wipe_0 rfl (lv_at hl 0 rfl) ?_
  refine lv_iconst (pc := 1) (v := 0) hx hb dX9_wipe_1 (by decide) ?_
  refine mP_44 (pc := 2) hF hP hD hS dX9_wipe_2 (fun H locs hP hD hS => ?_)
  refine lv_aload_n (pc := 5) hx hb dX9_wipe_5 rfl (lv_at hl 0 rfl) ?_
  refine mG_0 (pc := 6) (v := (x0 0)) hF hP rfl dX9_wipe_6 ?_
  refine lv_topi (fun v1_9 e_v1_9 => ?_)
  replace h := h v1_9 e_v1_9
  refine lv_istore_n (pc := 9) (lv' := [(1, .int v1_9), (0, .ref o)]) hx hb dX9_wipe_9 rfl hl (by decide) rfl (fun ls hl => ?_)
  refine lv_aload_n (pc := 10) hx hb dX9_wipe_10 rfl (lv_at hl 1 rfl) ?_
  refine lv_iconst (pc := 11) (v := 0) hx hb dX9_wipe_11 (by decide) ?_
  refine mP_0 (pc := 12) hF hP hD hS dX9_wipe_12 (fun H locs hP hD hS => ?_)
  refine lv_iload_n (pc := 15) hx hb dX9_wipe_15 rfl (lv_at hl 0 rfl) ?_
  exact zirV (pc := 16) (Wd := mW E o ad cI cZ) (u := ((va_up (va_up x0 44 0) 0 0), g0)) hx hb hr hlocks hAe hK hP hD hS rfl dX9_wipe_16 (Nat.le_refl _) (Nat.le_refl _) h

def wX9_at (x : Nat → Int32) (g : Nat → Nat → Int32) (a1 : Int32) (Φ : Int32 → Prop) : Prop := (((x 0) ≤ a1 → (Φ (-1))) ∧ (¬ (x 0) ≤ a1 → (vp_in a1 60 ∧ (Φ ((g 4) a1.toNatClampNeg)))))
set_option maxRecDepth 100000 in
set_option maxHeartbeats 4000000 in
theorem kX9_at {l : Launch} {D : va_G} {E : va_W} {o : Nat} {ad : Nat → Nat} {cI cZ : ClassId} {sz : Nat} (x0 : Nat → Int32) (g0 : Nat → Nat → Int32) (a1 : Int32) {Φ : Int32 → Prop} (h : wX9_at x0 g0 a1 Φ) : Met l yX9_at (zws yX9_at cX9_at 2 (some .int)) { frames := 0, cells := 0, slots := 0, locals := 0 } (zPc D (mT cI cZ) zX0 (mW E o ad cI cZ (x0, g0)) [.ref o, .int a1] sz) (zQi D (mT cI cZ) (mW E o ad cI cZ) (fun r u => u = (x0, g0) ∧ Φ r) (mW E o ad cI cZ (x0, g0)) sz) 0 0 (va_A (mW E o ad cI cZ (x0, g0)) sz) := by
  refine zMet (by decide) (Nat.le_of_ble_eq_true rfl) ?_
  intro p e s m args below meth c A hx hb hr hml hown hts hlocks hsz hAe hA hS hP hK hD hX ls hl
  subst hsz
  have hF : zFx p s m args c cX9_at RX9 A D (mT cI cZ) zX0 2 := ⟨hx, hb, hml, hown, hts, hA, hK, zX0_cl, hX⟩
  have hl : lv_has ls 2 [(0, .ref o), (1, .int a1)] := hl
  unfold wX9_at at h
  refine lv_iload_n (pc := 0) hx hb dX9_at_0 rfl (lv_at hl 1 rfl) ?_
  refine lv_aload_n (pc := 1) hx hb dX9_at_1 rfl (lv_at hl 0 rfl) ?_
  refine mG_0 (pc := 2) (v := (x0 0)) hF hP rfl dX9_at_2 ?_
  refine lv_icmp_ge (pc := 5) (tgt := 17) hx hb dX9_at_5 (by decide) (fun c_5 => ?_) (fun c_5 => ?_)
  · have h := h.1 c_5
    refine lv_iconst (pc := 17) (v := (-1)) hx hb dX9_at_17 (by decide) ?_
    exact zirV (pc := 18) (Wd := mW E o ad cI cZ) (u := (x0, g0)) hx hb hr hlocks hAe hK hP hD hS rfl dX9_at_18 (Nat.le_refl _) (Nat.le_refl _) ⟨rfl, h⟩
  · have h := h.2 c_5
    refine lv_aload_n (pc := 8) hx hb dX9_at_8 rfl (lv_at hl 0 rfl) ?_
    refine mG_4 (pc := 9) hF hP dX9_at_9 ?_
    refine lv_iload_n (pc := 12) hx hb dX9_at_12 rfl (lv_at hl 1 rfl) ?_
    obtain ⟨hi_13, h⟩ := h
    refine mL_4 (pc := 13) hF hP (f := (g0 4)) rfl hi_13 dX9_at_13 ?_
    refine lv_goto (pc := 14) (tgt := 18) hx hb dX9_at_14 (by decide) ?_
    exact zirV (pc := 18) (Wd := mW E o ad cI cZ) (u := (x0, g0)) hx hb hr hlocks hAe hK hP hD hS rfl dX9_at_18 (Nat.le_refl _) (Nat.le_refl _) ⟨rfl, h⟩

def wX9_fails (x : Nat → Int32) (g : Nat → Nat → Int32) (Φ : (Nat → Int32) → (Nat → Nat → Int32) → Prop) : Prop := (Φ (va_up x 2 (x 1)) g)
set_option maxRecDepth 100000 in
set_option maxHeartbeats 4000000 in
theorem kX9_fails {l : Launch} {D : va_G} {E : va_W} {o : Nat} {ad : Nat → Nat} {cI cZ : ClassId} {sz : Nat} (x0 : Nat → Int32) (g0 : Nat → Nat → Int32) {Φ : (Nat → Int32) → (Nat → Nat → Int32) → Prop} (h : wX9_fails x0 g0 Φ) : Met l yX9_fails (zws yX9_fails cX9_fails 1 none) { frames := 0, cells := 0, slots := 0, locals := 0 } (zPc D (mT cI cZ) zX0 (mW E o ad cI cZ (x0, g0)) [.ref o] sz) (zQv D (mT cI cZ) (mW E o ad cI cZ) (fun u => Φ u.1 u.2) (mW E o ad cI cZ (x0, g0)) sz) 0 0 (va_A (mW E o ad cI cZ (x0, g0)) sz) := by
  refine zMet (by decide) (Nat.le_of_ble_eq_true rfl) ?_
  intro p e s m args below meth c A hx hb hr hml hown hts hlocks hsz hAe hA hS hP hK hD hX ls hl
  subst hsz
  have hF : zFx p s m args c cX9_fails RX9 A D (mT cI cZ) zX0 1 := ⟨hx, hb, hml, hown, hts, hA, hK, zX0_cl, hX⟩
  have hl : lv_has ls 1 [(0, .ref o)] := hl
  unfold wX9_fails at h
  refine lv_aload_n (pc := 0) hx hb dX9_fails_0 rfl (lv_at hl 0 rfl) ?_
  refine lv_aload_n (pc := 1) hx hb dX9_fails_1 rfl (lv_at hl 0 rfl) ?_
  refine mG_1 (pc := 2) (v := (x0 1)) hF hP rfl dX9_fails_2 ?_
  refine mP_2 (pc := 5) hF hP hD hS dX9_fails_5 (fun H locs hP hD hS => ?_)
  exact zvr (pc := 8) (Wd := mW E o ad cI cZ) (u := ((va_up x0 2 (x0 1)), g0)) hx hb hr hlocks hAe hK hP hD hS dX9_fails_8 (Nat.le_refl _) (Nat.le_refl _) h

def jX9_word_74 (W3 : (Nat → Int32) → (Nat → Nat → Int32) → Int32 → Int32 → Int32 → Int32 → Int32 → Int32 → Int32 → Int32 → Prop) (Φ : Int32 → (Nat → Int32) → (Nat → Nat → Int32) → Prop) (x : Nat → Int32) (g : Nat → Nat → Int32) (v1 v2 v3 v4 v5 v6 v7 v8 s0 : Int32) : Prop := ((s0 = 0 → (Φ 1 x g)) ∧ (¬ s0 = 0 → (wX9_at x g (x 1) (fun r_88 => ((r_88 = s0 → (∀ v8_112 : Int32, v8_112 = v8 + 1 → (W3 (va_up x 1 ((x 1) + 1)) g v1 v2 v3 v4 v5 v6 v7 v8_112))) ∧ (¬ r_88 = s0 → (wX9_fails x g (fun x_97 g_97 => (Φ 0 x_97 g_97)))))))))
def lX9_word_3 (Φ : Int32 → (Nat → Int32) → (Nat → Nat → Int32) → Prop) : Nat → (Nat → Int32) → (Nat → Nat → Int32) → Int32 → Int32 → Int32 → Int32 → Int32 → Int32 → Int32 → Int32 → Prop
  | 0, _, _, _, _, _, _, _, _, _, _ => False
  | n3 + 1, x, g, v1, v2, v3, v4, v5, v6, v7, v8 => ((7 ≤ v8 → (Φ 1 x g)) ∧ (¬ 7 ≤ v8 → ((v8 = 0 → (jX9_word_74 (lX9_word_3 Φ n3) Φ x g v1 v2 v3 v4 v5 v6 v7 v8 v1)) ∧ (¬ v8 = 0 → ((v8 = 1 → (jX9_word_74 (lX9_word_3 Φ n3) Φ x g v1 v2 v3 v4 v5 v6 v7 v8 v2)) ∧ (¬ v8 = 1 → ((v8 = 2 → (jX9_word_74 (lX9_word_3 Φ n3) Φ x g v1 v2 v3 v4 v5 v6 v7 v8 v3)) ∧ (¬ v8 = 2 → ((v8 = 3 → (jX9_word_74 (lX9_word_3 Φ n3) Φ x g v1 v2 v3 v4 v5 v6 v7 v8 v4)) ∧ (¬ v8 = 3 → ((v8 = 4 → (jX9_word_74 (lX9_word_3 Φ n3) Φ x g v1 v2 v3 v4 v5 v6 v7 v8 v5)) ∧ (¬ v8 = 4 → ((v8 = 5 → (jX9_word_74 (lX9_word_3 Φ n3) Φ x g v1 v2 v3 v4 v5 v6 v7 v8 v6)) ∧ (¬ v8 = 5 → (jX9_word_74 (lX9_word_3 Φ n3) Φ x g v1 v2 v3 v4 v5 v6 v7 v8 v7)))))))))))))))
def wX9_word (x : Nat → Int32) (g : Nat → Nat → Int32) (a1 a2 a3 a4 a5 a6 a7 : Int32) (Φ : Int32 → (Nat → Int32) → (Nat → Nat → Int32) → Prop) : Prop := (∃ n3 : Nat, lX9_word_3 Φ n3 x g a1 a2 a3 a4 a5 a6 a7 0)
set_option maxRecDepth 100000 in
set_option maxHeartbeats 4000000 in
theorem kX9_word {l : Launch} {D : va_G} {E : va_W} {o : Nat} {ad : Nat → Nat} {cI cZ : ClassId} {sz : Nat} (x0 : Nat → Int32) (g0 : Nat → Nat → Int32) (a1 a2 a3 a4 a5 a6 a7 : Int32) {Φ : Int32 → (Nat → Int32) → (Nat → Nat → Int32) → Prop} (h : wX9_word x0 g0 a1 a2 a3 a4 a5 a6 a7 Φ) : Met l yX9_word (zws yX9_word cX9_word 10 (some .boolean)) { frames := 1, cells := 0, slots := 0, locals := 21 } (zPc D (mT cI cZ) zX0 (mW E o ad cI cZ (x0, g0)) [.ref o, .int a1, .int a2, .int a3, .int a4, .int a5, .int a6, .int a7] sz) (zQi D (mT cI cZ) (mW E o ad cI cZ) (fun r u => (r = 0 ∨ r = 1) ∧ Φ r u.1 u.2) (mW E o ad cI cZ (x0, g0)) sz) 0 0 (va_A (mW E o ad cI cZ (x0, g0)) sz) := by
  refine zMet (by decide) (Nat.le_of_ble_eq_true rfl) ?_
  intro p e s m args below meth c A hx hb hr hml hown hts hlocks hsz hAe hA hS hP hK hD hX ls hl
  subst hsz
  have hF : zFx p s m args c cX9_word RX9 A D (mT cI cZ) zX0 10 := ⟨hx, hb, hml, hown, hts, hA, hK, zX0_cl, hX⟩
  have hl : lv_has ls 10 [(0, .ref o), (1, .int a1), (2, .int a2), (3, .int a3), (4, .int a4), (5, .int a5), (6, .int a6), (7, .int a7)] := hl
  have L3 : ∀ n3 : Nat, ∀ (x : Nat → Int32) (g : Nat → Nat → Int32) (v1 v2 v3 v4 v5 v6 v7 v8 : Int32), lX9_word_3 Φ n3 x g v1 v2 v3 v4 v5 v6 v7 v8 → ∀ (H : Heap) (locs : List Loc) (ls : Array Slot), va_P D vwCl (mW E o ad cI cZ (x, g)) H → va_D A (mW E o ad cI cZ (x, g)) → va_S A s.heap H locs → lv_has ls 10 [(0, .ref o), (1, .int v1), (2, .int v2), (3, .int v3), (4, .int v4), (5, .int v5), (6, .int v6), (7, .int v7), (8, .int v8)] → W p l e { frames := 1, cells := 0, slots := 0, locals := 21 } s m args below meth c H locs 0 0 (MQ below (zQi D (mT cI cZ) (mW E o ad cI cZ) (fun r u => (r = 0 ∨ r = 1) ∧ Φ r u.1 u.2) (mW E o ad cI cZ (x0, g0)) s.heap.size) args s 0 0 (va_A (mW E o ad cI cZ (x0, g0)) s.heap.size)) (F0 m 3 ls []) := by
    intro n3
    induction n3 with
    | zero => intro x g v1 v2 v3 v4 v5 v6 v7 v8 h H locs ls hP hD hS hl; exact h.elim
    | succ n3 ih3 =>
      have J74 : ∀ (x : Nat → Int32) (g : Nat → Nat → Int32) (v1 v2 v3 v4 v5 v6 v7 v8 s0 : Int32), jX9_word_74 (lX9_word_3 Φ n3) Φ x g v1 v2 v3 v4 v5 v6 v7 v8 s0 → ∀ (H : Heap) (locs : List Loc) (ls : Array Slot), va_P D vwCl (mW E o ad cI cZ (x, g)) H → va_D A (mW E o ad cI cZ (x, g)) → va_S A s.heap H locs → lv_has ls 10 [(0, .ref o), (1, .int v1), (2, .int v2), (3, .int v3), (4, .int v4), (5, .int v5), (6, .int v6), (7, .int v7), (8, .int v8)] → W p l e { frames := 1, cells := 0, slots := 0, locals := 21 } s m args below meth c H locs 0 0 (MQ below (zQi D (mT cI cZ) (mW E o ad cI cZ) (fun r u => (r = 0 ∨ r = 1) ∧ Φ r u.1 u.2) (mW E o ad cI cZ (x0, g0)) s.heap.size) args s 0 0 (va_A (mW E o ad cI cZ (x0, g0)) s.heap.size)) (F0 m 74 ls [.int s0]) := by
        intro x g v1 v2 v3 v4 v5 v6 v7 v8 s0 h H locs ls hP hD hS hl
        unfold jX9_word_74 at h
        refine lv_istore (pc := 74) (lv' := [(9, .int s0), (0, .ref o), (1, .int v1), (2, .int v2), (3, .int v3), (4, .int v4), (5, .int v5), (6, .int v6), (7, .int v7), (8, .int v8)]) hx hb dX9_word_74 hl (by decide) rfl (fun ls hl => ?_)
        refine lv_iload (pc := 76) hx hb dX9_word_76 (lv_at hl 0 rfl) ?_
        refine lv_if_ne (pc := 78) (tgt := 83) hx hb dX9_word_78 (by decide) (fun c_78 => ?_) (fun c_78 => ?_)
        · have h := h.2 c_78
          refine lv_aload_n (pc := 83) hx hb dX9_word_83 rfl (lv_at hl 1 rfl) ?_
          refine lv_aload_n (pc := 84) hx hb dX9_word_84 rfl (lv_at hl 1 rfl) ?_
          refine mG_1 (pc := 85) (v := (x 1)) hF hP rfl dX9_word_85 ?_
          refine mVip (pc := 88) (x := x) (g := g) [.int (x 1)] hF (kX9_at x g (x 1) h) (cwX9_X9_at hts ⟨Nat.le_of_ble_eq_true rfl, Nat.le_of_ble_eq_true rfl⟩) hP hD hS rfl rfl hl.1 (Nat.le_of_ble_eq_true rfl) dX9_word_88 ⟨Nat.le_refl _, Nat.le_refl _⟩ (fun r_88 H locs h hP hD hS => ?_)
          refine lv_iload (pc := 91) hx hb dX9_word_91 (lv_at hl 0 rfl) ?_
          refine lv_icmp_eq (pc := 93) (tgt := 102) hx hb dX9_word_93 (by decide) (fun c_93 => ?_) (fun c_93 => ?_)
          · have h := h.1 c_93
            refine lv_aload_n (pc := 102) hx hb dX9_word_102 rfl (lv_at hl 1 rfl) ?_
            refine lv_dup (pc := 103) hx hb dX9_word_103 rfl ?_
            refine mG_1 (pc := 104) (v := (x 1)) hF hP rfl dX9_word_104 ?_
            refine lv_iconst (pc := 107) (v := 1) hx hb dX9_word_107 (by decide) ?_
            refine lv_iadd (pc := 108) hx hb dX9_word_108 ?_
            refine mP_1 (pc := 109) hF hP hD hS dX9_word_109 (fun H locs hP hD hS => ?_)
            obtain ⟨v8_112, e_v8_112⟩ : ∃ y : Int32, y = v8 + 1 := ⟨_, rfl⟩
            replace h := h v8_112 e_v8_112
            refine lv_iinc (pc := 112) (v := v8_112) (lv' := [(8, .int v8_112), (9, .int s0), (0, .ref o), (1, .int v1), (2, .int v2), (3, .int v3), (4, .int v4), (5, .int v5), (6, .int v6), (7, .int v7)]) hx hb dX9_word_112 hl (k := 9) rfl (by rw [e_v8_112]; rfl) (by decide) rfl (fun ls hl => ?_)
            refine lv_goto (pc := 115) (tgt := 3) hx hb dX9_word_115 (by decide) ?_
            exact ih3 (va_up x 1 ((x 1) + 1)) g v1 v2 v3 v4 v5 v6 v7 v8_112 h _ _ _ hP hD hS (lv_sub hl [2, 3, 4, 5, 6, 7, 8, 9, 0] rfl)
          · have h := h.2 c_93
            refine lv_aload_n (pc := 96) hx hb dX9_word_96 rfl (lv_at hl 1 rfl) ?_
            refine mVv (pc := 97) (x := x) (g := g) [] hF (kX9_fails x g h) (cwX9_X9_fails hts ⟨Nat.le_of_ble_eq_true rfl, Nat.le_of_ble_eq_true rfl⟩) hP hD hS rfl rfl hl.1 (Nat.le_of_ble_eq_true rfl) dX9_word_97 ⟨Nat.le_refl _, Nat.le_refl _⟩ (fun x_97 g_97 H locs h hP hD hS => ?_)
            refine lv_iconst (pc := 100) (v := 0) hx hb dX9_word_100 (by decide) ?_
            exact zirV (pc := 101) (Wd := mW E o ad cI cZ) (u := (x_97, g_97)) hx hb hr hlocks hAe hK hP hD hS rfl dX9_word_101 (Nat.le_refl _) (Nat.le_refl _) ⟨(Or.inl rfl), h⟩
        · have h := h.1 c_78
          refine lv_iconst (pc := 81) (v := 1) hx hb dX9_word_81 (by decide) ?_
          exact zirV (pc := 82) (Wd := mW E o ad cI cZ) (u := (x, g)) hx hb hr hlocks hAe hK hP hD hS rfl dX9_word_82 (Nat.le_refl _) (Nat.le_refl _) ⟨(Or.inr rfl), h⟩
      intro x g v1 v2 v3 v4 v5 v6 v7 v8 h H locs ls hP hD hS hl
      unfold lX9_word_3 at h
      refine lv_iload (pc := 3) hx hb dX9_word_3 (lv_at hl 8 rfl) ?_
      refine lv_bipush (pc := 5) (v := 7) hx hb dX9_word_5 (by decide) ?_
      refine lv_icmp_ge (pc := 7) (tgt := 118) hx hb dX9_word_7 (by decide) (fun c_7 => ?_) (fun c_7 => ?_)
      · have h := h.1 c_7
        refine lv_iconst (pc := 118) (v := 1) hx hb dX9_word_118 (by decide) ?_
        exact zirV (pc := 119) (Wd := mW E o ad cI cZ) (u := (x, g)) hx hb hr hlocks hAe hK hP hD hS rfl dX9_word_119 (Nat.le_refl _) (Nat.le_refl _) ⟨(Or.inr rfl), h⟩
      · have h := h.2 c_7
        refine lv_iload (pc := 10) hx hb dX9_word_10 (lv_at hl 8 rfl) ?_
        refine lv_if_ne (pc := 12) (tgt := 19) hx hb dX9_word_12 (by decide) (fun c_12 => ?_) (fun c_12 => ?_)
        · have h := h.2 c_12
          refine lv_iload (pc := 19) hx hb dX9_word_19 (lv_at hl 8 rfl) ?_
          refine lv_iconst (pc := 21) (v := 1) hx hb dX9_word_21 (by decide) ?_
          refine lv_icmp_ne (pc := 22) (tgt := 29) hx hb dX9_word_22 (by decide) (fun c_22 => ?_) (fun c_22 => ?_)
          · have h := h.2 c_22
            refine lv_iload (pc := 29) hx hb dX9_word_29 (lv_at hl 8 rfl) ?_
            refine lv_iconst (pc := 31) (v := 2) hx hb dX9_word_31 (by decide) ?_
            refine lv_icmp_ne (pc := 32) (tgt := 39) hx hb dX9_word_32 (by decide) (fun c_32 => ?_) (fun c_32 => ?_)
            · have h := h.2 c_32
              refine lv_iload (pc := 39) hx hb dX9_word_39 (lv_at hl 8 rfl) ?_
              refine lv_iconst (pc := 41) (v := 3) hx hb dX9_word_41 (by decide) ?_
              refine lv_icmp_ne (pc := 42) (tgt := 50) hx hb dX9_word_42 (by decide) (fun c_42 => ?_) (fun c_42 => ?_)
              · have h := h.2 c_42
                refine lv_iload (pc := 50) hx hb dX9_word_50 (lv_at hl 8 rfl) ?_
                refine lv_iconst (pc := 52) (v := 4) hx hb dX9_word_52 (by decide) ?_
                refine lv_icmp_ne (pc := 53) (tgt := 61) hx hb dX9_word_53 (by decide) (fun c_53 => ?_) (fun c_53 => ?_)
                · have h := h.2 c_53
                  refine lv_iload (pc := 61) hx hb dX9_word_61 (lv_at hl 8 rfl) ?_
                  refine lv_iconst (pc := 63) (v := 5) hx hb dX9_word_63 (by decide) ?_
                  refine lv_icmp_ne (pc := 64) (tgt := 72) hx hb dX9_word_64 (by decide) (fun c_64 => ?_) (fun c_64 => ?_)
                  · have h := h.2 c_64
                    refine lv_iload (pc := 72) hx hb dX9_word_72 (lv_at hl 7 rfl) ?_
                    exact J74 x g v1 v2 v3 v4 v5 v6 v7 v8 v7 h _ _ _ hP hD hS (lv_sub hl [0, 1, 2, 3, 4, 5, 6, 7, 8] rfl)
                  · have h := h.1 c_64
                    refine lv_iload (pc := 67) hx hb dX9_word_67 (lv_at hl 6 rfl) ?_
                    refine lv_goto (pc := 69) (tgt := 74) hx hb dX9_word_69 (by decide) ?_
                    exact J74 x g v1 v2 v3 v4 v5 v6 v7 v8 v6 h _ _ _ hP hD hS (lv_sub hl [0, 1, 2, 3, 4, 5, 6, 7, 8] rfl)
                · have h := h.1 c_53
                  refine lv_iload (pc := 56) hx hb dX9_word_56 (lv_at hl 5 rfl) ?_
                  refine lv_goto (pc := 58) (tgt := 74) hx hb dX9_word_58 (by decide) ?_
                  exact J74 x g v1 v2 v3 v4 v5 v6 v7 v8 v5 h _ _ _ hP hD hS (lv_sub hl [0, 1, 2, 3, 4, 5, 6, 7, 8] rfl)
              · have h := h.1 c_42
                refine lv_iload (pc := 45) hx hb dX9_word_45 (lv_at hl 4 rfl) ?_
                refine lv_goto (pc := 47) (tgt := 74) hx hb dX9_word_47 (by decide) ?_
                exact J74 x g v1 v2 v3 v4 v5 v6 v7 v8 v4 h _ _ _ hP hD hS (lv_sub hl [0, 1, 2, 3, 4, 5, 6, 7, 8] rfl)
            · have h := h.1 c_32
              refine lv_iload_n (pc := 35) hx hb dX9_word_35 rfl (lv_at hl 3 rfl) ?_
              refine lv_goto (pc := 36) (tgt := 74) hx hb dX9_word_36 (by decide) ?_
              exact J74 x g v1 v2 v3 v4 v5 v6 v7 v8 v3 h _ _ _ hP hD hS (lv_sub hl [0, 1, 2, 3, 4, 5, 6, 7, 8] rfl)
          · have h := h.1 c_22
            refine lv_iload_n (pc := 25) hx hb dX9_word_25 rfl (lv_at hl 2 rfl) ?_
            refine lv_goto (pc := 26) (tgt := 74) hx hb dX9_word_26 (by decide) ?_
            exact J74 x g v1 v2 v3 v4 v5 v6 v7 v8 v2 h _ _ _ hP hD hS (lv_sub hl [0, 1, 2, 3, 4, 5, 6, 7, 8] rfl)
        · have h := h.1 c_12
          refine lv_iload_n (pc := 15) hx hb dX9_word_15 rfl (lv_at hl 1 rfl) ?_
          refine lv_goto (pc := 16) (tgt := 74) hx hb dX9_word_16 (by decide) ?_
          exact J74 x g v1 v2 v3 v4 v5 v6 v7 v8 v1 h _ _ _ hP hD hS (lv_sub hl [0, 1, 2, 3, 4, 5, 6, 7, 8] rfl)
  unfold wX9_word at h
  refine lv_iconst (pc := 0) (v := 0) hx hb dX9_word_0 (by decide) ?_
  refine lv_istore (pc := 1) (lv' := [(8, .int 0), (0, .ref o), (1, .int a1), (2, .int a2), (3, .int a3), (4, .int a4), (5, .int a5), (6, .int a6), (7, .int a7)]) hx hb dX9_word_1 hl (by decide) rfl (fun ls hl => ?_)
  obtain ⟨n3, h⟩ := h
  exact L3 n3 x0 g0 a1 a2 a3 a4 a5 a6 a7 0 h _ _ _ hP hD hS (lv_sub hl [1, 2, 3, 4, 5, 6, 7, 8, 0] rfl)

def lX9_blanks_19 (Φ : Int32 → (Nat → Int32) → (Nat → Nat → Int32) → Prop) : Nat → (Nat → Int32) → (Nat → Nat → Int32) → Prop
  | 0, _, _ => False
  | n19 + 1, x, g => (wX9_at x g (x 1) (fun r_24 => ((r_24 = 32 → ((lX9_blanks_19 Φ n19) (va_up x 1 ((x 1) + 1)) g)) ∧ (¬ r_24 = 32 → (Φ 1 x g)))))
def wX9_blanks (x : Nat → Int32) (g : Nat → Nat → Int32) (Φ : Int32 → (Nat → Int32) → (Nat → Nat → Int32) → Prop) : Prop := (wX9_at x g (x 1) (fun r_5 => ((r_5 = 32 → (∃ n19 : Nat, lX9_blanks_19 Φ n19 x g)) ∧ (¬ r_5 = 32 → (wX9_fails x g (fun x_14 g_14 => (Φ 0 x_14 g_14)))))))
set_option maxRecDepth 100000 in
set_option maxHeartbeats 4000000 in
theorem kX9_blanks {l : Launch} {D : va_G} {E : va_W} {o : Nat} {ad : Nat → Nat} {cI cZ : ClassId} {sz : Nat} (x0 : Nat → Int32) (g0 : Nat → Nat → Int32) {Φ : Int32 → (Nat → Int32) → (Nat → Nat → Int32) → Prop} (h : wX9_blanks x0 g0 Φ) : Met l yX9_blanks (zws yX9_blanks cX9_blanks 1 (some .boolean)) { frames := 1, cells := 0, slots := 0, locals := 21 } (zPc D (mT cI cZ) zX0 (mW E o ad cI cZ (x0, g0)) [.ref o] sz) (zQi D (mT cI cZ) (mW E o ad cI cZ) (fun r u => (r = 0 ∨ r = 1) ∧ Φ r u.1 u.2) (mW E o ad cI cZ (x0, g0)) sz) 0 0 (va_A (mW E o ad cI cZ (x0, g0)) sz) := by
  refine zMet (by decide) (Nat.le_of_ble_eq_true rfl) ?_
  intro p e s m args below meth c A hx hb hr hml hown hts hlocks hsz hAe hA hS hP hK hD hX ls hl
  subst hsz
  have hF : zFx p s m args c cX9_blanks RX9 A D (mT cI cZ) zX0 1 := ⟨hx, hb, hml, hown, hts, hA, hK, zX0_cl, hX⟩
  have hl : lv_has ls 1 [(0, .ref o)] := hl
  have L19 : ∀ n19 : Nat, ∀ (x : Nat → Int32) (g : Nat → Nat → Int32), lX9_blanks_19 Φ n19 x g → ∀ (H : Heap) (locs : List Loc) (ls : Array Slot), va_P D vwCl (mW E o ad cI cZ (x, g)) H → va_D A (mW E o ad cI cZ (x, g)) → va_S A s.heap H locs → lv_has ls 1 [(0, .ref o)] → W p l e { frames := 1, cells := 0, slots := 0, locals := 21 } s m args below meth c H locs 0 0 (MQ below (zQi D (mT cI cZ) (mW E o ad cI cZ) (fun r u => (r = 0 ∨ r = 1) ∧ Φ r u.1 u.2) (mW E o ad cI cZ (x0, g0)) s.heap.size) args s 0 0 (va_A (mW E o ad cI cZ (x0, g0)) s.heap.size)) (F0 m 19 ls []) := by
    intro n19
    induction n19 with
    | zero => intro x g  h H locs ls hP hD hS hl; exact h.elim
    | succ n19 ih19 =>
      intro x g  h H locs ls hP hD hS hl
      unfold lX9_blanks_19 at h
      refine lv_aload_n (pc := 19) hx hb dX9_blanks_19 rfl (lv_at hl 0 rfl) ?_
      refine lv_aload_n (pc := 20) hx hb dX9_blanks_20 rfl (lv_at hl 0 rfl) ?_
      refine mG_1 (pc := 21) (v := (x 1)) hF hP rfl dX9_blanks_21 ?_
      refine mVip (pc := 24) (x := x) (g := g) [.int (x 1)] hF (kX9_at x g (x 1) h) (cwX9_X9_at hts ⟨Nat.le_of_ble_eq_true rfl, Nat.le_of_ble_eq_true rfl⟩) hP hD hS rfl rfl hl.1 (Nat.le_of_ble_eq_true rfl) dX9_blanks_24 ⟨Nat.le_refl _, Nat.le_refl _⟩ (fun r_24 H locs h hP hD hS => ?_)
      refine lv_bipush (pc := 27) (v := 32) hx hb dX9_blanks_27 (by decide) ?_
      refine lv_icmp_ne (pc := 29) (tgt := 45) hx hb dX9_blanks_29 (by decide) (fun c_29 => ?_) (fun c_29 => ?_)
      · have h := h.2 c_29
        refine lv_iconst (pc := 45) (v := 1) hx hb dX9_blanks_45 (by decide) ?_
        exact zirV (pc := 46) (Wd := mW E o ad cI cZ) (u := (x, g)) hx hb hr hlocks hAe hK hP hD hS rfl dX9_blanks_46 (Nat.le_refl _) (Nat.le_refl _) ⟨(Or.inr rfl), h⟩
      · have h := h.1 c_29
        refine lv_aload_n (pc := 32) hx hb dX9_blanks_32 rfl (lv_at hl 0 rfl) ?_
        refine lv_dup (pc := 33) hx hb dX9_blanks_33 rfl ?_
        refine mG_1 (pc := 34) (v := (x 1)) hF hP rfl dX9_blanks_34 ?_
        refine lv_iconst (pc := 37) (v := 1) hx hb dX9_blanks_37 (by decide) ?_
        refine lv_iadd (pc := 38) hx hb dX9_blanks_38 ?_
        refine mP_1 (pc := 39) hF hP hD hS dX9_blanks_39 (fun H locs hP hD hS => ?_)
        refine lv_goto (pc := 42) (tgt := 19) hx hb dX9_blanks_42 (by decide) ?_
        exact ih19 (va_up x 1 ((x 1) + 1)) g h _ _ _ hP hD hS (lv_sub hl [0] rfl)
  unfold wX9_blanks at h
  refine lv_aload_n (pc := 0) hx hb dX9_blanks_0 rfl (lv_at hl 0 rfl) ?_
  refine lv_aload_n (pc := 1) hx hb dX9_blanks_1 rfl (lv_at hl 0 rfl) ?_
  refine mG_1 (pc := 2) (v := (x0 1)) hF hP rfl dX9_blanks_2 ?_
  refine mVip (pc := 5) (x := x0) (g := g0) [.int (x0 1)] hF (kX9_at x0 g0 (x0 1) h) (cwX9_X9_at hts ⟨Nat.le_of_ble_eq_true rfl, Nat.le_of_ble_eq_true rfl⟩) hP hD hS rfl rfl hl.1 (Nat.le_of_ble_eq_true rfl) dX9_blanks_5 ⟨Nat.le_refl _, Nat.le_refl _⟩ (fun r_5 H locs h hP hD hS => ?_)
  refine lv_bipush (pc := 8) (v := 32) hx hb dX9_blanks_8 (by decide) ?_
  refine lv_icmp_eq (pc := 10) (tgt := 19) hx hb dX9_blanks_10 (by decide) (fun c_10 => ?_) (fun c_10 => ?_)
  · have h := h.1 c_10
    obtain ⟨n19, h⟩ := h
    exact L19 n19 x0 g0 h _ _ _ hP hD hS (lv_sub hl [0] rfl)
  · have h := h.2 c_10
    refine lv_aload_n (pc := 13) hx hb dX9_blanks_13 rfl (lv_at hl 0 rfl) ?_
    refine mVv (pc := 14) (x := x0) (g := g0) [] hF (kX9_fails x0 g0 h) (cwX9_X9_fails hts ⟨Nat.le_of_ble_eq_true rfl, Nat.le_of_ble_eq_true rfl⟩) hP hD hS rfl rfl hl.1 (Nat.le_of_ble_eq_true rfl) dX9_blanks_14 ⟨Nat.le_refl _, Nat.le_refl _⟩ (fun x_14 g_14 H locs h hP hD hS => ?_)
    refine lv_iconst (pc := 17) (v := 0) hx hb dX9_blanks_17 (by decide) ?_
    exact zirV (pc := 18) (Wd := mW E o ad cI cZ) (u := (x_14, g_14)) hx hb hr hlocks hAe hK hP hD hS rfl dX9_blanks_18 (Nat.le_refl _) (Nat.le_refl _) ⟨(Or.inl rfl), h⟩

def jX9_number_21 (Φ : Int32 → (Nat → Int32) → (Nat → Nat → Int32) → Prop) (x : Nat → Int32) (g : Nat → Nat → Int32) (v2 s0 s1 : Int32) : Prop := (wX9_isIn s0 s1 57 (fun r_23 => ((r_23 = 0 → (wX9_fails x g (fun x_30 g_30 => (Φ 0 x_30 g_30)))) ∧ (¬ r_23 = 0 → (((v2 - 48) ≤ 0 → (Φ 1 (va_up (va_up x 3 (v2 - 48)) 1 ((x 1) + 1)) g)) ∧ (¬ (v2 - 48) ≤ 0 → (wX9_at (va_up (va_up x 3 (v2 - 48)) 1 ((x 1) + 1)) g ((x 1) + 1) (fun r_65 => (wX9_isIn r_65 48 57 (fun r_72 => ((r_72 = 0 → (Φ 1 (va_up (va_up x 3 (v2 - 48)) 1 ((x 1) + 1)) g)) ∧ (¬ r_72 = 0 → (wX9_at (va_up (va_up x 3 (v2 - 48)) 1 ((x 1) + 1)) g ((x 1) + 1) (fun r_91 => (Φ 1 (va_up (va_up (va_up (va_up x 3 (v2 - 48)) 1 ((x 1) + 1)) 3 (((10 * (v2 - 48)) + r_91) - 48)) 1 (((x 1) + 1) + 1)) g)))))))))))))))
def wX9_number (x : Nat → Int32) (g : Nat → Nat → Int32) (a1 : Int32) (Φ : Int32 → (Nat → Int32) → (Nat → Nat → Int32) → Prop) : Prop := (wX9_at x g (x 1) (fun r_5 => ((a1 = 0 → (jX9_number_21 Φ x g r_5 r_5 49)) ∧ (¬ a1 = 0 → (jX9_number_21 Φ x g r_5 r_5 48)))))
set_option maxRecDepth 100000 in
set_option maxHeartbeats 4000000 in
theorem kX9_number {l : Launch} {D : va_G} {E : va_W} {o : Nat} {ad : Nat → Nat} {cI cZ : ClassId} {sz : Nat} (x0 : Nat → Int32) (g0 : Nat → Nat → Int32) (a1 : Int32) {Φ : Int32 → (Nat → Int32) → (Nat → Nat → Int32) → Prop} (h : wX9_number x0 g0 a1 Φ) : Met l yX9_number (zws yX9_number cX9_number 3 (some .boolean)) { frames := 1, cells := 0, slots := 0, locals := 22 } (zPc D (mT cI cZ) zX0 (mW E o ad cI cZ (x0, g0)) [.ref o, .int a1] sz) (zQi D (mT cI cZ) (mW E o ad cI cZ) (fun r u => (r = 0 ∨ r = 1) ∧ Φ r u.1 u.2) (mW E o ad cI cZ (x0, g0)) sz) 0 0 (va_A (mW E o ad cI cZ (x0, g0)) sz) := by
  refine zMet (by decide) (Nat.le_of_ble_eq_true rfl) ?_
  intro p e s m args below meth c A hx hb hr hml hown hts hlocks hsz hAe hA hS hP hK hD hX ls hl
  subst hsz
  have hF : zFx p s m args c cX9_number RX9 A D (mT cI cZ) zX0 3 := ⟨hx, hb, hml, hown, hts, hA, hK, zX0_cl, hX⟩
  have hl : lv_has ls 3 [(0, .ref o), (1, .int a1)] := hl
  have J21 : ∀ (x : Nat → Int32) (g : Nat → Nat → Int32) (v2 s0 s1 : Int32), jX9_number_21 Φ x g v2 s0 s1 → ∀ (H : Heap) (locs : List Loc) (ls : Array Slot), va_P D vwCl (mW E o ad cI cZ (x, g)) H → va_D A (mW E o ad cI cZ (x, g)) → va_S A s.heap H locs → lv_has ls 3 [(0, .ref o), (2, .int v2)] → W p l e { frames := 1, cells := 0, slots := 0, locals := 22 } s m args below meth c H locs 0 0 (MQ below (zQi D (mT cI cZ) (mW E o ad cI cZ) (fun r u => (r = 0 ∨ r = 1) ∧ Φ r u.1 u.2) (mW E o ad cI cZ (x0, g0)) s.heap.size) args s 0 0 (va_A (mW E o ad cI cZ (x0, g0)) s.heap.size)) (F0 m 21 ls [.int s1, .int s0]) := by
    intro x g v2 s0 s1 h H locs ls hP hD hS hl
    unfold jX9_number_21 at h
    refine lv_bipush (pc := 21) (v := 57) hx hb dX9_number_21 (by decide) ?_
    refine mSbp (pc := 23) (x := x) (g := g) [.int s0, .int s1, .int 57] hF (kX9_isIn x g s0 s1 57 h) (cwX9_X9_isIn hts ⟨Nat.le_of_ble_eq_true rfl, Nat.le_of_ble_eq_true rfl⟩) hP hD hS rfl rfl hl.1 (Nat.le_of_ble_eq_true rfl) dX9_number_23 ⟨Nat.le_refl _, Nat.le_refl _⟩ (fun r_23 H locs hb_23 h hP hD hS => ?_)
    refine lv_if_ne (pc := 26) (tgt := 35) hx hb dX9_number_26 (by decide) (fun c_26 => ?_) (fun c_26 => ?_)
    · have h := h.2 c_26
      refine lv_aload_n (pc := 35) hx hb dX9_number_35 rfl (lv_at hl 0 rfl) ?_
      refine lv_iload_n (pc := 36) hx hb dX9_number_36 rfl (lv_at hl 1 rfl) ?_
      refine lv_bipush (pc := 37) (v := 48) hx hb dX9_number_37 (by decide) ?_
      refine lv_isub (pc := 39) hx hb dX9_number_39 ?_
      refine mP_3 (pc := 40) hF hP hD hS dX9_number_40 (fun H locs hP hD hS => ?_)
      refine lv_aload_n (pc := 43) hx hb dX9_number_43 rfl (lv_at hl 0 rfl) ?_
      refine lv_dup (pc := 44) hx hb dX9_number_44 rfl ?_
      refine mG_1 (pc := 45) (v := (x 1)) hF hP rfl dX9_number_45 ?_
      refine lv_iconst (pc := 48) (v := 1) hx hb dX9_number_48 (by decide) ?_
      refine lv_iadd (pc := 49) hx hb dX9_number_49 ?_
      refine mP_1 (pc := 50) hF hP hD hS dX9_number_50 (fun H locs hP hD hS => ?_)
      refine lv_aload_n (pc := 53) hx hb dX9_number_53 rfl (lv_at hl 0 rfl) ?_
      refine mG_3 (pc := 54) (v := (v2 - 48)) hF hP rfl dX9_number_54 ?_
      refine lv_if_le (pc := 57) (tgt := 111) hx hb dX9_number_57 (by decide) (fun c_57 => ?_) (fun c_57 => ?_)
      · have h := h.1 c_57
        refine lv_iconst (pc := 111) (v := 1) hx hb dX9_number_111 (by decide) ?_
        exact zirV (pc := 112) (Wd := mW E o ad cI cZ) (u := ((va_up (va_up x 3 (v2 - 48)) 1 ((x 1) + 1)), g)) hx hb hr hlocks hAe hK hP hD hS rfl dX9_number_112 (Nat.le_refl _) (Nat.le_refl _) ⟨(Or.inr rfl), h⟩
      · have h := h.2 c_57
        refine lv_aload_n (pc := 60) hx hb dX9_number_60 rfl (lv_at hl 0 rfl) ?_
        refine lv_aload_n (pc := 61) hx hb dX9_number_61 rfl (lv_at hl 0 rfl) ?_
        refine mG_1 (pc := 62) (v := ((x 1) + 1)) hF hP rfl dX9_number_62 ?_
        refine mVip (pc := 65) (x := (va_up (va_up x 3 (v2 - 48)) 1 ((x 1) + 1))) (g := g) [.int ((x 1) + 1)] hF (kX9_at (va_up (va_up x 3 (v2 - 48)) 1 ((x 1) + 1)) g ((x 1) + 1) h) (cwX9_X9_at hts ⟨Nat.le_of_ble_eq_true rfl, Nat.le_of_ble_eq_true rfl⟩) hP hD hS rfl rfl hl.1 (Nat.le_of_ble_eq_true rfl) dX9_number_65 ⟨Nat.le_refl _, Nat.le_refl _⟩ (fun r_65 H locs h hP hD hS => ?_)
        refine lv_bipush (pc := 68) (v := 48) hx hb dX9_number_68 (by decide) ?_
        refine lv_bipush (pc := 70) (v := 57) hx hb dX9_number_70 (by decide) ?_
        refine mSbp (pc := 72) (x := (va_up (va_up x 3 (v2 - 48)) 1 ((x 1) + 1))) (g := g) [.int r_65, .int 48, .int 57] hF (kX9_isIn (va_up (va_up x 3 (v2 - 48)) 1 ((x 1) + 1)) g r_65 48 57 h) (cwX9_X9_isIn hts ⟨Nat.le_of_ble_eq_true rfl, Nat.le_of_ble_eq_true rfl⟩) hP hD hS rfl rfl hl.1 (Nat.le_of_ble_eq_true rfl) dX9_number_72 ⟨Nat.le_refl _, Nat.le_refl _⟩ (fun r_72 H locs hb_72 h hP hD hS => ?_)
        refine lv_if_eq (pc := 75) (tgt := 111) hx hb dX9_number_75 (by decide) (fun c_75 => ?_) (fun c_75 => ?_)
        · have h := h.1 c_75
          refine lv_iconst (pc := 111) (v := 1) hx hb dX9_number_111 (by decide) ?_
          exact zirV (pc := 112) (Wd := mW E o ad cI cZ) (u := ((va_up (va_up x 3 (v2 - 48)) 1 ((x 1) + 1)), g)) hx hb hr hlocks hAe hK hP hD hS rfl dX9_number_112 (Nat.le_refl _) (Nat.le_refl _) ⟨(Or.inr rfl), h⟩
        · have h := h.2 c_75
          refine lv_aload_n (pc := 78) hx hb dX9_number_78 rfl (lv_at hl 0 rfl) ?_
          refine lv_bipush (pc := 79) (v := 10) hx hb dX9_number_79 (by decide) ?_
          refine lv_aload_n (pc := 81) hx hb dX9_number_81 rfl (lv_at hl 0 rfl) ?_
          refine mG_3 (pc := 82) (v := (v2 - 48)) hF hP rfl dX9_number_82 ?_
          refine lv_imul (pc := 85) hx hb dX9_number_85 ?_
          refine lv_aload_n (pc := 86) hx hb dX9_number_86 rfl (lv_at hl 0 rfl) ?_
          refine lv_aload_n (pc := 87) hx hb dX9_number_87 rfl (lv_at hl 0 rfl) ?_
          refine mG_1 (pc := 88) (v := ((x 1) + 1)) hF hP rfl dX9_number_88 ?_
          refine mVip (pc := 91) (x := (va_up (va_up x 3 (v2 - 48)) 1 ((x 1) + 1))) (g := g) [.int ((x 1) + 1)] hF (kX9_at (va_up (va_up x 3 (v2 - 48)) 1 ((x 1) + 1)) g ((x 1) + 1) h) (cwX9_X9_at hts ⟨Nat.le_of_ble_eq_true rfl, Nat.le_of_ble_eq_true rfl⟩) hP hD hS rfl rfl hl.1 (Nat.le_of_ble_eq_true rfl) dX9_number_91 ⟨Nat.le_refl _, Nat.le_refl _⟩ (fun r_91 H locs h hP hD hS => ?_)
          refine lv_iadd (pc := 94) hx hb dX9_number_94 ?_
          refine lv_bipush (pc := 95) (v := 48) hx hb dX9_number_95 (by decide) ?_
          refine lv_isub (pc := 97) hx hb dX9_number_97 ?_
          refine mP_3 (pc := 98) hF hP hD hS dX9_number_98 (fun H locs hP hD hS => ?_)
          refine lv_aload_n (pc := 101) hx hb dX9_number_101 rfl (lv_at hl 0 rfl) ?_
          refine lv_dup (pc := 102) hx hb dX9_number_102 rfl ?_
          refine mG_1 (pc := 103) (v := ((x 1) + 1)) hF hP rfl dX9_number_103 ?_
          refine lv_iconst (pc := 106) (v := 1) hx hb dX9_number_106 (by decide) ?_
          refine lv_iadd (pc := 107) hx hb dX9_number_107 ?_
          refine mP_1 (pc := 108) hF hP hD hS dX9_number_108 (fun H locs hP hD hS => ?_)
          refine lv_iconst (pc := 111) (v := 1) hx hb dX9_number_111 (by decide) ?_
          exact zirV (pc := 112) (Wd := mW E o ad cI cZ) (u := ((va_up (va_up (va_up (va_up x 3 (v2 - 48)) 1 ((x 1) + 1)) 3 (((10 * (v2 - 48)) + r_91) - 48)) 1 (((x 1) + 1) + 1)), g)) hx hb hr hlocks hAe hK hP hD hS rfl dX9_number_112 (Nat.le_refl _) (Nat.le_refl _) ⟨(Or.inr rfl), h⟩
    · have h := h.1 c_26
      refine lv_aload_n (pc := 29) hx hb dX9_number_29 rfl (lv_at hl 0 rfl) ?_
      refine mVv (pc := 30) (x := x) (g := g) [] hF (kX9_fails x g h) (cwX9_X9_fails hts ⟨Nat.le_of_ble_eq_true rfl, Nat.le_of_ble_eq_true rfl⟩) hP hD hS rfl rfl hl.1 (Nat.le_of_ble_eq_true rfl) dX9_number_30 ⟨Nat.le_refl _, Nat.le_refl _⟩ (fun x_30 g_30 H locs h hP hD hS => ?_)
      refine lv_iconst (pc := 33) (v := 0) hx hb dX9_number_33 (by decide) ?_
      exact zirV (pc := 34) (Wd := mW E o ad cI cZ) (u := (x_30, g_30)) hx hb hr hlocks hAe hK hP hD hS rfl dX9_number_34 (Nat.le_refl _) (Nat.le_refl _) ⟨(Or.inl rfl), h⟩
  unfold wX9_number at h
  refine lv_aload_n (pc := 0) hx hb dX9_number_0 rfl (lv_at hl 0 rfl) ?_
  refine lv_aload_n (pc := 1) hx hb dX9_number_1 rfl (lv_at hl 0 rfl) ?_
  refine mG_1 (pc := 2) (v := (x0 1)) hF hP rfl dX9_number_2 ?_
  refine mVip (pc := 5) (x := x0) (g := g0) [.int (x0 1)] hF (kX9_at x0 g0 (x0 1) h) (cwX9_X9_at hts ⟨Nat.le_of_ble_eq_true rfl, Nat.le_of_ble_eq_true rfl⟩) hP hD hS rfl rfl hl.1 (Nat.le_of_ble_eq_true rfl) dX9_number_5 ⟨Nat.le_refl _, Nat.le_refl _⟩ (fun r_5 H locs h hP hD hS => ?_)
  refine lv_istore_n (pc := 8) (lv' := [(2, .int r_5), (0, .ref o), (1, .int a1)]) hx hb dX9_number_8 rfl hl (by decide) rfl (fun ls hl => ?_)
  refine lv_iload_n (pc := 9) hx hb dX9_number_9 rfl (lv_at hl 0 rfl) ?_
  refine lv_iload_n (pc := 10) hx hb dX9_number_10 rfl (lv_at hl 2 rfl) ?_
  refine lv_if_eq (pc := 11) (tgt := 19) hx hb dX9_number_11 (by decide) (fun c_11 => ?_) (fun c_11 => ?_)
  · have h := h.1 c_11
    refine lv_bipush (pc := 19) (v := 49) hx hb dX9_number_19 (by decide) ?_
    exact J21 x0 g0 r_5 r_5 49 h _ _ _ hP hD hS (lv_sub hl [1, 0] rfl)
  · have h := h.2 c_11
    refine lv_bipush (pc := 14) (v := 48) hx hb dX9_number_14 (by decide) ?_
    refine lv_goto (pc := 16) (tgt := 21) hx hb dX9_number_16 (by decide) ?_
    exact J21 x0 g0 r_5 r_5 48 h _ _ _ hP hD hS (lv_sub hl [1, 0] rfl)

def jX9_readsFirst_32 (Φ : Int32 → (Nat → Int32) → (Nat → Nat → Int32) → Prop) (x : Nat → Int32) (g : Nat → Nat → Int32) (v1 s1 s2 : Int32) : Prop := (vp_in s1 9 ∧ ((v1 = 99 → (wX9_word x (va_up g 7 (upd (g 7) s1.toNatClampNeg s2)) 99 111 117 110 116 0 0 (fun r_52 x_52 g_52 => ((r_52 = 0 → (Φ 0 x_52 g_52)) ∧ (¬ r_52 = 0 → (wX9_blanks x_52 g_52 (fun r_105 x_105 g_105 => ((r_105 = 0 → (Φ 0 x_105 g_105)) ∧ (¬ r_105 = 0 → (Φ 1 x_105 g_105)))))))))) ∧ (¬ v1 = 99 → ((v1 = 109 → (wX9_word x (va_up g 7 (upd (g 7) s1.toNatClampNeg s2)) 109 97 120 0 0 0 0 (fun r_78 x_78 g_78 => ((r_78 = 0 → (Φ 0 x_78 g_78)) ∧ (¬ r_78 = 0 → (wX9_blanks x_78 g_78 (fun r_105 x_105 g_105 => ((r_105 = 0 → (Φ 0 x_105 g_105)) ∧ (¬ r_105 = 0 → (Φ 1 x_105 g_105)))))))))) ∧ (¬ v1 = 109 → (wX9_word x (va_up g 7 (upd (g 7) s1.toNatClampNeg s2)) 115 117 109 0 0 0 0 (fun r_98 x_98 g_98 => ((r_98 = 0 → (Φ 0 x_98 g_98)) ∧ (¬ r_98 = 0 → (wX9_blanks x_98 g_98 (fun r_105 x_105 g_105 => ((r_105 = 0 → (Φ 0 x_105 g_105)) ∧ (¬ r_105 = 0 → (Φ 1 x_105 g_105))))))))))))))
def wX9_readsFirst (x : Nat → Int32) (g : Nat → Nat → Int32) (Φ : Int32 → (Nat → Int32) → (Nat → Nat → Int32) → Prop) : Prop := (wX9_at x g 0 (fun r_2 => ((r_2 = 99 → (jX9_readsFirst_32 Φ x g r_2 0 1)) ∧ (¬ r_2 = 99 → ((r_2 = 109 → (jX9_readsFirst_32 Φ x g r_2 0 2)) ∧ (¬ r_2 = 109 → (jX9_readsFirst_32 Φ x g r_2 0 0)))))))
set_option maxRecDepth 100000 in
set_option maxHeartbeats 4000000 in
theorem kX9_readsFirst {l : Launch} {D : va_G} {E : va_W} {o : Nat} {ad : Nat → Nat} {cI cZ : ClassId} {sz : Nat} (x0 : Nat → Int32) (g0 : Nat → Nat → Int32) {Φ : Int32 → (Nat → Int32) → (Nat → Nat → Int32) → Prop} (h : wX9_readsFirst x0 g0 Φ) : Met l yX9_readsFirst (zws yX9_readsFirst cX9_readsFirst 2 (some .boolean)) { frames := 2, cells := 0, slots := 0, locals := 50 } (zPc D (mT cI cZ) zX0 (mW E o ad cI cZ (x0, g0)) [.ref o] sz) (zQi D (mT cI cZ) (mW E o ad cI cZ) (fun r u => (r = 0 ∨ r = 1) ∧ Φ r u.1 u.2) (mW E o ad cI cZ (x0, g0)) sz) 0 0 (va_A (mW E o ad cI cZ (x0, g0)) sz) := by
  refine zMet (by decide) (Nat.le_of_ble_eq_true rfl) ?_
  intro p e s m args below meth c A hx hb hr hml hown hts hlocks hsz hAe hA hS hP hK hD hX ls hl
  subst hsz
  have hF : zFx p s m args c cX9_readsFirst RX9 A D (mT cI cZ) zX0 2 := ⟨hx, hb, hml, hown, hts, hA, hK, zX0_cl, hX⟩
  have hl : lv_has ls 2 [(0, .ref o)] := hl
  have J32 : ∀ (x : Nat → Int32) (g : Nat → Nat → Int32) (v1 s1 s2 : Int32), jX9_readsFirst_32 Φ x g v1 s1 s2 → ∀ (H : Heap) (locs : List Loc) (ls : Array Slot), va_P D vwCl (mW E o ad cI cZ (x, g)) H → va_D A (mW E o ad cI cZ (x, g)) → va_S A s.heap H locs → lv_has ls 2 [(0, .ref o), (1, .int v1)] → W p l e { frames := 2, cells := 0, slots := 0, locals := 50 } s m args below meth c H locs 0 0 (MQ below (zQi D (mT cI cZ) (mW E o ad cI cZ) (fun r u => (r = 0 ∨ r = 1) ∧ Φ r u.1 u.2) (mW E o ad cI cZ (x0, g0)) s.heap.size) args s 0 0 (va_A (mW E o ad cI cZ (x0, g0)) s.heap.size)) (F0 m 32 ls [.int s2, .int s1, .ref (ad 7)]) := by
    intro x g v1 s1 s2 h H locs ls hP hD hS hl
    unfold jX9_readsFirst_32 at h
    obtain ⟨hi_32, h⟩ := h
    refine mP_7 (pc := 32) hF hP hD hS (f := (g 7)) rfl hi_32 dX9_readsFirst_32 (fun H locs hP hD hS => ?_)
    refine lv_iload_n (pc := 33) hx hb dX9_readsFirst_33 rfl (lv_at hl 1 rfl) ?_
    refine lv_bipush (pc := 34) (v := 99) hx hb dX9_readsFirst_34 (by decide) ?_
    refine lv_icmp_ne (pc := 36) (tgt := 61) hx hb dX9_readsFirst_36 (by decide) (fun c_36 => ?_) (fun c_36 => ?_)
    · have h := h.2 c_36
      refine lv_iload_n (pc := 61) hx hb dX9_readsFirst_61 rfl (lv_at hl 1 rfl) ?_
      refine lv_bipush (pc := 62) (v := 109) hx hb dX9_readsFirst_62 (by decide) ?_
      refine lv_icmp_ne (pc := 64) (tgt := 87) hx hb dX9_readsFirst_64 (by decide) (fun c_64 => ?_) (fun c_64 => ?_)
      · have h := h.2 c_64
        refine lv_aload_n (pc := 87) hx hb dX9_readsFirst_87 rfl (lv_at hl 0 rfl) ?_
        refine lv_bipush (pc := 88) (v := 115) hx hb dX9_readsFirst_88 (by decide) ?_
        refine lv_bipush (pc := 90) (v := 117) hx hb dX9_readsFirst_90 (by decide) ?_
        refine lv_bipush (pc := 92) (v := 109) hx hb dX9_readsFirst_92 (by decide) ?_
        refine lv_iconst (pc := 94) (v := 0) hx hb dX9_readsFirst_94 (by decide) ?_
        refine lv_iconst (pc := 95) (v := 0) hx hb dX9_readsFirst_95 (by decide) ?_
        refine lv_iconst (pc := 96) (v := 0) hx hb dX9_readsFirst_96 (by decide) ?_
        refine lv_iconst (pc := 97) (v := 0) hx hb dX9_readsFirst_97 (by decide) ?_
        refine mVb (pc := 98) (x := x) (g := (va_up g 7 (upd (g 7) s1.toNatClampNeg s2))) [.int 115, .int 117, .int 109, .int 0, .int 0, .int 0, .int 0] hF (kX9_word x (va_up g 7 (upd (g 7) s1.toNatClampNeg s2)) 115 117 109 0 0 0 0 h) (cwX9_X9_word hts ⟨Nat.le_of_ble_eq_true rfl, Nat.le_of_ble_eq_true rfl⟩) hP hD hS rfl rfl hl.1 (Nat.le_of_ble_eq_true rfl) dX9_readsFirst_98 ⟨Nat.le_refl _, Nat.le_refl _⟩ (fun r_98 x_98 g_98 H locs hb_98 h hP hD hS => ?_)
        refine lv_if_eq (pc := 101) (tgt := 115) hx hb dX9_readsFirst_101 (by decide) (fun c_101 => ?_) (fun c_101 => ?_)
        · have h := h.1 c_101
          refine lv_iconst (pc := 115) (v := 0) hx hb dX9_readsFirst_115 (by decide) ?_
          exact zirV (pc := 116) (Wd := mW E o ad cI cZ) (u := (x_98, g_98)) hx hb hr hlocks hAe hK hP hD hS rfl dX9_readsFirst_116 (Nat.le_refl _) (Nat.le_refl _) ⟨(Or.inl rfl), h⟩
        · have h := h.2 c_101
          refine lv_aload_n (pc := 104) hx hb dX9_readsFirst_104 rfl (lv_at hl 0 rfl) ?_
          refine mVb (pc := 105) (x := x_98) (g := g_98) [] hF (kX9_blanks x_98 g_98 h) (cwX9_X9_blanks hts ⟨Nat.le_of_ble_eq_true rfl, Nat.le_of_ble_eq_true rfl⟩) hP hD hS rfl rfl hl.1 (Nat.le_of_ble_eq_true rfl) dX9_readsFirst_105 ⟨Nat.le_refl _, Nat.le_refl _⟩ (fun r_105 x_105 g_105 H locs hb_105 h hP hD hS => ?_)
          refine lv_if_eq (pc := 108) (tgt := 115) hx hb dX9_readsFirst_108 (by decide) (fun c_108 => ?_) (fun c_108 => ?_)
          · have h := h.1 c_108
            refine lv_iconst (pc := 115) (v := 0) hx hb dX9_readsFirst_115 (by decide) ?_
            exact zirV (pc := 116) (Wd := mW E o ad cI cZ) (u := (x_105, g_105)) hx hb hr hlocks hAe hK hP hD hS rfl dX9_readsFirst_116 (Nat.le_refl _) (Nat.le_refl _) ⟨(Or.inl rfl), h⟩
          · have h := h.2 c_108
            refine lv_iconst (pc := 111) (v := 1) hx hb dX9_readsFirst_111 (by decide) ?_
            refine lv_goto (pc := 112) (tgt := 116) hx hb dX9_readsFirst_112 (by decide) ?_
            exact zirV (pc := 116) (Wd := mW E o ad cI cZ) (u := (x_105, g_105)) hx hb hr hlocks hAe hK hP hD hS rfl dX9_readsFirst_116 (Nat.le_refl _) (Nat.le_refl _) ⟨(Or.inr rfl), h⟩
      · have h := h.1 c_64
        refine lv_aload_n (pc := 67) hx hb dX9_readsFirst_67 rfl (lv_at hl 0 rfl) ?_
        refine lv_bipush (pc := 68) (v := 109) hx hb dX9_readsFirst_68 (by decide) ?_
        refine lv_bipush (pc := 70) (v := 97) hx hb dX9_readsFirst_70 (by decide) ?_
        refine lv_bipush (pc := 72) (v := 120) hx hb dX9_readsFirst_72 (by decide) ?_
        refine lv_iconst (pc := 74) (v := 0) hx hb dX9_readsFirst_74 (by decide) ?_
        refine lv_iconst (pc := 75) (v := 0) hx hb dX9_readsFirst_75 (by decide) ?_
        refine lv_iconst (pc := 76) (v := 0) hx hb dX9_readsFirst_76 (by decide) ?_
        refine lv_iconst (pc := 77) (v := 0) hx hb dX9_readsFirst_77 (by decide) ?_
        refine mVb (pc := 78) (x := x) (g := (va_up g 7 (upd (g 7) s1.toNatClampNeg s2))) [.int 109, .int 97, .int 120, .int 0, .int 0, .int 0, .int 0] hF (kX9_word x (va_up g 7 (upd (g 7) s1.toNatClampNeg s2)) 109 97 120 0 0 0 0 h) (cwX9_X9_word hts ⟨Nat.le_of_ble_eq_true rfl, Nat.le_of_ble_eq_true rfl⟩) hP hD hS rfl rfl hl.1 (Nat.le_of_ble_eq_true rfl) dX9_readsFirst_78 ⟨Nat.le_refl _, Nat.le_refl _⟩ (fun r_78 x_78 g_78 H locs hb_78 h hP hD hS => ?_)
        refine lv_if_eq (pc := 81) (tgt := 115) hx hb dX9_readsFirst_81 (by decide) (fun c_81 => ?_) (fun c_81 => ?_)
        · have h := h.1 c_81
          refine lv_iconst (pc := 115) (v := 0) hx hb dX9_readsFirst_115 (by decide) ?_
          exact zirV (pc := 116) (Wd := mW E o ad cI cZ) (u := (x_78, g_78)) hx hb hr hlocks hAe hK hP hD hS rfl dX9_readsFirst_116 (Nat.le_refl _) (Nat.le_refl _) ⟨(Or.inl rfl), h⟩
        · have h := h.2 c_81
          refine lv_goto (pc := 84) (tgt := 104) hx hb dX9_readsFirst_84 (by decide) ?_
          refine lv_aload_n (pc := 104) hx hb dX9_readsFirst_104 rfl (lv_at hl 0 rfl) ?_
          refine mVb (pc := 105) (x := x_78) (g := g_78) [] hF (kX9_blanks x_78 g_78 h) (cwX9_X9_blanks hts ⟨Nat.le_of_ble_eq_true rfl, Nat.le_of_ble_eq_true rfl⟩) hP hD hS rfl rfl hl.1 (Nat.le_of_ble_eq_true rfl) dX9_readsFirst_105 ⟨Nat.le_refl _, Nat.le_refl _⟩ (fun r_105 x_105 g_105 H locs hb_105 h hP hD hS => ?_)
          refine lv_if_eq (pc := 108) (tgt := 115) hx hb dX9_readsFirst_108 (by decide) (fun c_108 => ?_) (fun c_108 => ?_)
          · have h := h.1 c_108
            refine lv_iconst (pc := 115) (v := 0) hx hb dX9_readsFirst_115 (by decide) ?_
            exact zirV (pc := 116) (Wd := mW E o ad cI cZ) (u := (x_105, g_105)) hx hb hr hlocks hAe hK hP hD hS rfl dX9_readsFirst_116 (Nat.le_refl _) (Nat.le_refl _) ⟨(Or.inl rfl), h⟩
          · have h := h.2 c_108
            refine lv_iconst (pc := 111) (v := 1) hx hb dX9_readsFirst_111 (by decide) ?_
            refine lv_goto (pc := 112) (tgt := 116) hx hb dX9_readsFirst_112 (by decide) ?_
            exact zirV (pc := 116) (Wd := mW E o ad cI cZ) (u := (x_105, g_105)) hx hb hr hlocks hAe hK hP hD hS rfl dX9_readsFirst_116 (Nat.le_refl _) (Nat.le_refl _) ⟨(Or.inr rfl), h⟩
    · have h := h.1 c_36
      refine lv_aload_n (pc := 39) hx hb dX9_readsFirst_39 rfl (lv_at hl 0 rfl) ?_
      refine lv_bipush (pc := 40) (v := 99) hx hb dX9_readsFirst_40 (by decide) ?_
      refine lv_bipush (pc := 42) (v := 111) hx hb dX9_readsFirst_42 (by decide) ?_
      refine lv_bipush (pc := 44) (v := 117) hx hb dX9_readsFirst_44 (by decide) ?_
      refine lv_bipush (pc := 46) (v := 110) hx hb dX9_readsFirst_46 (by decide) ?_
      refine lv_bipush (pc := 48) (v := 116) hx hb dX9_readsFirst_48 (by decide) ?_
      refine lv_iconst (pc := 50) (v := 0) hx hb dX9_readsFirst_50 (by decide) ?_
      refine lv_iconst (pc := 51) (v := 0) hx hb dX9_readsFirst_51 (by decide) ?_
      refine mVb (pc := 52) (x := x) (g := (va_up g 7 (upd (g 7) s1.toNatClampNeg s2))) [.int 99, .int 111, .int 117, .int 110, .int 116, .int 0, .int 0] hF (kX9_word x (va_up g 7 (upd (g 7) s1.toNatClampNeg s2)) 99 111 117 110 116 0 0 h) (cwX9_X9_word hts ⟨Nat.le_of_ble_eq_true rfl, Nat.le_of_ble_eq_true rfl⟩) hP hD hS rfl rfl hl.1 (Nat.le_of_ble_eq_true rfl) dX9_readsFirst_52 ⟨Nat.le_refl _, Nat.le_refl _⟩ (fun r_52 x_52 g_52 H locs hb_52 h hP hD hS => ?_)
      refine lv_if_eq (pc := 55) (tgt := 115) hx hb dX9_readsFirst_55 (by decide) (fun c_55 => ?_) (fun c_55 => ?_)
      · have h := h.1 c_55
        refine lv_iconst (pc := 115) (v := 0) hx hb dX9_readsFirst_115 (by decide) ?_
        exact zirV (pc := 116) (Wd := mW E o ad cI cZ) (u := (x_52, g_52)) hx hb hr hlocks hAe hK hP hD hS rfl dX9_readsFirst_116 (Nat.le_refl _) (Nat.le_refl _) ⟨(Or.inl rfl), h⟩
      · have h := h.2 c_55
        refine lv_goto (pc := 58) (tgt := 104) hx hb dX9_readsFirst_58 (by decide) ?_
        refine lv_aload_n (pc := 104) hx hb dX9_readsFirst_104 rfl (lv_at hl 0 rfl) ?_
        refine mVb (pc := 105) (x := x_52) (g := g_52) [] hF (kX9_blanks x_52 g_52 h) (cwX9_X9_blanks hts ⟨Nat.le_of_ble_eq_true rfl, Nat.le_of_ble_eq_true rfl⟩) hP hD hS rfl rfl hl.1 (Nat.le_of_ble_eq_true rfl) dX9_readsFirst_105 ⟨Nat.le_refl _, Nat.le_refl _⟩ (fun r_105 x_105 g_105 H locs hb_105 h hP hD hS => ?_)
        refine lv_if_eq (pc := 108) (tgt := 115) hx hb dX9_readsFirst_108 (by decide) (fun c_108 => ?_) (fun c_108 => ?_)
        · have h := h.1 c_108
          refine lv_iconst (pc := 115) (v := 0) hx hb dX9_readsFirst_115 (by decide) ?_
          exact zirV (pc := 116) (Wd := mW E o ad cI cZ) (u := (x_105, g_105)) hx hb hr hlocks hAe hK hP hD hS rfl dX9_readsFirst_116 (Nat.le_refl _) (Nat.le_refl _) ⟨(Or.inl rfl), h⟩
        · have h := h.2 c_108
          refine lv_iconst (pc := 111) (v := 1) hx hb dX9_readsFirst_111 (by decide) ?_
          refine lv_goto (pc := 112) (tgt := 116) hx hb dX9_readsFirst_112 (by decide) ?_
          exact zirV (pc := 116) (Wd := mW E o ad cI cZ) (u := (x_105, g_105)) hx hb hr hlocks hAe hK hP hD hS rfl dX9_readsFirst_116 (Nat.le_refl _) (Nat.le_refl _) ⟨(Or.inr rfl), h⟩
  unfold wX9_readsFirst at h
  refine lv_aload_n (pc := 0) hx hb dX9_readsFirst_0 rfl (lv_at hl 0 rfl) ?_
  refine lv_iconst (pc := 1) (v := 0) hx hb dX9_readsFirst_1 (by decide) ?_
  refine mVip (pc := 2) (x := x0) (g := g0) [.int 0] hF (kX9_at x0 g0 0 h) (cwX9_X9_at hts ⟨Nat.le_of_ble_eq_true rfl, Nat.le_of_ble_eq_true rfl⟩) hP hD hS rfl rfl hl.1 (Nat.le_of_ble_eq_true rfl) dX9_readsFirst_2 ⟨Nat.le_refl _, Nat.le_refl _⟩ (fun r_2 H locs h hP hD hS => ?_)
  refine lv_istore_n (pc := 5) (lv' := [(1, .int r_2), (0, .ref o)]) hx hb dX9_readsFirst_5 rfl hl (by decide) rfl (fun ls hl => ?_)
  refine lv_aload_n (pc := 6) hx hb dX9_readsFirst_6 rfl (lv_at hl 1 rfl) ?_
  refine mG_7 (pc := 7) hF hP dX9_readsFirst_7 ?_
  refine lv_iconst (pc := 10) (v := 0) hx hb dX9_readsFirst_10 (by decide) ?_
  refine lv_iload_n (pc := 11) hx hb dX9_readsFirst_11 rfl (lv_at hl 0 rfl) ?_
  refine lv_bipush (pc := 12) (v := 99) hx hb dX9_readsFirst_12 (by decide) ?_
  refine lv_icmp_ne (pc := 14) (tgt := 21) hx hb dX9_readsFirst_14 (by decide) (fun c_14 => ?_) (fun c_14 => ?_)
  · have h := h.2 c_14
    refine lv_iload_n (pc := 21) hx hb dX9_readsFirst_21 rfl (lv_at hl 0 rfl) ?_
    refine lv_bipush (pc := 22) (v := 109) hx hb dX9_readsFirst_22 (by decide) ?_
    refine lv_icmp_ne (pc := 24) (tgt := 31) hx hb dX9_readsFirst_24 (by decide) (fun c_24 => ?_) (fun c_24 => ?_)
    · have h := h.2 c_24
      refine lv_iconst (pc := 31) (v := 0) hx hb dX9_readsFirst_31 (by decide) ?_
      exact J32 x0 g0 r_2 0 0 h _ _ _ hP hD hS (lv_sub hl [1, 0] rfl)
    · have h := h.1 c_24
      refine lv_iconst (pc := 27) (v := 2) hx hb dX9_readsFirst_27 (by decide) ?_
      refine lv_goto (pc := 28) (tgt := 32) hx hb dX9_readsFirst_28 (by decide) ?_
      exact J32 x0 g0 r_2 0 2 h _ _ _ hP hD hS (lv_sub hl [1, 0] rfl)
  · have h := h.1 c_14
    refine lv_iconst (pc := 17) (v := 1) hx hb dX9_readsFirst_17 (by decide) ?_
    refine lv_goto (pc := 18) (tgt := 32) hx hb dX9_readsFirst_18 (by decide) ?_
    exact J32 x0 g0 r_2 0 1 h _ _ _ hP hD hS (lv_sub hl [1, 0] rfl)

def jX9_readsIf_167 (Φ : Int32 → (Nat → Int32) → (Nat → Nat → Int32) → Prop) (x : Nat → Int32) (g : Nat → Nat → Int32) (v2 s1 s2 : Int32) : Prop := (wX9_number (va_up x 1 (s1 + s2)) g 1 (fun r_173 x_173 g_173 => ((r_173 = 0 → (Φ 0 x_173 g_173)) ∧ (¬ r_173 = 0 → ((v2 = 0 → (vp_in 2 9 ∧ (wX9_blanks x_173 (va_up g_173 7 (upd (g_173 7) (2 : Int32).toNatClampNeg (x_173 3))) (fun r_204 x_204 g_204 => (Φ r_204 x_204 g_204))))) ∧ (¬ v2 = 0 → (vp_in 2 9 ∧ (wX9_blanks x_173 (va_up g_173 7 (upd (g_173 7) (2 : Int32).toNatClampNeg (-(x_173 3)))) (fun r_204 x_204 g_204 => (Φ r_204 x_204 g_204))))))))))
def jX9_readsIf_152 (Φ : Int32 → (Nat → Int32) → (Nat → Nat → Int32) → Prop) (x : Nat → Int32) (g : Nat → Nat → Int32) (s0 : Int32) : Prop := ((s0 = 0 → (jX9_readsIf_167 Φ x g s0 (x 1) 0)) ∧ (¬ s0 = 0 → (jX9_readsIf_167 Φ x g s0 (x 1) 1)))
def jX9_readsIf_99 (Φ : Int32 → (Nat → Int32) → (Nat → Nat → Int32) → Prop) (x : Nat → Int32) (g : Nat → Nat → Int32) (s1 s2 : Int32) : Prop := (vp_in s1 9 ∧ (vp_in 1 9 ∧ ((((upd (g 7) s1.toNatClampNeg s2) (1 : Int32).toNatClampNeg) = 0 → (wX9_fails x (va_up g 7 (upd (g 7) s1.toNatClampNeg s2)) (fun x_110 g_110 => (Φ 0 x_110 g_110)))) ∧ (¬ ((upd (g 7) s1.toNatClampNeg s2) (1 : Int32).toNatClampNeg) = 0 → (wX9_blanks (va_up x 1 ((x 1) + 1)) (va_up g 7 (upd (g 7) s1.toNatClampNeg s2)) (fun r_126 x_126 g_126 => ((r_126 = 0 → (Φ 0 x_126 g_126)) ∧ (¬ r_126 = 0 → (wX9_at x_126 g_126 (x_126 1) (fun r_139 => ((r_139 = 45 → (jX9_readsIf_152 Φ x_126 g_126 1)) ∧ (¬ r_139 = 45 → (jX9_readsIf_152 Φ x_126 g_126 0)))))))))))))
def wX9_readsIf (x : Nat → Int32) (g : Nat → Nat → Int32) (Φ : Int32 → (Nat → Int32) → (Nat → Nat → Int32) → Prop) : Prop := (vp_in 1 9 ∧ (vp_in 2 9 ∧ (wX9_at x (va_up (va_up g 7 (upd (g 7) (1 : Int32).toNatClampNeg 0)) 7 (upd (upd (g 7) (1 : Int32).toNatClampNeg 0) (2 : Int32).toNatClampNeg 0)) (x 1) (fun r_19 => ((r_19 = 105 → (wX9_word x (va_up (va_up g 7 (upd (g 7) (1 : Int32).toNatClampNeg 0)) 7 (upd (upd (g 7) (1 : Int32).toNatClampNeg 0) (2 : Int32).toNatClampNeg 0)) 105 102 0 0 0 0 0 (fun r_39 x_39 g_39 => ((r_39 = 0 → (Φ 0 x_39 g_39)) ∧ (¬ r_39 = 0 → (wX9_blanks x_39 g_39 (fun r_46 x_46 g_46 => ((r_46 = 0 → (Φ 0 x_46 g_46)) ∧ (¬ r_46 = 0 → (wX9_at x_46 g_46 (x_46 1) (fun r_59 => ((r_59 = 60 → (jX9_readsIf_99 Φ x_46 g_46 1 1)) ∧ (¬ r_59 = 60 → ((r_59 = 61 → (jX9_readsIf_99 Φ x_46 g_46 1 2)) ∧ (¬ r_59 = 61 → ((r_59 = 62 → (jX9_readsIf_99 Φ x_46 g_46 1 3)) ∧ (¬ r_59 = 62 → (jX9_readsIf_99 Φ x_46 g_46 1 0)))))))))))))))))) ∧ (¬ r_19 = 105 → (Φ 1 x (va_up (va_up g 7 (upd (g 7) (1 : Int32).toNatClampNeg 0)) 7 (upd (upd (g 7) (1 : Int32).toNatClampNeg 0) (2 : Int32).toNatClampNeg 0)))))))))
set_option maxRecDepth 100000 in
set_option maxHeartbeats 4000000 in
theorem kX9_readsIf {l : Launch} {D : va_G} {E : va_W} {o : Nat} {ad : Nat → Nat} {cI cZ : ClassId} {sz : Nat} (x0 : Nat → Int32) (g0 : Nat → Nat → Int32) {Φ : Int32 → (Nat → Int32) → (Nat → Nat → Int32) → Prop} (h : wX9_readsIf x0 g0 Φ) : Met l yX9_readsIf (zws yX9_readsIf cX9_readsIf 3 (some .boolean)) { frames := 2, cells := 0, slots := 0, locals := 50 } (zPc D (mT cI cZ) zX0 (mW E o ad cI cZ (x0, g0)) [.ref o] sz) (zQi D (mT cI cZ) (mW E o ad cI cZ) (fun r u => (r = 0 ∨ r = 1) ∧ Φ r u.1 u.2) (mW E o ad cI cZ (x0, g0)) sz) 0 0 (va_A (mW E o ad cI cZ (x0, g0)) sz) := by
  refine zMet (by decide) (Nat.le_of_ble_eq_true rfl) ?_
  intro p e s m args below meth c A hx hb hr hml hown hts hlocks hsz hAe hA hS hP hK hD hX ls hl
  subst hsz
  have hF : zFx p s m args c cX9_readsIf RX9 A D (mT cI cZ) zX0 3 := ⟨hx, hb, hml, hown, hts, hA, hK, zX0_cl, hX⟩
  have hl : lv_has ls 3 [(0, .ref o)] := hl
  have J167 : ∀ (x : Nat → Int32) (g : Nat → Nat → Int32) (v2 s1 s2 : Int32), jX9_readsIf_167 Φ x g v2 s1 s2 → ∀ (H : Heap) (locs : List Loc) (ls : Array Slot), va_P D vwCl (mW E o ad cI cZ (x, g)) H → va_D A (mW E o ad cI cZ (x, g)) → va_S A s.heap H locs → lv_has ls 3 [(0, .ref o), (2, .int v2)] → W p l e { frames := 2, cells := 0, slots := 0, locals := 50 } s m args below meth c H locs 0 0 (MQ below (zQi D (mT cI cZ) (mW E o ad cI cZ) (fun r u => (r = 0 ∨ r = 1) ∧ Φ r u.1 u.2) (mW E o ad cI cZ (x0, g0)) s.heap.size) args s 0 0 (va_A (mW E o ad cI cZ (x0, g0)) s.heap.size)) (F0 m 167 ls [.int s2, .int s1, .ref o]) := by
    intro x g v2 s1 s2 h H locs ls hP hD hS hl
    unfold jX9_readsIf_167 at h
    refine lv_iadd (pc := 167) hx hb dX9_readsIf_167 ?_
    refine mP_1 (pc := 168) hF hP hD hS dX9_readsIf_168 (fun H locs hP hD hS => ?_)
    refine lv_aload_n (pc := 171) hx hb dX9_readsIf_171 rfl (lv_at hl 0 rfl) ?_
    refine lv_iconst (pc := 172) (v := 1) hx hb dX9_readsIf_172 (by decide) ?_
    refine mVb (pc := 173) (x := (va_up x 1 (s1 + s2))) (g := g) [.int 1] hF (kX9_number (va_up x 1 (s1 + s2)) g 1 h) (cwX9_X9_number hts ⟨Nat.le_of_ble_eq_true rfl, Nat.le_of_ble_eq_true rfl⟩) hP hD hS rfl rfl hl.1 (Nat.le_of_ble_eq_true rfl) dX9_readsIf_173 ⟨Nat.le_refl _, Nat.le_refl _⟩ (fun r_173 x_173 g_173 H locs hb_173 h hP hD hS => ?_)
    refine lv_if_ne (pc := 176) (tgt := 181) hx hb dX9_readsIf_176 (by decide) (fun c_176 => ?_) (fun c_176 => ?_)
    · have h := h.2 c_176
      refine lv_aload_n (pc := 181) hx hb dX9_readsIf_181 rfl (lv_at hl 0 rfl) ?_
      refine mG_7 (pc := 182) hF hP dX9_readsIf_182 ?_
      refine lv_iconst (pc := 185) (v := 2) hx hb dX9_readsIf_185 (by decide) ?_
      refine lv_iload_n (pc := 186) hx hb dX9_readsIf_186 rfl (lv_at hl 1 rfl) ?_
      refine lv_if_eq (pc := 187) (tgt := 198) hx hb dX9_readsIf_187 (by decide) (fun c_187 => ?_) (fun c_187 => ?_)
      · have h := h.1 c_187
        refine lv_aload_n (pc := 198) hx hb dX9_readsIf_198 rfl (lv_at hl 0 rfl) ?_
        refine mG_3 (pc := 199) (v := (x_173 3)) hF hP rfl dX9_readsIf_199 ?_
        obtain ⟨hi_202, h⟩ := h
        refine mP_7 (pc := 202) hF hP hD hS (f := (g_173 7)) rfl hi_202 dX9_readsIf_202 (fun H locs hP hD hS => ?_)
        refine lv_aload_n (pc := 203) hx hb dX9_readsIf_203 rfl (lv_at hl 0 rfl) ?_
        refine mVb (pc := 204) (x := x_173) (g := (va_up g_173 7 (upd (g_173 7) (2 : Int32).toNatClampNeg (x_173 3)))) [] hF (kX9_blanks x_173 (va_up g_173 7 (upd (g_173 7) (2 : Int32).toNatClampNeg (x_173 3))) h) (cwX9_X9_blanks hts ⟨Nat.le_of_ble_eq_true rfl, Nat.le_of_ble_eq_true rfl⟩) hP hD hS rfl rfl hl.1 (Nat.le_of_ble_eq_true rfl) dX9_readsIf_204 ⟨Nat.le_refl _, Nat.le_refl _⟩ (fun r_204 x_204 g_204 H locs hb_204 h hP hD hS => ?_)
        exact zirV (pc := 207) (Wd := mW E o ad cI cZ) (u := (x_204, g_204)) hx hb hr hlocks hAe hK hP hD hS (znB hb_204) dX9_readsIf_207 (Nat.le_refl _) (Nat.le_refl _) ⟨hb_204, h⟩
      · have h := h.2 c_187
        refine lv_aload_n (pc := 190) hx hb dX9_readsIf_190 rfl (lv_at hl 0 rfl) ?_
        refine mG_3 (pc := 191) (v := (x_173 3)) hF hP rfl dX9_readsIf_191 ?_
        refine lv_ineg (pc := 194) hx hb dX9_readsIf_194 ?_
        refine lv_goto (pc := 195) (tgt := 202) hx hb dX9_readsIf_195 (by decide) ?_
        obtain ⟨hi_202, h⟩ := h
        refine mP_7 (pc := 202) hF hP hD hS (f := (g_173 7)) rfl hi_202 dX9_readsIf_202 (fun H locs hP hD hS => ?_)
        refine lv_aload_n (pc := 203) hx hb dX9_readsIf_203 rfl (lv_at hl 0 rfl) ?_
        refine mVb (pc := 204) (x := x_173) (g := (va_up g_173 7 (upd (g_173 7) (2 : Int32).toNatClampNeg (-(x_173 3))))) [] hF (kX9_blanks x_173 (va_up g_173 7 (upd (g_173 7) (2 : Int32).toNatClampNeg (-(x_173 3)))) h) (cwX9_X9_blanks hts ⟨Nat.le_of_ble_eq_true rfl, Nat.le_of_ble_eq_true rfl⟩) hP hD hS rfl rfl hl.1 (Nat.le_of_ble_eq_true rfl) dX9_readsIf_204 ⟨Nat.le_refl _, Nat.le_refl _⟩ (fun r_204 x_204 g_204 H locs hb_204 h hP hD hS => ?_)
        exact zirV (pc := 207) (Wd := mW E o ad cI cZ) (u := (x_204, g_204)) hx hb hr hlocks hAe hK hP hD hS (znB hb_204) dX9_readsIf_207 (Nat.le_refl _) (Nat.le_refl _) ⟨hb_204, h⟩
    · have h := h.1 c_176
      refine lv_iconst (pc := 179) (v := 0) hx hb dX9_readsIf_179 (by decide) ?_
      exact zirV (pc := 180) (Wd := mW E o ad cI cZ) (u := (x_173, g_173)) hx hb hr hlocks hAe hK hP hD hS rfl dX9_readsIf_180 (Nat.le_refl _) (Nat.le_refl _) ⟨(Or.inl rfl), h⟩
  have J152 : ∀ (x : Nat → Int32) (g : Nat → Nat → Int32) (s0 : Int32), jX9_readsIf_152 Φ x g s0 → ∀ (H : Heap) (locs : List Loc) (ls : Array Slot), va_P D vwCl (mW E o ad cI cZ (x, g)) H → va_D A (mW E o ad cI cZ (x, g)) → va_S A s.heap H locs → lv_has ls 3 [(0, .ref o)] → W p l e { frames := 2, cells := 0, slots := 0, locals := 50 } s m args below meth c H locs 0 0 (MQ below (zQi D (mT cI cZ) (mW E o ad cI cZ) (fun r u => (r = 0 ∨ r = 1) ∧ Φ r u.1 u.2) (mW E o ad cI cZ (x0, g0)) s.heap.size) args s 0 0 (va_A (mW E o ad cI cZ (x0, g0)) s.heap.size)) (F0 m 152 ls [.int s0]) := by
    intro x g s0 h H locs ls hP hD hS hl
    unfold jX9_readsIf_152 at h
    refine lv_istore_n (pc := 152) (lv' := [(2, .int s0), (0, .ref o)]) hx hb dX9_readsIf_152 rfl hl (by decide) rfl (fun ls hl => ?_)
    refine lv_aload_n (pc := 153) hx hb dX9_readsIf_153 rfl (lv_at hl 1 rfl) ?_
    refine lv_dup (pc := 154) hx hb dX9_readsIf_154 rfl ?_
    refine mG_1 (pc := 155) (v := (x 1)) hF hP rfl dX9_readsIf_155 ?_
    refine lv_iload_n (pc := 158) hx hb dX9_readsIf_158 rfl (lv_at hl 0 rfl) ?_
    refine lv_if_eq (pc := 159) (tgt := 166) hx hb dX9_readsIf_159 (by decide) (fun c_159 => ?_) (fun c_159 => ?_)
    · have h := h.1 c_159
      refine lv_iconst (pc := 166) (v := 0) hx hb dX9_readsIf_166 (by decide) ?_
      exact J167 x g s0 (x 1) 0 h _ _ _ hP hD hS (lv_sub hl [1, 0] rfl)
    · have h := h.2 c_159
      refine lv_iconst (pc := 162) (v := 1) hx hb dX9_readsIf_162 (by decide) ?_
      refine lv_goto (pc := 163) (tgt := 167) hx hb dX9_readsIf_163 (by decide) ?_
      exact J167 x g s0 (x 1) 1 h _ _ _ hP hD hS (lv_sub hl [1, 0] rfl)
  have J99 : ∀ (x : Nat → Int32) (g : Nat → Nat → Int32) (s1 s2 : Int32), jX9_readsIf_99 Φ x g s1 s2 → ∀ (H : Heap) (locs : List Loc) (ls : Array Slot), va_P D vwCl (mW E o ad cI cZ (x, g)) H → va_D A (mW E o ad cI cZ (x, g)) → va_S A s.heap H locs → lv_has ls 3 [(0, .ref o)] → W p l e { frames := 2, cells := 0, slots := 0, locals := 50 } s m args below meth c H locs 0 0 (MQ below (zQi D (mT cI cZ) (mW E o ad cI cZ) (fun r u => (r = 0 ∨ r = 1) ∧ Φ r u.1 u.2) (mW E o ad cI cZ (x0, g0)) s.heap.size) args s 0 0 (va_A (mW E o ad cI cZ (x0, g0)) s.heap.size)) (F0 m 99 ls [.int s2, .int s1, .ref (ad 7)]) := by
    intro x g s1 s2 h H locs ls hP hD hS hl
    unfold jX9_readsIf_99 at h
    obtain ⟨hi_99, h⟩ := h
    refine mP_7 (pc := 99) hF hP hD hS (f := (g 7)) rfl hi_99 dX9_readsIf_99 (fun H locs hP hD hS => ?_)
    refine lv_aload_n (pc := 100) hx hb dX9_readsIf_100 rfl (lv_at hl 0 rfl) ?_
    refine mG_7 (pc := 101) hF hP dX9_readsIf_101 ?_
    refine lv_iconst (pc := 104) (v := 1) hx hb dX9_readsIf_104 (by decide) ?_
    obtain ⟨hi_105, h⟩ := h
    refine mL_7 (pc := 105) hF hP (f := (upd (g 7) s1.toNatClampNeg s2)) rfl hi_105 dX9_readsIf_105 ?_
    refine lv_if_ne (pc := 106) (tgt := 115) hx hb dX9_readsIf_106 (by decide) (fun c_106 => ?_) (fun c_106 => ?_)
    · have h := h.2 c_106
      refine lv_aload_n (pc := 115) hx hb dX9_readsIf_115 rfl (lv_at hl 0 rfl) ?_
      refine lv_dup (pc := 116) hx hb dX9_readsIf_116 rfl ?_
      refine mG_1 (pc := 117) (v := (x 1)) hF hP rfl dX9_readsIf_117 ?_
      refine lv_iconst (pc := 120) (v := 1) hx hb dX9_readsIf_120 (by decide) ?_
      refine lv_iadd (pc := 121) hx hb dX9_readsIf_121 ?_
      refine mP_1 (pc := 122) hF hP hD hS dX9_readsIf_122 (fun H locs hP hD hS => ?_)
      refine lv_aload_n (pc := 125) hx hb dX9_readsIf_125 rfl (lv_at hl 0 rfl) ?_
      refine mVb (pc := 126) (x := (va_up x 1 ((x 1) + 1))) (g := (va_up g 7 (upd (g 7) s1.toNatClampNeg s2))) [] hF (kX9_blanks (va_up x 1 ((x 1) + 1)) (va_up g 7 (upd (g 7) s1.toNatClampNeg s2)) h) (cwX9_X9_blanks hts ⟨Nat.le_of_ble_eq_true rfl, Nat.le_of_ble_eq_true rfl⟩) hP hD hS rfl rfl hl.1 (Nat.le_of_ble_eq_true rfl) dX9_readsIf_126 ⟨Nat.le_refl _, Nat.le_refl _⟩ (fun r_126 x_126 g_126 H locs hb_126 h hP hD hS => ?_)
      refine lv_if_ne (pc := 129) (tgt := 134) hx hb dX9_readsIf_129 (by decide) (fun c_129 => ?_) (fun c_129 => ?_)
      · have h := h.2 c_129
        refine lv_aload_n (pc := 134) hx hb dX9_readsIf_134 rfl (lv_at hl 0 rfl) ?_
        refine lv_aload_n (pc := 135) hx hb dX9_readsIf_135 rfl (lv_at hl 0 rfl) ?_
        refine mG_1 (pc := 136) (v := (x_126 1)) hF hP rfl dX9_readsIf_136 ?_
        refine mVip (pc := 139) (x := x_126) (g := g_126) [.int (x_126 1)] hF (kX9_at x_126 g_126 (x_126 1) h) (cwX9_X9_at hts ⟨Nat.le_of_ble_eq_true rfl, Nat.le_of_ble_eq_true rfl⟩) hP hD hS rfl rfl hl.1 (Nat.le_of_ble_eq_true rfl) dX9_readsIf_139 ⟨Nat.le_refl _, Nat.le_refl _⟩ (fun r_139 H locs h hP hD hS => ?_)
        refine lv_bipush (pc := 142) (v := 45) hx hb dX9_readsIf_142 (by decide) ?_
        refine lv_icmp_ne (pc := 144) (tgt := 151) hx hb dX9_readsIf_144 (by decide) (fun c_144 => ?_) (fun c_144 => ?_)
        · have h := h.2 c_144
          refine lv_iconst (pc := 151) (v := 0) hx hb dX9_readsIf_151 (by decide) ?_
          exact J152 x_126 g_126 0 h _ _ _ hP hD hS (lv_sub hl [0] rfl)
        · have h := h.1 c_144
          refine lv_iconst (pc := 147) (v := 1) hx hb dX9_readsIf_147 (by decide) ?_
          refine lv_goto (pc := 148) (tgt := 152) hx hb dX9_readsIf_148 (by decide) ?_
          exact J152 x_126 g_126 1 h _ _ _ hP hD hS (lv_sub hl [0] rfl)
      · have h := h.1 c_129
        refine lv_iconst (pc := 132) (v := 0) hx hb dX9_readsIf_132 (by decide) ?_
        exact zirV (pc := 133) (Wd := mW E o ad cI cZ) (u := (x_126, g_126)) hx hb hr hlocks hAe hK hP hD hS rfl dX9_readsIf_133 (Nat.le_refl _) (Nat.le_refl _) ⟨(Or.inl rfl), h⟩
    · have h := h.1 c_106
      refine lv_aload_n (pc := 109) hx hb dX9_readsIf_109 rfl (lv_at hl 0 rfl) ?_
      refine mVv (pc := 110) (x := x) (g := (va_up g 7 (upd (g 7) s1.toNatClampNeg s2))) [] hF (kX9_fails x (va_up g 7 (upd (g 7) s1.toNatClampNeg s2)) h) (cwX9_X9_fails hts ⟨Nat.le_of_ble_eq_true rfl, Nat.le_of_ble_eq_true rfl⟩) hP hD hS rfl rfl hl.1 (Nat.le_of_ble_eq_true rfl) dX9_readsIf_110 ⟨Nat.le_refl _, Nat.le_refl _⟩ (fun x_110 g_110 H locs h hP hD hS => ?_)
      refine lv_iconst (pc := 113) (v := 0) hx hb dX9_readsIf_113 (by decide) ?_
      exact zirV (pc := 114) (Wd := mW E o ad cI cZ) (u := (x_110, g_110)) hx hb hr hlocks hAe hK hP hD hS rfl dX9_readsIf_114 (Nat.le_refl _) (Nat.le_refl _) ⟨(Or.inl rfl), h⟩
  unfold wX9_readsIf at h
  refine lv_aload_n (pc := 0) hx hb dX9_readsIf_0 rfl (lv_at hl 0 rfl) ?_
  refine mG_7 (pc := 1) hF hP dX9_readsIf_1 ?_
  refine lv_iconst (pc := 4) (v := 1) hx hb dX9_readsIf_4 (by decide) ?_
  refine lv_iconst (pc := 5) (v := 0) hx hb dX9_readsIf_5 (by decide) ?_
  obtain ⟨hi_6, h⟩ := h
  refine mP_7 (pc := 6) hF hP hD hS (f := (g0 7)) rfl hi_6 dX9_readsIf_6 (fun H locs hP hD hS => ?_)
  refine lv_aload_n (pc := 7) hx hb dX9_readsIf_7 rfl (lv_at hl 0 rfl) ?_
  refine mG_7 (pc := 8) hF hP dX9_readsIf_8 ?_
  refine lv_iconst (pc := 11) (v := 2) hx hb dX9_readsIf_11 (by decide) ?_
  refine lv_iconst (pc := 12) (v := 0) hx hb dX9_readsIf_12 (by decide) ?_
  obtain ⟨hi_13, h⟩ := h
  refine mP_7 (pc := 13) hF hP hD hS (f := (upd (g0 7) (1 : Int32).toNatClampNeg 0)) rfl hi_13 dX9_readsIf_13 (fun H locs hP hD hS => ?_)
  refine lv_aload_n (pc := 14) hx hb dX9_readsIf_14 rfl (lv_at hl 0 rfl) ?_
  refine lv_aload_n (pc := 15) hx hb dX9_readsIf_15 rfl (lv_at hl 0 rfl) ?_
  refine mG_1 (pc := 16) (v := (x0 1)) hF hP rfl dX9_readsIf_16 ?_
  refine mVip (pc := 19) (x := x0) (g := (va_up (va_up g0 7 (upd (g0 7) (1 : Int32).toNatClampNeg 0)) 7 (upd (upd (g0 7) (1 : Int32).toNatClampNeg 0) (2 : Int32).toNatClampNeg 0))) [.int (x0 1)] hF (kX9_at x0 (va_up (va_up g0 7 (upd (g0 7) (1 : Int32).toNatClampNeg 0)) 7 (upd (upd (g0 7) (1 : Int32).toNatClampNeg 0) (2 : Int32).toNatClampNeg 0)) (x0 1) h) (cwX9_X9_at hts ⟨Nat.le_of_ble_eq_true rfl, Nat.le_of_ble_eq_true rfl⟩) hP hD hS rfl rfl hl.1 (Nat.le_of_ble_eq_true rfl) dX9_readsIf_19 ⟨Nat.le_refl _, Nat.le_refl _⟩ (fun r_19 H locs h hP hD hS => ?_)
  refine lv_bipush (pc := 22) (v := 105) hx hb dX9_readsIf_22 (by decide) ?_
  refine lv_icmp_eq (pc := 24) (tgt := 29) hx hb dX9_readsIf_24 (by decide) (fun c_24 => ?_) (fun c_24 => ?_)
  · have h := h.1 c_24
    refine lv_aload_n (pc := 29) hx hb dX9_readsIf_29 rfl (lv_at hl 0 rfl) ?_
    refine lv_bipush (pc := 30) (v := 105) hx hb dX9_readsIf_30 (by decide) ?_
    refine lv_bipush (pc := 32) (v := 102) hx hb dX9_readsIf_32 (by decide) ?_
    refine lv_iconst (pc := 34) (v := 0) hx hb dX9_readsIf_34 (by decide) ?_
    refine lv_iconst (pc := 35) (v := 0) hx hb dX9_readsIf_35 (by decide) ?_
    refine lv_iconst (pc := 36) (v := 0) hx hb dX9_readsIf_36 (by decide) ?_
    refine lv_iconst (pc := 37) (v := 0) hx hb dX9_readsIf_37 (by decide) ?_
    refine lv_iconst (pc := 38) (v := 0) hx hb dX9_readsIf_38 (by decide) ?_
    refine mVb (pc := 39) (x := x0) (g := (va_up (va_up g0 7 (upd (g0 7) (1 : Int32).toNatClampNeg 0)) 7 (upd (upd (g0 7) (1 : Int32).toNatClampNeg 0) (2 : Int32).toNatClampNeg 0))) [.int 105, .int 102, .int 0, .int 0, .int 0, .int 0, .int 0] hF (kX9_word x0 (va_up (va_up g0 7 (upd (g0 7) (1 : Int32).toNatClampNeg 0)) 7 (upd (upd (g0 7) (1 : Int32).toNatClampNeg 0) (2 : Int32).toNatClampNeg 0)) 105 102 0 0 0 0 0 h) (cwX9_X9_word hts ⟨Nat.le_of_ble_eq_true rfl, Nat.le_of_ble_eq_true rfl⟩) hP hD hS rfl rfl hl.1 (Nat.le_of_ble_eq_true rfl) dX9_readsIf_39 ⟨Nat.le_refl _, Nat.le_refl _⟩ (fun r_39 x_39 g_39 H locs hb_39 h hP hD hS => ?_)
    refine lv_if_eq (pc := 42) (tgt := 52) hx hb dX9_readsIf_42 (by decide) (fun c_42 => ?_) (fun c_42 => ?_)
    · have h := h.1 c_42
      refine lv_iconst (pc := 52) (v := 0) hx hb dX9_readsIf_52 (by decide) ?_
      exact zirV (pc := 53) (Wd := mW E o ad cI cZ) (u := (x_39, g_39)) hx hb hr hlocks hAe hK hP hD hS rfl dX9_readsIf_53 (Nat.le_refl _) (Nat.le_refl _) ⟨(Or.inl rfl), h⟩
    · have h := h.2 c_42
      refine lv_aload_n (pc := 45) hx hb dX9_readsIf_45 rfl (lv_at hl 0 rfl) ?_
      refine mVb (pc := 46) (x := x_39) (g := g_39) [] hF (kX9_blanks x_39 g_39 h) (cwX9_X9_blanks hts ⟨Nat.le_of_ble_eq_true rfl, Nat.le_of_ble_eq_true rfl⟩) hP hD hS rfl rfl hl.1 (Nat.le_of_ble_eq_true rfl) dX9_readsIf_46 ⟨Nat.le_refl _, Nat.le_refl _⟩ (fun r_46 x_46 g_46 H locs hb_46 h hP hD hS => ?_)
      refine lv_if_ne (pc := 49) (tgt := 54) hx hb dX9_readsIf_49 (by decide) (fun c_49 => ?_) (fun c_49 => ?_)
      · have h := h.2 c_49
        refine lv_aload_n (pc := 54) hx hb dX9_readsIf_54 rfl (lv_at hl 0 rfl) ?_
        refine lv_aload_n (pc := 55) hx hb dX9_readsIf_55 rfl (lv_at hl 0 rfl) ?_
        refine mG_1 (pc := 56) (v := (x_46 1)) hF hP rfl dX9_readsIf_56 ?_
        refine mVip (pc := 59) (x := x_46) (g := g_46) [.int (x_46 1)] hF (kX9_at x_46 g_46 (x_46 1) h) (cwX9_X9_at hts ⟨Nat.le_of_ble_eq_true rfl, Nat.le_of_ble_eq_true rfl⟩) hP hD hS rfl rfl hl.1 (Nat.le_of_ble_eq_true rfl) dX9_readsIf_59 ⟨Nat.le_refl _, Nat.le_refl _⟩ (fun r_59 H locs h hP hD hS => ?_)
        refine lv_istore_n (pc := 62) (lv' := [(1, .int r_59), (0, .ref o)]) hx hb dX9_readsIf_62 rfl hl (by decide) rfl (fun ls hl => ?_)
        refine lv_aload_n (pc := 63) hx hb dX9_readsIf_63 rfl (lv_at hl 1 rfl) ?_
        refine mG_7 (pc := 64) hF hP dX9_readsIf_64 ?_
        refine lv_iconst (pc := 67) (v := 1) hx hb dX9_readsIf_67 (by decide) ?_
        refine lv_iload_n (pc := 68) hx hb dX9_readsIf_68 rfl (lv_at hl 0 rfl) ?_
        refine lv_bipush (pc := 69) (v := 60) hx hb dX9_readsIf_69 (by decide) ?_
        refine lv_icmp_ne (pc := 71) (tgt := 78) hx hb dX9_readsIf_71 (by decide) (fun c_71 => ?_) (fun c_71 => ?_)
        · have h := h.2 c_71
          refine lv_iload_n (pc := 78) hx hb dX9_readsIf_78 rfl (lv_at hl 0 rfl) ?_
          refine lv_bipush (pc := 79) (v := 61) hx hb dX9_readsIf_79 (by decide) ?_
          refine lv_icmp_ne (pc := 81) (tgt := 88) hx hb dX9_readsIf_81 (by decide) (fun c_81 => ?_) (fun c_81 => ?_)
          · have h := h.2 c_81
            refine lv_iload_n (pc := 88) hx hb dX9_readsIf_88 rfl (lv_at hl 0 rfl) ?_
            refine lv_bipush (pc := 89) (v := 62) hx hb dX9_readsIf_89 (by decide) ?_
            refine lv_icmp_ne (pc := 91) (tgt := 98) hx hb dX9_readsIf_91 (by decide) (fun c_91 => ?_) (fun c_91 => ?_)
            · have h := h.2 c_91
              refine lv_iconst (pc := 98) (v := 0) hx hb dX9_readsIf_98 (by decide) ?_
              exact J99 x_46 g_46 1 0 h _ _ _ hP hD hS (lv_sub hl [1] rfl)
            · have h := h.1 c_91
              refine lv_iconst (pc := 94) (v := 3) hx hb dX9_readsIf_94 (by decide) ?_
              refine lv_goto (pc := 95) (tgt := 99) hx hb dX9_readsIf_95 (by decide) ?_
              exact J99 x_46 g_46 1 3 h _ _ _ hP hD hS (lv_sub hl [1] rfl)
          · have h := h.1 c_81
            refine lv_iconst (pc := 84) (v := 2) hx hb dX9_readsIf_84 (by decide) ?_
            refine lv_goto (pc := 85) (tgt := 99) hx hb dX9_readsIf_85 (by decide) ?_
            exact J99 x_46 g_46 1 2 h _ _ _ hP hD hS (lv_sub hl [1] rfl)
        · have h := h.1 c_71
          refine lv_iconst (pc := 74) (v := 1) hx hb dX9_readsIf_74 (by decide) ?_
          refine lv_goto (pc := 75) (tgt := 99) hx hb dX9_readsIf_75 (by decide) ?_
          exact J99 x_46 g_46 1 1 h _ _ _ hP hD hS (lv_sub hl [1] rfl)
      · have h := h.1 c_49
        refine lv_iconst (pc := 52) (v := 0) hx hb dX9_readsIf_52 (by decide) ?_
        exact zirV (pc := 53) (Wd := mW E o ad cI cZ) (u := (x_46, g_46)) hx hb hr hlocks hAe hK hP hD hS rfl dX9_readsIf_53 (Nat.le_refl _) (Nat.le_refl _) ⟨(Or.inl rfl), h⟩
  · have h := h.2 c_24
    refine lv_iconst (pc := 27) (v := 1) hx hb dX9_readsIf_27 (by decide) ?_
    exact zirV (pc := 28) (Wd := mW E o ad cI cZ) (u := (x0, (va_up (va_up g0 7 (upd (g0 7) (1 : Int32).toNatClampNeg 0)) 7 (upd (upd (g0 7) (1 : Int32).toNatClampNeg 0) (2 : Int32).toNatClampNeg 0)))) hx hb hr hlocks hAe hK hP hD hS rfl dX9_readsIf_28 (Nat.le_refl _) (Nat.le_refl _) ⟨(Or.inr rfl), h⟩

def jX9_readsJoin_23 (Φ : Int32 → (Nat → Int32) → (Nat → Nat → Int32) → Prop) (x : Nat → Int32) (g : Nat → Nat → Int32) (s1 s2 : Int32) : Prop := (vp_in s1 9 ∧ (vp_in 3 9 ∧ ((((upd (g 7) s1.toNatClampNeg s2) (3 : Int32).toNatClampNeg) = 0 → (Φ 1 x (va_up g 7 (upd (g 7) s1.toNatClampNeg s2)))) ∧ (¬ ((upd (g 7) s1.toNatClampNeg s2) (3 : Int32).toNatClampNeg) = 0 → (wX9_word x (va_up g 7 (upd (g 7) s1.toNatClampNeg s2)) 106 111 105 110 0 0 0 (fun r_45 x_45 g_45 => ((r_45 = 0 → (Φ 0 x_45 g_45)) ∧ (¬ r_45 = 0 → (wX9_blanks x_45 g_45 (fun r_52 x_52 g_52 => ((r_52 = 0 → (Φ 0 x_52 g_52)) ∧ (¬ r_52 = 0 → (Φ 1 x_52 g_52)))))))))))))
def wX9_readsJoin (x : Nat → Int32) (g : Nat → Nat → Int32) (Φ : Int32 → (Nat → Int32) → (Nat → Nat → Int32) → Prop) : Prop := (wX9_at x g (x 1) (fun r_10 => ((r_10 = 106 → (jX9_readsJoin_23 Φ x g 3 1)) ∧ (¬ r_10 = 106 → (jX9_readsJoin_23 Φ x g 3 0)))))
set_option maxRecDepth 100000 in
set_option maxHeartbeats 4000000 in
theorem kX9_readsJoin {l : Launch} {D : va_G} {E : va_W} {o : Nat} {ad : Nat → Nat} {cI cZ : ClassId} {sz : Nat} (x0 : Nat → Int32) (g0 : Nat → Nat → Int32) {Φ : Int32 → (Nat → Int32) → (Nat → Nat → Int32) → Prop} (h : wX9_readsJoin x0 g0 Φ) : Met l yX9_readsJoin (zws yX9_readsJoin cX9_readsJoin 1 (some .boolean)) { frames := 2, cells := 0, slots := 0, locals := 50 } (zPc D (mT cI cZ) zX0 (mW E o ad cI cZ (x0, g0)) [.ref o] sz) (zQi D (mT cI cZ) (mW E o ad cI cZ) (fun r u => (r = 0 ∨ r = 1) ∧ Φ r u.1 u.2) (mW E o ad cI cZ (x0, g0)) sz) 0 0 (va_A (mW E o ad cI cZ (x0, g0)) sz) := by
  refine zMet (by decide) (Nat.le_of_ble_eq_true rfl) ?_
  intro p e s m args below meth c A hx hb hr hml hown hts hlocks hsz hAe hA hS hP hK hD hX ls hl
  subst hsz
  have hF : zFx p s m args c cX9_readsJoin RX9 A D (mT cI cZ) zX0 1 := ⟨hx, hb, hml, hown, hts, hA, hK, zX0_cl, hX⟩
  have hl : lv_has ls 1 [(0, .ref o)] := hl
  have J23 : ∀ (x : Nat → Int32) (g : Nat → Nat → Int32) (s1 s2 : Int32), jX9_readsJoin_23 Φ x g s1 s2 → ∀ (H : Heap) (locs : List Loc) (ls : Array Slot), va_P D vwCl (mW E o ad cI cZ (x, g)) H → va_D A (mW E o ad cI cZ (x, g)) → va_S A s.heap H locs → lv_has ls 1 [(0, .ref o)] → W p l e { frames := 2, cells := 0, slots := 0, locals := 50 } s m args below meth c H locs 0 0 (MQ below (zQi D (mT cI cZ) (mW E o ad cI cZ) (fun r u => (r = 0 ∨ r = 1) ∧ Φ r u.1 u.2) (mW E o ad cI cZ (x0, g0)) s.heap.size) args s 0 0 (va_A (mW E o ad cI cZ (x0, g0)) s.heap.size)) (F0 m 23 ls [.int s2, .int s1, .ref (ad 7)]) := by
    intro x g s1 s2 h H locs ls hP hD hS hl
    unfold jX9_readsJoin_23 at h
    obtain ⟨hi_23, h⟩ := h
    refine mP_7 (pc := 23) hF hP hD hS (f := (g 7)) rfl hi_23 dX9_readsJoin_23 (fun H locs hP hD hS => ?_)
    refine lv_aload_n (pc := 24) hx hb dX9_readsJoin_24 rfl (lv_at hl 0 rfl) ?_
    refine mG_7 (pc := 25) hF hP dX9_readsJoin_25 ?_
    refine lv_iconst (pc := 28) (v := 3) hx hb dX9_readsJoin_28 (by decide) ?_
    obtain ⟨hi_29, h⟩ := h
    refine mL_7 (pc := 29) hF hP (f := (upd (g 7) s1.toNatClampNeg s2)) rfl hi_29 dX9_readsJoin_29 ?_
    refine lv_if_eq (pc := 30) (tgt := 58) hx hb dX9_readsJoin_30 (by decide) (fun c_30 => ?_) (fun c_30 => ?_)
    · have h := h.1 c_30
      refine lv_iconst (pc := 58) (v := 1) hx hb dX9_readsJoin_58 (by decide) ?_
      refine lv_goto (pc := 59) (tgt := 63) hx hb dX9_readsJoin_59 (by decide) ?_
      exact zirV (pc := 63) (Wd := mW E o ad cI cZ) (u := (x, (va_up g 7 (upd (g 7) s1.toNatClampNeg s2)))) hx hb hr hlocks hAe hK hP hD hS rfl dX9_readsJoin_63 (Nat.le_refl _) (Nat.le_refl _) ⟨(Or.inr rfl), h⟩
    · have h := h.2 c_30
      refine lv_aload_n (pc := 33) hx hb dX9_readsJoin_33 rfl (lv_at hl 0 rfl) ?_
      refine lv_bipush (pc := 34) (v := 106) hx hb dX9_readsJoin_34 (by decide) ?_
      refine lv_bipush (pc := 36) (v := 111) hx hb dX9_readsJoin_36 (by decide) ?_
      refine lv_bipush (pc := 38) (v := 105) hx hb dX9_readsJoin_38 (by decide) ?_
      refine lv_bipush (pc := 40) (v := 110) hx hb dX9_readsJoin_40 (by decide) ?_
      refine lv_iconst (pc := 42) (v := 0) hx hb dX9_readsJoin_42 (by decide) ?_
      refine lv_iconst (pc := 43) (v := 0) hx hb dX9_readsJoin_43 (by decide) ?_
      refine lv_iconst (pc := 44) (v := 0) hx hb dX9_readsJoin_44 (by decide) ?_
      refine mVb (pc := 45) (x := x) (g := (va_up g 7 (upd (g 7) s1.toNatClampNeg s2))) [.int 106, .int 111, .int 105, .int 110, .int 0, .int 0, .int 0] hF (kX9_word x (va_up g 7 (upd (g 7) s1.toNatClampNeg s2)) 106 111 105 110 0 0 0 h) (cwX9_X9_word hts ⟨Nat.le_of_ble_eq_true rfl, Nat.le_of_ble_eq_true rfl⟩) hP hD hS rfl rfl hl.1 (Nat.le_of_ble_eq_true rfl) dX9_readsJoin_45 ⟨Nat.le_refl _, Nat.le_refl _⟩ (fun r_45 x_45 g_45 H locs hb_45 h hP hD hS => ?_)
      refine lv_if_eq (pc := 48) (tgt := 62) hx hb dX9_readsJoin_48 (by decide) (fun c_48 => ?_) (fun c_48 => ?_)
      · have h := h.1 c_48
        refine lv_iconst (pc := 62) (v := 0) hx hb dX9_readsJoin_62 (by decide) ?_
        exact zirV (pc := 63) (Wd := mW E o ad cI cZ) (u := (x_45, g_45)) hx hb hr hlocks hAe hK hP hD hS rfl dX9_readsJoin_63 (Nat.le_refl _) (Nat.le_refl _) ⟨(Or.inl rfl), h⟩
      · have h := h.2 c_48
        refine lv_aload_n (pc := 51) hx hb dX9_readsJoin_51 rfl (lv_at hl 0 rfl) ?_
        refine mVb (pc := 52) (x := x_45) (g := g_45) [] hF (kX9_blanks x_45 g_45 h) (cwX9_X9_blanks hts ⟨Nat.le_of_ble_eq_true rfl, Nat.le_of_ble_eq_true rfl⟩) hP hD hS rfl rfl hl.1 (Nat.le_of_ble_eq_true rfl) dX9_readsJoin_52 ⟨Nat.le_refl _, Nat.le_refl _⟩ (fun r_52 x_52 g_52 H locs hb_52 h hP hD hS => ?_)
        refine lv_if_eq (pc := 55) (tgt := 62) hx hb dX9_readsJoin_55 (by decide) (fun c_55 => ?_) (fun c_55 => ?_)
        · have h := h.1 c_55
          refine lv_iconst (pc := 62) (v := 0) hx hb dX9_readsJoin_62 (by decide) ?_
          exact zirV (pc := 63) (Wd := mW E o ad cI cZ) (u := (x_52, g_52)) hx hb hr hlocks hAe hK hP hD hS rfl dX9_readsJoin_63 (Nat.le_refl _) (Nat.le_refl _) ⟨(Or.inl rfl), h⟩
        · have h := h.2 c_55
          refine lv_iconst (pc := 58) (v := 1) hx hb dX9_readsJoin_58 (by decide) ?_
          refine lv_goto (pc := 59) (tgt := 63) hx hb dX9_readsJoin_59 (by decide) ?_
          exact zirV (pc := 63) (Wd := mW E o ad cI cZ) (u := (x_52, g_52)) hx hb hr hlocks hAe hK hP hD hS rfl dX9_readsJoin_63 (Nat.le_refl _) (Nat.le_refl _) ⟨(Or.inr rfl), h⟩
  unfold wX9_readsJoin at h
  refine lv_aload_n (pc := 0) hx hb dX9_readsJoin_0 rfl (lv_at hl 0 rfl) ?_
  refine mG_7 (pc := 1) hF hP dX9_readsJoin_1 ?_
  refine lv_iconst (pc := 4) (v := 3) hx hb dX9_readsJoin_4 (by decide) ?_
  refine lv_aload_n (pc := 5) hx hb dX9_readsJoin_5 rfl (lv_at hl 0 rfl) ?_
  refine lv_aload_n (pc := 6) hx hb dX9_readsJoin_6 rfl (lv_at hl 0 rfl) ?_
  refine mG_1 (pc := 7) (v := (x0 1)) hF hP rfl dX9_readsJoin_7 ?_
  refine mVip (pc := 10) (x := x0) (g := g0) [.int (x0 1)] hF (kX9_at x0 g0 (x0 1) h) (cwX9_X9_at hts ⟨Nat.le_of_ble_eq_true rfl, Nat.le_of_ble_eq_true rfl⟩) hP hD hS rfl rfl hl.1 (Nat.le_of_ble_eq_true rfl) dX9_readsJoin_10 ⟨Nat.le_refl _, Nat.le_refl _⟩ (fun r_10 H locs h hP hD hS => ?_)
  refine lv_bipush (pc := 13) (v := 106) hx hb dX9_readsJoin_13 (by decide) ?_
  refine lv_icmp_ne (pc := 15) (tgt := 22) hx hb dX9_readsJoin_15 (by decide) (fun c_15 => ?_) (fun c_15 => ?_)
  · have h := h.2 c_15
    refine lv_iconst (pc := 22) (v := 0) hx hb dX9_readsJoin_22 (by decide) ?_
    exact J23 x0 g0 3 0 h _ _ _ hP hD hS (lv_sub hl [0] rfl)
  · have h := h.1 c_15
    refine lv_iconst (pc := 18) (v := 1) hx hb dX9_readsJoin_18 (by decide) ?_
    refine lv_goto (pc := 19) (tgt := 23) hx hb dX9_readsJoin_19 (by decide) ?_
    exact J23 x0 g0 3 1 h _ _ _ hP hD hS (lv_sub hl [0] rfl)

def jX9_readsWindows_168 (Φ : Int32 → (Nat → Int32) → (Nat → Nat → Int32) → Prop) (x : Nat → Int32) (g : Nat → Nat → Int32) (v3 : Int32) : Prop := ((v3 = 0 → (Φ 0 x g)) ∧ (¬ v3 = 0 → (wX9_blanks x g (fun r_173 x_173 g_173 => ((r_173 = 0 → (Φ 0 x_173 g_173)) ∧ (¬ r_173 = 0 → (wX9_number x_173 g_173 0 (fun r_181 x_181 g_181 => ((r_181 = 0 → (Φ 0 x_181 g_181)) ∧ (¬ r_181 = 0 → (vp_in 5 9 ∧ (vp_in 4 9 ∧ ((((upd (g_181 7) (5 : Int32).toNatClampNeg (x_181 3)) (4 : Int32).toNatClampNeg) = 1 → (wX9_blanks x_181 (va_up g_181 7 (upd (g_181 7) (5 : Int32).toNatClampNeg (x_181 3))) (fun r_210 x_210 g_210 => ((r_210 = 0 → (Φ 0 x_210 g_210)) ∧ (¬ r_210 = 0 → (wX9_number x_210 g_210 0 (fun r_218 x_218 g_218 => ((r_218 = 0 → (Φ 0 x_218 g_218)) ∧ (¬ r_218 = 0 → (vp_in 6 9 ∧ (Φ 1 x_218 (va_up g_218 7 (upd (g_218 7) (6 : Int32).toNatClampNeg (x_218 3)))))))))))))) ∧ (¬ ((upd (g_181 7) (5 : Int32).toNatClampNeg (x_181 3)) (4 : Int32).toNatClampNeg) = 1 → (Φ 1 x_181 (va_up g_181 7 (upd (g_181 7) (5 : Int32).toNatClampNeg (x_181 3))))))))))))))))))
def jX9_readsWindows_149 (Φ : Int32 → (Nat → Int32) → (Nat → Nat → Int32) → Prop) (x : Nat → Int32) (g : Nat → Nat → Int32) : Prop := (wX9_word x g 115 101 115 115 105 111 110 (fun r_164 x_164 g_164 => (jX9_readsWindows_168 Φ x_164 g_164 r_164)))
def jX9_readsWindows_89 (Φ : Int32 → (Nat → Int32) → (Nat → Nat → Int32) → Prop) (x : Nat → Int32) (g : Nat → Nat → Int32) (v1 v2 : Int32) : Prop := ((v1 = 102 → (wX9_word x g 102 105 120 101 100 0 0 (fun r_108 x_108 g_108 => (jX9_readsWindows_168 Φ x_108 g_108 r_108)))) ∧ (¬ v1 = 102 → ((v1 = 115 → ((v2 = 108 → (wX9_word x g 115 108 105 100 105 110 103 (fun r_142 x_142 g_142 => (jX9_readsWindows_168 Φ x_142 g_142 r_142)))) ∧ (¬ v2 = 108 → (jX9_readsWindows_149 Φ x g)))) ∧ (¬ v1 = 115 → (jX9_readsWindows_149 Φ x g)))))
def jX9_readsWindows_46 (Φ : Int32 → (Nat → Int32) → (Nat → Nat → Int32) → Prop) (x : Nat → Int32) (g : Nat → Nat → Int32) (v1 v2 s1 s2 : Int32) : Prop := (vp_in s1 9 ∧ (vp_in 6 9 ∧ ((v1 = 115 → ((v2 = 108 → (jX9_readsWindows_89 Φ x (va_up (va_up g 7 (upd (g 7) s1.toNatClampNeg s2)) 7 (upd (upd (g 7) s1.toNatClampNeg s2) (6 : Int32).toNatClampNeg 0)) v1 v2)) ∧ (¬ v2 = 108 → ((v2 = 101 → (jX9_readsWindows_89 Φ x (va_up (va_up g 7 (upd (g 7) s1.toNatClampNeg s2)) 7 (upd (upd (g 7) s1.toNatClampNeg s2) (6 : Int32).toNatClampNeg 0)) v1 v2)) ∧ (¬ v2 = 101 → (wX9_fails (va_up x 1 ((x 1) + 1)) (va_up (va_up g 7 (upd (g 7) s1.toNatClampNeg s2)) 7 (upd (upd (g 7) s1.toNatClampNeg s2) (6 : Int32).toNatClampNeg 0)) (fun x_84 g_84 => (Φ 0 x_84 g_84)))))))) ∧ (¬ v1 = 115 → (jX9_readsWindows_89 Φ x (va_up (va_up g 7 (upd (g 7) s1.toNatClampNeg s2)) 7 (upd (upd (g 7) s1.toNatClampNeg s2) (6 : Int32).toNatClampNeg 0)) v1 v2)))))
def wX9_readsWindows (x : Nat → Int32) (g : Nat → Nat → Int32) (Φ : Int32 → (Nat → Int32) → (Nat → Nat → Int32) → Prop) : Prop := (wX9_at x g (x 1) (fun r_5 => (wX9_at x g ((x 1) + 1) (fun r_16 => ((r_5 = 102 → (jX9_readsWindows_46 Φ x g r_5 r_16 4 0)) ∧ (¬ r_5 = 102 → ((r_16 = 108 → (jX9_readsWindows_46 Φ x g r_5 r_16 4 1)) ∧ (¬ r_16 = 108 → (jX9_readsWindows_46 Φ x g r_5 r_16 4 2)))))))))
set_option maxRecDepth 100000 in
set_option maxHeartbeats 4000000 in
theorem kX9_readsWindows {l : Launch} {D : va_G} {E : va_W} {o : Nat} {ad : Nat → Nat} {cI cZ : ClassId} {sz : Nat} (x0 : Nat → Int32) (g0 : Nat → Nat → Int32) {Φ : Int32 → (Nat → Int32) → (Nat → Nat → Int32) → Prop} (h : wX9_readsWindows x0 g0 Φ) : Met l yX9_readsWindows (zws yX9_readsWindows cX9_readsWindows 4 (some .boolean)) { frames := 2, cells := 0, slots := 0, locals := 50 } (zPc D (mT cI cZ) zX0 (mW E o ad cI cZ (x0, g0)) [.ref o] sz) (zQi D (mT cI cZ) (mW E o ad cI cZ) (fun r u => (r = 0 ∨ r = 1) ∧ Φ r u.1 u.2) (mW E o ad cI cZ (x0, g0)) sz) 0 0 (va_A (mW E o ad cI cZ (x0, g0)) sz) := by
  refine zMet (by decide) (Nat.le_of_ble_eq_true rfl) ?_
  intro p e s m args below meth c A hx hb hr hml hown hts hlocks hsz hAe hA hS hP hK hD hX ls hl
  subst hsz
  have hF : zFx p s m args c cX9_readsWindows RX9 A D (mT cI cZ) zX0 4 := ⟨hx, hb, hml, hown, hts, hA, hK, zX0_cl, hX⟩
  have hl : lv_has ls 4 [(0, .ref o)] := hl
  have J168 : ∀ (x : Nat → Int32) (g : Nat → Nat → Int32) (v3 : Int32), jX9_readsWindows_168 Φ x g v3 → ∀ (H : Heap) (locs : List Loc) (ls : Array Slot), va_P D vwCl (mW E o ad cI cZ (x, g)) H → va_D A (mW E o ad cI cZ (x, g)) → va_S A s.heap H locs → lv_has ls 4 [(0, .ref o), (3, .int v3)] → W p l e { frames := 2, cells := 0, slots := 0, locals := 50 } s m args below meth c H locs 0 0 (MQ below (zQi D (mT cI cZ) (mW E o ad cI cZ) (fun r u => (r = 0 ∨ r = 1) ∧ Φ r u.1 u.2) (mW E o ad cI cZ (x0, g0)) s.heap.size) args s 0 0 (va_A (mW E o ad cI cZ (x0, g0)) s.heap.size)) (F0 m 168 ls []) := by
    intro x g v3 h H locs ls hP hD hS hl
    unfold jX9_readsWindows_168 at h
    refine lv_iload_n (pc := 168) hx hb dX9_readsWindows_168 rfl (lv_at hl 1 rfl) ?_
    refine lv_if_eq (pc := 169) (tgt := 187) hx hb dX9_readsWindows_169 (by decide) (fun c_169 => ?_) (fun c_169 => ?_)
    · have h := h.1 c_169
      refine lv_iconst (pc := 187) (v := 0) hx hb dX9_readsWindows_187 (by decide) ?_
      exact zirV (pc := 188) (Wd := mW E o ad cI cZ) (u := (x, g)) hx hb hr hlocks hAe hK hP hD hS rfl dX9_readsWindows_188 (Nat.le_refl _) (Nat.le_refl _) ⟨(Or.inl rfl), h⟩
    · have h := h.2 c_169
      refine lv_aload_n (pc := 172) hx hb dX9_readsWindows_172 rfl (lv_at hl 0 rfl) ?_
      refine mVb (pc := 173) (x := x) (g := g) [] hF (kX9_blanks x g h) (cwX9_X9_blanks hts ⟨Nat.le_of_ble_eq_true rfl, Nat.le_of_ble_eq_true rfl⟩) hP hD hS rfl rfl hl.1 (Nat.le_of_ble_eq_true rfl) dX9_readsWindows_173 ⟨Nat.le_refl _, Nat.le_refl _⟩ (fun r_173 x_173 g_173 H locs hb_173 h hP hD hS => ?_)
      refine lv_if_eq (pc := 176) (tgt := 187) hx hb dX9_readsWindows_176 (by decide) (fun c_176 => ?_) (fun c_176 => ?_)
      · have h := h.1 c_176
        refine lv_iconst (pc := 187) (v := 0) hx hb dX9_readsWindows_187 (by decide) ?_
        exact zirV (pc := 188) (Wd := mW E o ad cI cZ) (u := (x_173, g_173)) hx hb hr hlocks hAe hK hP hD hS rfl dX9_readsWindows_188 (Nat.le_refl _) (Nat.le_refl _) ⟨(Or.inl rfl), h⟩
      · have h := h.2 c_176
        refine lv_aload_n (pc := 179) hx hb dX9_readsWindows_179 rfl (lv_at hl 0 rfl) ?_
        refine lv_iconst (pc := 180) (v := 0) hx hb dX9_readsWindows_180 (by decide) ?_
        refine mVb (pc := 181) (x := x_173) (g := g_173) [.int 0] hF (kX9_number x_173 g_173 0 h) (cwX9_X9_number hts ⟨Nat.le_of_ble_eq_true rfl, Nat.le_of_ble_eq_true rfl⟩) hP hD hS rfl rfl hl.1 (Nat.le_of_ble_eq_true rfl) dX9_readsWindows_181 ⟨Nat.le_refl _, Nat.le_refl _⟩ (fun r_181 x_181 g_181 H locs hb_181 h hP hD hS => ?_)
        refine lv_if_ne (pc := 184) (tgt := 189) hx hb dX9_readsWindows_184 (by decide) (fun c_184 => ?_) (fun c_184 => ?_)
        · have h := h.2 c_184
          refine lv_aload_n (pc := 189) hx hb dX9_readsWindows_189 rfl (lv_at hl 0 rfl) ?_
          refine mG_7 (pc := 190) hF hP dX9_readsWindows_190 ?_
          refine lv_iconst (pc := 193) (v := 5) hx hb dX9_readsWindows_193 (by decide) ?_
          refine lv_aload_n (pc := 194) hx hb dX9_readsWindows_194 rfl (lv_at hl 0 rfl) ?_
          refine mG_3 (pc := 195) (v := (x_181 3)) hF hP rfl dX9_readsWindows_195 ?_
          obtain ⟨hi_198, h⟩ := h
          refine mP_7 (pc := 198) hF hP hD hS (f := (g_181 7)) rfl hi_198 dX9_readsWindows_198 (fun H locs hP hD hS => ?_)
          refine lv_aload_n (pc := 199) hx hb dX9_readsWindows_199 rfl (lv_at hl 0 rfl) ?_
          refine mG_7 (pc := 200) hF hP dX9_readsWindows_200 ?_
          refine lv_iconst (pc := 203) (v := 4) hx hb dX9_readsWindows_203 (by decide) ?_
          obtain ⟨hi_204, h⟩ := h
          refine mL_7 (pc := 204) hF hP (f := (upd (g_181 7) (5 : Int32).toNatClampNeg (x_181 3))) rfl hi_204 dX9_readsWindows_204 ?_
          refine lv_iconst (pc := 205) (v := 1) hx hb dX9_readsWindows_205 (by decide) ?_
          refine lv_icmp_ne (pc := 206) (tgt := 237) hx hb dX9_readsWindows_206 (by decide) (fun c_206 => ?_) (fun c_206 => ?_)
          · have h := h.2 c_206
            refine lv_iconst (pc := 237) (v := 1) hx hb dX9_readsWindows_237 (by decide) ?_
            exact zirV (pc := 238) (Wd := mW E o ad cI cZ) (u := (x_181, (va_up g_181 7 (upd (g_181 7) (5 : Int32).toNatClampNeg (x_181 3))))) hx hb hr hlocks hAe hK hP hD hS rfl dX9_readsWindows_238 (Nat.le_refl _) (Nat.le_refl _) ⟨(Or.inr rfl), h⟩
          · have h := h.1 c_206
            refine lv_aload_n (pc := 209) hx hb dX9_readsWindows_209 rfl (lv_at hl 0 rfl) ?_
            refine mVb (pc := 210) (x := x_181) (g := (va_up g_181 7 (upd (g_181 7) (5 : Int32).toNatClampNeg (x_181 3)))) [] hF (kX9_blanks x_181 (va_up g_181 7 (upd (g_181 7) (5 : Int32).toNatClampNeg (x_181 3))) h) (cwX9_X9_blanks hts ⟨Nat.le_of_ble_eq_true rfl, Nat.le_of_ble_eq_true rfl⟩) hP hD hS rfl rfl hl.1 (Nat.le_of_ble_eq_true rfl) dX9_readsWindows_210 ⟨Nat.le_refl _, Nat.le_refl _⟩ (fun r_210 x_210 g_210 H locs hb_210 h hP hD hS => ?_)
            refine lv_if_eq (pc := 213) (tgt := 224) hx hb dX9_readsWindows_213 (by decide) (fun c_213 => ?_) (fun c_213 => ?_)
            · have h := h.1 c_213
              refine lv_iconst (pc := 224) (v := 0) hx hb dX9_readsWindows_224 (by decide) ?_
              exact zirV (pc := 225) (Wd := mW E o ad cI cZ) (u := (x_210, g_210)) hx hb hr hlocks hAe hK hP hD hS rfl dX9_readsWindows_225 (Nat.le_refl _) (Nat.le_refl _) ⟨(Or.inl rfl), h⟩
            · have h := h.2 c_213
              refine lv_aload_n (pc := 216) hx hb dX9_readsWindows_216 rfl (lv_at hl 0 rfl) ?_
              refine lv_iconst (pc := 217) (v := 0) hx hb dX9_readsWindows_217 (by decide) ?_
              refine mVb (pc := 218) (x := x_210) (g := g_210) [.int 0] hF (kX9_number x_210 g_210 0 h) (cwX9_X9_number hts ⟨Nat.le_of_ble_eq_true rfl, Nat.le_of_ble_eq_true rfl⟩) hP hD hS rfl rfl hl.1 (Nat.le_of_ble_eq_true rfl) dX9_readsWindows_218 ⟨Nat.le_refl _, Nat.le_refl _⟩ (fun r_218 x_218 g_218 H locs hb_218 h hP hD hS => ?_)
              refine lv_if_ne (pc := 221) (tgt := 226) hx hb dX9_readsWindows_221 (by decide) (fun c_221 => ?_) (fun c_221 => ?_)
              · have h := h.2 c_221
                refine lv_aload_n (pc := 226) hx hb dX9_readsWindows_226 rfl (lv_at hl 0 rfl) ?_
                refine mG_7 (pc := 227) hF hP dX9_readsWindows_227 ?_
                refine lv_bipush (pc := 230) (v := 6) hx hb dX9_readsWindows_230 (by decide) ?_
                refine lv_aload_n (pc := 232) hx hb dX9_readsWindows_232 rfl (lv_at hl 0 rfl) ?_
                refine mG_3 (pc := 233) (v := (x_218 3)) hF hP rfl dX9_readsWindows_233 ?_
                obtain ⟨hi_236, h⟩ := h
                refine mP_7 (pc := 236) hF hP hD hS (f := (g_218 7)) rfl hi_236 dX9_readsWindows_236 (fun H locs hP hD hS => ?_)
                refine lv_iconst (pc := 237) (v := 1) hx hb dX9_readsWindows_237 (by decide) ?_
                exact zirV (pc := 238) (Wd := mW E o ad cI cZ) (u := (x_218, (va_up g_218 7 (upd (g_218 7) (6 : Int32).toNatClampNeg (x_218 3))))) hx hb hr hlocks hAe hK hP hD hS rfl dX9_readsWindows_238 (Nat.le_refl _) (Nat.le_refl _) ⟨(Or.inr rfl), h⟩
              · have h := h.1 c_221
                refine lv_iconst (pc := 224) (v := 0) hx hb dX9_readsWindows_224 (by decide) ?_
                exact zirV (pc := 225) (Wd := mW E o ad cI cZ) (u := (x_218, g_218)) hx hb hr hlocks hAe hK hP hD hS rfl dX9_readsWindows_225 (Nat.le_refl _) (Nat.le_refl _) ⟨(Or.inl rfl), h⟩
        · have h := h.1 c_184
          refine lv_iconst (pc := 187) (v := 0) hx hb dX9_readsWindows_187 (by decide) ?_
          exact zirV (pc := 188) (Wd := mW E o ad cI cZ) (u := (x_181, g_181)) hx hb hr hlocks hAe hK hP hD hS rfl dX9_readsWindows_188 (Nat.le_refl _) (Nat.le_refl _) ⟨(Or.inl rfl), h⟩
  have J149 : ∀ (x : Nat → Int32) (g : Nat → Nat → Int32), jX9_readsWindows_149 Φ x g → ∀ (H : Heap) (locs : List Loc) (ls : Array Slot), va_P D vwCl (mW E o ad cI cZ (x, g)) H → va_D A (mW E o ad cI cZ (x, g)) → va_S A s.heap H locs → lv_has ls 4 [(0, .ref o)] → W p l e { frames := 2, cells := 0, slots := 0, locals := 50 } s m args below meth c H locs 0 0 (MQ below (zQi D (mT cI cZ) (mW E o ad cI cZ) (fun r u => (r = 0 ∨ r = 1) ∧ Φ r u.1 u.2) (mW E o ad cI cZ (x0, g0)) s.heap.size) args s 0 0 (va_A (mW E o ad cI cZ (x0, g0)) s.heap.size)) (F0 m 149 ls []) := by
    intro x g  h H locs ls hP hD hS hl
    unfold jX9_readsWindows_149 at h
    refine lv_aload_n (pc := 149) hx hb dX9_readsWindows_149 rfl (lv_at hl 0 rfl) ?_
    refine lv_bipush (pc := 150) (v := 115) hx hb dX9_readsWindows_150 (by decide) ?_
    refine lv_bipush (pc := 152) (v := 101) hx hb dX9_readsWindows_152 (by decide) ?_
    refine lv_bipush (pc := 154) (v := 115) hx hb dX9_readsWindows_154 (by decide) ?_
    refine lv_bipush (pc := 156) (v := 115) hx hb dX9_readsWindows_156 (by decide) ?_
    refine lv_bipush (pc := 158) (v := 105) hx hb dX9_readsWindows_158 (by decide) ?_
    refine lv_bipush (pc := 160) (v := 111) hx hb dX9_readsWindows_160 (by decide) ?_
    refine lv_bipush (pc := 162) (v := 110) hx hb dX9_readsWindows_162 (by decide) ?_
    refine mVb (pc := 164) (x := x) (g := g) [.int 115, .int 101, .int 115, .int 115, .int 105, .int 111, .int 110] hF (kX9_word x g 115 101 115 115 105 111 110 h) (cwX9_X9_word hts ⟨Nat.le_of_ble_eq_true rfl, Nat.le_of_ble_eq_true rfl⟩) hP hD hS rfl rfl hl.1 (Nat.le_of_ble_eq_true rfl) dX9_readsWindows_164 ⟨Nat.le_refl _, Nat.le_refl _⟩ (fun r_164 x_164 g_164 H locs hb_164 h hP hD hS => ?_)
    refine lv_istore_n (pc := 167) (lv' := [(3, .int r_164), (0, .ref o)]) hx hb dX9_readsWindows_167 rfl hl (by decide) rfl (fun ls hl => ?_)
    exact J168 x_164 g_164 r_164 h _ _ _ hP hD hS (lv_sub hl [1, 0] rfl)
  have J89 : ∀ (x : Nat → Int32) (g : Nat → Nat → Int32) (v1 v2 : Int32), jX9_readsWindows_89 Φ x g v1 v2 → ∀ (H : Heap) (locs : List Loc) (ls : Array Slot), va_P D vwCl (mW E o ad cI cZ (x, g)) H → va_D A (mW E o ad cI cZ (x, g)) → va_S A s.heap H locs → lv_has ls 4 [(0, .ref o), (1, .int v1), (2, .int v2)] → W p l e { frames := 2, cells := 0, slots := 0, locals := 50 } s m args below meth c H locs 0 0 (MQ below (zQi D (mT cI cZ) (mW E o ad cI cZ) (fun r u => (r = 0 ∨ r = 1) ∧ Φ r u.1 u.2) (mW E o ad cI cZ (x0, g0)) s.heap.size) args s 0 0 (va_A (mW E o ad cI cZ (x0, g0)) s.heap.size)) (F0 m 89 ls []) := by
    intro x g v1 v2 h H locs ls hP hD hS hl
    unfold jX9_readsWindows_89 at h
    refine lv_iload_n (pc := 89) hx hb dX9_readsWindows_89 rfl (lv_at hl 1 rfl) ?_
    refine lv_bipush (pc := 90) (v := 102) hx hb dX9_readsWindows_90 (by decide) ?_
    refine lv_icmp_ne (pc := 92) (tgt := 115) hx hb dX9_readsWindows_92 (by decide) (fun c_92 => ?_) (fun c_92 => ?_)
    · have h := h.2 c_92
      refine lv_iload_n (pc := 115) hx hb dX9_readsWindows_115 rfl (lv_at hl 1 rfl) ?_
      refine lv_bipush (pc := 116) (v := 115) hx hb dX9_readsWindows_116 (by decide) ?_
      refine lv_icmp_ne (pc := 118) (tgt := 149) hx hb dX9_readsWindows_118 (by decide) (fun c_118 => ?_) (fun c_118 => ?_)
      · have h := h.2 c_118
        exact J149 x g h _ _ _ hP hD hS (lv_sub hl [0] rfl)
      · have h := h.1 c_118
        refine lv_iload_n (pc := 121) hx hb dX9_readsWindows_121 rfl (lv_at hl 2 rfl) ?_
        refine lv_bipush (pc := 122) (v := 108) hx hb dX9_readsWindows_122 (by decide) ?_
        refine lv_icmp_ne (pc := 124) (tgt := 149) hx hb dX9_readsWindows_124 (by decide) (fun c_124 => ?_) (fun c_124 => ?_)
        · have h := h.2 c_124
          exact J149 x g h _ _ _ hP hD hS (lv_sub hl [0] rfl)
        · have h := h.1 c_124
          refine lv_aload_n (pc := 127) hx hb dX9_readsWindows_127 rfl (lv_at hl 0 rfl) ?_
          refine lv_bipush (pc := 128) (v := 115) hx hb dX9_readsWindows_128 (by decide) ?_
          refine lv_bipush (pc := 130) (v := 108) hx hb dX9_readsWindows_130 (by decide) ?_
          refine lv_bipush (pc := 132) (v := 105) hx hb dX9_readsWindows_132 (by decide) ?_
          refine lv_bipush (pc := 134) (v := 100) hx hb dX9_readsWindows_134 (by decide) ?_
          refine lv_bipush (pc := 136) (v := 105) hx hb dX9_readsWindows_136 (by decide) ?_
          refine lv_bipush (pc := 138) (v := 110) hx hb dX9_readsWindows_138 (by decide) ?_
          refine lv_bipush (pc := 140) (v := 103) hx hb dX9_readsWindows_140 (by decide) ?_
          refine mVb (pc := 142) (x := x) (g := g) [.int 115, .int 108, .int 105, .int 100, .int 105, .int 110, .int 103] hF (kX9_word x g 115 108 105 100 105 110 103 h) (cwX9_X9_word hts ⟨Nat.le_of_ble_eq_true rfl, Nat.le_of_ble_eq_true rfl⟩) hP hD hS rfl rfl hl.1 (Nat.le_of_ble_eq_true rfl) dX9_readsWindows_142 ⟨Nat.le_refl _, Nat.le_refl _⟩ (fun r_142 x_142 g_142 H locs hb_142 h hP hD hS => ?_)
          refine lv_istore_n (pc := 145) (lv' := [(3, .int r_142), (0, .ref o), (1, .int v1), (2, .int v2)]) hx hb dX9_readsWindows_145 rfl hl (by decide) rfl (fun ls hl => ?_)
          refine lv_goto (pc := 146) (tgt := 168) hx hb dX9_readsWindows_146 (by decide) ?_
          exact J168 x_142 g_142 r_142 h _ _ _ hP hD hS (lv_sub hl [1, 0] rfl)
    · have h := h.1 c_92
      refine lv_aload_n (pc := 95) hx hb dX9_readsWindows_95 rfl (lv_at hl 0 rfl) ?_
      refine lv_bipush (pc := 96) (v := 102) hx hb dX9_readsWindows_96 (by decide) ?_
      refine lv_bipush (pc := 98) (v := 105) hx hb dX9_readsWindows_98 (by decide) ?_
      refine lv_bipush (pc := 100) (v := 120) hx hb dX9_readsWindows_100 (by decide) ?_
      refine lv_bipush (pc := 102) (v := 101) hx hb dX9_readsWindows_102 (by decide) ?_
      refine lv_bipush (pc := 104) (v := 100) hx hb dX9_readsWindows_104 (by decide) ?_
      refine lv_iconst (pc := 106) (v := 0) hx hb dX9_readsWindows_106 (by decide) ?_
      refine lv_iconst (pc := 107) (v := 0) hx hb dX9_readsWindows_107 (by decide) ?_
      refine mVb (pc := 108) (x := x) (g := g) [.int 102, .int 105, .int 120, .int 101, .int 100, .int 0, .int 0] hF (kX9_word x g 102 105 120 101 100 0 0 h) (cwX9_X9_word hts ⟨Nat.le_of_ble_eq_true rfl, Nat.le_of_ble_eq_true rfl⟩) hP hD hS rfl rfl hl.1 (Nat.le_of_ble_eq_true rfl) dX9_readsWindows_108 ⟨Nat.le_refl _, Nat.le_refl _⟩ (fun r_108 x_108 g_108 H locs hb_108 h hP hD hS => ?_)
      refine lv_istore_n (pc := 111) (lv' := [(3, .int r_108), (0, .ref o), (1, .int v1), (2, .int v2)]) hx hb dX9_readsWindows_111 rfl hl (by decide) rfl (fun ls hl => ?_)
      refine lv_goto (pc := 112) (tgt := 168) hx hb dX9_readsWindows_112 (by decide) ?_
      exact J168 x_108 g_108 r_108 h _ _ _ hP hD hS (lv_sub hl [1, 0] rfl)
  have J46 : ∀ (x : Nat → Int32) (g : Nat → Nat → Int32) (v1 v2 s1 s2 : Int32), jX9_readsWindows_46 Φ x g v1 v2 s1 s2 → ∀ (H : Heap) (locs : List Loc) (ls : Array Slot), va_P D vwCl (mW E o ad cI cZ (x, g)) H → va_D A (mW E o ad cI cZ (x, g)) → va_S A s.heap H locs → lv_has ls 4 [(0, .ref o), (1, .int v1), (2, .int v2)] → W p l e { frames := 2, cells := 0, slots := 0, locals := 50 } s m args below meth c H locs 0 0 (MQ below (zQi D (mT cI cZ) (mW E o ad cI cZ) (fun r u => (r = 0 ∨ r = 1) ∧ Φ r u.1 u.2) (mW E o ad cI cZ (x0, g0)) s.heap.size) args s 0 0 (va_A (mW E o ad cI cZ (x0, g0)) s.heap.size)) (F0 m 46 ls [.int s2, .int s1, .ref (ad 7)]) := by
    intro x g v1 v2 s1 s2 h H locs ls hP hD hS hl
    unfold jX9_readsWindows_46 at h
    obtain ⟨hi_46, h⟩ := h
    refine mP_7 (pc := 46) hF hP hD hS (f := (g 7)) rfl hi_46 dX9_readsWindows_46 (fun H locs hP hD hS => ?_)
    refine lv_aload_n (pc := 47) hx hb dX9_readsWindows_47 rfl (lv_at hl 0 rfl) ?_
    refine mG_7 (pc := 48) hF hP dX9_readsWindows_48 ?_
    refine lv_bipush (pc := 51) (v := 6) hx hb dX9_readsWindows_51 (by decide) ?_
    refine lv_iconst (pc := 53) (v := 0) hx hb dX9_readsWindows_53 (by decide) ?_
    obtain ⟨hi_54, h⟩ := h
    refine mP_7 (pc := 54) hF hP hD hS (f := (upd (g 7) s1.toNatClampNeg s2)) rfl hi_54 dX9_readsWindows_54 (fun H locs hP hD hS => ?_)
    refine lv_iload_n (pc := 55) hx hb dX9_readsWindows_55 rfl (lv_at hl 1 rfl) ?_
    refine lv_bipush (pc := 56) (v := 115) hx hb dX9_readsWindows_56 (by decide) ?_
    refine lv_icmp_ne (pc := 58) (tgt := 89) hx hb dX9_readsWindows_58 (by decide) (fun c_58 => ?_) (fun c_58 => ?_)
    · have h := h.2 c_58
      exact J89 x (va_up (va_up g 7 (upd (g 7) s1.toNatClampNeg s2)) 7 (upd (upd (g 7) s1.toNatClampNeg s2) (6 : Int32).toNatClampNeg 0)) v1 v2 h _ _ _ hP hD hS (lv_sub hl [0, 1, 2] rfl)
    · have h := h.1 c_58
      refine lv_iload_n (pc := 61) hx hb dX9_readsWindows_61 rfl (lv_at hl 2 rfl) ?_
      refine lv_bipush (pc := 62) (v := 108) hx hb dX9_readsWindows_62 (by decide) ?_
      refine lv_icmp_eq (pc := 64) (tgt := 89) hx hb dX9_readsWindows_64 (by decide) (fun c_64 => ?_) (fun c_64 => ?_)
      · have h := h.1 c_64
        exact J89 x (va_up (va_up g 7 (upd (g 7) s1.toNatClampNeg s2)) 7 (upd (upd (g 7) s1.toNatClampNeg s2) (6 : Int32).toNatClampNeg 0)) v1 v2 h _ _ _ hP hD hS (lv_sub hl [0, 1, 2] rfl)
      · have h := h.2 c_64
        refine lv_iload_n (pc := 67) hx hb dX9_readsWindows_67 rfl (lv_at hl 2 rfl) ?_
        refine lv_bipush (pc := 68) (v := 101) hx hb dX9_readsWindows_68 (by decide) ?_
        refine lv_icmp_eq (pc := 70) (tgt := 89) hx hb dX9_readsWindows_70 (by decide) (fun c_70 => ?_) (fun c_70 => ?_)
        · have h := h.1 c_70
          exact J89 x (va_up (va_up g 7 (upd (g 7) s1.toNatClampNeg s2)) 7 (upd (upd (g 7) s1.toNatClampNeg s2) (6 : Int32).toNatClampNeg 0)) v1 v2 h _ _ _ hP hD hS (lv_sub hl [0, 1, 2] rfl)
        · have h := h.2 c_70
          refine lv_aload_n (pc := 73) hx hb dX9_readsWindows_73 rfl (lv_at hl 0 rfl) ?_
          refine lv_dup (pc := 74) hx hb dX9_readsWindows_74 rfl ?_
          refine mG_1 (pc := 75) (v := (x 1)) hF hP rfl dX9_readsWindows_75 ?_
          refine lv_iconst (pc := 78) (v := 1) hx hb dX9_readsWindows_78 (by decide) ?_
          refine lv_iadd (pc := 79) hx hb dX9_readsWindows_79 ?_
          refine mP_1 (pc := 80) hF hP hD hS dX9_readsWindows_80 (fun H locs hP hD hS => ?_)
          refine lv_aload_n (pc := 83) hx hb dX9_readsWindows_83 rfl (lv_at hl 0 rfl) ?_
          refine mVv (pc := 84) (x := (va_up x 1 ((x 1) + 1))) (g := (va_up (va_up g 7 (upd (g 7) s1.toNatClampNeg s2)) 7 (upd (upd (g 7) s1.toNatClampNeg s2) (6 : Int32).toNatClampNeg 0))) [] hF (kX9_fails (va_up x 1 ((x 1) + 1)) (va_up (va_up g 7 (upd (g 7) s1.toNatClampNeg s2)) 7 (upd (upd (g 7) s1.toNatClampNeg s2) (6 : Int32).toNatClampNeg 0)) h) (cwX9_X9_fails hts ⟨Nat.le_of_ble_eq_true rfl, Nat.le_of_ble_eq_true rfl⟩) hP hD hS rfl rfl hl.1 (Nat.le_of_ble_eq_true rfl) dX9_readsWindows_84 ⟨Nat.le_refl _, Nat.le_refl _⟩ (fun x_84 g_84 H locs h hP hD hS => ?_)
          refine lv_iconst (pc := 87) (v := 0) hx hb dX9_readsWindows_87 (by decide) ?_
          exact zirV (pc := 88) (Wd := mW E o ad cI cZ) (u := (x_84, g_84)) hx hb hr hlocks hAe hK hP hD hS rfl dX9_readsWindows_88 (Nat.le_refl _) (Nat.le_refl _) ⟨(Or.inl rfl), h⟩
  unfold wX9_readsWindows at h
  refine lv_aload_n (pc := 0) hx hb dX9_readsWindows_0 rfl (lv_at hl 0 rfl) ?_
  refine lv_aload_n (pc := 1) hx hb dX9_readsWindows_1 rfl (lv_at hl 0 rfl) ?_
  refine mG_1 (pc := 2) (v := (x0 1)) hF hP rfl dX9_readsWindows_2 ?_
  refine mVip (pc := 5) (x := x0) (g := g0) [.int (x0 1)] hF (kX9_at x0 g0 (x0 1) h) (cwX9_X9_at hts ⟨Nat.le_of_ble_eq_true rfl, Nat.le_of_ble_eq_true rfl⟩) hP hD hS rfl rfl hl.1 (Nat.le_of_ble_eq_true rfl) dX9_readsWindows_5 ⟨Nat.le_refl _, Nat.le_refl _⟩ (fun r_5 H locs h hP hD hS => ?_)
  refine lv_istore_n (pc := 8) (lv' := [(1, .int r_5), (0, .ref o)]) hx hb dX9_readsWindows_8 rfl hl (by decide) rfl (fun ls hl => ?_)
  refine lv_aload_n (pc := 9) hx hb dX9_readsWindows_9 rfl (lv_at hl 1 rfl) ?_
  refine lv_aload_n (pc := 10) hx hb dX9_readsWindows_10 rfl (lv_at hl 1 rfl) ?_
  refine mG_1 (pc := 11) (v := (x0 1)) hF hP rfl dX9_readsWindows_11 ?_
  refine lv_iconst (pc := 14) (v := 1) hx hb dX9_readsWindows_14 (by decide) ?_
  refine lv_iadd (pc := 15) hx hb dX9_readsWindows_15 ?_
  refine mVip (pc := 16) (x := x0) (g := g0) [.int ((x0 1) + 1)] hF (kX9_at x0 g0 ((x0 1) + 1) h) (cwX9_X9_at hts ⟨Nat.le_of_ble_eq_true rfl, Nat.le_of_ble_eq_true rfl⟩) hP hD hS rfl rfl hl.1 (Nat.le_of_ble_eq_true rfl) dX9_readsWindows_16 ⟨Nat.le_refl _, Nat.le_refl _⟩ (fun r_16 H locs h hP hD hS => ?_)
  refine lv_istore_n (pc := 19) (lv' := [(2, .int r_16), (1, .int r_5), (0, .ref o)]) hx hb dX9_readsWindows_19 rfl hl (by decide) rfl (fun ls hl => ?_)
  refine lv_aload_n (pc := 20) hx hb dX9_readsWindows_20 rfl (lv_at hl 2 rfl) ?_
  refine mG_7 (pc := 21) hF hP dX9_readsWindows_21 ?_
  refine lv_iconst (pc := 24) (v := 4) hx hb dX9_readsWindows_24 (by decide) ?_
  refine lv_iload_n (pc := 25) hx hb dX9_readsWindows_25 rfl (lv_at hl 1 rfl) ?_
  refine lv_bipush (pc := 26) (v := 102) hx hb dX9_readsWindows_26 (by decide) ?_
  refine lv_icmp_ne (pc := 28) (tgt := 35) hx hb dX9_readsWindows_28 (by decide) (fun c_28 => ?_) (fun c_28 => ?_)
  · have h := h.2 c_28
    refine lv_iload_n (pc := 35) hx hb dX9_readsWindows_35 rfl (lv_at hl 0 rfl) ?_
    refine lv_bipush (pc := 36) (v := 108) hx hb dX9_readsWindows_36 (by decide) ?_
    refine lv_icmp_ne (pc := 38) (tgt := 45) hx hb dX9_readsWindows_38 (by decide) (fun c_38 => ?_) (fun c_38 => ?_)
    · have h := h.2 c_38
      refine lv_iconst (pc := 45) (v := 2) hx hb dX9_readsWindows_45 (by decide) ?_
      exact J46 x0 g0 r_5 r_16 4 2 h _ _ _ hP hD hS (lv_sub hl [2, 1, 0] rfl)
    · have h := h.1 c_38
      refine lv_iconst (pc := 41) (v := 1) hx hb dX9_readsWindows_41 (by decide) ?_
      refine lv_goto (pc := 42) (tgt := 46) hx hb dX9_readsWindows_42 (by decide) ?_
      exact J46 x0 g0 r_5 r_16 4 1 h _ _ _ hP hD hS (lv_sub hl [2, 1, 0] rfl)
  · have h := h.1 c_28
    refine lv_iconst (pc := 31) (v := 0) hx hb dX9_readsWindows_31 (by decide) ?_
    refine lv_goto (pc := 32) (tgt := 46) hx hb dX9_readsWindows_32 (by decide) ?_
    exact J46 x0 g0 r_5 r_16 4 0 h _ _ _ hP hD hS (lv_sub hl [2, 1, 0] rfl)

def wX9_isAtEnd (x : Nat → Int32) (g : Nat → Nat → Int32) (Φ : Int32 → Prop) : Prop := (wX9_at x g (x 1) (fun r_5 => ((r_5 = (-1) → (Φ 1)) ∧ (¬ r_5 = (-1) → (Φ 0)))))
set_option maxRecDepth 100000 in
set_option maxHeartbeats 4000000 in
theorem kX9_isAtEnd {l : Launch} {D : va_G} {E : va_W} {o : Nat} {ad : Nat → Nat} {cI cZ : ClassId} {sz : Nat} (x0 : Nat → Int32) (g0 : Nat → Nat → Int32) {Φ : Int32 → Prop} (h : wX9_isAtEnd x0 g0 Φ) : Met l yX9_isAtEnd (zws yX9_isAtEnd cX9_isAtEnd 1 (some .boolean)) { frames := 1, cells := 0, slots := 0, locals := 21 } (zPc D (mT cI cZ) zX0 (mW E o ad cI cZ (x0, g0)) [.ref o] sz) (zQi D (mT cI cZ) (mW E o ad cI cZ) (fun r u => u = (x0, g0) ∧ (r = 0 ∨ r = 1) ∧ Φ r) (mW E o ad cI cZ (x0, g0)) sz) 0 0 (va_A (mW E o ad cI cZ (x0, g0)) sz) := by
  refine zMet (by decide) (Nat.le_of_ble_eq_true rfl) ?_
  intro p e s m args below meth c A hx hb hr hml hown hts hlocks hsz hAe hA hS hP hK hD hX ls hl
  subst hsz
  have hF : zFx p s m args c cX9_isAtEnd RX9 A D (mT cI cZ) zX0 1 := ⟨hx, hb, hml, hown, hts, hA, hK, zX0_cl, hX⟩
  have hl : lv_has ls 1 [(0, .ref o)] := hl
  unfold wX9_isAtEnd at h
  refine lv_aload_n (pc := 0) hx hb dX9_isAtEnd_0 rfl (lv_at hl 0 rfl) ?_
  refine lv_aload_n (pc := 1) hx hb dX9_isAtEnd_1 rfl (lv_at hl 0 rfl) ?_
  refine mG_1 (pc := 2) (v := (x0 1)) hF hP rfl dX9_isAtEnd_2 ?_
  refine mVip (pc := 5) (x := x0) (g := g0) [.int (x0 1)] hF (kX9_at x0 g0 (x0 1) h) (cwX9_X9_at hts ⟨Nat.le_of_ble_eq_true rfl, Nat.le_of_ble_eq_true rfl⟩) hP hD hS rfl rfl hl.1 (Nat.le_of_ble_eq_true rfl) dX9_isAtEnd_5 ⟨Nat.le_refl _, Nat.le_refl _⟩ (fun r_5 H locs h hP hD hS => ?_)
  refine lv_iconst (pc := 8) (v := (-1)) hx hb dX9_isAtEnd_8 (by decide) ?_
  refine lv_icmp_ne (pc := 9) (tgt := 16) hx hb dX9_isAtEnd_9 (by decide) (fun c_9 => ?_) (fun c_9 => ?_)
  · have h := h.2 c_9
    refine lv_iconst (pc := 16) (v := 0) hx hb dX9_isAtEnd_16 (by decide) ?_
    exact zirV (pc := 17) (Wd := mW E o ad cI cZ) (u := (x0, g0)) hx hb hr hlocks hAe hK hP hD hS rfl dX9_isAtEnd_17 (Nat.le_refl _) (Nat.le_refl _) ⟨rfl, (Or.inl rfl), h⟩
  · have h := h.1 c_9
    refine lv_iconst (pc := 12) (v := 1) hx hb dX9_isAtEnd_12 (by decide) ?_
    refine lv_goto (pc := 13) (tgt := 17) hx hb dX9_isAtEnd_13 (by decide) ?_
    exact zirV (pc := 17) (Wd := mW E o ad cI cZ) (u := (x0, g0)) hx hb hr hlocks hAe hK hP hD hS rfl dX9_isAtEnd_17 (Nat.le_refl _) (Nat.le_refl _) ⟨rfl, (Or.inr rfl), h⟩

def wX9_readsLate (x : Nat → Int32) (g : Nat → Nat → Int32) (Φ : Int32 → (Nat → Int32) → (Nat → Nat → Int32) → Prop) : Prop := (vp_in 7 9 ∧ (wX9_at x (va_up g 7 (upd (g 7) (7 : Int32).toNatClampNeg 0)) (x 1) (fun r_13 => ((r_13 = 108 → (wX9_word x (va_up g 7 (upd (g 7) (7 : Int32).toNatClampNeg 0)) 108 97 116 101 0 0 0 (fun r_35 x_35 g_35 => ((r_35 = 0 → (Φ 0 x_35 g_35)) ∧ (¬ r_35 = 0 → (wX9_blanks x_35 g_35 (fun r_42 x_42 g_42 => ((r_42 = 0 → (Φ 0 x_42 g_42)) ∧ (¬ r_42 = 0 → (wX9_number x_42 g_42 1 (fun r_50 x_50 g_50 => ((r_50 = 0 → (Φ 0 x_50 g_50)) ∧ (¬ r_50 = 0 → (vp_in 7 9 ∧ (wX9_isAtEnd x_50 (va_up g_50 7 (upd (g_50 7) (7 : Int32).toNatClampNeg (x_50 3))) (fun r_70 => ((r_70 = 0 → (wX9_blanks x_50 (va_up g_50 7 (upd (g_50 7) (7 : Int32).toNatClampNeg (x_50 3))) (fun r_77 x_77 g_77 => ((r_77 = 0 → (Φ 0 x_77 g_77)) ∧ (¬ r_77 = 0 → (Φ 1 x_77 g_77)))))) ∧ (¬ r_70 = 0 → (Φ 1 x_50 (va_up g_50 7 (upd (g_50 7) (7 : Int32).toNatClampNeg (x_50 3)))))))))))))))))))))) ∧ (¬ r_13 = 108 → (Φ 1 x (va_up g 7 (upd (g 7) (7 : Int32).toNatClampNeg 0))))))))
set_option maxRecDepth 100000 in
set_option maxHeartbeats 4000000 in
theorem kX9_readsLate {l : Launch} {D : va_G} {E : va_W} {o : Nat} {ad : Nat → Nat} {cI cZ : ClassId} {sz : Nat} (x0 : Nat → Int32) (g0 : Nat → Nat → Int32) {Φ : Int32 → (Nat → Int32) → (Nat → Nat → Int32) → Prop} (h : wX9_readsLate x0 g0 Φ) : Met l yX9_readsLate (zws yX9_readsLate cX9_readsLate 1 (some .boolean)) { frames := 2, cells := 0, slots := 0, locals := 50 } (zPc D (mT cI cZ) zX0 (mW E o ad cI cZ (x0, g0)) [.ref o] sz) (zQi D (mT cI cZ) (mW E o ad cI cZ) (fun r u => (r = 0 ∨ r = 1) ∧ Φ r u.1 u.2) (mW E o ad cI cZ (x0, g0)) sz) 0 0 (va_A (mW E o ad cI cZ (x0, g0)) sz) := by
  refine zMet (by decide) (Nat.le_of_ble_eq_true rfl) ?_
  intro p e s m args below meth c A hx hb hr hml hown hts hlocks hsz hAe hA hS hP hK hD hX ls hl
  subst hsz
  have hF : zFx p s m args c cX9_readsLate RX9 A D (mT cI cZ) zX0 1 := ⟨hx, hb, hml, hown, hts, hA, hK, zX0_cl, hX⟩
  have hl : lv_has ls 1 [(0, .ref o)] := hl
  unfold wX9_readsLate at h
  refine lv_aload_n (pc := 0) hx hb dX9_readsLate_0 rfl (lv_at hl 0 rfl) ?_
  refine mG_7 (pc := 1) hF hP dX9_readsLate_1 ?_
  refine lv_bipush (pc := 4) (v := 7) hx hb dX9_readsLate_4 (by decide) ?_
  refine lv_iconst (pc := 6) (v := 0) hx hb dX9_readsLate_6 (by decide) ?_
  obtain ⟨hi_7, h⟩ := h
  refine mP_7 (pc := 7) hF hP hD hS (f := (g0 7)) rfl hi_7 dX9_readsLate_7 (fun H locs hP hD hS => ?_)
  refine lv_aload_n (pc := 8) hx hb dX9_readsLate_8 rfl (lv_at hl 0 rfl) ?_
  refine lv_aload_n (pc := 9) hx hb dX9_readsLate_9 rfl (lv_at hl 0 rfl) ?_
  refine mG_1 (pc := 10) (v := (x0 1)) hF hP rfl dX9_readsLate_10 ?_
  refine mVip (pc := 13) (x := x0) (g := (va_up g0 7 (upd (g0 7) (7 : Int32).toNatClampNeg 0))) [.int (x0 1)] hF (kX9_at x0 (va_up g0 7 (upd (g0 7) (7 : Int32).toNatClampNeg 0)) (x0 1) h) (cwX9_X9_at hts ⟨Nat.le_of_ble_eq_true rfl, Nat.le_of_ble_eq_true rfl⟩) hP hD hS rfl rfl hl.1 (Nat.le_of_ble_eq_true rfl) dX9_readsLate_13 ⟨Nat.le_refl _, Nat.le_refl _⟩ (fun r_13 H locs h hP hD hS => ?_)
  refine lv_bipush (pc := 16) (v := 108) hx hb dX9_readsLate_16 (by decide) ?_
  refine lv_icmp_eq (pc := 18) (tgt := 23) hx hb dX9_readsLate_18 (by decide) (fun c_18 => ?_) (fun c_18 => ?_)
  · have h := h.1 c_18
    refine lv_aload_n (pc := 23) hx hb dX9_readsLate_23 rfl (lv_at hl 0 rfl) ?_
    refine lv_bipush (pc := 24) (v := 108) hx hb dX9_readsLate_24 (by decide) ?_
    refine lv_bipush (pc := 26) (v := 97) hx hb dX9_readsLate_26 (by decide) ?_
    refine lv_bipush (pc := 28) (v := 116) hx hb dX9_readsLate_28 (by decide) ?_
    refine lv_bipush (pc := 30) (v := 101) hx hb dX9_readsLate_30 (by decide) ?_
    refine lv_iconst (pc := 32) (v := 0) hx hb dX9_readsLate_32 (by decide) ?_
    refine lv_iconst (pc := 33) (v := 0) hx hb dX9_readsLate_33 (by decide) ?_
    refine lv_iconst (pc := 34) (v := 0) hx hb dX9_readsLate_34 (by decide) ?_
    refine mVb (pc := 35) (x := x0) (g := (va_up g0 7 (upd (g0 7) (7 : Int32).toNatClampNeg 0))) [.int 108, .int 97, .int 116, .int 101, .int 0, .int 0, .int 0] hF (kX9_word x0 (va_up g0 7 (upd (g0 7) (7 : Int32).toNatClampNeg 0)) 108 97 116 101 0 0 0 h) (cwX9_X9_word hts ⟨Nat.le_of_ble_eq_true rfl, Nat.le_of_ble_eq_true rfl⟩) hP hD hS rfl rfl hl.1 (Nat.le_of_ble_eq_true rfl) dX9_readsLate_35 ⟨Nat.le_refl _, Nat.le_refl _⟩ (fun r_35 x_35 g_35 H locs hb_35 h hP hD hS => ?_)
    refine lv_if_eq (pc := 38) (tgt := 56) hx hb dX9_readsLate_38 (by decide) (fun c_38 => ?_) (fun c_38 => ?_)
    · have h := h.1 c_38
      refine lv_iconst (pc := 56) (v := 0) hx hb dX9_readsLate_56 (by decide) ?_
      exact zirV (pc := 57) (Wd := mW E o ad cI cZ) (u := (x_35, g_35)) hx hb hr hlocks hAe hK hP hD hS rfl dX9_readsLate_57 (Nat.le_refl _) (Nat.le_refl _) ⟨(Or.inl rfl), h⟩
    · have h := h.2 c_38
      refine lv_aload_n (pc := 41) hx hb dX9_readsLate_41 rfl (lv_at hl 0 rfl) ?_
      refine mVb (pc := 42) (x := x_35) (g := g_35) [] hF (kX9_blanks x_35 g_35 h) (cwX9_X9_blanks hts ⟨Nat.le_of_ble_eq_true rfl, Nat.le_of_ble_eq_true rfl⟩) hP hD hS rfl rfl hl.1 (Nat.le_of_ble_eq_true rfl) dX9_readsLate_42 ⟨Nat.le_refl _, Nat.le_refl _⟩ (fun r_42 x_42 g_42 H locs hb_42 h hP hD hS => ?_)
      refine lv_if_eq (pc := 45) (tgt := 56) hx hb dX9_readsLate_45 (by decide) (fun c_45 => ?_) (fun c_45 => ?_)
      · have h := h.1 c_45
        refine lv_iconst (pc := 56) (v := 0) hx hb dX9_readsLate_56 (by decide) ?_
        exact zirV (pc := 57) (Wd := mW E o ad cI cZ) (u := (x_42, g_42)) hx hb hr hlocks hAe hK hP hD hS rfl dX9_readsLate_57 (Nat.le_refl _) (Nat.le_refl _) ⟨(Or.inl rfl), h⟩
      · have h := h.2 c_45
        refine lv_aload_n (pc := 48) hx hb dX9_readsLate_48 rfl (lv_at hl 0 rfl) ?_
        refine lv_iconst (pc := 49) (v := 1) hx hb dX9_readsLate_49 (by decide) ?_
        refine mVb (pc := 50) (x := x_42) (g := g_42) [.int 1] hF (kX9_number x_42 g_42 1 h) (cwX9_X9_number hts ⟨Nat.le_of_ble_eq_true rfl, Nat.le_of_ble_eq_true rfl⟩) hP hD hS rfl rfl hl.1 (Nat.le_of_ble_eq_true rfl) dX9_readsLate_50 ⟨Nat.le_refl _, Nat.le_refl _⟩ (fun r_50 x_50 g_50 H locs hb_50 h hP hD hS => ?_)
        refine lv_if_ne (pc := 53) (tgt := 58) hx hb dX9_readsLate_53 (by decide) (fun c_53 => ?_) (fun c_53 => ?_)
        · have h := h.2 c_53
          refine lv_aload_n (pc := 58) hx hb dX9_readsLate_58 rfl (lv_at hl 0 rfl) ?_
          refine mG_7 (pc := 59) hF hP dX9_readsLate_59 ?_
          refine lv_bipush (pc := 62) (v := 7) hx hb dX9_readsLate_62 (by decide) ?_
          refine lv_aload_n (pc := 64) hx hb dX9_readsLate_64 rfl (lv_at hl 0 rfl) ?_
          refine mG_3 (pc := 65) (v := (x_50 3)) hF hP rfl dX9_readsLate_65 ?_
          obtain ⟨hi_68, h⟩ := h
          refine mP_7 (pc := 68) hF hP hD hS (f := (g_50 7)) rfl hi_68 dX9_readsLate_68 (fun H locs hP hD hS => ?_)
          refine lv_aload_n (pc := 69) hx hb dX9_readsLate_69 rfl (lv_at hl 0 rfl) ?_
          refine mVbp (pc := 70) (x := x_50) (g := (va_up g_50 7 (upd (g_50 7) (7 : Int32).toNatClampNeg (x_50 3)))) [] hF (kX9_isAtEnd x_50 (va_up g_50 7 (upd (g_50 7) (7 : Int32).toNatClampNeg (x_50 3))) h) (cwX9_X9_isAtEnd hts ⟨Nat.le_of_ble_eq_true rfl, Nat.le_of_ble_eq_true rfl⟩) hP hD hS rfl rfl hl.1 (Nat.le_of_ble_eq_true rfl) dX9_readsLate_70 ⟨Nat.le_refl _, Nat.le_refl _⟩ (fun r_70 H locs hb_70 h hP hD hS => ?_)
          refine lv_if_ne (pc := 73) (tgt := 83) hx hb dX9_readsLate_73 (by decide) (fun c_73 => ?_) (fun c_73 => ?_)
          · have h := h.2 c_73
            refine lv_iconst (pc := 83) (v := 1) hx hb dX9_readsLate_83 (by decide) ?_
            refine lv_goto (pc := 84) (tgt := 88) hx hb dX9_readsLate_84 (by decide) ?_
            exact zirV (pc := 88) (Wd := mW E o ad cI cZ) (u := (x_50, (va_up g_50 7 (upd (g_50 7) (7 : Int32).toNatClampNeg (x_50 3))))) hx hb hr hlocks hAe hK hP hD hS rfl dX9_readsLate_88 (Nat.le_refl _) (Nat.le_refl _) ⟨(Or.inr rfl), h⟩
          · have h := h.1 c_73
            refine lv_aload_n (pc := 76) hx hb dX9_readsLate_76 rfl (lv_at hl 0 rfl) ?_
            refine mVb (pc := 77) (x := x_50) (g := (va_up g_50 7 (upd (g_50 7) (7 : Int32).toNatClampNeg (x_50 3)))) [] hF (kX9_blanks x_50 (va_up g_50 7 (upd (g_50 7) (7 : Int32).toNatClampNeg (x_50 3))) h) (cwX9_X9_blanks hts ⟨Nat.le_of_ble_eq_true rfl, Nat.le_of_ble_eq_true rfl⟩) hP hD hS rfl rfl hl.1 (Nat.le_of_ble_eq_true rfl) dX9_readsLate_77 ⟨Nat.le_refl _, Nat.le_refl _⟩ (fun r_77 x_77 g_77 H locs hb_77 h hP hD hS => ?_)
            refine lv_if_eq (pc := 80) (tgt := 87) hx hb dX9_readsLate_80 (by decide) (fun c_80 => ?_) (fun c_80 => ?_)
            · have h := h.1 c_80
              refine lv_iconst (pc := 87) (v := 0) hx hb dX9_readsLate_87 (by decide) ?_
              exact zirV (pc := 88) (Wd := mW E o ad cI cZ) (u := (x_77, g_77)) hx hb hr hlocks hAe hK hP hD hS rfl dX9_readsLate_88 (Nat.le_refl _) (Nat.le_refl _) ⟨(Or.inl rfl), h⟩
            · have h := h.2 c_80
              refine lv_iconst (pc := 83) (v := 1) hx hb dX9_readsLate_83 (by decide) ?_
              refine lv_goto (pc := 84) (tgt := 88) hx hb dX9_readsLate_84 (by decide) ?_
              exact zirV (pc := 88) (Wd := mW E o ad cI cZ) (u := (x_77, g_77)) hx hb hr hlocks hAe hK hP hD hS rfl dX9_readsLate_88 (Nat.le_refl _) (Nat.le_refl _) ⟨(Or.inr rfl), h⟩
        · have h := h.1 c_53
          refine lv_iconst (pc := 56) (v := 0) hx hb dX9_readsLate_56 (by decide) ?_
          exact zirV (pc := 57) (Wd := mW E o ad cI cZ) (u := (x_50, g_50)) hx hb hr hlocks hAe hK hP hD hS rfl dX9_readsLate_57 (Nat.le_refl _) (Nat.le_refl _) ⟨(Or.inl rfl), h⟩
  · have h := h.2 c_18
    refine lv_iconst (pc := 21) (v := 1) hx hb dX9_readsLate_21 (by decide) ?_
    exact zirV (pc := 22) (Wd := mW E o ad cI cZ) (u := (x0, (va_up g0 7 (upd (g0 7) (7 : Int32).toNatClampNeg 0)))) hx hb hr hlocks hAe hK hP hD hS rfl dX9_readsLate_22 (Nat.le_refl _) (Nat.le_refl _) ⟨(Or.inr rfl), h⟩
