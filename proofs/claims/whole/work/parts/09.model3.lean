def lX9_drops_2 (Φ : (Nat → Int32) → (Nat → Nat → Int32) → Prop) : Nat → (Nat → Int32) → (Nat → Nat → Int32) → Int32 → Prop
  | 0, _, _, _ => False
  | n2 + 1, x, g, v2 => (vp_in 6 7 ∧ (wX9_placeOf ((g 28) (6 : Int32).toNatClampNeg) (fun r_12 => ((r_12 ≤ (v2 + 1) → (vp_in 6 7 ∧ (vp_in 6 7 ∧ (Φ x (va_up g 28 (upd (g 28) (6 : Int32).toNatClampNeg (((g 28) (6 : Int32).toNatClampNeg) - 1))))))) ∧ (¬ r_12 ≤ (v2 + 1) → (wX9_copiesWindow x g (v2 + 1) v2 (fun x_23 g_23 => (∀ v2_26 : Int32, v2_26 = v2 + 1 → ((lX9_drops_2 Φ n2) x_23 g_23 v2_26)))))))))
def wX9_drops (x : Nat → Int32) (g : Nat → Nat → Int32) (a1 : Int32) (Φ : (Nat → Int32) → (Nat → Nat → Int32) → Prop) : Prop := (∃ n2 : Nat, lX9_drops_2 Φ n2 x g a1)
set_option maxRecDepth 100000 in
set_option maxHeartbeats 4000000 in
theorem kX9_drops {l : Launch} {D : va_G} {E : va_W} {o : Nat} {ad : Nat → Nat} {cI cZ : ClassId} {sz : Nat} (x0 : Nat → Int32) (g0 : Nat → Nat → Int32) (a1 : Int32) {Φ : (Nat → Int32) → (Nat → Nat → Int32) → Prop} (h : wX9_drops x0 g0 a1 Φ) : Met l yX9_drops (zws yX9_drops cX9_drops 3 none) { frames := 1, cells := 0, slots := 0, locals := 22 } (zPc D (mT cI cZ) zX0 (mW E o ad cI cZ (x0, g0)) [.ref o, .int a1] sz) (zQv D (mT cI cZ) (mW E o ad cI cZ) (fun u => Φ u.1 u.2) (mW E o ad cI cZ (x0, g0)) sz) 0 0 (va_A (mW E o ad cI cZ (x0, g0)) sz) := by
  refine zMet (by decide) (Nat.le_of_ble_eq_true rfl) ?_
  intro p e s m args below meth c A hx hb hr hml hown hts hlocks hsz hAe hA hS hP hK hD hX ls hl
  subst hsz
  have hF : zFx p s m args c cX9_drops RX9 A D (mT cI cZ) zX0 3 := ⟨hx, hb, hml, hown, hts, hA, hK, zX0_cl, hX⟩
  have hl : lv_has ls 3 [(0, .ref o), (1, .int a1)] := hl
  have L2 : ∀ n2 : Nat, ∀ (x : Nat → Int32) (g : Nat → Nat → Int32) (v2 : Int32), lX9_drops_2 Φ n2 x g v2 → ∀ (H : Heap) (locs : List Loc) (ls : Array Slot), va_P D vwCl (mW E o ad cI cZ (x, g)) H → va_D A (mW E o ad cI cZ (x, g)) → va_S A s.heap H locs → lv_has ls 3 [(0, .ref o), (2, .int v2)] → W p l e { frames := 1, cells := 0, slots := 0, locals := 22 } s m args below meth c H locs 0 0 (MQ below (zQv D (mT cI cZ) (mW E o ad cI cZ) (fun u => Φ u.1 u.2) (mW E o ad cI cZ (x0, g0)) s.heap.size) args s 0 0 (va_A (mW E o ad cI cZ (x0, g0)) s.heap.size)) (F0 m 2 ls []) := by
    intro n2
    induction n2 with
    | zero => intro x g v2 h H locs ls hP hD hS hl; exact h.elim
    | succ n2 ih2 =>
      intro x g v2 h H locs ls hP hD hS hl
      unfold lX9_drops_2 at h
      refine lv_iload_n (pc := 2) hx hb dX9_drops_2 rfl (lv_at hl 1 rfl) ?_
      refine lv_iconst (pc := 3) (v := 1) hx hb dX9_drops_3 (by decide) ?_
      refine lv_iadd (pc := 4) hx hb dX9_drops_4 ?_
      refine lv_aload_n (pc := 5) hx hb dX9_drops_5 rfl (lv_at hl 0 rfl) ?_
      refine mG_28 (pc := 6) hF hP dX9_drops_6 ?_
      refine lv_bipush (pc := 9) (v := 6) hx hb dX9_drops_9 (by decide) ?_
      obtain ⟨hi_11, h⟩ := h
      refine mL_28 (pc := 11) hF hP (f := (g 28)) rfl hi_11 dX9_drops_11 ?_
      refine mSip (pc := 12) (x := x) (g := g) [.int ((g 28) (6 : Int32).toNatClampNeg)] hF (kX9_placeOf x g ((g 28) (6 : Int32).toNatClampNeg) h) (cwX9_X9_placeOf hts ⟨Nat.le_of_ble_eq_true rfl, Nat.le_of_ble_eq_true rfl⟩) hP hD hS rfl rfl hl.1 (Nat.le_of_ble_eq_true rfl) dX9_drops_12 ⟨Nat.le_refl _, Nat.le_refl _⟩ (fun r_12 H locs h hP hD hS => ?_)
      refine lv_icmp_ge (pc := 15) (tgt := 32) hx hb dX9_drops_15 (by decide) (fun c_15 => ?_) (fun c_15 => ?_)
      · have h := h.1 c_15
        refine lv_aload_n (pc := 32) hx hb dX9_drops_32 rfl (lv_at hl 0 rfl) ?_
        refine mG_28 (pc := 33) hF hP dX9_drops_33 ?_
        refine lv_bipush (pc := 36) (v := 6) hx hb dX9_drops_36 (by decide) ?_
        refine lv_dup2_11 (pc := 38) hx hb dX9_drops_38 rfl rfl ?_
        obtain ⟨hi_39, h⟩ := h
        refine mL_28 (pc := 39) hF hP (f := (g 28)) rfl hi_39 dX9_drops_39 ?_
        refine lv_iconst (pc := 40) (v := 1) hx hb dX9_drops_40 (by decide) ?_
        refine lv_isub (pc := 41) hx hb dX9_drops_41 ?_
        obtain ⟨hi_42, h⟩ := h
        refine mP_28 (pc := 42) hF hP hD hS (f := (g 28)) rfl hi_42 dX9_drops_42 (fun H locs hP hD hS => ?_)
        exact zvr (pc := 43) (Wd := mW E o ad cI cZ) (u := (x, (va_up g 28 (upd (g 28) (6 : Int32).toNatClampNeg (((g 28) (6 : Int32).toNatClampNeg) - 1))))) hx hb hr hlocks hAe hK hP hD hS dX9_drops_43 (Nat.le_refl _) (Nat.le_refl _) h
      · have h := h.2 c_15
        refine lv_aload_n (pc := 18) hx hb dX9_drops_18 rfl (lv_at hl 0 rfl) ?_
        refine lv_iload_n (pc := 19) hx hb dX9_drops_19 rfl (lv_at hl 1 rfl) ?_
        refine lv_iconst (pc := 20) (v := 1) hx hb dX9_drops_20 (by decide) ?_
        refine lv_iadd (pc := 21) hx hb dX9_drops_21 ?_
        refine lv_iload_n (pc := 22) hx hb dX9_drops_22 rfl (lv_at hl 1 rfl) ?_
        refine mVv (pc := 23) (x := x) (g := g) [.int (v2 + 1), .int v2] hF (kX9_copiesWindow x g (v2 + 1) v2 h) (cwX9_X9_copiesWindow hts ⟨Nat.le_of_ble_eq_true rfl, Nat.le_of_ble_eq_true rfl⟩) hP hD hS rfl rfl hl.1 (Nat.le_of_ble_eq_true rfl) dX9_drops_23 ⟨Nat.le_refl _, Nat.le_refl _⟩ (fun x_23 g_23 H locs h hP hD hS => ?_)
        obtain ⟨v2_26, e_v2_26⟩ : ∃ y : Int32, y = v2 + 1 := ⟨_, rfl⟩
        replace h := h v2_26 e_v2_26
        refine lv_iinc (pc := 26) (v := v2_26) (lv' := [(2, .int v2_26), (0, .ref o)]) hx hb dX9_drops_26 hl (k := 1) rfl (by rw [e_v2_26]; rfl) (by decide) rfl (fun ls hl => ?_)
        refine lv_goto (pc := 29) (tgt := 2) hx hb dX9_drops_29 (by decide) ?_
        exact ih2 x_23 g_23 v2_26 h _ _ _ hP hD hS (lv_sub hl [1, 0] rfl)
  unfold wX9_drops at h
  refine lv_iload_n (pc := 0) hx hb dX9_drops_0 rfl (lv_at hl 1 rfl) ?_
  refine lv_istore_n (pc := 1) (lv' := [(2, .int a1), (0, .ref o), (1, .int a1)]) hx hb dX9_drops_1 rfl hl (by decide) rfl (fun ls hl => ?_)
  obtain ⟨n2, h⟩ := h
  exact L2 n2 x0 g0 a1 h _ _ _ hP hD hS (lv_sub hl [1, 0] rfl)

def lX9_finds_139 (Φ : (Nat → Int32) → (Nat → Nat → Int32) → Prop) : Nat → (Nat → Int32) → (Nat → Nat → Int32) → Int32 → Prop
  | 0, _, _, _ => False
  | n139 + 1, x, g, v4 => (wX9_placeOf 0 (fun r_142 => ((v4 < r_142 → (Φ x g)) ∧ (¬ v4 < r_142 → (vp_in v4 8400 ∧ (wX9_isOver x g ((g 31) v4.toNatClampNeg) (fun r_156 => ((r_156 = 0 → (∀ v4_168 : Int32, v4_168 = v4 + (-1) → ((lX9_finds_139 Φ n139) x g v4_168))) ∧ (¬ r_156 = 0 → (wX9_drops x g v4 (fun x_165 g_165 => (∀ v4_168 : Int32, v4_168 = v4 + (-1) → ((lX9_finds_139 Φ n139) x_165 g_165 v4_168)))))))))))))
def lX9_finds_107 (Φ : (Nat → Int32) → (Nat → Nat → Int32) → Prop) : Nat → (Nat → Int32) → (Nat → Nat → Int32) → Int32 → Prop
  | 0, _, _, _ => False
  | n107 + 1, x, g, v3 => ((v3 = (-1) → (vp_in 6 7 ∧ (wX9_placeOf ((g 28) (6 : Int32).toNatClampNeg) (fun r_132 => (∀ v4_137 : Int32, v4_137 = (r_132 - 1) → (∃ n139 : Nat, lX9_finds_139 Φ n139 x g v4_137)))))) ∧ (¬ v3 = (-1) → (wX9_tells x g v3 (fun x_114 g_114 => (wX9_nextToTell x_114 g_114 (fun r_118 => ((lX9_finds_107 Φ n107) x_114 g_114 r_118)))))))
def lX9_finds_8 (Φ : (Nat → Int32) → (Nat → Nat → Int32) → Prop) : Nat → (Nat → Int32) → (Nat → Nat → Int32) → Int32 → Int32 → Int32 → Prop
  | 0, _, _, _, _, _ => False
  | n8 + 1, x, g, v1, v2, v3 => ((3 ≤ v3 → ((v1 = 0 → (Φ x g)) ∧ (¬ v1 = 0 → (vp_in 6 7 ∧ ((((g 25) (6 : Int32).toNatClampNeg) < v2 → (vp_in 6 7 ∧ (wX9_nextToTell x (va_up g 25 (upd (g 25) (6 : Int32).toNatClampNeg v2)) (fun r_103 => (∃ n107 : Nat, lX9_finds_107 Φ n107 x (va_up g 25 (upd (g 25) (6 : Int32).toNatClampNeg v2)) r_103))))) ∧ (¬ ((g 25) (6 : Int32).toNatClampNeg) < v2 → (Φ x g))))))) ∧ (¬ 3 ≤ v3 → (vp_in v3 3 ∧ ((((g 18) v3.toNatClampNeg) = 0 → (vp_in (18 + v3) 21 ∧ ((((g 23) (18 + v3).toNatClampNeg) = 0 → (Φ x g)) ∧ (¬ ((g 23) (18 + v3).toNatClampNeg) = 0 → (vp_in (18 + v3) 21 ∧ (vp_in v3 3 ∧ (∀ v4_51 : Int32, v4_51 = (((g 24) (18 + v3).toNatClampNeg) - ((g 17) v3.toNatClampNeg)) → ((v4_51 < v2 → (∀ v3_72 : Int32, v3_72 = v3 + 1 → ((lX9_finds_8 Φ n8) x g 1 v4_51 v3_72))) ∧ (¬ v4_51 < v2 → ((v1 = 0 → (∀ v3_72 : Int32, v3_72 = v3 + 1 → ((lX9_finds_8 Φ n8) x g 1 v4_51 v3_72))) ∧ (¬ v1 = 0 → (∀ v3_72 : Int32, v3_72 = v3 + 1 → ((lX9_finds_8 Φ n8) x g 1 v2 v3_72))))))))))))) ∧ (¬ ((g 18) v3.toNatClampNeg) = 0 → (∀ v3_72 : Int32, v3_72 = v3 + 1 → ((lX9_finds_8 Φ n8) x g v1 v2 v3_72)))))))
def wX9_finds (x : Nat → Int32) (g : Nat → Nat → Int32) (Φ : (Nat → Int32) → (Nat → Nat → Int32) → Prop) : Prop := (∃ n8 : Nat, lX9_finds_8 Φ n8 x g 0 999 0)
set_option maxRecDepth 100000 in
set_option maxHeartbeats 4000000 in
theorem kX9_finds {l : Launch} {D : va_G} {E : va_W} {o : Nat} {ad : Nat → Nat} {cI cZ : ClassId} {sz : Nat} (x0 : Nat → Int32) (g0 : Nat → Nat → Int32) {Φ : (Nat → Int32) → (Nat → Nat → Int32) → Prop} (h : wX9_finds x0 g0 Φ) : Met l yX9_finds (zws yX9_finds cX9_finds 5 none) { frames := 2, cells := 0, slots := 0, locals := 46 } (zPc D (mT cI cZ) zX0 (mW E o ad cI cZ (x0, g0)) [.ref o] sz) (zQv D (mT cI cZ) (mW E o ad cI cZ) (fun u => Φ u.1 u.2) (mW E o ad cI cZ (x0, g0)) sz) 0 0 (va_A (mW E o ad cI cZ (x0, g0)) sz) := by
  refine zMet (by decide) (Nat.le_of_ble_eq_true rfl) ?_
  intro p e s m args below meth c A hx hb hr hml hown hts hlocks hsz hAe hA hS hP hK hD hX ls hl
  subst hsz
  have hF : zFx p s m args c cX9_finds RX9 A D (mT cI cZ) zX0 5 := ⟨hx, hb, hml, hown, hts, hA, hK, zX0_cl, hX⟩
  have hl : lv_has ls 5 [(0, .ref o)] := hl
  have L139 : ∀ n139 : Nat, ∀ (x : Nat → Int32) (g : Nat → Nat → Int32) (v4 : Int32), lX9_finds_139 Φ n139 x g v4 → ∀ (H : Heap) (locs : List Loc) (ls : Array Slot), va_P D vwCl (mW E o ad cI cZ (x, g)) H → va_D A (mW E o ad cI cZ (x, g)) → va_S A s.heap H locs → lv_has ls 5 [(0, .ref o), (4, .int v4)] → W p l e { frames := 2, cells := 0, slots := 0, locals := 46 } s m args below meth c H locs 0 0 (MQ below (zQv D (mT cI cZ) (mW E o ad cI cZ) (fun u => Φ u.1 u.2) (mW E o ad cI cZ (x0, g0)) s.heap.size) args s 0 0 (va_A (mW E o ad cI cZ (x0, g0)) s.heap.size)) (F0 m 139 ls []) := by
    intro n139
    induction n139 with
    | zero => intro x g v4 h H locs ls hP hD hS hl; exact h.elim
    | succ n139 ih139 =>
      intro x g v4 h H locs ls hP hD hS hl
      unfold lX9_finds_139 at h
      refine lv_iload (pc := 139) hx hb dX9_finds_139 (lv_at hl 1 rfl) ?_
      refine lv_iconst (pc := 141) (v := 0) hx hb dX9_finds_141 (by decide) ?_
      refine mSip (pc := 142) (x := x) (g := g) [.int 0] hF (kX9_placeOf x g 0 h) (cwX9_X9_placeOf hts ⟨Nat.le_of_ble_eq_true rfl, Nat.le_of_ble_eq_true rfl⟩) hP hD hS rfl rfl hl.1 (Nat.le_of_ble_eq_true rfl) dX9_finds_142 ⟨Nat.le_refl _, Nat.le_refl _⟩ (fun r_142 H locs h hP hD hS => ?_)
      refine lv_icmp_lt (pc := 145) (tgt := 174) hx hb dX9_finds_145 (by decide) (fun c_145 => ?_) (fun c_145 => ?_)
      · have h := h.1 c_145
        exact zvr (pc := 174) (Wd := mW E o ad cI cZ) (u := (x, g)) hx hb hr hlocks hAe hK hP hD hS dX9_finds_174 (Nat.le_refl _) (Nat.le_refl _) h
      · have h := h.2 c_145
        refine lv_aload_n (pc := 148) hx hb dX9_finds_148 rfl (lv_at hl 0 rfl) ?_
        refine lv_aload_n (pc := 149) hx hb dX9_finds_149 rfl (lv_at hl 0 rfl) ?_
        refine mG_31 (pc := 150) hF hP dX9_finds_150 ?_
        refine lv_iload (pc := 153) hx hb dX9_finds_153 (lv_at hl 1 rfl) ?_
        obtain ⟨hi_155, h⟩ := h
        refine mL_31 (pc := 155) hF hP (f := (g 31)) rfl hi_155 dX9_finds_155 ?_
        refine mVbp (pc := 156) (x := x) (g := g) [.int ((g 31) v4.toNatClampNeg)] hF (kX9_isOver x g ((g 31) v4.toNatClampNeg) h) (cwX9_X9_isOver hts ⟨Nat.le_of_ble_eq_true rfl, Nat.le_of_ble_eq_true rfl⟩) hP hD hS rfl rfl hl.1 (Nat.le_of_ble_eq_true rfl) dX9_finds_156 ⟨Nat.le_refl _, Nat.le_refl _⟩ (fun r_156 H locs hb_156 h hP hD hS => ?_)
        refine lv_if_eq (pc := 159) (tgt := 168) hx hb dX9_finds_159 (by decide) (fun c_159 => ?_) (fun c_159 => ?_)
        · have h := h.1 c_159
          obtain ⟨v4_168, e_v4_168⟩ : ∃ y : Int32, y = v4 + (-1) := ⟨_, rfl⟩
          replace h := h v4_168 e_v4_168
          refine lv_iinc (pc := 168) (v := v4_168) (lv' := [(4, .int v4_168), (0, .ref o)]) hx hb dX9_finds_168 hl (k := 1) rfl (by rw [e_v4_168]; rfl) (by decide) rfl (fun ls hl => ?_)
          refine lv_goto (pc := 171) (tgt := 139) hx hb dX9_finds_171 (by decide) ?_
          exact ih139 x g v4_168 h _ _ _ hP hD hS (lv_sub hl [1, 0] rfl)
        · have h := h.2 c_159
          refine lv_aload_n (pc := 162) hx hb dX9_finds_162 rfl (lv_at hl 0 rfl) ?_
          refine lv_iload (pc := 163) hx hb dX9_finds_163 (lv_at hl 1 rfl) ?_
          refine mVv (pc := 165) (x := x) (g := g) [.int v4] hF (kX9_drops x g v4 h) (cwX9_X9_drops hts ⟨Nat.le_of_ble_eq_true rfl, Nat.le_of_ble_eq_true rfl⟩) hP hD hS rfl rfl hl.1 (Nat.le_of_ble_eq_true rfl) dX9_finds_165 ⟨Nat.le_refl _, Nat.le_refl _⟩ (fun x_165 g_165 H locs h hP hD hS => ?_)
          obtain ⟨v4_168, e_v4_168⟩ : ∃ y : Int32, y = v4 + (-1) := ⟨_, rfl⟩
          replace h := h v4_168 e_v4_168
          refine lv_iinc (pc := 168) (v := v4_168) (lv' := [(4, .int v4_168), (0, .ref o)]) hx hb dX9_finds_168 hl (k := 1) rfl (by rw [e_v4_168]; rfl) (by decide) rfl (fun ls hl => ?_)
          refine lv_goto (pc := 171) (tgt := 139) hx hb dX9_finds_171 (by decide) ?_
          exact ih139 x_165 g_165 v4_168 h _ _ _ hP hD hS (lv_sub hl [1, 0] rfl)
  have L107 : ∀ n107 : Nat, ∀ (x : Nat → Int32) (g : Nat → Nat → Int32) (v3 : Int32), lX9_finds_107 Φ n107 x g v3 → ∀ (H : Heap) (locs : List Loc) (ls : Array Slot), va_P D vwCl (mW E o ad cI cZ (x, g)) H → va_D A (mW E o ad cI cZ (x, g)) → va_S A s.heap H locs → lv_has ls 5 [(0, .ref o), (3, .int v3)] → W p l e { frames := 2, cells := 0, slots := 0, locals := 46 } s m args below meth c H locs 0 0 (MQ below (zQv D (mT cI cZ) (mW E o ad cI cZ) (fun u => Φ u.1 u.2) (mW E o ad cI cZ (x0, g0)) s.heap.size) args s 0 0 (va_A (mW E o ad cI cZ (x0, g0)) s.heap.size)) (F0 m 107 ls []) := by
    intro n107
    induction n107 with
    | zero => intro x g v3 h H locs ls hP hD hS hl; exact h.elim
    | succ n107 ih107 =>
      intro x g v3 h H locs ls hP hD hS hl
      unfold lX9_finds_107 at h
      refine lv_iload_n (pc := 107) hx hb dX9_finds_107 rfl (lv_at hl 1 rfl) ?_
      refine lv_iconst (pc := 108) (v := (-1)) hx hb dX9_finds_108 (by decide) ?_
      refine lv_icmp_eq (pc := 109) (tgt := 125) hx hb dX9_finds_109 (by decide) (fun c_109 => ?_) (fun c_109 => ?_)
      · have h := h.1 c_109
        refine lv_aload_n (pc := 125) hx hb dX9_finds_125 rfl (lv_at hl 0 rfl) ?_
        refine mG_28 (pc := 126) hF hP dX9_finds_126 ?_
        refine lv_bipush (pc := 129) (v := 6) hx hb dX9_finds_129 (by decide) ?_
        obtain ⟨hi_131, h⟩ := h
        refine mL_28 (pc := 131) hF hP (f := (g 28)) rfl hi_131 dX9_finds_131 ?_
        refine mSip (pc := 132) (x := x) (g := g) [.int ((g 28) (6 : Int32).toNatClampNeg)] hF (kX9_placeOf x g ((g 28) (6 : Int32).toNatClampNeg) h) (cwX9_X9_placeOf hts ⟨Nat.le_of_ble_eq_true rfl, Nat.le_of_ble_eq_true rfl⟩) hP hD hS rfl rfl hl.1 (Nat.le_of_ble_eq_true rfl) dX9_finds_132 ⟨Nat.le_refl _, Nat.le_refl _⟩ (fun r_132 H locs h hP hD hS => ?_)
        refine lv_iconst (pc := 135) (v := 1) hx hb dX9_finds_135 (by decide) ?_
        refine lv_isub (pc := 136) hx hb dX9_finds_136 ?_
        refine lv_topi (fun v4_137 e_v4_137 => ?_)
        replace h := h v4_137 e_v4_137
        refine lv_istore (pc := 137) (lv' := [(4, .int v4_137), (0, .ref o), (3, .int v3)]) hx hb dX9_finds_137 hl (by decide) rfl (fun ls hl => ?_)
        obtain ⟨n139, h⟩ := h
        exact L139 n139 x g v4_137 h _ _ _ hP hD hS (lv_sub hl [1, 0] rfl)
      · have h := h.2 c_109
        refine lv_aload_n (pc := 112) hx hb dX9_finds_112 rfl (lv_at hl 0 rfl) ?_
        refine lv_iload_n (pc := 113) hx hb dX9_finds_113 rfl (lv_at hl 1 rfl) ?_
        refine mVv (pc := 114) (x := x) (g := g) [.int v3] hF (kX9_tells x g v3 h) (cwX9_X9_tells hts ⟨Nat.le_of_ble_eq_true rfl, Nat.le_of_ble_eq_true rfl⟩) hP hD hS rfl rfl hl.1 (Nat.le_of_ble_eq_true rfl) dX9_finds_114 ⟨Nat.le_refl _, Nat.le_refl _⟩ (fun x_114 g_114 H locs h hP hD hS => ?_)
        refine lv_aload_n (pc := 117) hx hb dX9_finds_117 rfl (lv_at hl 0 rfl) ?_
        refine mVip (pc := 118) (x := x_114) (g := g_114) [] hF (kX9_nextToTell x_114 g_114 h) (cwX9_X9_nextToTell hts ⟨Nat.le_of_ble_eq_true rfl, Nat.le_of_ble_eq_true rfl⟩) hP hD hS rfl rfl hl.1 (Nat.le_of_ble_eq_true rfl) dX9_finds_118 ⟨Nat.le_refl _, Nat.le_refl _⟩ (fun r_118 H locs h hP hD hS => ?_)
        refine lv_istore_n (pc := 121) (lv' := [(3, .int r_118), (0, .ref o)]) hx hb dX9_finds_121 rfl hl (by decide) rfl (fun ls hl => ?_)
        refine lv_goto (pc := 122) (tgt := 107) hx hb dX9_finds_122 (by decide) ?_
        exact ih107 x_114 g_114 r_118 h _ _ _ hP hD hS (lv_sub hl [1, 0] rfl)
  have L8 : ∀ n8 : Nat, ∀ (x : Nat → Int32) (g : Nat → Nat → Int32) (v1 v2 v3 : Int32), lX9_finds_8 Φ n8 x g v1 v2 v3 → ∀ (H : Heap) (locs : List Loc) (ls : Array Slot), va_P D vwCl (mW E o ad cI cZ (x, g)) H → va_D A (mW E o ad cI cZ (x, g)) → va_S A s.heap H locs → lv_has ls 5 [(0, .ref o), (1, .int v1), (2, .int v2), (3, .int v3)] → W p l e { frames := 2, cells := 0, slots := 0, locals := 46 } s m args below meth c H locs 0 0 (MQ below (zQv D (mT cI cZ) (mW E o ad cI cZ) (fun u => Φ u.1 u.2) (mW E o ad cI cZ (x0, g0)) s.heap.size) args s 0 0 (va_A (mW E o ad cI cZ (x0, g0)) s.heap.size)) (F0 m 8 ls []) := by
    intro n8
    induction n8 with
    | zero => intro x g v1 v2 v3 h H locs ls hP hD hS hl; exact h.elim
    | succ n8 ih8 =>
      intro x g v1 v2 v3 h H locs ls hP hD hS hl
      unfold lX9_finds_8 at h
      refine lv_iload_n (pc := 8) hx hb dX9_finds_8 rfl (lv_at hl 3 rfl) ?_
      refine lv_iconst (pc := 9) (v := 3) hx hb dX9_finds_9 (by decide) ?_
      refine lv_icmp_ge (pc := 10) (tgt := 78) hx hb dX9_finds_10 (by decide) (fun c_10 => ?_) (fun c_10 => ?_)
      · have h := h.1 c_10
        refine lv_iload_n (pc := 78) hx hb dX9_finds_78 rfl (lv_at hl 1 rfl) ?_
        refine lv_if_eq (pc := 79) (tgt := 93) hx hb dX9_finds_79 (by decide) (fun c_79 => ?_) (fun c_79 => ?_)
        · have h := h.1 c_79
          exact zvr (pc := 93) (Wd := mW E o ad cI cZ) (u := (x, g)) hx hb hr hlocks hAe hK hP hD hS dX9_finds_93 (Nat.le_refl _) (Nat.le_refl _) h
        · have h := h.2 c_79
          refine lv_iload_n (pc := 82) hx hb dX9_finds_82 rfl (lv_at hl 2 rfl) ?_
          refine lv_aload_n (pc := 83) hx hb dX9_finds_83 rfl (lv_at hl 0 rfl) ?_
          refine mG_25 (pc := 84) hF hP dX9_finds_84 ?_
          refine lv_bipush (pc := 87) (v := 6) hx hb dX9_finds_87 (by decide) ?_
          obtain ⟨hi_89, h⟩ := h
          refine mL_25 (pc := 89) hF hP (f := (g 25)) rfl hi_89 dX9_finds_89 ?_
          refine lv_icmp_gt (pc := 90) (tgt := 94) hx hb dX9_finds_90 (by decide) (fun c_90 => ?_) (fun c_90 => ?_)
          · have h := h.1 c_90
            refine lv_aload_n (pc := 94) hx hb dX9_finds_94 rfl (lv_at hl 0 rfl) ?_
            refine mG_25 (pc := 95) hF hP dX9_finds_95 ?_
            refine lv_bipush (pc := 98) (v := 6) hx hb dX9_finds_98 (by decide) ?_
            refine lv_iload_n (pc := 100) hx hb dX9_finds_100 rfl (lv_at hl 2 rfl) ?_
            obtain ⟨hi_101, h⟩ := h
            refine mP_25 (pc := 101) hF hP hD hS (f := (g 25)) rfl hi_101 dX9_finds_101 (fun H locs hP hD hS => ?_)
            refine lv_aload_n (pc := 102) hx hb dX9_finds_102 rfl (lv_at hl 0 rfl) ?_
            refine mVip (pc := 103) (x := x) (g := (va_up g 25 (upd (g 25) (6 : Int32).toNatClampNeg v2))) [] hF (kX9_nextToTell x (va_up g 25 (upd (g 25) (6 : Int32).toNatClampNeg v2)) h) (cwX9_X9_nextToTell hts ⟨Nat.le_of_ble_eq_true rfl, Nat.le_of_ble_eq_true rfl⟩) hP hD hS rfl rfl hl.1 (Nat.le_of_ble_eq_true rfl) dX9_finds_103 ⟨Nat.le_refl _, Nat.le_refl _⟩ (fun r_103 H locs h hP hD hS => ?_)
            refine lv_istore_n (pc := 106) (lv' := [(3, .int r_103), (0, .ref o), (1, .int v1), (2, .int v2)]) hx hb dX9_finds_106 rfl hl (by decide) rfl (fun ls hl => ?_)
            obtain ⟨n107, h⟩ := h
            exact L107 n107 x (va_up g 25 (upd (g 25) (6 : Int32).toNatClampNeg v2)) r_103 h _ _ _ hP hD hS (lv_sub hl [1, 0] rfl)
          · have h := h.2 c_90
            exact zvr (pc := 93) (Wd := mW E o ad cI cZ) (u := (x, g)) hx hb hr hlocks hAe hK hP hD hS dX9_finds_93 (Nat.le_refl _) (Nat.le_refl _) h
      · have h := h.2 c_10
        refine lv_aload_n (pc := 13) hx hb dX9_finds_13 rfl (lv_at hl 0 rfl) ?_
        refine mG_18 (pc := 14) hF hP dX9_finds_14 ?_
        refine lv_iload_n (pc := 17) hx hb dX9_finds_17 rfl (lv_at hl 3 rfl) ?_
        obtain ⟨hi_18, h⟩ := h
        refine mL_18 (pc := 18) hF hP (f := (g 18)) rfl hi_18 dX9_finds_18 ?_
        refine lv_if_ne (pc := 19) (tgt := 72) hx hb dX9_finds_19 (by decide) (fun c_19 => ?_) (fun c_19 => ?_)
        · have h := h.2 c_19
          obtain ⟨v3_72, e_v3_72⟩ : ∃ y : Int32, y = v3 + 1 := ⟨_, rfl⟩
          replace h := h v3_72 e_v3_72
          refine lv_iinc (pc := 72) (v := v3_72) (lv' := [(3, .int v3_72), (0, .ref o), (1, .int v1), (2, .int v2)]) hx hb dX9_finds_72 hl (k := 3) rfl (by rw [e_v3_72]; rfl) (by decide) rfl (fun ls hl => ?_)
          refine lv_goto (pc := 75) (tgt := 8) hx hb dX9_finds_75 (by decide) ?_
          exact ih8 x g v1 v2 v3_72 h _ _ _ hP hD hS (lv_sub hl [1, 2, 3, 0] rfl)
        · have h := h.1 c_19
          refine lv_aload_n (pc := 22) hx hb dX9_finds_22 rfl (lv_at hl 0 rfl) ?_
          refine mG_23 (pc := 23) hF hP dX9_finds_23 ?_
          refine lv_bipush (pc := 26) (v := 18) hx hb dX9_finds_26 (by decide) ?_
          refine lv_iload_n (pc := 28) hx hb dX9_finds_28 rfl (lv_at hl 3 rfl) ?_
          refine lv_iadd (pc := 29) hx hb dX9_finds_29 ?_
          obtain ⟨hi_30, h⟩ := h
          refine mL_23 (pc := 30) hF hP (f := (g 23)) rfl hi_30 dX9_finds_30 ?_
          refine lv_if_ne (pc := 31) (tgt := 35) hx hb dX9_finds_31 (by decide) (fun c_31 => ?_) (fun c_31 => ?_)
          · have h := h.2 c_31
            refine lv_aload_n (pc := 35) hx hb dX9_finds_35 rfl (lv_at hl 0 rfl) ?_
            refine mG_24 (pc := 36) hF hP dX9_finds_36 ?_
            refine lv_bipush (pc := 39) (v := 18) hx hb dX9_finds_39 (by decide) ?_
            refine lv_iload_n (pc := 41) hx hb dX9_finds_41 rfl (lv_at hl 3 rfl) ?_
            refine lv_iadd (pc := 42) hx hb dX9_finds_42 ?_
            obtain ⟨hi_43, h⟩ := h
            refine mL_24 (pc := 43) hF hP (f := (g 24)) rfl hi_43 dX9_finds_43 ?_
            refine lv_aload_n (pc := 44) hx hb dX9_finds_44 rfl (lv_at hl 0 rfl) ?_
            refine mG_17 (pc := 45) hF hP dX9_finds_45 ?_
            refine lv_iload_n (pc := 48) hx hb dX9_finds_48 rfl (lv_at hl 3 rfl) ?_
            obtain ⟨hi_49, h⟩ := h
            refine mL_17 (pc := 49) hF hP (f := (g 17)) rfl hi_49 dX9_finds_49 ?_
            refine lv_isub (pc := 50) hx hb dX9_finds_50 ?_
            refine lv_topi (fun v4_51 e_v4_51 => ?_)
            replace h := h v4_51 e_v4_51
            refine lv_istore (pc := 51) (lv' := [(4, .int v4_51), (0, .ref o), (1, .int v1), (2, .int v2), (3, .int v3)]) hx hb dX9_finds_51 hl (by decide) rfl (fun ls hl => ?_)
            refine lv_iload (pc := 53) hx hb dX9_finds_53 (lv_at hl 0 rfl) ?_
            refine lv_iload_n (pc := 55) hx hb dX9_finds_55 rfl (lv_at hl 3 rfl) ?_
            refine lv_icmp_lt (pc := 56) (tgt := 63) hx hb dX9_finds_56 (by decide) (fun c_56 => ?_) (fun c_56 => ?_)
            · have h := h.1 c_56
              refine lv_iload (pc := 63) hx hb dX9_finds_63 (lv_at hl 0 rfl) ?_
              refine lv_goto (pc := 65) (tgt := 69) hx hb dX9_finds_65 (by decide) ?_
              refine lv_istore_n (pc := 69) (lv' := [(2, .int v4_51), (4, .int v4_51), (0, .ref o), (1, .int v1), (3, .int v3)]) hx hb dX9_finds_69 rfl hl (by decide) rfl (fun ls hl => ?_)
              refine lv_iconst (pc := 70) (v := 1) hx hb dX9_finds_70 (by decide) ?_
              refine lv_istore_n (pc := 71) (lv' := [(1, .int 1), (2, .int v4_51), (4, .int v4_51), (0, .ref o), (3, .int v3)]) hx hb dX9_finds_71 rfl hl (by decide) rfl (fun ls hl => ?_)
              obtain ⟨v3_72, e_v3_72⟩ : ∃ y : Int32, y = v3 + 1 := ⟨_, rfl⟩
              replace h := h v3_72 e_v3_72
              refine lv_iinc (pc := 72) (v := v3_72) (lv' := [(3, .int v3_72), (1, .int 1), (2, .int v4_51), (4, .int v4_51), (0, .ref o)]) hx hb dX9_finds_72 hl (k := 4) rfl (by rw [e_v3_72]; rfl) (by decide) rfl (fun ls hl => ?_)
              refine lv_goto (pc := 75) (tgt := 8) hx hb dX9_finds_75 (by decide) ?_
              exact ih8 x g 1 v4_51 v3_72 h _ _ _ hP hD hS (lv_sub hl [4, 1, 2, 0] rfl)
            · have h := h.2 c_56
              refine lv_iload_n (pc := 59) hx hb dX9_finds_59 rfl (lv_at hl 2 rfl) ?_
              refine lv_if_ne (pc := 60) (tgt := 68) hx hb dX9_finds_60 (by decide) (fun c_60 => ?_) (fun c_60 => ?_)
              · have h := h.2 c_60
                refine lv_iload_n (pc := 68) hx hb dX9_finds_68 rfl (lv_at hl 3 rfl) ?_
                refine lv_istore_n (pc := 69) (lv' := [(2, .int v2), (4, .int v4_51), (0, .ref o), (1, .int v1), (3, .int v3)]) hx hb dX9_finds_69 rfl hl (by decide) rfl (fun ls hl => ?_)
                refine lv_iconst (pc := 70) (v := 1) hx hb dX9_finds_70 (by decide) ?_
                refine lv_istore_n (pc := 71) (lv' := [(1, .int 1), (2, .int v2), (4, .int v4_51), (0, .ref o), (3, .int v3)]) hx hb dX9_finds_71 rfl hl (by decide) rfl (fun ls hl => ?_)
                obtain ⟨v3_72, e_v3_72⟩ : ∃ y : Int32, y = v3 + 1 := ⟨_, rfl⟩
                replace h := h v3_72 e_v3_72
                refine lv_iinc (pc := 72) (v := v3_72) (lv' := [(3, .int v3_72), (1, .int 1), (2, .int v2), (4, .int v4_51), (0, .ref o)]) hx hb dX9_finds_72 hl (k := 4) rfl (by rw [e_v3_72]; rfl) (by decide) rfl (fun ls hl => ?_)
                refine lv_goto (pc := 75) (tgt := 8) hx hb dX9_finds_75 (by decide) ?_
                exact ih8 x g 1 v2 v3_72 h _ _ _ hP hD hS (lv_sub hl [4, 1, 2, 0] rfl)
              · have h := h.1 c_60
                refine lv_iload (pc := 63) hx hb dX9_finds_63 (lv_at hl 0 rfl) ?_
                refine lv_goto (pc := 65) (tgt := 69) hx hb dX9_finds_65 (by decide) ?_
                refine lv_istore_n (pc := 69) (lv' := [(2, .int v4_51), (4, .int v4_51), (0, .ref o), (1, .int v1), (3, .int v3)]) hx hb dX9_finds_69 rfl hl (by decide) rfl (fun ls hl => ?_)
                refine lv_iconst (pc := 70) (v := 1) hx hb dX9_finds_70 (by decide) ?_
                refine lv_istore_n (pc := 71) (lv' := [(1, .int 1), (2, .int v4_51), (4, .int v4_51), (0, .ref o), (3, .int v3)]) hx hb dX9_finds_71 rfl hl (by decide) rfl (fun ls hl => ?_)
                obtain ⟨v3_72, e_v3_72⟩ : ∃ y : Int32, y = v3 + 1 := ⟨_, rfl⟩
                replace h := h v3_72 e_v3_72
                refine lv_iinc (pc := 72) (v := v3_72) (lv' := [(3, .int v3_72), (1, .int 1), (2, .int v4_51), (4, .int v4_51), (0, .ref o)]) hx hb dX9_finds_72 hl (k := 4) rfl (by rw [e_v3_72]; rfl) (by decide) rfl (fun ls hl => ?_)
                refine lv_goto (pc := 75) (tgt := 8) hx hb dX9_finds_75 (by decide) ?_
                exact ih8 x g 1 v4_51 v3_72 h _ _ _ hP hD hS (lv_sub hl [4, 1, 2, 0] rfl)
          · have h := h.1 c_31
            exact zvr (pc := 34) (Wd := mW E o ad cI cZ) (u := (x, g)) hx hb hr hlocks hAe hK hP hD hS dX9_finds_34 (Nat.le_refl _) (Nat.le_refl _) h
  unfold wX9_finds at h
  refine lv_iconst (pc := 0) (v := 0) hx hb dX9_finds_0 (by decide) ?_
  refine lv_istore_n (pc := 1) (lv' := [(1, .int 0), (0, .ref o)]) hx hb dX9_finds_1 rfl hl (by decide) rfl (fun ls hl => ?_)
  refine lv_sipush (pc := 2) (v := 999) hx hb dX9_finds_2 (by decide) ?_
  refine lv_istore_n (pc := 5) (lv' := [(2, .int 999), (1, .int 0), (0, .ref o)]) hx hb dX9_finds_5 rfl hl (by decide) rfl (fun ls hl => ?_)
  refine lv_iconst (pc := 6) (v := 0) hx hb dX9_finds_6 (by decide) ?_
  refine lv_istore_n (pc := 7) (lv' := [(3, .int 0), (2, .int 999), (1, .int 0), (0, .ref o)]) hx hb dX9_finds_7 rfl hl (by decide) rfl (fun ls hl => ?_)
  obtain ⟨n8, h⟩ := h
  exact L8 n8 x0 g0 0 999 0 h _ _ _ hP hD hS (lv_sub hl [3, 2, 1, 0] rfl)

def jX9_idle_13 (Φ : Int32 → (Nat → Int32) → (Nat → Nat → Int32) → Prop) (x : Nat → Int32) (g : Nat → Nat → Int32) (v1 v2 s1 : Int32) : Prop := (wX9_can x g s1 (fun r_13 x_13 g_13 => ((r_13 = 0 → (Φ 0 x_13 g_13)) ∧ (¬ r_13 = 0 → (vp_in v1 3 ∧ (((x_13 5) = 0 → (vp_in 6 7 ∧ (Φ ((g_13 25) (6 : Int32).toNatClampNeg) x_13 (va_up g_13 18 (upd (g_13 18) v1.toNatClampNeg (vp_nar .boolean v2)))))) ∧ (¬ (x_13 5) = 0 → (wX9_finds x_13 (va_up g_13 18 (upd (g_13 18) v1.toNatClampNeg (vp_nar .boolean v2))) (fun x_36 g_36 => (vp_in 6 7 ∧ (Φ ((g_36 25) (6 : Int32).toNatClampNeg) x_36 g_36)))))))))))
def wX9_idle (x : Nat → Int32) (g : Nat → Nat → Int32) (a1 a2 : Int32) (Φ : Int32 → (Nat → Int32) → (Nat → Nat → Int32) → Prop) : Prop := (wX9_isPartition a1 (fun r_2 => ((r_2 = 0 → (jX9_idle_13 Φ x g a1 a2 1)) ∧ (¬ r_2 = 0 → (jX9_idle_13 Φ x g a1 a2 0)))))
set_option maxRecDepth 100000 in
set_option maxHeartbeats 4000000 in
theorem kX9_idle {l : Launch} {D : va_G} {E : va_W} {o : Nat} {ad : Nat → Nat} {cI cZ : ClassId} {sz : Nat} (x0 : Nat → Int32) (g0 : Nat → Nat → Int32) (a1 a2 : Int32) {Φ : Int32 → (Nat → Int32) → (Nat → Nat → Int32) → Prop} (h : wX9_idle x0 g0 a1 a2 Φ) : Met l yX9_idle (zws yX9_idle cX9_idle 3 (some .int)) { frames := 3, cells := 0, slots := 0, locals := 70 } (zPc D (mT cI cZ) zX0 (mW E o ad cI cZ (x0, g0)) [.ref o, .int a1, .int a2] sz) (zQi D (mT cI cZ) (mW E o ad cI cZ) (fun r u => Φ r u.1 u.2) (mW E o ad cI cZ (x0, g0)) sz) 0 0 (va_A (mW E o ad cI cZ (x0, g0)) sz) := by
  refine zMet (by decide) (Nat.le_of_ble_eq_true rfl) ?_
  intro p e s m args below meth c A hx hb hr hml hown hts hlocks hsz hAe hA hS hP hK hD hX ls hl
  subst hsz
  have hF : zFx p s m args c cX9_idle RX9 A D (mT cI cZ) zX0 3 := ⟨hx, hb, hml, hown, hts, hA, hK, zX0_cl, hX⟩
  have hl : lv_has ls 3 [(0, .ref o), (1, .int a1), (2, .int a2)] := hl
  have J13 : ∀ (x : Nat → Int32) (g : Nat → Nat → Int32) (v1 v2 s1 : Int32), jX9_idle_13 Φ x g v1 v2 s1 → ∀ (H : Heap) (locs : List Loc) (ls : Array Slot), va_P D vwCl (mW E o ad cI cZ (x, g)) H → va_D A (mW E o ad cI cZ (x, g)) → va_S A s.heap H locs → lv_has ls 3 [(0, .ref o), (1, .int v1), (2, .int v2)] → W p l e { frames := 3, cells := 0, slots := 0, locals := 70 } s m args below meth c H locs 0 0 (MQ below (zQi D (mT cI cZ) (mW E o ad cI cZ) (fun r u => Φ r u.1 u.2) (mW E o ad cI cZ (x0, g0)) s.heap.size) args s 0 0 (va_A (mW E o ad cI cZ (x0, g0)) s.heap.size)) (F0 m 13 ls [.int s1, .ref o]) := by
    intro x g v1 v2 s1 h H locs ls hP hD hS hl
    unfold jX9_idle_13 at h
    refine mVb (pc := 13) (x := x) (g := g) [.int s1] hF (kX9_can x g s1 h) (cwX9_X9_can hts ⟨Nat.le_of_ble_eq_true rfl, Nat.le_of_ble_eq_true rfl⟩) hP hD hS rfl rfl hl.1 (Nat.le_of_ble_eq_true rfl) dX9_idle_13 ⟨Nat.le_refl _, Nat.le_refl _⟩ (fun r_13 x_13 g_13 H locs hb_13 h hP hD hS => ?_)
    refine lv_if_ne (pc := 16) (tgt := 21) hx hb dX9_idle_16 (by decide) (fun c_16 => ?_) (fun c_16 => ?_)
    · have h := h.2 c_16
      refine lv_aload_n (pc := 21) hx hb dX9_idle_21 rfl (lv_at hl 0 rfl) ?_
      refine mG_18 (pc := 22) hF hP dX9_idle_22 ?_
      refine lv_iload_n (pc := 25) hx hb dX9_idle_25 rfl (lv_at hl 1 rfl) ?_
      refine lv_iload_n (pc := 26) hx hb dX9_idle_26 rfl (lv_at hl 2 rfl) ?_
      obtain ⟨hi_27, h⟩ := h
      refine mP_18 (pc := 27) hF hP hD hS (f := (g_13 18)) rfl hi_27 dX9_idle_27 (fun H locs hP hD hS => ?_)
      refine lv_aload_n (pc := 28) hx hb dX9_idle_28 rfl (lv_at hl 0 rfl) ?_
      refine mG_5 (pc := 29) (v := (x_13 5)) hF hP rfl dX9_idle_29 ?_
      refine lv_if_eq (pc := 32) (tgt := 39) hx hb dX9_idle_32 (by decide) (fun c_32 => ?_) (fun c_32 => ?_)
      · have h := h.1 c_32
        refine lv_aload_n (pc := 39) hx hb dX9_idle_39 rfl (lv_at hl 0 rfl) ?_
        refine mG_25 (pc := 40) hF hP dX9_idle_40 ?_
        refine lv_bipush (pc := 43) (v := 6) hx hb dX9_idle_43 (by decide) ?_
        obtain ⟨hi_45, h⟩ := h
        refine mL_25 (pc := 45) hF hP (f := (g_13 25)) rfl hi_45 dX9_idle_45 ?_
        exact zirV (pc := 46) (Wd := mW E o ad cI cZ) (u := (x_13, (va_up g_13 18 (upd (g_13 18) v1.toNatClampNeg (vp_nar .boolean v2))))) hx hb hr hlocks hAe hK hP hD hS rfl dX9_idle_46 (Nat.le_refl _) (Nat.le_refl _) h
      · have h := h.2 c_32
        refine lv_aload_n (pc := 35) hx hb dX9_idle_35 rfl (lv_at hl 0 rfl) ?_
        refine mVv (pc := 36) (x := x_13) (g := (va_up g_13 18 (upd (g_13 18) v1.toNatClampNeg (vp_nar .boolean v2)))) [] hF (kX9_finds x_13 (va_up g_13 18 (upd (g_13 18) v1.toNatClampNeg (vp_nar .boolean v2))) h) (cwX9_X9_finds hts ⟨Nat.le_of_ble_eq_true rfl, Nat.le_of_ble_eq_true rfl⟩) hP hD hS rfl rfl hl.1 (Nat.le_of_ble_eq_true rfl) dX9_idle_36 ⟨Nat.le_refl _, Nat.le_refl _⟩ (fun x_36 g_36 H locs h hP hD hS => ?_)
        refine lv_aload_n (pc := 39) hx hb dX9_idle_39 rfl (lv_at hl 0 rfl) ?_
        refine mG_25 (pc := 40) hF hP dX9_idle_40 ?_
        refine lv_bipush (pc := 43) (v := 6) hx hb dX9_idle_43 (by decide) ?_
        obtain ⟨hi_45, h⟩ := h
        refine mL_25 (pc := 45) hF hP (f := (g_36 25)) rfl hi_45 dX9_idle_45 ?_
        exact zirV (pc := 46) (Wd := mW E o ad cI cZ) (u := (x_36, g_36)) hx hb hr hlocks hAe hK hP hD hS rfl dX9_idle_46 (Nat.le_refl _) (Nat.le_refl _) h
    · have h := h.1 c_16
      refine lv_iconst (pc := 19) (v := 0) hx hb dX9_idle_19 (by decide) ?_
      exact zirV (pc := 20) (Wd := mW E o ad cI cZ) (u := (x_13, g_13)) hx hb hr hlocks hAe hK hP hD hS rfl dX9_idle_20 (Nat.le_refl _) (Nat.le_refl _) h
  unfold wX9_idle at h
  refine lv_aload_n (pc := 0) hx hb dX9_idle_0 rfl (lv_at hl 0 rfl) ?_
  refine lv_iload_n (pc := 1) hx hb dX9_idle_1 rfl (lv_at hl 1 rfl) ?_
  refine mSbp (pc := 2) (x := x0) (g := g0) [.int a1] hF (kX9_isPartition x0 g0 a1 h) (cwX9_X9_isPartition hts ⟨Nat.le_of_ble_eq_true rfl, Nat.le_of_ble_eq_true rfl⟩) hP hD hS rfl rfl hl.1 (Nat.le_of_ble_eq_true rfl) dX9_idle_2 ⟨Nat.le_refl _, Nat.le_refl _⟩ (fun r_2 H locs hb_2 h hP hD hS => ?_)
  refine lv_if_eq (pc := 5) (tgt := 12) hx hb dX9_idle_5 (by decide) (fun c_5 => ?_) (fun c_5 => ?_)
  · have h := h.1 c_5
    refine lv_iconst (pc := 12) (v := 1) hx hb dX9_idle_12 (by decide) ?_
    exact J13 x0 g0 a1 a2 1 h _ _ _ hP hD hS (lv_sub hl [0, 1, 2] rfl)
  · have h := h.2 c_5
    refine lv_iconst (pc := 8) (v := 0) hx hb dX9_idle_8 (by decide) ?_
    refine lv_goto (pc := 9) (tgt := 13) hx hb dX9_idle_9 (by decide) ?_
    exact J13 x0 g0 a1 a2 0 h _ _ _ hP hD hS (lv_sub hl [0, 1, 2] rfl)

def jX9_table_64 (Φ : Int32 → (Nat → Int32) → (Nat → Nat → Int32) → Prop) (x : Nat → Int32) (g : Nat → Nat → Int32) (v1 v2 v3 s1 : Int32) : Prop := (wX9_can x g s1 (fun r_64 x_64 g_64 => ((r_64 = 0 → (Φ 0 x_64 g_64)) ∧ (¬ r_64 = 0 → (vp_in (x_64 19) 60 ∧ (vp_in (x_64 19) 60 ∧ (vp_in (x_64 19) 60 ∧ (Φ ((x_64 19) + 1) (va_up x_64 19 ((x_64 19) + 1)) (va_up (va_up (va_up g_64 20 (upd (g_64 20) (x_64 19).toNatClampNeg v1)) 21 (upd (g_64 21) (x_64 19).toNatClampNeg v2)) 22 (upd (g_64 22) (x_64 19).toNatClampNeg v3))))))))))
def jX9_table_27 (Φ : Int32 → (Nat → Int32) → (Nat → Nat → Int32) → Prop) (x : Nat → Int32) (g : Nat → Nat → Int32) (v1 v2 v3 s0 : Int32) : Prop := (wX9_isKey v1 (fun r_31 => ((r_31 = 0 → (jX9_table_64 Φ x g v1 v2 v3 1)) ∧ (¬ r_31 = 0 → ((s0 = 0 → (jX9_table_64 Φ x g v1 v2 v3 2)) ∧ (¬ s0 = 0 → (((x 19) = 60 → (jX9_table_64 Φ x g v1 v2 v3 3)) ∧ (¬ (x 19) = 60 → (jX9_table_64 Φ x g v1 v2 v3 0)))))))))
def jX9_table_26 (Φ : Int32 → (Nat → Int32) → (Nat → Nat → Int32) → Prop) (x : Nat → Int32) (g : Nat → Nat → Int32) (v1 v2 v3 : Int32) : Prop := (jX9_table_27 Φ x g v1 v2 v3 0)
def wX9_table (x : Nat → Int32) (g : Nat → Nat → Int32) (a1 a2 a3 : Int32) (Φ : Int32 → (Nat → Int32) → (Nat → Nat → Int32) → Prop) : Prop := (wX9_isIn a2 0 999 (fun r_5 => ((r_5 = 0 → (jX9_table_26 Φ x g a1 a2 a3)) ∧ (¬ r_5 = 0 → (wX9_isIn a3 (-99) 99 (fun r_16 => ((r_16 = 0 → (jX9_table_26 Φ x g a1 a2 a3)) ∧ (¬ r_16 = 0 → (jX9_table_27 Φ x g a1 a2 a3 1)))))))))
set_option maxRecDepth 100000 in
set_option maxHeartbeats 4000000 in
theorem kX9_table {l : Launch} {D : va_G} {E : va_W} {o : Nat} {ad : Nat → Nat} {cI cZ : ClassId} {sz : Nat} (x0 : Nat → Int32) (g0 : Nat → Nat → Int32) (a1 a2 a3 : Int32) {Φ : Int32 → (Nat → Int32) → (Nat → Nat → Int32) → Prop} (h : wX9_table x0 g0 a1 a2 a3 Φ) : Met l yX9_table (zws yX9_table cX9_table 5 (some .int)) { frames := 2, cells := 0, slots := 0, locals := 42 } (zPc D (mT cI cZ) zX0 (mW E o ad cI cZ (x0, g0)) [.ref o, .int a1, .int a2, .int a3] sz) (zQi D (mT cI cZ) (mW E o ad cI cZ) (fun r u => Φ r u.1 u.2) (mW E o ad cI cZ (x0, g0)) sz) 0 0 (va_A (mW E o ad cI cZ (x0, g0)) sz) := by
  refine zMet (by decide) (Nat.le_of_ble_eq_true rfl) ?_
  intro p e s m args below meth c A hx hb hr hml hown hts hlocks hsz hAe hA hS hP hK hD hX ls hl
  subst hsz
  have hF : zFx p s m args c cX9_table RX9 A D (mT cI cZ) zX0 5 := ⟨hx, hb, hml, hown, hts, hA, hK, zX0_cl, hX⟩
  have hl : lv_has ls 5 [(0, .ref o), (1, .int a1), (2, .int a2), (3, .int a3)] := hl
  have J64 : ∀ (x : Nat → Int32) (g : Nat → Nat → Int32) (v1 v2 v3 s1 : Int32), jX9_table_64 Φ x g v1 v2 v3 s1 → ∀ (H : Heap) (locs : List Loc) (ls : Array Slot), va_P D vwCl (mW E o ad cI cZ (x, g)) H → va_D A (mW E o ad cI cZ (x, g)) → va_S A s.heap H locs → lv_has ls 5 [(0, .ref o), (1, .int v1), (2, .int v2), (3, .int v3)] → W p l e { frames := 2, cells := 0, slots := 0, locals := 42 } s m args below meth c H locs 0 0 (MQ below (zQi D (mT cI cZ) (mW E o ad cI cZ) (fun r u => Φ r u.1 u.2) (mW E o ad cI cZ (x0, g0)) s.heap.size) args s 0 0 (va_A (mW E o ad cI cZ (x0, g0)) s.heap.size)) (F0 m 64 ls [.int s1, .ref o]) := by
    intro x g v1 v2 v3 s1 h H locs ls hP hD hS hl
    unfold jX9_table_64 at h
    refine mVb (pc := 64) (x := x) (g := g) [.int s1] hF (kX9_can x g s1 h) (cwX9_X9_can hts ⟨Nat.le_of_ble_eq_true rfl, Nat.le_of_ble_eq_true rfl⟩) hP hD hS rfl rfl hl.1 (Nat.le_of_ble_eq_true rfl) dX9_table_64 ⟨Nat.le_refl _, Nat.le_refl _⟩ (fun r_64 x_64 g_64 H locs hb_64 h hP hD hS => ?_)
    refine lv_if_ne (pc := 67) (tgt := 72) hx hb dX9_table_67 (by decide) (fun c_67 => ?_) (fun c_67 => ?_)
    · have h := h.2 c_67
      refine lv_aload_n (pc := 72) hx hb dX9_table_72 rfl (lv_at hl 0 rfl) ?_
      refine mG_20 (pc := 73) hF hP dX9_table_73 ?_
      refine lv_aload_n (pc := 76) hx hb dX9_table_76 rfl (lv_at hl 0 rfl) ?_
      refine mG_19 (pc := 77) (v := (x_64 19)) hF hP rfl dX9_table_77 ?_
      refine lv_iload_n (pc := 80) hx hb dX9_table_80 rfl (lv_at hl 1 rfl) ?_
      obtain ⟨hi_81, h⟩ := h
      refine mP_20 (pc := 81) hF hP hD hS (f := (g_64 20)) rfl hi_81 dX9_table_81 (fun H locs hP hD hS => ?_)
      refine lv_aload_n (pc := 82) hx hb dX9_table_82 rfl (lv_at hl 0 rfl) ?_
      refine mG_21 (pc := 83) hF hP dX9_table_83 ?_
      refine lv_aload_n (pc := 86) hx hb dX9_table_86 rfl (lv_at hl 0 rfl) ?_
      refine mG_19 (pc := 87) (v := (x_64 19)) hF hP rfl dX9_table_87 ?_
      refine lv_iload_n (pc := 90) hx hb dX9_table_90 rfl (lv_at hl 2 rfl) ?_
      obtain ⟨hi_91, h⟩ := h
      refine mP_21 (pc := 91) hF hP hD hS (f := (g_64 21)) rfl hi_91 dX9_table_91 (fun H locs hP hD hS => ?_)
      refine lv_aload_n (pc := 92) hx hb dX9_table_92 rfl (lv_at hl 0 rfl) ?_
      refine mG_22 (pc := 93) hF hP dX9_table_93 ?_
      refine lv_aload_n (pc := 96) hx hb dX9_table_96 rfl (lv_at hl 0 rfl) ?_
      refine mG_19 (pc := 97) (v := (x_64 19)) hF hP rfl dX9_table_97 ?_
      refine lv_iload_n (pc := 100) hx hb dX9_table_100 rfl (lv_at hl 3 rfl) ?_
      obtain ⟨hi_101, h⟩ := h
      refine mP_22 (pc := 101) hF hP hD hS (f := (g_64 22)) rfl hi_101 dX9_table_101 (fun H locs hP hD hS => ?_)
      refine lv_aload_n (pc := 102) hx hb dX9_table_102 rfl (lv_at hl 0 rfl) ?_
      refine lv_dup (pc := 103) hx hb dX9_table_103 rfl ?_
      refine mG_19 (pc := 104) (v := (x_64 19)) hF hP rfl dX9_table_104 ?_
      refine lv_iconst (pc := 107) (v := 1) hx hb dX9_table_107 (by decide) ?_
      refine lv_iadd (pc := 108) hx hb dX9_table_108 ?_
      refine mP_19 (pc := 109) hF hP hD hS dX9_table_109 (fun H locs hP hD hS => ?_)
      refine lv_aload_n (pc := 112) hx hb dX9_table_112 rfl (lv_at hl 0 rfl) ?_
      refine mG_19 (pc := 113) (v := ((x_64 19) + 1)) hF hP rfl dX9_table_113 ?_
      exact zirV (pc := 116) (Wd := mW E o ad cI cZ) (u := ((va_up x_64 19 ((x_64 19) + 1)), (va_up (va_up (va_up g_64 20 (upd (g_64 20) (x_64 19).toNatClampNeg v1)) 21 (upd (g_64 21) (x_64 19).toNatClampNeg v2)) 22 (upd (g_64 22) (x_64 19).toNatClampNeg v3)))) hx hb hr hlocks hAe hK hP hD hS rfl dX9_table_116 (Nat.le_refl _) (Nat.le_refl _) h
    · have h := h.1 c_67
      refine lv_iconst (pc := 70) (v := 0) hx hb dX9_table_70 (by decide) ?_
      exact zirV (pc := 71) (Wd := mW E o ad cI cZ) (u := (x_64, g_64)) hx hb hr hlocks hAe hK hP hD hS rfl dX9_table_71 (Nat.le_refl _) (Nat.le_refl _) h
  have J27 : ∀ (x : Nat → Int32) (g : Nat → Nat → Int32) (v1 v2 v3 s0 : Int32), jX9_table_27 Φ x g v1 v2 v3 s0 → ∀ (H : Heap) (locs : List Loc) (ls : Array Slot), va_P D vwCl (mW E o ad cI cZ (x, g)) H → va_D A (mW E o ad cI cZ (x, g)) → va_S A s.heap H locs → lv_has ls 5 [(0, .ref o), (1, .int v1), (2, .int v2), (3, .int v3)] → W p l e { frames := 2, cells := 0, slots := 0, locals := 42 } s m args below meth c H locs 0 0 (MQ below (zQi D (mT cI cZ) (mW E o ad cI cZ) (fun r u => Φ r u.1 u.2) (mW E o ad cI cZ (x0, g0)) s.heap.size) args s 0 0 (va_A (mW E o ad cI cZ (x0, g0)) s.heap.size)) (F0 m 27 ls [.int s0]) := by
    intro x g v1 v2 v3 s0 h H locs ls hP hD hS hl
    unfold jX9_table_27 at h
    refine lv_istore (pc := 27) (lv' := [(4, .int s0), (0, .ref o), (1, .int v1), (2, .int v2), (3, .int v3)]) hx hb dX9_table_27 hl (by decide) rfl (fun ls hl => ?_)
    refine lv_aload_n (pc := 29) hx hb dX9_table_29 rfl (lv_at hl 1 rfl) ?_
    refine lv_iload_n (pc := 30) hx hb dX9_table_30 rfl (lv_at hl 2 rfl) ?_
    refine mSbp (pc := 31) (x := x) (g := g) [.int v1] hF (kX9_isKey x g v1 h) (cwX9_X9_isKey hts ⟨Nat.le_of_ble_eq_true rfl, Nat.le_of_ble_eq_true rfl⟩) hP hD hS rfl rfl hl.1 (Nat.le_of_ble_eq_true rfl) dX9_table_31 ⟨Nat.le_refl _, Nat.le_refl _⟩ (fun r_31 H locs hb_31 h hP hD hS => ?_)
    refine lv_if_ne (pc := 34) (tgt := 41) hx hb dX9_table_34 (by decide) (fun c_34 => ?_) (fun c_34 => ?_)
    · have h := h.2 c_34
      refine lv_iload (pc := 41) hx hb dX9_table_41 (lv_at hl 0 rfl) ?_
      refine lv_if_ne (pc := 43) (tgt := 50) hx hb dX9_table_43 (by decide) (fun c_43 => ?_) (fun c_43 => ?_)
      · have h := h.2 c_43
        refine lv_aload_n (pc := 50) hx hb dX9_table_50 rfl (lv_at hl 1 rfl) ?_
        refine mG_19 (pc := 51) (v := (x 19)) hF hP rfl dX9_table_51 ?_
        refine lv_bipush (pc := 54) (v := 60) hx hb dX9_table_54 (by decide) ?_
        refine lv_icmp_ne (pc := 56) (tgt := 63) hx hb dX9_table_56 (by decide) (fun c_56 => ?_) (fun c_56 => ?_)
        · have h := h.2 c_56
          refine lv_iconst (pc := 63) (v := 0) hx hb dX9_table_63 (by decide) ?_
          exact J64 x g v1 v2 v3 0 h _ _ _ hP hD hS (lv_sub hl [1, 2, 3, 4] rfl)
        · have h := h.1 c_56
          refine lv_iconst (pc := 59) (v := 3) hx hb dX9_table_59 (by decide) ?_
          refine lv_goto (pc := 60) (tgt := 64) hx hb dX9_table_60 (by decide) ?_
          exact J64 x g v1 v2 v3 3 h _ _ _ hP hD hS (lv_sub hl [1, 2, 3, 4] rfl)
      · have h := h.1 c_43
        refine lv_iconst (pc := 46) (v := 2) hx hb dX9_table_46 (by decide) ?_
        refine lv_goto (pc := 47) (tgt := 64) hx hb dX9_table_47 (by decide) ?_
        exact J64 x g v1 v2 v3 2 h _ _ _ hP hD hS (lv_sub hl [1, 2, 3, 4] rfl)
    · have h := h.1 c_34
      refine lv_iconst (pc := 37) (v := 1) hx hb dX9_table_37 (by decide) ?_
      refine lv_goto (pc := 38) (tgt := 64) hx hb dX9_table_38 (by decide) ?_
      exact J64 x g v1 v2 v3 1 h _ _ _ hP hD hS (lv_sub hl [1, 2, 3, 4] rfl)
  have J26 : ∀ (x : Nat → Int32) (g : Nat → Nat → Int32) (v1 v2 v3 : Int32), jX9_table_26 Φ x g v1 v2 v3 → ∀ (H : Heap) (locs : List Loc) (ls : Array Slot), va_P D vwCl (mW E o ad cI cZ (x, g)) H → va_D A (mW E o ad cI cZ (x, g)) → va_S A s.heap H locs → lv_has ls 5 [(0, .ref o), (1, .int v1), (2, .int v2), (3, .int v3)] → W p l e { frames := 2, cells := 0, slots := 0, locals := 42 } s m args below meth c H locs 0 0 (MQ below (zQi D (mT cI cZ) (mW E o ad cI cZ) (fun r u => Φ r u.1 u.2) (mW E o ad cI cZ (x0, g0)) s.heap.size) args s 0 0 (va_A (mW E o ad cI cZ (x0, g0)) s.heap.size)) (F0 m 26 ls []) := by
    intro x g v1 v2 v3 h H locs ls hP hD hS hl
    unfold jX9_table_26 at h
    refine lv_iconst (pc := 26) (v := 0) hx hb dX9_table_26 (by decide) ?_
    exact J27 x g v1 v2 v3 0 h _ _ _ hP hD hS (lv_sub hl [0, 1, 2, 3] rfl)
  unfold wX9_table at h
  refine lv_iload_n (pc := 0) hx hb dX9_table_0 rfl (lv_at hl 2 rfl) ?_
  refine lv_iconst (pc := 1) (v := 0) hx hb dX9_table_1 (by decide) ?_
  refine lv_sipush (pc := 2) (v := 999) hx hb dX9_table_2 (by decide) ?_
  refine mSbp (pc := 5) (x := x0) (g := g0) [.int a2, .int 0, .int 999] hF (kX9_isIn x0 g0 a2 0 999 h) (cwX9_X9_isIn hts ⟨Nat.le_of_ble_eq_true rfl, Nat.le_of_ble_eq_true rfl⟩) hP hD hS rfl rfl hl.1 (Nat.le_of_ble_eq_true rfl) dX9_table_5 ⟨Nat.le_refl _, Nat.le_refl _⟩ (fun r_5 H locs hb_5 h hP hD hS => ?_)
  refine lv_if_eq (pc := 8) (tgt := 26) hx hb dX9_table_8 (by decide) (fun c_8 => ?_) (fun c_8 => ?_)
  · have h := h.1 c_8
    exact J26 x0 g0 a1 a2 a3 h _ _ _ hP hD hS (lv_sub hl [0, 1, 2, 3] rfl)
  · have h := h.2 c_8
    refine lv_iload_n (pc := 11) hx hb dX9_table_11 rfl (lv_at hl 3 rfl) ?_
    refine lv_bipush (pc := 12) (v := (-99)) hx hb dX9_table_12 (by decide) ?_
    refine lv_bipush (pc := 14) (v := 99) hx hb dX9_table_14 (by decide) ?_
    refine mSbp (pc := 16) (x := x0) (g := g0) [.int a3, .int (-99), .int 99] hF (kX9_isIn x0 g0 a3 (-99) 99 h) (cwX9_X9_isIn hts ⟨Nat.le_of_ble_eq_true rfl, Nat.le_of_ble_eq_true rfl⟩) hP hD hS rfl rfl hl.1 (Nat.le_of_ble_eq_true rfl) dX9_table_16 ⟨Nat.le_refl _, Nat.le_refl _⟩ (fun r_16 H locs hb_16 h hP hD hS => ?_)
    refine lv_if_eq (pc := 19) (tgt := 26) hx hb dX9_table_19 (by decide) (fun c_19 => ?_) (fun c_19 => ?_)
    · have h := h.1 c_19
      exact J26 x0 g0 a1 a2 a3 h _ _ _ hP hD hS (lv_sub hl [0, 1, 2, 3] rfl)
    · have h := h.2 c_19
      refine lv_iconst (pc := 22) (v := 1) hx hb dX9_table_22 (by decide) ?_
      refine lv_goto (pc := 23) (tgt := 27) hx hb dX9_table_23 (by decide) ?_
      exact J27 x0 g0 a1 a2 a3 1 h _ _ _ hP hD hS (lv_sub hl [0, 1, 2, 3] rfl)

def jX9_tableOf_41 (W5 : (Nat → Int32) → (Nat → Nat → Int32) → Int32 → Int32 → Int32 → Int32 → Prop) (Φ : Int32 → Prop) (x : Nat → Int32) (g : Nat → Nat → Int32) (v1 v2 v3 v4 s0 : Int32) : Prop := ((s0 = 0 → (∀ v4_76 : Int32, v4_76 = v4 + 1 → (W5 x g v1 v2 v3 v4_76))) ∧ (¬ s0 = 0 → ((v3 = (-1) → (∀ v4_76 : Int32, v4_76 = v4 + 1 → (W5 x g v1 v2 v4 v4_76))) ∧ (¬ v3 = (-1) → (vp_in v4 60 ∧ (vp_in v3 60 ∧ ((((g 21) v4.toNatClampNeg) < ((g 21) v3.toNatClampNeg) → (∀ v4_76 : Int32, v4_76 = v4 + 1 → (W5 x g v1 v2 v3 v4_76))) ∧ (¬ ((g 21) v4.toNatClampNeg) < ((g 21) v3.toNatClampNeg) → (∀ v4_76 : Int32, v4_76 = v4 + 1 → (W5 x g v1 v2 v4 v4_76))))))))))
def jX9_tableOf_40 (W5 : (Nat → Int32) → (Nat → Nat → Int32) → Int32 → Int32 → Int32 → Int32 → Prop) (Φ : Int32 → Prop) (x : Nat → Int32) (g : Nat → Nat → Int32) (v1 v2 v3 v4 : Int32) : Prop := (jX9_tableOf_41 W5 Φ x g v1 v2 v3 v4 0)
def lX9_tableOf_5 (Φ : Int32 → Prop) : Nat → (Nat → Int32) → (Nat → Nat → Int32) → Int32 → Int32 → Int32 → Int32 → Prop
  | 0, _, _, _, _, _, _ => False
  | n5 + 1, x, g, v1, v2, v3, v4 => (((x 19) ≤ v4 → ((v3 = (-1) → (Φ 0)) ∧ (¬ v3 = (-1) → (vp_in v3 60 ∧ (Φ ((g 22) v3.toNatClampNeg)))))) ∧ (¬ (x 19) ≤ v4 → (vp_in v4 60 ∧ ((((g 20) v4.toNatClampNeg) = v1 → (vp_in v4 60 ∧ ((v2 < ((g 21) v4.toNatClampNeg) → (jX9_tableOf_40 (lX9_tableOf_5 Φ n5) Φ x g v1 v2 v3 v4)) ∧ (¬ v2 < ((g 21) v4.toNatClampNeg) → (jX9_tableOf_41 (lX9_tableOf_5 Φ n5) Φ x g v1 v2 v3 v4 1))))) ∧ (¬ ((g 20) v4.toNatClampNeg) = v1 → (jX9_tableOf_40 (lX9_tableOf_5 Φ n5) Φ x g v1 v2 v3 v4))))))
def wX9_tableOf (x : Nat → Int32) (g : Nat → Nat → Int32) (a1 a2 : Int32) (Φ : Int32 → Prop) : Prop := (∃ n5 : Nat, lX9_tableOf_5 Φ n5 x g a1 a2 (-1) 0)
set_option maxRecDepth 100000 in
set_option maxHeartbeats 4000000 in
theorem kX9_tableOf {l : Launch} {D : va_G} {E : va_W} {o : Nat} {ad : Nat → Nat} {cI cZ : ClassId} {sz : Nat} (x0 : Nat → Int32) (g0 : Nat → Nat → Int32) (a1 a2 : Int32) {Φ : Int32 → Prop} (h : wX9_tableOf x0 g0 a1 a2 Φ) : Met l yX9_tableOf (zws yX9_tableOf cX9_tableOf 6 (some .int)) { frames := 0, cells := 0, slots := 0, locals := 0 } (zPc D (mT cI cZ) zX0 (mW E o ad cI cZ (x0, g0)) [.ref o, .int a1, .int a2] sz) (zQi D (mT cI cZ) (mW E o ad cI cZ) (fun r u => u = (x0, g0) ∧ Φ r) (mW E o ad cI cZ (x0, g0)) sz) 0 0 (va_A (mW E o ad cI cZ (x0, g0)) sz) := by
  refine zMet (by decide) (Nat.le_of_ble_eq_true rfl) ?_
  intro p e s m args below meth c A hx hb hr hml hown hts hlocks hsz hAe hA hS hP hK hD hX ls hl
  subst hsz
  have hF : zFx p s m args c cX9_tableOf RX9 A D (mT cI cZ) zX0 6 := ⟨hx, hb, hml, hown, hts, hA, hK, zX0_cl, hX⟩
  have hl : lv_has ls 6 [(0, .ref o), (1, .int a1), (2, .int a2)] := hl
  have L5 : ∀ n5 : Nat, ∀ (v1 v2 v3 v4 : Int32), lX9_tableOf_5 Φ n5 x0 g0 v1 v2 v3 v4 → ∀ (H : Heap) (locs : List Loc) (ls : Array Slot), va_P D vwCl (mW E o ad cI cZ (x0, g0)) H → va_D A (mW E o ad cI cZ (x0, g0)) → va_S A s.heap H locs → lv_has ls 6 [(0, .ref o), (1, .int v1), (2, .int v2), (3, .int v3), (4, .int v4)] → W p l e { frames := 0, cells := 0, slots := 0, locals := 0 } s m args below meth c H locs 0 0 (MQ below (zQi D (mT cI cZ) (mW E o ad cI cZ) (fun r u => u = (x0, g0) ∧ Φ r) (mW E o ad cI cZ (x0, g0)) s.heap.size) args s 0 0 (va_A (mW E o ad cI cZ (x0, g0)) s.heap.size)) (F0 m 5 ls []) := by
    intro n5
    induction n5 with
    | zero => intro v1 v2 v3 v4 h H locs ls hP hD hS hl; exact h.elim
    | succ n5 ih5 =>
      have J41 : ∀ (v1 v2 v3 v4 s0 : Int32), jX9_tableOf_41 (lX9_tableOf_5 Φ n5) Φ x0 g0 v1 v2 v3 v4 s0 → ∀ (H : Heap) (locs : List Loc) (ls : Array Slot), va_P D vwCl (mW E o ad cI cZ (x0, g0)) H → va_D A (mW E o ad cI cZ (x0, g0)) → va_S A s.heap H locs → lv_has ls 6 [(0, .ref o), (1, .int v1), (2, .int v2), (3, .int v3), (4, .int v4)] → W p l e { frames := 0, cells := 0, slots := 0, locals := 0 } s m args below meth c H locs 0 0 (MQ below (zQi D (mT cI cZ) (mW E o ad cI cZ) (fun r u => u = (x0, g0) ∧ Φ r) (mW E o ad cI cZ (x0, g0)) s.heap.size) args s 0 0 (va_A (mW E o ad cI cZ (x0, g0)) s.heap.size)) (F0 m 41 ls [.int s0]) := by
        intro v1 v2 v3 v4 s0 h H locs ls hP hD hS hl
        unfold jX9_tableOf_41 at h
        refine lv_istore (pc := 41) (lv' := [(5, .int s0), (0, .ref o), (1, .int v1), (2, .int v2), (3, .int v3), (4, .int v4)]) hx hb dX9_tableOf_41 hl (by decide) rfl (fun ls hl => ?_)
        refine lv_iload (pc := 43) hx hb dX9_tableOf_43 (lv_at hl 0 rfl) ?_
        refine lv_if_eq (pc := 45) (tgt := 74) hx hb dX9_tableOf_45 (by decide) (fun c_45 => ?_) (fun c_45 => ?_)
        · have h := h.1 c_45
          refine lv_iload_n (pc := 74) hx hb dX9_tableOf_74 rfl (lv_at hl 4 rfl) ?_
          refine lv_istore_n (pc := 75) (lv' := [(3, .int v3), (5, .int s0), (0, .ref o), (1, .int v1), (2, .int v2), (4, .int v4)]) hx hb dX9_tableOf_75 rfl hl (by decide) rfl (fun ls hl => ?_)
          obtain ⟨v4_76, e_v4_76⟩ : ∃ y : Int32, y = v4 + 1 := ⟨_, rfl⟩
          replace h := h v4_76 e_v4_76
          refine lv_iinc (pc := 76) (v := v4_76) (lv' := [(4, .int v4_76), (3, .int v3), (5, .int s0), (0, .ref o), (1, .int v1), (2, .int v2)]) hx hb dX9_tableOf_76 hl (k := 5) rfl (by rw [e_v4_76]; rfl) (by decide) rfl (fun ls hl => ?_)
          refine lv_goto (pc := 79) (tgt := 5) hx hb dX9_tableOf_79 (by decide) ?_
          exact ih5 v1 v2 v3 v4_76 h _ _ _ hP hD hS (lv_sub hl [3, 4, 5, 1, 0] rfl)
        · have h := h.2 c_45
          refine lv_iload_n (pc := 48) hx hb dX9_tableOf_48 rfl (lv_at hl 4 rfl) ?_
          refine lv_iconst (pc := 49) (v := (-1)) hx hb dX9_tableOf_49 (by decide) ?_
          refine lv_icmp_eq (pc := 50) (tgt := 69) hx hb dX9_tableOf_50 (by decide) (fun c_50 => ?_) (fun c_50 => ?_)
          · have h := h.1 c_50
            refine lv_iload (pc := 69) hx hb dX9_tableOf_69 (lv_at hl 5 rfl) ?_
            refine lv_goto (pc := 71) (tgt := 75) hx hb dX9_tableOf_71 (by decide) ?_
            refine lv_istore_n (pc := 75) (lv' := [(3, .int v4), (5, .int s0), (0, .ref o), (1, .int v1), (2, .int v2), (4, .int v4)]) hx hb dX9_tableOf_75 rfl hl (by decide) rfl (fun ls hl => ?_)
            obtain ⟨v4_76, e_v4_76⟩ : ∃ y : Int32, y = v4 + 1 := ⟨_, rfl⟩
            replace h := h v4_76 e_v4_76
            refine lv_iinc (pc := 76) (v := v4_76) (lv' := [(4, .int v4_76), (3, .int v4), (5, .int s0), (0, .ref o), (1, .int v1), (2, .int v2)]) hx hb dX9_tableOf_76 hl (k := 5) rfl (by rw [e_v4_76]; rfl) (by decide) rfl (fun ls hl => ?_)
            refine lv_goto (pc := 79) (tgt := 5) hx hb dX9_tableOf_79 (by decide) ?_
            exact ih5 v1 v2 v4 v4_76 h _ _ _ hP hD hS (lv_sub hl [3, 4, 5, 1, 0] rfl)
          · have h := h.2 c_50
            refine lv_aload_n (pc := 53) hx hb dX9_tableOf_53 rfl (lv_at hl 1 rfl) ?_
            refine mG_21 (pc := 54) hF hP dX9_tableOf_54 ?_
            refine lv_iload (pc := 57) hx hb dX9_tableOf_57 (lv_at hl 5 rfl) ?_
            obtain ⟨hi_59, h⟩ := h
            refine mL_21 (pc := 59) hF hP (f := (g0 21)) rfl hi_59 dX9_tableOf_59 ?_
            refine lv_aload_n (pc := 60) hx hb dX9_tableOf_60 rfl (lv_at hl 1 rfl) ?_
            refine mG_21 (pc := 61) hF hP dX9_tableOf_61 ?_
            refine lv_iload_n (pc := 64) hx hb dX9_tableOf_64 rfl (lv_at hl 4 rfl) ?_
            obtain ⟨hi_65, h⟩ := h
            refine mL_21 (pc := 65) hF hP (f := (g0 21)) rfl hi_65 dX9_tableOf_65 ?_
            refine lv_icmp_lt (pc := 66) (tgt := 74) hx hb dX9_tableOf_66 (by decide) (fun c_66 => ?_) (fun c_66 => ?_)
            · have h := h.1 c_66
              refine lv_iload_n (pc := 74) hx hb dX9_tableOf_74 rfl (lv_at hl 4 rfl) ?_
              refine lv_istore_n (pc := 75) (lv' := [(3, .int v3), (5, .int s0), (0, .ref o), (1, .int v1), (2, .int v2), (4, .int v4)]) hx hb dX9_tableOf_75 rfl hl (by decide) rfl (fun ls hl => ?_)
              obtain ⟨v4_76, e_v4_76⟩ : ∃ y : Int32, y = v4 + 1 := ⟨_, rfl⟩
              replace h := h v4_76 e_v4_76
              refine lv_iinc (pc := 76) (v := v4_76) (lv' := [(4, .int v4_76), (3, .int v3), (5, .int s0), (0, .ref o), (1, .int v1), (2, .int v2)]) hx hb dX9_tableOf_76 hl (k := 5) rfl (by rw [e_v4_76]; rfl) (by decide) rfl (fun ls hl => ?_)
              refine lv_goto (pc := 79) (tgt := 5) hx hb dX9_tableOf_79 (by decide) ?_
              exact ih5 v1 v2 v3 v4_76 h _ _ _ hP hD hS (lv_sub hl [3, 4, 5, 1, 0] rfl)
            · have h := h.2 c_66
              refine lv_iload (pc := 69) hx hb dX9_tableOf_69 (lv_at hl 5 rfl) ?_
              refine lv_goto (pc := 71) (tgt := 75) hx hb dX9_tableOf_71 (by decide) ?_
              refine lv_istore_n (pc := 75) (lv' := [(3, .int v4), (5, .int s0), (0, .ref o), (1, .int v1), (2, .int v2), (4, .int v4)]) hx hb dX9_tableOf_75 rfl hl (by decide) rfl (fun ls hl => ?_)
              obtain ⟨v4_76, e_v4_76⟩ : ∃ y : Int32, y = v4 + 1 := ⟨_, rfl⟩
              replace h := h v4_76 e_v4_76
              refine lv_iinc (pc := 76) (v := v4_76) (lv' := [(4, .int v4_76), (3, .int v4), (5, .int s0), (0, .ref o), (1, .int v1), (2, .int v2)]) hx hb dX9_tableOf_76 hl (k := 5) rfl (by rw [e_v4_76]; rfl) (by decide) rfl (fun ls hl => ?_)
              refine lv_goto (pc := 79) (tgt := 5) hx hb dX9_tableOf_79 (by decide) ?_
              exact ih5 v1 v2 v4 v4_76 h _ _ _ hP hD hS (lv_sub hl [3, 4, 5, 1, 0] rfl)
      have J40 : ∀ (v1 v2 v3 v4 : Int32), jX9_tableOf_40 (lX9_tableOf_5 Φ n5) Φ x0 g0 v1 v2 v3 v4 → ∀ (H : Heap) (locs : List Loc) (ls : Array Slot), va_P D vwCl (mW E o ad cI cZ (x0, g0)) H → va_D A (mW E o ad cI cZ (x0, g0)) → va_S A s.heap H locs → lv_has ls 6 [(0, .ref o), (1, .int v1), (2, .int v2), (3, .int v3), (4, .int v4)] → W p l e { frames := 0, cells := 0, slots := 0, locals := 0 } s m args below meth c H locs 0 0 (MQ below (zQi D (mT cI cZ) (mW E o ad cI cZ) (fun r u => u = (x0, g0) ∧ Φ r) (mW E o ad cI cZ (x0, g0)) s.heap.size) args s 0 0 (va_A (mW E o ad cI cZ (x0, g0)) s.heap.size)) (F0 m 40 ls []) := by
        intro v1 v2 v3 v4 h H locs ls hP hD hS hl
        unfold jX9_tableOf_40 at h
        refine lv_iconst (pc := 40) (v := 0) hx hb dX9_tableOf_40 (by decide) ?_
        exact J41 v1 v2 v3 v4 0 h _ _ _ hP hD hS (lv_sub hl [0, 1, 2, 3, 4] rfl)
      intro v1 v2 v3 v4 h H locs ls hP hD hS hl
      unfold lX9_tableOf_5 at h
      refine lv_iload (pc := 5) hx hb dX9_tableOf_5 (lv_at hl 4 rfl) ?_
      refine lv_aload_n (pc := 7) hx hb dX9_tableOf_7 rfl (lv_at hl 0 rfl) ?_
      refine mG_19 (pc := 8) (v := (x0 19)) hF hP rfl dX9_tableOf_8 ?_
      refine lv_icmp_ge (pc := 11) (tgt := 82) hx hb dX9_tableOf_11 (by decide) (fun c_11 => ?_) (fun c_11 => ?_)
      · have h := h.1 c_11
        refine lv_iload_n (pc := 82) hx hb dX9_tableOf_82 rfl (lv_at hl 3 rfl) ?_
        refine lv_iconst (pc := 83) (v := (-1)) hx hb dX9_tableOf_83 (by decide) ?_
        refine lv_icmp_ne (pc := 84) (tgt := 91) hx hb dX9_tableOf_84 (by decide) (fun c_84 => ?_) (fun c_84 => ?_)
        · have h := h.2 c_84
          refine lv_aload_n (pc := 91) hx hb dX9_tableOf_91 rfl (lv_at hl 0 rfl) ?_
          refine mG_22 (pc := 92) hF hP dX9_tableOf_92 ?_
          refine lv_iload_n (pc := 95) hx hb dX9_tableOf_95 rfl (lv_at hl 3 rfl) ?_
          obtain ⟨hi_96, h⟩ := h
          refine mL_22 (pc := 96) hF hP (f := (g0 22)) rfl hi_96 dX9_tableOf_96 ?_
          exact zirV (pc := 97) (Wd := mW E o ad cI cZ) (u := (x0, g0)) hx hb hr hlocks hAe hK hP hD hS rfl dX9_tableOf_97 (Nat.le_refl _) (Nat.le_refl _) ⟨rfl, h⟩
        · have h := h.1 c_84
          refine lv_iconst (pc := 87) (v := 0) hx hb dX9_tableOf_87 (by decide) ?_
          refine lv_goto (pc := 88) (tgt := 97) hx hb dX9_tableOf_88 (by decide) ?_
          exact zirV (pc := 97) (Wd := mW E o ad cI cZ) (u := (x0, g0)) hx hb hr hlocks hAe hK hP hD hS rfl dX9_tableOf_97 (Nat.le_refl _) (Nat.le_refl _) ⟨rfl, h⟩
      · have h := h.2 c_11
        refine lv_aload_n (pc := 14) hx hb dX9_tableOf_14 rfl (lv_at hl 0 rfl) ?_
        refine mG_20 (pc := 15) hF hP dX9_tableOf_15 ?_
        refine lv_iload (pc := 18) hx hb dX9_tableOf_18 (lv_at hl 4 rfl) ?_
        obtain ⟨hi_20, h⟩ := h
        refine mL_20 (pc := 20) hF hP (f := (g0 20)) rfl hi_20 dX9_tableOf_20 ?_
        refine lv_iload_n (pc := 21) hx hb dX9_tableOf_21 rfl (lv_at hl 1 rfl) ?_
        refine lv_icmp_ne (pc := 22) (tgt := 40) hx hb dX9_tableOf_22 (by decide) (fun c_22 => ?_) (fun c_22 => ?_)
        · have h := h.2 c_22
          exact J40 v1 v2 v3 v4 h _ _ _ hP hD hS (lv_sub hl [0, 1, 2, 3, 4] rfl)
        · have h := h.1 c_22
          refine lv_aload_n (pc := 25) hx hb dX9_tableOf_25 rfl (lv_at hl 0 rfl) ?_
          refine mG_21 (pc := 26) hF hP dX9_tableOf_26 ?_
          refine lv_iload (pc := 29) hx hb dX9_tableOf_29 (lv_at hl 4 rfl) ?_
          obtain ⟨hi_31, h⟩ := h
          refine mL_21 (pc := 31) hF hP (f := (g0 21)) rfl hi_31 dX9_tableOf_31 ?_
          refine lv_iload_n (pc := 32) hx hb dX9_tableOf_32 rfl (lv_at hl 2 rfl) ?_
          refine lv_icmp_gt (pc := 33) (tgt := 40) hx hb dX9_tableOf_33 (by decide) (fun c_33 => ?_) (fun c_33 => ?_)
          · have h := h.1 c_33
            exact J40 v1 v2 v3 v4 h _ _ _ hP hD hS (lv_sub hl [0, 1, 2, 3, 4] rfl)
          · have h := h.2 c_33
            refine lv_iconst (pc := 36) (v := 1) hx hb dX9_tableOf_36 (by decide) ?_
            refine lv_goto (pc := 37) (tgt := 41) hx hb dX9_tableOf_37 (by decide) ?_
            exact J41 v1 v2 v3 v4 1 h _ _ _ hP hD hS (lv_sub hl [0, 1, 2, 3, 4] rfl)
  unfold wX9_tableOf at h
  refine lv_iconst (pc := 0) (v := (-1)) hx hb dX9_tableOf_0 (by decide) ?_
  refine lv_istore_n (pc := 1) (lv' := [(3, .int (-1)), (0, .ref o), (1, .int a1), (2, .int a2)]) hx hb dX9_tableOf_1 rfl hl (by decide) rfl (fun ls hl => ?_)
  refine lv_iconst (pc := 2) (v := 0) hx hb dX9_tableOf_2 (by decide) ?_
  refine lv_istore (pc := 3) (lv' := [(4, .int 0), (3, .int (-1)), (0, .ref o), (1, .int a1), (2, .int a2)]) hx hb dX9_tableOf_3 hl (by decide) rfl (fun ls hl => ?_)
  obtain ⟨n5, h⟩ := h
  exact L5 n5 a1 a2 (-1) 0 h _ _ _ hP hD hS (lv_sub hl [2, 3, 4, 1, 0] rfl)

def lX9_windowOf_8 (Φ : Int32 → Prop) : Nat → (Nat → Int32) → (Nat → Nat → Int32) → Int32 → Int32 → Int32 → Int32 → Prop
  | 0, _, _, _, _, _, _ => False
  | n8 + 1, x, g, v1, v2, v3, v4 => (vp_in 6 7 ∧ (wX9_placeOf ((g 28) (6 : Int32).toNatClampNeg) (fun r_17 => ((r_17 ≤ v4 → (Φ v3)) ∧ (¬ r_17 ≤ v4 → (vp_in v4 8400 ∧ ((((g 29) v4.toNatClampNeg) = v1 → (vp_in v4 8400 ∧ ((((g 30) v4.toNatClampNeg) = v2 → (∀ v4_52 : Int32, v4_52 = v4 + 1 → ((lX9_windowOf_8 Φ n8) x g v1 v2 v4 v4_52))) ∧ (¬ ((g 30) v4.toNatClampNeg) = v2 → (∀ v4_52 : Int32, v4_52 = v4 + 1 → ((lX9_windowOf_8 Φ n8) x g v1 v2 v3 v4_52)))))) ∧ (¬ ((g 29) v4.toNatClampNeg) = v1 → (∀ v4_52 : Int32, v4_52 = v4 + 1 → ((lX9_windowOf_8 Φ n8) x g v1 v2 v3 v4_52))))))))))
def wX9_windowOf (x : Nat → Int32) (g : Nat → Nat → Int32) (a1 a2 : Int32) (Φ : Int32 → Prop) : Prop := (wX9_placeOf 0 (fun r_3 => (∃ n8 : Nat, lX9_windowOf_8 Φ n8 x g a1 a2 (-1) r_3)))
set_option maxRecDepth 100000 in
set_option maxHeartbeats 4000000 in
theorem kX9_windowOf {l : Launch} {D : va_G} {E : va_W} {o : Nat} {ad : Nat → Nat} {cI cZ : ClassId} {sz : Nat} (x0 : Nat → Int32) (g0 : Nat → Nat → Int32) (a1 a2 : Int32) {Φ : Int32 → Prop} (h : wX9_windowOf x0 g0 a1 a2 Φ) : Met l yX9_windowOf (zws yX9_windowOf cX9_windowOf 5 (some .int)) { frames := 1, cells := 0, slots := 0, locals := 20 } (zPc D (mT cI cZ) zX0 (mW E o ad cI cZ (x0, g0)) [.ref o, .int a1, .int a2] sz) (zQi D (mT cI cZ) (mW E o ad cI cZ) (fun r u => u = (x0, g0) ∧ Φ r) (mW E o ad cI cZ (x0, g0)) sz) 0 0 (va_A (mW E o ad cI cZ (x0, g0)) sz) := by
  refine zMet (by decide) (Nat.le_of_ble_eq_true rfl) ?_
  intro p e s m args below meth c A hx hb hr hml hown hts hlocks hsz hAe hA hS hP hK hD hX ls hl
  subst hsz
  have hF : zFx p s m args c cX9_windowOf RX9 A D (mT cI cZ) zX0 5 := ⟨hx, hb, hml, hown, hts, hA, hK, zX0_cl, hX⟩
  have hl : lv_has ls 5 [(0, .ref o), (1, .int a1), (2, .int a2)] := hl
  have L8 : ∀ n8 : Nat, ∀ (v1 v2 v3 v4 : Int32), lX9_windowOf_8 Φ n8 x0 g0 v1 v2 v3 v4 → ∀ (H : Heap) (locs : List Loc) (ls : Array Slot), va_P D vwCl (mW E o ad cI cZ (x0, g0)) H → va_D A (mW E o ad cI cZ (x0, g0)) → va_S A s.heap H locs → lv_has ls 5 [(0, .ref o), (1, .int v1), (2, .int v2), (3, .int v3), (4, .int v4)] → W p l e { frames := 1, cells := 0, slots := 0, locals := 20 } s m args below meth c H locs 0 0 (MQ below (zQi D (mT cI cZ) (mW E o ad cI cZ) (fun r u => u = (x0, g0) ∧ Φ r) (mW E o ad cI cZ (x0, g0)) s.heap.size) args s 0 0 (va_A (mW E o ad cI cZ (x0, g0)) s.heap.size)) (F0 m 8 ls []) := by
    intro n8
    induction n8 with
    | zero => intro v1 v2 v3 v4 h H locs ls hP hD hS hl; exact h.elim
    | succ n8 ih8 =>
      intro v1 v2 v3 v4 h H locs ls hP hD hS hl
      unfold lX9_windowOf_8 at h
      refine lv_iload (pc := 8) hx hb dX9_windowOf_8 (lv_at hl 4 rfl) ?_
      refine lv_aload_n (pc := 10) hx hb dX9_windowOf_10 rfl (lv_at hl 0 rfl) ?_
      refine mG_28 (pc := 11) hF hP dX9_windowOf_11 ?_
      refine lv_bipush (pc := 14) (v := 6) hx hb dX9_windowOf_14 (by decide) ?_
      obtain ⟨hi_16, h⟩ := h
      refine mL_28 (pc := 16) hF hP (f := (g0 28)) rfl hi_16 dX9_windowOf_16 ?_
      refine mSip (pc := 17) (x := x0) (g := g0) [.int ((g0 28) (6 : Int32).toNatClampNeg)] hF (kX9_placeOf x0 g0 ((g0 28) (6 : Int32).toNatClampNeg) h) (cwX9_X9_placeOf hts ⟨Nat.le_of_ble_eq_true rfl, Nat.le_of_ble_eq_true rfl⟩) hP hD hS rfl rfl hl.1 (Nat.le_of_ble_eq_true rfl) dX9_windowOf_17 ⟨Nat.le_refl _, Nat.le_refl _⟩ (fun r_17 H locs h hP hD hS => ?_)
      refine lv_icmp_ge (pc := 20) (tgt := 58) hx hb dX9_windowOf_20 (by decide) (fun c_20 => ?_) (fun c_20 => ?_)
      · have h := h.1 c_20
        refine lv_iload_n (pc := 58) hx hb dX9_windowOf_58 rfl (lv_at hl 3 rfl) ?_
        exact zirV (pc := 59) (Wd := mW E o ad cI cZ) (u := (x0, g0)) hx hb hr hlocks hAe hK hP hD hS rfl dX9_windowOf_59 (Nat.le_refl _) (Nat.le_refl _) ⟨rfl, h⟩
      · have h := h.2 c_20
        refine lv_aload_n (pc := 23) hx hb dX9_windowOf_23 rfl (lv_at hl 0 rfl) ?_
        refine mG_29 (pc := 24) hF hP dX9_windowOf_24 ?_
        refine lv_iload (pc := 27) hx hb dX9_windowOf_27 (lv_at hl 4 rfl) ?_
        obtain ⟨hi_29, h⟩ := h
        refine mL_29 (pc := 29) hF hP (f := (g0 29)) rfl hi_29 dX9_windowOf_29 ?_
        refine lv_iload_n (pc := 30) hx hb dX9_windowOf_30 rfl (lv_at hl 1 rfl) ?_
        refine lv_icmp_ne (pc := 31) (tgt := 50) hx hb dX9_windowOf_31 (by decide) (fun c_31 => ?_) (fun c_31 => ?_)
        · have h := h.2 c_31
          refine lv_iload_n (pc := 50) hx hb dX9_windowOf_50 rfl (lv_at hl 3 rfl) ?_
          refine lv_istore_n (pc := 51) (lv' := [(3, .int v3), (0, .ref o), (1, .int v1), (2, .int v2), (4, .int v4)]) hx hb dX9_windowOf_51 rfl hl (by decide) rfl (fun ls hl => ?_)
          obtain ⟨v4_52, e_v4_52⟩ : ∃ y : Int32, y = v4 + 1 := ⟨_, rfl⟩
          replace h := h v4_52 e_v4_52
          refine lv_iinc (pc := 52) (v := v4_52) (lv' := [(4, .int v4_52), (3, .int v3), (0, .ref o), (1, .int v1), (2, .int v2)]) hx hb dX9_windowOf_52 hl (k := 4) rfl (by rw [e_v4_52]; rfl) (by decide) rfl (fun ls hl => ?_)
          refine lv_goto (pc := 55) (tgt := 8) hx hb dX9_windowOf_55 (by decide) ?_
          exact ih8 v1 v2 v3 v4_52 h _ _ _ hP hD hS (lv_sub hl [2, 3, 4, 1, 0] rfl)
        · have h := h.1 c_31
          refine lv_aload_n (pc := 34) hx hb dX9_windowOf_34 rfl (lv_at hl 0 rfl) ?_
          refine mG_30 (pc := 35) hF hP dX9_windowOf_35 ?_
          refine lv_iload (pc := 38) hx hb dX9_windowOf_38 (lv_at hl 4 rfl) ?_
          obtain ⟨hi_40, h⟩ := h
          refine mL_30 (pc := 40) hF hP (f := (g0 30)) rfl hi_40 dX9_windowOf_40 ?_
          refine lv_iload_n (pc := 41) hx hb dX9_windowOf_41 rfl (lv_at hl 2 rfl) ?_
          refine lv_icmp_ne (pc := 42) (tgt := 50) hx hb dX9_windowOf_42 (by decide) (fun c_42 => ?_) (fun c_42 => ?_)
          · have h := h.2 c_42
            refine lv_iload_n (pc := 50) hx hb dX9_windowOf_50 rfl (lv_at hl 3 rfl) ?_
            refine lv_istore_n (pc := 51) (lv' := [(3, .int v3), (0, .ref o), (1, .int v1), (2, .int v2), (4, .int v4)]) hx hb dX9_windowOf_51 rfl hl (by decide) rfl (fun ls hl => ?_)
            obtain ⟨v4_52, e_v4_52⟩ : ∃ y : Int32, y = v4 + 1 := ⟨_, rfl⟩
            replace h := h v4_52 e_v4_52
            refine lv_iinc (pc := 52) (v := v4_52) (lv' := [(4, .int v4_52), (3, .int v3), (0, .ref o), (1, .int v1), (2, .int v2)]) hx hb dX9_windowOf_52 hl (k := 4) rfl (by rw [e_v4_52]; rfl) (by decide) rfl (fun ls hl => ?_)
            refine lv_goto (pc := 55) (tgt := 8) hx hb dX9_windowOf_55 (by decide) ?_
            exact ih8 v1 v2 v3 v4_52 h _ _ _ hP hD hS (lv_sub hl [2, 3, 4, 1, 0] rfl)
          · have h := h.1 c_42
            refine lv_iload (pc := 45) hx hb dX9_windowOf_45 (lv_at hl 4 rfl) ?_
            refine lv_goto (pc := 47) (tgt := 51) hx hb dX9_windowOf_47 (by decide) ?_
            refine lv_istore_n (pc := 51) (lv' := [(3, .int v4), (0, .ref o), (1, .int v1), (2, .int v2), (4, .int v4)]) hx hb dX9_windowOf_51 rfl hl (by decide) rfl (fun ls hl => ?_)
            obtain ⟨v4_52, e_v4_52⟩ : ∃ y : Int32, y = v4 + 1 := ⟨_, rfl⟩
            replace h := h v4_52 e_v4_52
            refine lv_iinc (pc := 52) (v := v4_52) (lv' := [(4, .int v4_52), (3, .int v4), (0, .ref o), (1, .int v1), (2, .int v2)]) hx hb dX9_windowOf_52 hl (k := 4) rfl (by rw [e_v4_52]; rfl) (by decide) rfl (fun ls hl => ?_)
            refine lv_goto (pc := 55) (tgt := 8) hx hb dX9_windowOf_55 (by decide) ?_
            exact ih8 v1 v2 v4 v4_52 h _ _ _ hP hD hS (lv_sub hl [2, 3, 4, 1, 0] rfl)
  unfold wX9_windowOf at h
  refine lv_iconst (pc := 0) (v := (-1)) hx hb dX9_windowOf_0 (by decide) ?_
  refine lv_istore_n (pc := 1) (lv' := [(3, .int (-1)), (0, .ref o), (1, .int a1), (2, .int a2)]) hx hb dX9_windowOf_1 rfl hl (by decide) rfl (fun ls hl => ?_)
  refine lv_iconst (pc := 2) (v := 0) hx hb dX9_windowOf_2 (by decide) ?_
  refine mSip (pc := 3) (x := x0) (g := g0) [.int 0] hF (kX9_placeOf x0 g0 0 h) (cwX9_X9_placeOf hts ⟨Nat.le_of_ble_eq_true rfl, Nat.le_of_ble_eq_true rfl⟩) hP hD hS rfl rfl hl.1 (Nat.le_of_ble_eq_true rfl) dX9_windowOf_3 ⟨Nat.le_refl _, Nat.le_refl _⟩ (fun r_3 H locs h hP hD hS => ?_)
  refine lv_istore (pc := 6) (lv' := [(4, .int r_3), (3, .int (-1)), (0, .ref o), (1, .int a1), (2, .int a2)]) hx hb dX9_windowOf_6 hl (by decide) rfl (fun ls hl => ?_)
  obtain ⟨n8, h⟩ := h
  exact L8 n8 a1 a2 (-1) r_3 h _ _ _ hP hD hS (lv_sub hl [2, 3, 4, 1, 0] rfl)

def jX9_makes_76 (Φ : Int32 → (Nat → Int32) → (Nat → Nat → Int32) → Prop) (x : Nat → Int32) (g : Nat → Nat → Int32) (v1 v2 v3 v4 : Int32) : Prop := (vp_in v4 8400 ∧ (vp_in v4 8400 ∧ (vp_in v4 8400 ∧ (vp_in v4 8400 ∧ (vp_in v4 8400 ∧ (vp_in v4 8400 ∧ (vp_in 6 7 ∧ (vp_in 6 7 ∧ (Φ v4 x (va_up (va_up (va_up (va_up (va_up (va_up (va_up g 29 (upd (g 29) v4.toNatClampNeg v1)) 30 (upd (g 30) v4.toNatClampNeg v2)) 31 (upd (g 31) v4.toNatClampNeg v3)) 32 (upd (g 32) v4.toNatClampNeg 0)) 33 (upd (g 33) v4.toNatClampNeg (vp_nar .boolean 0))) 34 (upd (g 34) v4.toNatClampNeg 0)) 28 (upd (g 28) (6 : Int32).toNatClampNeg (((g 28) (6 : Int32).toNatClampNeg) + 1))))))))))))
def jX9_makes_60 (W12 : (Nat → Int32) → (Nat → Nat → Int32) → Int32 → Int32 → Int32 → Int32 → Prop) (Φ : Int32 → (Nat → Int32) → (Nat → Nat → Int32) → Prop) (x : Nat → Int32) (g : Nat → Nat → Int32) (v1 v2 v3 v4 : Int32) : Prop := (wX9_copiesWindow x g (v4 - 1) v4 (fun x_67 g_67 => (∀ v4_70 : Int32, v4_70 = v4 + (-1) → (W12 x_67 g_67 v1 v2 v3 v4_70))))
def lX9_makes_12 (Φ : Int32 → (Nat → Int32) → (Nat → Nat → Int32) → Prop) : Nat → (Nat → Int32) → (Nat → Nat → Int32) → Int32 → Int32 → Int32 → Int32 → Prop
  | 0, _, _, _, _, _, _ => False
  | n12 + 1, x, g, v1, v2, v3, v4 => (wX9_placeOf 0 (fun r_15 => ((v4 ≤ r_15 → (jX9_makes_76 Φ x g v1 v2 v3 v4)) ∧ (¬ v4 ≤ r_15 → (vp_in (v4 - 1) 8400 ∧ ((v1 < ((g 29) (v4 - 1).toNatClampNeg) → (jX9_makes_60 (lX9_makes_12 Φ n12) Φ x g v1 v2 v3 v4)) ∧ (¬ v1 < ((g 29) (v4 - 1).toNatClampNeg) → (vp_in (v4 - 1) 8400 ∧ ((((g 29) (v4 - 1).toNatClampNeg) = v1 → (vp_in (v4 - 1) 8400 ∧ ((((g 30) (v4 - 1).toNatClampNeg) ≤ v2 → (jX9_makes_76 Φ x g v1 v2 v3 v4)) ∧ (¬ ((g 30) (v4 - 1).toNatClampNeg) ≤ v2 → (jX9_makes_60 (lX9_makes_12 Φ n12) Φ x g v1 v2 v3 v4))))) ∧ (¬ ((g 29) (v4 - 1).toNatClampNeg) = v1 → (jX9_makes_76 Φ x g v1 v2 v3 v4)))))))))))
def wX9_makes (x : Nat → Int32) (g : Nat → Nat → Int32) (a1 a2 a3 : Int32) (Φ : Int32 → (Nat → Int32) → (Nat → Nat → Int32) → Prop) : Prop := (vp_in 6 7 ∧ (wX9_placeOf ((g 28) (6 : Int32).toNatClampNeg) (fun r_7 => (∃ n12 : Nat, lX9_makes_12 Φ n12 x g a1 a2 a3 r_7))))
set_option maxRecDepth 100000 in
set_option maxHeartbeats 4000000 in
theorem kX9_makes {l : Launch} {D : va_G} {E : va_W} {o : Nat} {ad : Nat → Nat} {cI cZ : ClassId} {sz : Nat} (x0 : Nat → Int32) (g0 : Nat → Nat → Int32) (a1 a2 a3 : Int32) {Φ : Int32 → (Nat → Int32) → (Nat → Nat → Int32) → Prop} (h : wX9_makes x0 g0 a1 a2 a3 Φ) : Met l yX9_makes (zws yX9_makes cX9_makes 5 (some .int)) { frames := 1, cells := 0, slots := 0, locals := 22 } (zPc D (mT cI cZ) zX0 (mW E o ad cI cZ (x0, g0)) [.ref o, .int a1, .int a2, .int a3] sz) (zQi D (mT cI cZ) (mW E o ad cI cZ) (fun r u => Φ r u.1 u.2) (mW E o ad cI cZ (x0, g0)) sz) 0 0 (va_A (mW E o ad cI cZ (x0, g0)) sz) := by
  refine zMet (by decide) (Nat.le_of_ble_eq_true rfl) ?_
  intro p e s m args below meth c A hx hb hr hml hown hts hlocks hsz hAe hA hS hP hK hD hX ls hl
  subst hsz
  have hF : zFx p s m args c cX9_makes RX9 A D (mT cI cZ) zX0 5 := ⟨hx, hb, hml, hown, hts, hA, hK, zX0_cl, hX⟩
  have hl : lv_has ls 5 [(0, .ref o), (1, .int a1), (2, .int a2), (3, .int a3)] := hl
  have J76 : ∀ (x : Nat → Int32) (g : Nat → Nat → Int32) (v1 v2 v3 v4 : Int32), jX9_makes_76 Φ x g v1 v2 v3 v4 → ∀ (H : Heap) (locs : List Loc) (ls : Array Slot), va_P D vwCl (mW E o ad cI cZ (x, g)) H → va_D A (mW E o ad cI cZ (x, g)) → va_S A s.heap H locs → lv_has ls 5 [(0, .ref o), (1, .int v1), (2, .int v2), (3, .int v3), (4, .int v4)] → W p l e { frames := 1, cells := 0, slots := 0, locals := 22 } s m args below meth c H locs 0 0 (MQ below (zQi D (mT cI cZ) (mW E o ad cI cZ) (fun r u => Φ r u.1 u.2) (mW E o ad cI cZ (x0, g0)) s.heap.size) args s 0 0 (va_A (mW E o ad cI cZ (x0, g0)) s.heap.size)) (F0 m 76 ls []) := by
    intro x g v1 v2 v3 v4 h H locs ls hP hD hS hl
    unfold jX9_makes_76 at h
    refine lv_aload_n (pc := 76) hx hb dX9_makes_76 rfl (lv_at hl 0 rfl) ?_
    refine mG_29 (pc := 77) hF hP dX9_makes_77 ?_
    refine lv_iload (pc := 80) hx hb dX9_makes_80 (lv_at hl 4 rfl) ?_
    refine lv_iload_n (pc := 82) hx hb dX9_makes_82 rfl (lv_at hl 1 rfl) ?_
    obtain ⟨hi_83, h⟩ := h
    refine mP_29 (pc := 83) hF hP hD hS (f := (g 29)) rfl hi_83 dX9_makes_83 (fun H locs hP hD hS => ?_)
    refine lv_aload_n (pc := 84) hx hb dX9_makes_84 rfl (lv_at hl 0 rfl) ?_
    refine mG_30 (pc := 85) hF hP dX9_makes_85 ?_
    refine lv_iload (pc := 88) hx hb dX9_makes_88 (lv_at hl 4 rfl) ?_
    refine lv_iload_n (pc := 90) hx hb dX9_makes_90 rfl (lv_at hl 2 rfl) ?_
    obtain ⟨hi_91, h⟩ := h
    refine mP_30 (pc := 91) hF hP hD hS (f := (g 30)) rfl hi_91 dX9_makes_91 (fun H locs hP hD hS => ?_)
    refine lv_aload_n (pc := 92) hx hb dX9_makes_92 rfl (lv_at hl 0 rfl) ?_
    refine mG_31 (pc := 93) hF hP dX9_makes_93 ?_
    refine lv_iload (pc := 96) hx hb dX9_makes_96 (lv_at hl 4 rfl) ?_
    refine lv_iload_n (pc := 98) hx hb dX9_makes_98 rfl (lv_at hl 3 rfl) ?_
    obtain ⟨hi_99, h⟩ := h
    refine mP_31 (pc := 99) hF hP hD hS (f := (g 31)) rfl hi_99 dX9_makes_99 (fun H locs hP hD hS => ?_)
    refine lv_aload_n (pc := 100) hx hb dX9_makes_100 rfl (lv_at hl 0 rfl) ?_
    refine mG_32 (pc := 101) hF hP dX9_makes_101 ?_
    refine lv_iload (pc := 104) hx hb dX9_makes_104 (lv_at hl 4 rfl) ?_
    refine lv_iconst (pc := 106) (v := 0) hx hb dX9_makes_106 (by decide) ?_
    obtain ⟨hi_107, h⟩ := h
    refine mP_32 (pc := 107) hF hP hD hS (f := (g 32)) rfl hi_107 dX9_makes_107 (fun H locs hP hD hS => ?_)
    refine lv_aload_n (pc := 108) hx hb dX9_makes_108 rfl (lv_at hl 0 rfl) ?_
    refine mG_33 (pc := 109) hF hP dX9_makes_109 ?_
    refine lv_iload (pc := 112) hx hb dX9_makes_112 (lv_at hl 4 rfl) ?_
    refine lv_iconst (pc := 114) (v := 0) hx hb dX9_makes_114 (by decide) ?_
    obtain ⟨hi_115, h⟩ := h
    refine mP_33 (pc := 115) hF hP hD hS (f := (g 33)) rfl hi_115 dX9_makes_115 (fun H locs hP hD hS => ?_)
    refine lv_aload_n (pc := 116) hx hb dX9_makes_116 rfl (lv_at hl 0 rfl) ?_
    refine mG_34 (pc := 117) hF hP dX9_makes_117 ?_
    refine lv_iload (pc := 120) hx hb dX9_makes_120 (lv_at hl 4 rfl) ?_
    refine lv_iconst (pc := 122) (v := 0) hx hb dX9_makes_122 (by decide) ?_
    obtain ⟨hi_123, h⟩ := h
    refine mP_34 (pc := 123) hF hP hD hS (f := (g 34)) rfl hi_123 dX9_makes_123 (fun H locs hP hD hS => ?_)
    refine lv_aload_n (pc := 124) hx hb dX9_makes_124 rfl (lv_at hl 0 rfl) ?_
    refine mG_28 (pc := 125) hF hP dX9_makes_125 ?_
    refine lv_bipush (pc := 128) (v := 6) hx hb dX9_makes_128 (by decide) ?_
    refine lv_dup2_11 (pc := 130) hx hb dX9_makes_130 rfl rfl ?_
    obtain ⟨hi_131, h⟩ := h
    refine mL_28 (pc := 131) hF hP (f := (g 28)) rfl hi_131 dX9_makes_131 ?_
    refine lv_iconst (pc := 132) (v := 1) hx hb dX9_makes_132 (by decide) ?_
    refine lv_iadd (pc := 133) hx hb dX9_makes_133 ?_
    obtain ⟨hi_134, h⟩ := h
    refine mP_28 (pc := 134) hF hP hD hS (f := (g 28)) rfl hi_134 dX9_makes_134 (fun H locs hP hD hS => ?_)
    refine lv_iload (pc := 135) hx hb dX9_makes_135 (lv_at hl 4 rfl) ?_
    exact zirV (pc := 137) (Wd := mW E o ad cI cZ) (u := (x, (va_up (va_up (va_up (va_up (va_up (va_up (va_up g 29 (upd (g 29) v4.toNatClampNeg v1)) 30 (upd (g 30) v4.toNatClampNeg v2)) 31 (upd (g 31) v4.toNatClampNeg v3)) 32 (upd (g 32) v4.toNatClampNeg 0)) 33 (upd (g 33) v4.toNatClampNeg (vp_nar .boolean 0))) 34 (upd (g 34) v4.toNatClampNeg 0)) 28 (upd (g 28) (6 : Int32).toNatClampNeg (((g 28) (6 : Int32).toNatClampNeg) + 1))))) hx hb hr hlocks hAe hK hP hD hS rfl dX9_makes_137 (Nat.le_refl _) (Nat.le_refl _) h
  have L12 : ∀ n12 : Nat, ∀ (x : Nat → Int32) (g : Nat → Nat → Int32) (v1 v2 v3 v4 : Int32), lX9_makes_12 Φ n12 x g v1 v2 v3 v4 → ∀ (H : Heap) (locs : List Loc) (ls : Array Slot), va_P D vwCl (mW E o ad cI cZ (x, g)) H → va_D A (mW E o ad cI cZ (x, g)) → va_S A s.heap H locs → lv_has ls 5 [(0, .ref o), (1, .int v1), (2, .int v2), (3, .int v3), (4, .int v4)] → W p l e { frames := 1, cells := 0, slots := 0, locals := 22 } s m args below meth c H locs 0 0 (MQ below (zQi D (mT cI cZ) (mW E o ad cI cZ) (fun r u => Φ r u.1 u.2) (mW E o ad cI cZ (x0, g0)) s.heap.size) args s 0 0 (va_A (mW E o ad cI cZ (x0, g0)) s.heap.size)) (F0 m 12 ls []) := by
    intro n12
    induction n12 with
    | zero => intro x g v1 v2 v3 v4 h H locs ls hP hD hS hl; exact h.elim
    | succ n12 ih12 =>
      have J60 : ∀ (x : Nat → Int32) (g : Nat → Nat → Int32) (v1 v2 v3 v4 : Int32), jX9_makes_60 (lX9_makes_12 Φ n12) Φ x g v1 v2 v3 v4 → ∀ (H : Heap) (locs : List Loc) (ls : Array Slot), va_P D vwCl (mW E o ad cI cZ (x, g)) H → va_D A (mW E o ad cI cZ (x, g)) → va_S A s.heap H locs → lv_has ls 5 [(0, .ref o), (1, .int v1), (2, .int v2), (3, .int v3), (4, .int v4)] → W p l e { frames := 1, cells := 0, slots := 0, locals := 22 } s m args below meth c H locs 0 0 (MQ below (zQi D (mT cI cZ) (mW E o ad cI cZ) (fun r u => Φ r u.1 u.2) (mW E o ad cI cZ (x0, g0)) s.heap.size) args s 0 0 (va_A (mW E o ad cI cZ (x0, g0)) s.heap.size)) (F0 m 60 ls []) := by
        intro x g v1 v2 v3 v4 h H locs ls hP hD hS hl
        unfold jX9_makes_60 at h
        refine lv_aload_n (pc := 60) hx hb dX9_makes_60 rfl (lv_at hl 0 rfl) ?_
        refine lv_iload (pc := 61) hx hb dX9_makes_61 (lv_at hl 4 rfl) ?_
        refine lv_iconst (pc := 63) (v := 1) hx hb dX9_makes_63 (by decide) ?_
        refine lv_isub (pc := 64) hx hb dX9_makes_64 ?_
        refine lv_iload (pc := 65) hx hb dX9_makes_65 (lv_at hl 4 rfl) ?_
        refine mVv (pc := 67) (x := x) (g := g) [.int (v4 - 1), .int v4] hF (kX9_copiesWindow x g (v4 - 1) v4 h) (cwX9_X9_copiesWindow hts ⟨Nat.le_of_ble_eq_true rfl, Nat.le_of_ble_eq_true rfl⟩) hP hD hS rfl rfl hl.1 (Nat.le_of_ble_eq_true rfl) dX9_makes_67 ⟨Nat.le_refl _, Nat.le_refl _⟩ (fun x_67 g_67 H locs h hP hD hS => ?_)
        obtain ⟨v4_70, e_v4_70⟩ : ∃ y : Int32, y = v4 + (-1) := ⟨_, rfl⟩
        replace h := h v4_70 e_v4_70
        refine lv_iinc (pc := 70) (v := v4_70) (lv' := [(4, .int v4_70), (0, .ref o), (1, .int v1), (2, .int v2), (3, .int v3)]) hx hb dX9_makes_70 hl (k := 4) rfl (by rw [e_v4_70]; rfl) (by decide) rfl (fun ls hl => ?_)
        refine lv_goto (pc := 73) (tgt := 12) hx hb dX9_makes_73 (by decide) ?_
        exact ih12 x_67 g_67 v1 v2 v3 v4_70 h _ _ _ hP hD hS (lv_sub hl [1, 2, 3, 4, 0] rfl)
      intro x g v1 v2 v3 v4 h H locs ls hP hD hS hl
      unfold lX9_makes_12 at h
      refine lv_iload (pc := 12) hx hb dX9_makes_12 (lv_at hl 4 rfl) ?_
      refine lv_iconst (pc := 14) (v := 0) hx hb dX9_makes_14 (by decide) ?_
      refine mSip (pc := 15) (x := x) (g := g) [.int 0] hF (kX9_placeOf x g 0 h) (cwX9_X9_placeOf hts ⟨Nat.le_of_ble_eq_true rfl, Nat.le_of_ble_eq_true rfl⟩) hP hD hS rfl rfl hl.1 (Nat.le_of_ble_eq_true rfl) dX9_makes_15 ⟨Nat.le_refl _, Nat.le_refl _⟩ (fun r_15 H locs h hP hD hS => ?_)
      refine lv_icmp_le (pc := 18) (tgt := 76) hx hb dX9_makes_18 (by decide) (fun c_18 => ?_) (fun c_18 => ?_)
      · have h := h.1 c_18
        exact J76 x g v1 v2 v3 v4 h _ _ _ hP hD hS (lv_sub hl [0, 1, 2, 3, 4] rfl)
      · have h := h.2 c_18
        refine lv_aload_n (pc := 21) hx hb dX9_makes_21 rfl (lv_at hl 0 rfl) ?_
        refine mG_29 (pc := 22) hF hP dX9_makes_22 ?_
        refine lv_iload (pc := 25) hx hb dX9_makes_25 (lv_at hl 4 rfl) ?_
        refine lv_iconst (pc := 27) (v := 1) hx hb dX9_makes_27 (by decide) ?_
        refine lv_isub (pc := 28) hx hb dX9_makes_28 ?_
        obtain ⟨hi_29, h⟩ := h
        refine mL_29 (pc := 29) hF hP (f := (g 29)) rfl hi_29 dX9_makes_29 ?_
        refine lv_iload_n (pc := 30) hx hb dX9_makes_30 rfl (lv_at hl 1 rfl) ?_
        refine lv_icmp_gt (pc := 31) (tgt := 60) hx hb dX9_makes_31 (by decide) (fun c_31 => ?_) (fun c_31 => ?_)
        · have h := h.1 c_31
          exact J60 x g v1 v2 v3 v4 h _ _ _ hP hD hS (lv_sub hl [0, 1, 2, 3, 4] rfl)
        · have h := h.2 c_31
          refine lv_aload_n (pc := 34) hx hb dX9_makes_34 rfl (lv_at hl 0 rfl) ?_
          refine mG_29 (pc := 35) hF hP dX9_makes_35 ?_
          refine lv_iload (pc := 38) hx hb dX9_makes_38 (lv_at hl 4 rfl) ?_
          refine lv_iconst (pc := 40) (v := 1) hx hb dX9_makes_40 (by decide) ?_
          refine lv_isub (pc := 41) hx hb dX9_makes_41 ?_
          obtain ⟨hi_42, h⟩ := h
          refine mL_29 (pc := 42) hF hP (f := (g 29)) rfl hi_42 dX9_makes_42 ?_
          refine lv_iload_n (pc := 43) hx hb dX9_makes_43 rfl (lv_at hl 1 rfl) ?_
          refine lv_icmp_ne (pc := 44) (tgt := 76) hx hb dX9_makes_44 (by decide) (fun c_44 => ?_) (fun c_44 => ?_)
          · have h := h.2 c_44
            exact J76 x g v1 v2 v3 v4 h _ _ _ hP hD hS (lv_sub hl [0, 1, 2, 3, 4] rfl)
          · have h := h.1 c_44
            refine lv_aload_n (pc := 47) hx hb dX9_makes_47 rfl (lv_at hl 0 rfl) ?_
            refine mG_30 (pc := 48) hF hP dX9_makes_48 ?_
            refine lv_iload (pc := 51) hx hb dX9_makes_51 (lv_at hl 4 rfl) ?_
            refine lv_iconst (pc := 53) (v := 1) hx hb dX9_makes_53 (by decide) ?_
            refine lv_isub (pc := 54) hx hb dX9_makes_54 ?_
            obtain ⟨hi_55, h⟩ := h
            refine mL_30 (pc := 55) hF hP (f := (g 30)) rfl hi_55 dX9_makes_55 ?_
            refine lv_iload_n (pc := 56) hx hb dX9_makes_56 rfl (lv_at hl 2 rfl) ?_
            refine lv_icmp_le (pc := 57) (tgt := 76) hx hb dX9_makes_57 (by decide) (fun c_57 => ?_) (fun c_57 => ?_)
            · have h := h.1 c_57
              exact J76 x g v1 v2 v3 v4 h _ _ _ hP hD hS (lv_sub hl [0, 1, 2, 3, 4] rfl)
            · have h := h.2 c_57
              exact J60 x g v1 v2 v3 v4 h _ _ _ hP hD hS (lv_sub hl [0, 1, 2, 3, 4] rfl)
  unfold wX9_makes at h
  refine lv_aload_n (pc := 0) hx hb dX9_makes_0 rfl (lv_at hl 0 rfl) ?_
  refine mG_28 (pc := 1) hF hP dX9_makes_1 ?_
  refine lv_bipush (pc := 4) (v := 6) hx hb dX9_makes_4 (by decide) ?_
  obtain ⟨hi_6, h⟩ := h
  refine mL_28 (pc := 6) hF hP (f := (g0 28)) rfl hi_6 dX9_makes_6 ?_
  refine mSip (pc := 7) (x := x0) (g := g0) [.int ((g0 28) (6 : Int32).toNatClampNeg)] hF (kX9_placeOf x0 g0 ((g0 28) (6 : Int32).toNatClampNeg) h) (cwX9_X9_placeOf hts ⟨Nat.le_of_ble_eq_true rfl, Nat.le_of_ble_eq_true rfl⟩) hP hD hS rfl rfl hl.1 (Nat.le_of_ble_eq_true rfl) dX9_makes_7 ⟨Nat.le_refl _, Nat.le_refl _⟩ (fun r_7 H locs h hP hD hS => ?_)
  refine lv_istore (pc := 10) (lv' := [(4, .int r_7), (0, .ref o), (1, .int a1), (2, .int a2), (3, .int a3)]) hx hb dX9_makes_10 hl (by decide) rfl (fun ls hl => ?_)
  obtain ⟨n12, h⟩ := h
  exact L12 n12 x0 g0 a1 a2 a3 r_7 h _ _ _ hP hD hS (lv_sub hl [1, 2, 3, 4, 0] rfl)

def wX9_reckoned (x : Nat → Int32) (g : Nat → Nat → Int32) (a1 a2 : Int32) (Φ : Int32 → Prop) : Prop := (vp_in 0 9 ∧ ((((g 6) (0 : Int32).toNatClampNeg) = 2 → ((a1 ≤ a2 → (Φ a2)) ∧ (¬ a1 ≤ a2 → (Φ a1)))) ∧ (¬ ((g 6) (0 : Int32).toNatClampNeg) = 2 → (Φ (a1 + a2)))))
set_option maxRecDepth 100000 in
set_option maxHeartbeats 4000000 in
theorem kX9_reckoned {l : Launch} {D : va_G} {E : va_W} {o : Nat} {ad : Nat → Nat} {cI cZ : ClassId} {sz : Nat} (x0 : Nat → Int32) (g0 : Nat → Nat → Int32) (a1 a2 : Int32) {Φ : Int32 → Prop} (h : wX9_reckoned x0 g0 a1 a2 Φ) : Met l yX9_reckoned (zws yX9_reckoned cX9_reckoned 3 (some .int)) { frames := 0, cells := 0, slots := 0, locals := 0 } (zPc D (mT cI cZ) zX0 (mW E o ad cI cZ (x0, g0)) [.ref o, .int a1, .int a2] sz) (zQi D (mT cI cZ) (mW E o ad cI cZ) (fun r u => u = (x0, g0) ∧ Φ r) (mW E o ad cI cZ (x0, g0)) sz) 0 0 (va_A (mW E o ad cI cZ (x0, g0)) sz) := by
  refine zMet (by decide) (Nat.le_of_ble_eq_true rfl) ?_
  intro p e s m args below meth c A hx hb hr hml hown hts hlocks hsz hAe hA hS hP hK hD hX ls hl
  subst hsz
  have hF : zFx p s m args c cX9_reckoned RX9 A D (mT cI cZ) zX0 3 := ⟨hx, hb, hml, hown, hts, hA, hK, zX0_cl, hX⟩
  have hl : lv_has ls 3 [(0, .ref o), (1, .int a1), (2, .int a2)] := hl
  unfold wX9_reckoned at h
  refine lv_aload_n (pc := 0) hx hb dX9_reckoned_0 rfl (lv_at hl 0 rfl) ?_
  refine mG_6 (pc := 1) hF hP dX9_reckoned_1 ?_
  refine lv_iconst (pc := 4) (v := 0) hx hb dX9_reckoned_4 (by decide) ?_
  obtain ⟨hi_5, h⟩ := h
  refine mL_6 (pc := 5) hF hP (f := (g0 6)) rfl hi_5 dX9_reckoned_5 ?_
  refine lv_iconst (pc := 6) (v := 2) hx hb dX9_reckoned_6 (by decide) ?_
  refine lv_icmp_ne (pc := 7) (tgt := 23) hx hb dX9_reckoned_7 (by decide) (fun c_7 => ?_) (fun c_7 => ?_)
  · have h := h.2 c_7
    refine lv_iload_n (pc := 23) hx hb dX9_reckoned_23 rfl (lv_at hl 1 rfl) ?_
    refine lv_iload_n (pc := 24) hx hb dX9_reckoned_24 rfl (lv_at hl 2 rfl) ?_
    refine lv_iadd (pc := 25) hx hb dX9_reckoned_25 ?_
    exact zirV (pc := 26) (Wd := mW E o ad cI cZ) (u := (x0, g0)) hx hb hr hlocks hAe hK hP hD hS rfl dX9_reckoned_26 (Nat.le_refl _) (Nat.le_refl _) ⟨rfl, h⟩
  · have h := h.1 c_7
    refine lv_iload_n (pc := 10) hx hb dX9_reckoned_10 rfl (lv_at hl 1 rfl) ?_
    refine lv_iload_n (pc := 11) hx hb dX9_reckoned_11 rfl (lv_at hl 2 rfl) ?_
    refine lv_icmp_le (pc := 12) (tgt := 19) hx hb dX9_reckoned_12 (by decide) (fun c_12 => ?_) (fun c_12 => ?_)
    · have h := h.1 c_12
      refine lv_iload_n (pc := 19) hx hb dX9_reckoned_19 rfl (lv_at hl 2 rfl) ?_
      refine lv_goto (pc := 20) (tgt := 26) hx hb dX9_reckoned_20 (by decide) ?_
      exact zirV (pc := 26) (Wd := mW E o ad cI cZ) (u := (x0, g0)) hx hb hr hlocks hAe hK hP hD hS rfl dX9_reckoned_26 (Nat.le_refl _) (Nat.le_refl _) ⟨rfl, h⟩
    · have h := h.2 c_12
      refine lv_iload_n (pc := 15) hx hb dX9_reckoned_15 rfl (lv_at hl 1 rfl) ?_
      refine lv_goto (pc := 16) (tgt := 26) hx hb dX9_reckoned_16 (by decide) ?_
      exact zirV (pc := 26) (Wd := mW E o ad cI cZ) (u := (x0, g0)) hx hb hr hlocks hAe hK hP hD hS rfl dX9_reckoned_26 (Nat.le_refl _) (Nat.le_refl _) ⟨rfl, h⟩

def jX9_comesInto_43 (Φ : (Nat → Int32) → (Nat → Nat → Int32) → Prop) (x : Nat → Int32) (g : Nat → Nat → Int32) (v1 s1 s2 : Int32) : Prop := (vp_in s1 8400 ∧ (vp_in v1 8400 ∧ ((((g 33) v1.toNatClampNeg) = 0 → (vp_in v1 8400 ∧ (vp_in 6 7 ∧ ((((g 25) (6 : Int32).toNatClampNeg) < ((g 31) v1.toNatClampNeg) → (Φ x (va_up g 32 (upd (g 32) s1.toNatClampNeg s2)))) ∧ (¬ ((g 25) (6 : Int32).toNatClampNeg) < ((g 31) v1.toNatClampNeg) → (wX9_tells x (va_up g 32 (upd (g 32) s1.toNatClampNeg s2)) v1 (fun x_71 g_71 => (Φ x_71 g_71)))))))) ∧ (¬ ((g 33) v1.toNatClampNeg) = 0 → (wX9_tells x (va_up g 32 (upd (g 32) s1.toNatClampNeg s2)) v1 (fun x_71 g_71 => (Φ x_71 g_71)))))))
def jX9_comesInto_15 (Φ : (Nat → Int32) → (Nat → Nat → Int32) → Prop) (x : Nat → Int32) (g : Nat → Nat → Int32) (v1 v2 s0 : Int32) : Prop := ((v2 = 0 → (vp_in v1 8400 ∧ (wX9_reckoned x g ((g 32) v1.toNatClampNeg) s0 (fun r_40 => (jX9_comesInto_43 Φ x g v1 v1 r_40))))) ∧ (¬ v2 = 0 → (jX9_comesInto_43 Φ x g v1 v1 s0)))
def wX9_comesInto (x : Nat → Int32) (g : Nat → Nat → Int32) (a1 a2 a3 : Int32) (Φ : (Nat → Int32) → (Nat → Nat → Int32) → Prop) : Prop := (vp_in 0 9 ∧ ((((g 6) (0 : Int32).toNatClampNeg) = 1 → (jX9_comesInto_15 Φ x g a1 a2 1)) ∧ (¬ ((g 6) (0 : Int32).toNatClampNeg) = 1 → (jX9_comesInto_15 Φ x g a1 a2 a3))))
set_option maxRecDepth 100000 in
set_option maxHeartbeats 4000000 in
theorem kX9_comesInto {l : Launch} {D : va_G} {E : va_W} {o : Nat} {ad : Nat → Nat} {cI cZ : ClassId} {sz : Nat} (x0 : Nat → Int32) (g0 : Nat → Nat → Int32) (a1 a2 a3 : Int32) {Φ : (Nat → Int32) → (Nat → Nat → Int32) → Prop} (h : wX9_comesInto x0 g0 a1 a2 a3 Φ) : Met l yX9_comesInto (zws yX9_comesInto cX9_comesInto 5 none) { frames := 2, cells := 0, slots := 0, locals := 46 } (zPc D (mT cI cZ) zX0 (mW E o ad cI cZ (x0, g0)) [.ref o, .int a1, .int a2, .int a3] sz) (zQv D (mT cI cZ) (mW E o ad cI cZ) (fun u => Φ u.1 u.2) (mW E o ad cI cZ (x0, g0)) sz) 0 0 (va_A (mW E o ad cI cZ (x0, g0)) sz) := by
  refine zMet (by decide) (Nat.le_of_ble_eq_true rfl) ?_
  intro p e s m args below meth c A hx hb hr hml hown hts hlocks hsz hAe hA hS hP hK hD hX ls hl
  subst hsz
  have hF : zFx p s m args c cX9_comesInto RX9 A D (mT cI cZ) zX0 5 := ⟨hx, hb, hml, hown, hts, hA, hK, zX0_cl, hX⟩
  have hl : lv_has ls 5 [(0, .ref o), (1, .int a1), (2, .int a2), (3, .int a3)] := hl
  have J43 : ∀ (x : Nat → Int32) (g : Nat → Nat → Int32) (v1 s1 s2 : Int32), jX9_comesInto_43 Φ x g v1 s1 s2 → ∀ (H : Heap) (locs : List Loc) (ls : Array Slot), va_P D vwCl (mW E o ad cI cZ (x, g)) H → va_D A (mW E o ad cI cZ (x, g)) → va_S A s.heap H locs → lv_has ls 5 [(0, .ref o), (1, .int v1)] → W p l e { frames := 2, cells := 0, slots := 0, locals := 46 } s m args below meth c H locs 0 0 (MQ below (zQv D (mT cI cZ) (mW E o ad cI cZ) (fun u => Φ u.1 u.2) (mW E o ad cI cZ (x0, g0)) s.heap.size) args s 0 0 (va_A (mW E o ad cI cZ (x0, g0)) s.heap.size)) (F0 m 43 ls [.int s2, .int s1, .ref (ad 32)]) := by
    intro x g v1 s1 s2 h H locs ls hP hD hS hl
    unfold jX9_comesInto_43 at h
    obtain ⟨hi_43, h⟩ := h
    refine mP_32 (pc := 43) hF hP hD hS (f := (g 32)) rfl hi_43 dX9_comesInto_43 (fun H locs hP hD hS => ?_)
    refine lv_aload_n (pc := 44) hx hb dX9_comesInto_44 rfl (lv_at hl 0 rfl) ?_
    refine mG_33 (pc := 45) hF hP dX9_comesInto_45 ?_
    refine lv_iload_n (pc := 48) hx hb dX9_comesInto_48 rfl (lv_at hl 1 rfl) ?_
    obtain ⟨hi_49, h⟩ := h
    refine mL_33 (pc := 49) hF hP (f := (g 33)) rfl hi_49 dX9_comesInto_49 ?_
    refine lv_if_ne (pc := 50) (tgt := 69) hx hb dX9_comesInto_50 (by decide) (fun c_50 => ?_) (fun c_50 => ?_)
    · have h := h.2 c_50
      refine lv_aload_n (pc := 69) hx hb dX9_comesInto_69 rfl (lv_at hl 0 rfl) ?_
      refine lv_iload_n (pc := 70) hx hb dX9_comesInto_70 rfl (lv_at hl 1 rfl) ?_
      refine mVv (pc := 71) (x := x) (g := (va_up g 32 (upd (g 32) s1.toNatClampNeg s2))) [.int v1] hF (kX9_tells x (va_up g 32 (upd (g 32) s1.toNatClampNeg s2)) v1 h) (cwX9_X9_tells hts ⟨Nat.le_of_ble_eq_true rfl, Nat.le_of_ble_eq_true rfl⟩) hP hD hS rfl rfl hl.1 (Nat.le_of_ble_eq_true rfl) dX9_comesInto_71 ⟨Nat.le_refl _, Nat.le_refl _⟩ (fun x_71 g_71 H locs h hP hD hS => ?_)
      exact zvr (pc := 74) (Wd := mW E o ad cI cZ) (u := (x_71, g_71)) hx hb hr hlocks hAe hK hP hD hS dX9_comesInto_74 (Nat.le_refl _) (Nat.le_refl _) h
    · have h := h.1 c_50
      refine lv_aload_n (pc := 53) hx hb dX9_comesInto_53 rfl (lv_at hl 0 rfl) ?_
      refine mG_31 (pc := 54) hF hP dX9_comesInto_54 ?_
      refine lv_iload_n (pc := 57) hx hb dX9_comesInto_57 rfl (lv_at hl 1 rfl) ?_
      obtain ⟨hi_58, h⟩ := h
      refine mL_31 (pc := 58) hF hP (f := (g 31)) rfl hi_58 dX9_comesInto_58 ?_
      refine lv_aload_n (pc := 59) hx hb dX9_comesInto_59 rfl (lv_at hl 0 rfl) ?_
      refine mG_25 (pc := 60) hF hP dX9_comesInto_60 ?_
      refine lv_bipush (pc := 63) (v := 6) hx hb dX9_comesInto_63 (by decide) ?_
      obtain ⟨hi_65, h⟩ := h
      refine mL_25 (pc := 65) hF hP (f := (g 25)) rfl hi_65 dX9_comesInto_65 ?_
      refine lv_icmp_gt (pc := 66) (tgt := 74) hx hb dX9_comesInto_66 (by decide) (fun c_66 => ?_) (fun c_66 => ?_)
      · have h := h.1 c_66
        exact zvr (pc := 74) (Wd := mW E o ad cI cZ) (u := (x, (va_up g 32 (upd (g 32) s1.toNatClampNeg s2)))) hx hb hr hlocks hAe hK hP hD hS dX9_comesInto_74 (Nat.le_refl _) (Nat.le_refl _) h
      · have h := h.2 c_66
        refine lv_aload_n (pc := 69) hx hb dX9_comesInto_69 rfl (lv_at hl 0 rfl) ?_
        refine lv_iload_n (pc := 70) hx hb dX9_comesInto_70 rfl (lv_at hl 1 rfl) ?_
        refine mVv (pc := 71) (x := x) (g := (va_up g 32 (upd (g 32) s1.toNatClampNeg s2))) [.int v1] hF (kX9_tells x (va_up g 32 (upd (g 32) s1.toNatClampNeg s2)) v1 h) (cwX9_X9_tells hts ⟨Nat.le_of_ble_eq_true rfl, Nat.le_of_ble_eq_true rfl⟩) hP hD hS rfl rfl hl.1 (Nat.le_of_ble_eq_true rfl) dX9_comesInto_71 ⟨Nat.le_refl _, Nat.le_refl _⟩ (fun x_71 g_71 H locs h hP hD hS => ?_)
        exact zvr (pc := 74) (Wd := mW E o ad cI cZ) (u := (x_71, g_71)) hx hb hr hlocks hAe hK hP hD hS dX9_comesInto_74 (Nat.le_refl _) (Nat.le_refl _) h
  have J15 : ∀ (x : Nat → Int32) (g : Nat → Nat → Int32) (v1 v2 s0 : Int32), jX9_comesInto_15 Φ x g v1 v2 s0 → ∀ (H : Heap) (locs : List Loc) (ls : Array Slot), va_P D vwCl (mW E o ad cI cZ (x, g)) H → va_D A (mW E o ad cI cZ (x, g)) → va_S A s.heap H locs → lv_has ls 5 [(0, .ref o), (1, .int v1), (2, .int v2)] → W p l e { frames := 2, cells := 0, slots := 0, locals := 46 } s m args below meth c H locs 0 0 (MQ below (zQv D (mT cI cZ) (mW E o ad cI cZ) (fun u => Φ u.1 u.2) (mW E o ad cI cZ (x0, g0)) s.heap.size) args s 0 0 (va_A (mW E o ad cI cZ (x0, g0)) s.heap.size)) (F0 m 15 ls [.int s0]) := by
    intro x g v1 v2 s0 h H locs ls hP hD hS hl
    unfold jX9_comesInto_15 at h
    refine lv_istore (pc := 15) (lv' := [(4, .int s0), (0, .ref o), (1, .int v1), (2, .int v2)]) hx hb dX9_comesInto_15 hl (by decide) rfl (fun ls hl => ?_)
    refine lv_aload_n (pc := 17) hx hb dX9_comesInto_17 rfl (lv_at hl 1 rfl) ?_
    refine mG_32 (pc := 18) hF hP dX9_comesInto_18 ?_
    refine lv_iload_n (pc := 21) hx hb dX9_comesInto_21 rfl (lv_at hl 2 rfl) ?_
    refine lv_iload_n (pc := 22) hx hb dX9_comesInto_22 rfl (lv_at hl 3 rfl) ?_
    refine lv_if_eq (pc := 23) (tgt := 31) hx hb dX9_comesInto_23 (by decide) (fun c_23 => ?_) (fun c_23 => ?_)
    · have h := h.1 c_23
      refine lv_aload_n (pc := 31) hx hb dX9_comesInto_31 rfl (lv_at hl 1 rfl) ?_
      refine lv_aload_n (pc := 32) hx hb dX9_comesInto_32 rfl (lv_at hl 1 rfl) ?_
      refine mG_32 (pc := 33) hF hP dX9_comesInto_33 ?_
      refine lv_iload_n (pc := 36) hx hb dX9_comesInto_36 rfl (lv_at hl 2 rfl) ?_
      obtain ⟨hi_37, h⟩ := h
      refine mL_32 (pc := 37) hF hP (f := (g 32)) rfl hi_37 dX9_comesInto_37 ?_
      refine lv_iload (pc := 38) hx hb dX9_comesInto_38 (lv_at hl 0 rfl) ?_
      refine mVip (pc := 40) (x := x) (g := g) [.int ((g 32) v1.toNatClampNeg), .int s0] hF (kX9_reckoned x g ((g 32) v1.toNatClampNeg) s0 h) (cwX9_X9_reckoned hts ⟨Nat.le_of_ble_eq_true rfl, Nat.le_of_ble_eq_true rfl⟩) hP hD hS rfl rfl hl.1 (Nat.le_of_ble_eq_true rfl) dX9_comesInto_40 ⟨Nat.le_refl _, Nat.le_refl _⟩ (fun r_40 H locs h hP hD hS => ?_)
      exact J43 x g v1 v1 r_40 h _ _ _ hP hD hS (lv_sub hl [1, 2] rfl)
    · have h := h.2 c_23
      refine lv_iload (pc := 26) hx hb dX9_comesInto_26 (lv_at hl 0 rfl) ?_
      refine lv_goto (pc := 28) (tgt := 43) hx hb dX9_comesInto_28 (by decide) ?_
      exact J43 x g v1 v1 s0 h _ _ _ hP hD hS (lv_sub hl [1, 2] rfl)
  unfold wX9_comesInto at h
  refine lv_aload_n (pc := 0) hx hb dX9_comesInto_0 rfl (lv_at hl 0 rfl) ?_
  refine mG_6 (pc := 1) hF hP dX9_comesInto_1 ?_
  refine lv_iconst (pc := 4) (v := 0) hx hb dX9_comesInto_4 (by decide) ?_
  obtain ⟨hi_5, h⟩ := h
  refine mL_6 (pc := 5) hF hP (f := (g0 6)) rfl hi_5 dX9_comesInto_5 ?_
  refine lv_iconst (pc := 6) (v := 1) hx hb dX9_comesInto_6 (by decide) ?_
  refine lv_icmp_ne (pc := 7) (tgt := 14) hx hb dX9_comesInto_7 (by decide) (fun c_7 => ?_) (fun c_7 => ?_)
  · have h := h.2 c_7
    refine lv_iload_n (pc := 14) hx hb dX9_comesInto_14 rfl (lv_at hl 3 rfl) ?_
    exact J15 x0 g0 a1 a2 a3 h _ _ _ hP hD hS (lv_sub hl [0, 1, 2] rfl)
  · have h := h.1 c_7
    refine lv_iconst (pc := 10) (v := 1) hx hb dX9_comesInto_10 (by decide) ?_
    refine lv_goto (pc := 11) (tgt := 15) hx hb dX9_comesInto_11 (by decide) ?_
    exact J15 x0 g0 a1 a2 1 h _ _ _ hP hD hS (lv_sub hl [0, 1, 2] rfl)

def jX9_comesToFixed_50 (Φ : (Nat → Int32) → (Nat → Nat → Int32) → Prop) (x : Nat → Int32) (g : Nat → Nat → Int32) (v1 v2 v3 v4 v5 s0 : Int32) : Prop := ((s0 = 0 → (wX9_comesInto x g v5 s0 v3 (fun x_74 g_74 => (Φ x_74 g_74)))) ∧ (¬ s0 = 0 → (wX9_makes x g v1 v2 v4 (fun r_63 x_63 g_63 => (wX9_comesInto x_63 g_63 r_63 s0 v3 (fun x_74 g_74 => (Φ x_74 g_74)))))))
def wX9_comesToFixed (x : Nat → Int32) (g : Nat → Nat → Int32) (a1 a2 a3 : Int32) (Φ : (Nat → Int32) → (Nat → Nat → Int32) → Prop) : Prop := (vp_in 5 9 ∧ (∀ v4_8 : Int32, v4_8 = (a2 + ((g 6) (5 : Int32).toNatClampNeg)) → (wX9_isOver x g v4_8 (fun r_13 => ((r_13 = 0 → (wX9_windowOf x g a1 a2 (fun r_34 => ((r_34 = (-1) → (jX9_comesToFixed_50 Φ x g a1 a2 a3 v4_8 r_34 1)) ∧ (¬ r_34 = (-1) → (jX9_comesToFixed_50 Φ x g a1 a2 a3 v4_8 r_34 0)))))) ∧ (¬ r_13 = 0 → (vp_in 6 7 ∧ (vp_in 6 7 ∧ (Φ x (va_up g 26 (upd (g 26) (6 : Int32).toNatClampNeg (((g 26) (6 : Int32).toNatClampNeg) + 1))))))))))))
set_option maxRecDepth 100000 in
set_option maxHeartbeats 4000000 in
theorem kX9_comesToFixed {l : Launch} {D : va_G} {E : va_W} {o : Nat} {ad : Nat → Nat} {cI cZ : ClassId} {sz : Nat} (x0 : Nat → Int32) (g0 : Nat → Nat → Int32) (a1 a2 a3 : Int32) {Φ : (Nat → Int32) → (Nat → Nat → Int32) → Prop} (h : wX9_comesToFixed x0 g0 a1 a2 a3 Φ) : Met l yX9_comesToFixed (zws yX9_comesToFixed cX9_comesToFixed 7 none) { frames := 3, cells := 0, slots := 0, locals := 70 } (zPc D (mT cI cZ) zX0 (mW E o ad cI cZ (x0, g0)) [.ref o, .int a1, .int a2, .int a3] sz) (zQv D (mT cI cZ) (mW E o ad cI cZ) (fun u => Φ u.1 u.2) (mW E o ad cI cZ (x0, g0)) sz) 0 0 (va_A (mW E o ad cI cZ (x0, g0)) sz) := by
  refine zMet (by decide) (Nat.le_of_ble_eq_true rfl) ?_
  intro p e s m args below meth c A hx hb hr hml hown hts hlocks hsz hAe hA hS hP hK hD hX ls hl
  subst hsz
  have hF : zFx p s m args c cX9_comesToFixed RX9 A D (mT cI cZ) zX0 7 := ⟨hx, hb, hml, hown, hts, hA, hK, zX0_cl, hX⟩
  have hl : lv_has ls 7 [(0, .ref o), (1, .int a1), (2, .int a2), (3, .int a3)] := hl
  have J50 : ∀ (x : Nat → Int32) (g : Nat → Nat → Int32) (v1 v2 v3 v4 v5 s0 : Int32), jX9_comesToFixed_50 Φ x g v1 v2 v3 v4 v5 s0 → ∀ (H : Heap) (locs : List Loc) (ls : Array Slot), va_P D vwCl (mW E o ad cI cZ (x, g)) H → va_D A (mW E o ad cI cZ (x, g)) → va_S A s.heap H locs → lv_has ls 7 [(0, .ref o), (1, .int v1), (2, .int v2), (3, .int v3), (4, .int v4), (5, .int v5)] → W p l e { frames := 3, cells := 0, slots := 0, locals := 70 } s m args below meth c H locs 0 0 (MQ below (zQv D (mT cI cZ) (mW E o ad cI cZ) (fun u => Φ u.1 u.2) (mW E o ad cI cZ (x0, g0)) s.heap.size) args s 0 0 (va_A (mW E o ad cI cZ (x0, g0)) s.heap.size)) (F0 m 50 ls [.int s0]) := by
    intro x g v1 v2 v3 v4 v5 s0 h H locs ls hP hD hS hl
    unfold jX9_comesToFixed_50 at h
    refine lv_istore (pc := 50) (lv' := [(6, .int s0), (0, .ref o), (1, .int v1), (2, .int v2), (3, .int v3), (4, .int v4), (5, .int v5)]) hx hb dX9_comesToFixed_50 hl (by decide) rfl (fun ls hl => ?_)
    refine lv_aload_n (pc := 52) hx hb dX9_comesToFixed_52 rfl (lv_at hl 1 rfl) ?_
    refine lv_iload (pc := 53) hx hb dX9_comesToFixed_53 (lv_at hl 0 rfl) ?_
    refine lv_if_eq (pc := 55) (tgt := 69) hx hb dX9_comesToFixed_55 (by decide) (fun c_55 => ?_) (fun c_55 => ?_)
    · have h := h.1 c_55
      refine lv_iload (pc := 69) hx hb dX9_comesToFixed_69 (lv_at hl 6 rfl) ?_
      refine lv_iload (pc := 71) hx hb dX9_comesToFixed_71 (lv_at hl 0 rfl) ?_
      refine lv_iload_n (pc := 73) hx hb dX9_comesToFixed_73 rfl (lv_at hl 4 rfl) ?_
      refine mVv (pc := 74) (x := x) (g := g) [.int v5, .int s0, .int v3] hF (kX9_comesInto x g v5 s0 v3 h) (cwX9_X9_comesInto hts ⟨Nat.le_of_ble_eq_true rfl, Nat.le_of_ble_eq_true rfl⟩) hP hD hS rfl rfl hl.1 (Nat.le_of_ble_eq_true rfl) dX9_comesToFixed_74 ⟨Nat.le_refl _, Nat.le_refl _⟩ (fun x_74 g_74 H locs h hP hD hS => ?_)
      exact zvr (pc := 77) (Wd := mW E o ad cI cZ) (u := (x_74, g_74)) hx hb hr hlocks hAe hK hP hD hS dX9_comesToFixed_77 (Nat.le_refl _) (Nat.le_refl _) h
    · have h := h.2 c_55
      refine lv_aload_n (pc := 58) hx hb dX9_comesToFixed_58 rfl (lv_at hl 1 rfl) ?_
      refine lv_iload_n (pc := 59) hx hb dX9_comesToFixed_59 rfl (lv_at hl 2 rfl) ?_
      refine lv_iload_n (pc := 60) hx hb dX9_comesToFixed_60 rfl (lv_at hl 3 rfl) ?_
      refine lv_iload (pc := 61) hx hb dX9_comesToFixed_61 (lv_at hl 5 rfl) ?_
      refine mVi (pc := 63) (x := x) (g := g) [.int v1, .int v2, .int v4] hF (kX9_makes x g v1 v2 v4 h) (cwX9_X9_makes hts ⟨Nat.le_of_ble_eq_true rfl, Nat.le_of_ble_eq_true rfl⟩) hP hD hS rfl rfl hl.1 (Nat.le_of_ble_eq_true rfl) dX9_comesToFixed_63 ⟨Nat.le_refl _, Nat.le_refl _⟩ (fun r_63 x_63 g_63 H locs h hP hD hS => ?_)
      refine lv_goto (pc := 66) (tgt := 71) hx hb dX9_comesToFixed_66 (by decide) ?_
      refine lv_iload (pc := 71) hx hb dX9_comesToFixed_71 (lv_at hl 0 rfl) ?_
      refine lv_iload_n (pc := 73) hx hb dX9_comesToFixed_73 rfl (lv_at hl 4 rfl) ?_
      refine mVv (pc := 74) (x := x_63) (g := g_63) [.int r_63, .int s0, .int v3] hF (kX9_comesInto x_63 g_63 r_63 s0 v3 h) (cwX9_X9_comesInto hts ⟨Nat.le_of_ble_eq_true rfl, Nat.le_of_ble_eq_true rfl⟩) hP hD hS rfl rfl hl.1 (Nat.le_of_ble_eq_true rfl) dX9_comesToFixed_74 ⟨Nat.le_refl _, Nat.le_refl _⟩ (fun x_74 g_74 H locs h hP hD hS => ?_)
      exact zvr (pc := 77) (Wd := mW E o ad cI cZ) (u := (x_74, g_74)) hx hb hr hlocks hAe hK hP hD hS dX9_comesToFixed_77 (Nat.le_refl _) (Nat.le_refl _) h
  unfold wX9_comesToFixed at h
  refine lv_iload_n (pc := 0) hx hb dX9_comesToFixed_0 rfl (lv_at hl 2 rfl) ?_
  refine lv_aload_n (pc := 1) hx hb dX9_comesToFixed_1 rfl (lv_at hl 0 rfl) ?_
  refine mG_6 (pc := 2) hF hP dX9_comesToFixed_2 ?_
  refine lv_iconst (pc := 5) (v := 5) hx hb dX9_comesToFixed_5 (by decide) ?_
  obtain ⟨hi_6, h⟩ := h
  refine mL_6 (pc := 6) hF hP (f := (g0 6)) rfl hi_6 dX9_comesToFixed_6 ?_
  refine lv_iadd (pc := 7) hx hb dX9_comesToFixed_7 ?_
  refine lv_topi (fun v4_8 e_v4_8 => ?_)
  replace h := h v4_8 e_v4_8
  refine lv_istore (pc := 8) (lv' := [(4, .int v4_8), (0, .ref o), (1, .int a1), (2, .int a2), (3, .int a3)]) hx hb dX9_comesToFixed_8 hl (by decide) rfl (fun ls hl => ?_)
  refine lv_aload_n (pc := 10) hx hb dX9_comesToFixed_10 rfl (lv_at hl 1 rfl) ?_
  refine lv_iload (pc := 11) hx hb dX9_comesToFixed_11 (lv_at hl 0 rfl) ?_
  refine mVbp (pc := 13) (x := x0) (g := g0) [.int v4_8] hF (kX9_isOver x0 g0 v4_8 h) (cwX9_X9_isOver hts ⟨Nat.le_of_ble_eq_true rfl, Nat.le_of_ble_eq_true rfl⟩) hP hD hS rfl rfl hl.1 (Nat.le_of_ble_eq_true rfl) dX9_comesToFixed_13 ⟨Nat.le_refl _, Nat.le_refl _⟩ (fun r_13 H locs hb_13 h hP hD hS => ?_)
  refine lv_if_eq (pc := 16) (tgt := 31) hx hb dX9_comesToFixed_16 (by decide) (fun c_16 => ?_) (fun c_16 => ?_)
  · have h := h.1 c_16
    refine lv_aload_n (pc := 31) hx hb dX9_comesToFixed_31 rfl (lv_at hl 1 rfl) ?_
    refine lv_iload_n (pc := 32) hx hb dX9_comesToFixed_32 rfl (lv_at hl 2 rfl) ?_
    refine lv_iload_n (pc := 33) hx hb dX9_comesToFixed_33 rfl (lv_at hl 3 rfl) ?_
    refine mVip (pc := 34) (x := x0) (g := g0) [.int a1, .int a2] hF (kX9_windowOf x0 g0 a1 a2 h) (cwX9_X9_windowOf hts ⟨Nat.le_of_ble_eq_true rfl, Nat.le_of_ble_eq_true rfl⟩) hP hD hS rfl rfl hl.1 (Nat.le_of_ble_eq_true rfl) dX9_comesToFixed_34 ⟨Nat.le_refl _, Nat.le_refl _⟩ (fun r_34 H locs h hP hD hS => ?_)
    refine lv_istore (pc := 37) (lv' := [(5, .int r_34), (4, .int v4_8), (0, .ref o), (1, .int a1), (2, .int a2), (3, .int a3)]) hx hb dX9_comesToFixed_37 hl (by decide) rfl (fun ls hl => ?_)
    refine lv_iload (pc := 39) hx hb dX9_comesToFixed_39 (lv_at hl 0 rfl) ?_
    refine lv_iconst (pc := 41) (v := (-1)) hx hb dX9_comesToFixed_41 (by decide) ?_
    refine lv_icmp_ne (pc := 42) (tgt := 49) hx hb dX9_comesToFixed_42 (by decide) (fun c_42 => ?_) (fun c_42 => ?_)
    · have h := h.2 c_42
      refine lv_iconst (pc := 49) (v := 0) hx hb dX9_comesToFixed_49 (by decide) ?_
      exact J50 x0 g0 a1 a2 a3 v4_8 r_34 0 h _ _ _ hP hD hS (lv_sub hl [2, 3, 4, 5, 1, 0] rfl)
    · have h := h.1 c_42
      refine lv_iconst (pc := 45) (v := 1) hx hb dX9_comesToFixed_45 (by decide) ?_
      refine lv_goto (pc := 46) (tgt := 50) hx hb dX9_comesToFixed_46 (by decide) ?_
      exact J50 x0 g0 a1 a2 a3 v4_8 r_34 1 h _ _ _ hP hD hS (lv_sub hl [2, 3, 4, 5, 1, 0] rfl)
  · have h := h.2 c_16
    refine lv_aload_n (pc := 19) hx hb dX9_comesToFixed_19 rfl (lv_at hl 1 rfl) ?_
    refine mG_26 (pc := 20) hF hP dX9_comesToFixed_20 ?_
    refine lv_bipush (pc := 23) (v := 6) hx hb dX9_comesToFixed_23 (by decide) ?_
    refine lv_dup2_11 (pc := 25) hx hb dX9_comesToFixed_25 rfl rfl ?_
    obtain ⟨hi_26, h⟩ := h
    refine mL_26 (pc := 26) hF hP (f := (g0 26)) rfl hi_26 dX9_comesToFixed_26 ?_
    refine lv_iconst (pc := 27) (v := 1) hx hb dX9_comesToFixed_27 (by decide) ?_
    refine lv_iadd (pc := 28) hx hb dX9_comesToFixed_28 ?_
    obtain ⟨hi_29, h⟩ := h
    refine mP_26 (pc := 29) hF hP hD hS (f := (g0 26)) rfl hi_29 dX9_comesToFixed_29 (fun H locs hP hD hS => ?_)
    exact zvr (pc := 30) (Wd := mW E o ad cI cZ) (u := (x0, (va_up g0 26 (upd (g0 26) (6 : Int32).toNatClampNeg (((g0 26) (6 : Int32).toNatClampNeg) + 1))))) hx hb hr hlocks hAe hK hP hD hS dX9_comesToFixed_30 (Nat.le_refl _) (Nat.le_refl _) h

def wX9_overlaps (x : Nat → Int32) (g : Nat → Nat → Int32) (a1 a2 a3 a4 : Int32) (Φ : Int32 → Prop) : Prop := (vp_in a1 8400 ∧ ((((g 29) a1.toNatClampNeg) = a2 → (vp_in a1 8400 ∧ ((a4 ≤ ((g 30) a1.toNatClampNeg) → (Φ 0)) ∧ (¬ a4 ≤ ((g 30) a1.toNatClampNeg) → (vp_in a1 8400 ∧ ((((g 31) a1.toNatClampNeg) ≤ a3 → (Φ 0)) ∧ (¬ ((g 31) a1.toNatClampNeg) ≤ a3 → (Φ 1)))))))) ∧ (¬ ((g 29) a1.toNatClampNeg) = a2 → (Φ 0))))
set_option maxRecDepth 100000 in
set_option maxHeartbeats 4000000 in
theorem kX9_overlaps {l : Launch} {D : va_G} {E : va_W} {o : Nat} {ad : Nat → Nat} {cI cZ : ClassId} {sz : Nat} (x0 : Nat → Int32) (g0 : Nat → Nat → Int32) (a1 a2 a3 a4 : Int32) {Φ : Int32 → Prop} (h : wX9_overlaps x0 g0 a1 a2 a3 a4 Φ) : Met l yX9_overlaps (zws yX9_overlaps cX9_overlaps 5 (some .boolean)) { frames := 0, cells := 0, slots := 0, locals := 0 } (zPc D (mT cI cZ) zX0 (mW E o ad cI cZ (x0, g0)) [.ref o, .int a1, .int a2, .int a3, .int a4] sz) (zQi D (mT cI cZ) (mW E o ad cI cZ) (fun r u => u = (x0, g0) ∧ (r = 0 ∨ r = 1) ∧ Φ r) (mW E o ad cI cZ (x0, g0)) sz) 0 0 (va_A (mW E o ad cI cZ (x0, g0)) sz) := by
  refine zMet (by decide) (Nat.le_of_ble_eq_true rfl) ?_
  intro p e s m args below meth c A hx hb hr hml hown hts hlocks hsz hAe hA hS hP hK hD hX ls hl
  subst hsz
  have hF : zFx p s m args c cX9_overlaps RX9 A D (mT cI cZ) zX0 5 := ⟨hx, hb, hml, hown, hts, hA, hK, zX0_cl, hX⟩
  have hl : lv_has ls 5 [(0, .ref o), (1, .int a1), (2, .int a2), (3, .int a3), (4, .int a4)] := hl
  unfold wX9_overlaps at h
  refine lv_aload_n (pc := 0) hx hb dX9_overlaps_0 rfl (lv_at hl 0 rfl) ?_
  refine mG_29 (pc := 1) hF hP dX9_overlaps_1 ?_
  refine lv_iload_n (pc := 4) hx hb dX9_overlaps_4 rfl (lv_at hl 1 rfl) ?_
  obtain ⟨hi_5, h⟩ := h
  refine mL_29 (pc := 5) hF hP (f := (g0 29)) rfl hi_5 dX9_overlaps_5 ?_
  refine lv_iload_n (pc := 6) hx hb dX9_overlaps_6 rfl (lv_at hl 2 rfl) ?_
  refine lv_icmp_ne (pc := 7) (tgt := 35) hx hb dX9_overlaps_7 (by decide) (fun c_7 => ?_) (fun c_7 => ?_)
  · have h := h.2 c_7
    refine lv_iconst (pc := 35) (v := 0) hx hb dX9_overlaps_35 (by decide) ?_
    exact zirV (pc := 36) (Wd := mW E o ad cI cZ) (u := (x0, g0)) hx hb hr hlocks hAe hK hP hD hS rfl dX9_overlaps_36 (Nat.le_refl _) (Nat.le_refl _) ⟨rfl, (Or.inl rfl), h⟩
  · have h := h.1 c_7
    refine lv_aload_n (pc := 10) hx hb dX9_overlaps_10 rfl (lv_at hl 0 rfl) ?_
    refine mG_30 (pc := 11) hF hP dX9_overlaps_11 ?_
    refine lv_iload_n (pc := 14) hx hb dX9_overlaps_14 rfl (lv_at hl 1 rfl) ?_
    obtain ⟨hi_15, h⟩ := h
    refine mL_30 (pc := 15) hF hP (f := (g0 30)) rfl hi_15 dX9_overlaps_15 ?_
    refine lv_iload (pc := 16) hx hb dX9_overlaps_16 (lv_at hl 4 rfl) ?_
    refine lv_icmp_ge (pc := 18) (tgt := 35) hx hb dX9_overlaps_18 (by decide) (fun c_18 => ?_) (fun c_18 => ?_)
    · have h := h.1 c_18
      refine lv_iconst (pc := 35) (v := 0) hx hb dX9_overlaps_35 (by decide) ?_
      exact zirV (pc := 36) (Wd := mW E o ad cI cZ) (u := (x0, g0)) hx hb hr hlocks hAe hK hP hD hS rfl dX9_overlaps_36 (Nat.le_refl _) (Nat.le_refl _) ⟨rfl, (Or.inl rfl), h⟩
    · have h := h.2 c_18
      refine lv_iload_n (pc := 21) hx hb dX9_overlaps_21 rfl (lv_at hl 3 rfl) ?_
      refine lv_aload_n (pc := 22) hx hb dX9_overlaps_22 rfl (lv_at hl 0 rfl) ?_
      refine mG_31 (pc := 23) hF hP dX9_overlaps_23 ?_
      refine lv_iload_n (pc := 26) hx hb dX9_overlaps_26 rfl (lv_at hl 1 rfl) ?_
      obtain ⟨hi_27, h⟩ := h
      refine mL_31 (pc := 27) hF hP (f := (g0 31)) rfl hi_27 dX9_overlaps_27 ?_
      refine lv_icmp_ge (pc := 28) (tgt := 35) hx hb dX9_overlaps_28 (by decide) (fun c_28 => ?_) (fun c_28 => ?_)
      · have h := h.1 c_28
        refine lv_iconst (pc := 35) (v := 0) hx hb dX9_overlaps_35 (by decide) ?_
        exact zirV (pc := 36) (Wd := mW E o ad cI cZ) (u := (x0, g0)) hx hb hr hlocks hAe hK hP hD hS rfl dX9_overlaps_36 (Nat.le_refl _) (Nat.le_refl _) ⟨rfl, (Or.inl rfl), h⟩
      · have h := h.2 c_28
        refine lv_iconst (pc := 31) (v := 1) hx hb dX9_overlaps_31 (by decide) ?_
        refine lv_goto (pc := 32) (tgt := 36) hx hb dX9_overlaps_32 (by decide) ?_
        exact zirV (pc := 36) (Wd := mW E o ad cI cZ) (u := (x0, g0)) hx hb hr hlocks hAe hK hP hD hS rfl dX9_overlaps_36 (Nat.le_refl _) (Nat.le_refl _) ⟨rfl, (Or.inr rfl), h⟩

def jX9_comesToSession_314 (W256 : (Nat → Int32) → (Nat → Nat → Int32) → Int32 → Int32 → Int32 → Int32 → Int32 → Int32 → Int32 → Int32 → Prop) (Φ : (Nat → Int32) → (Nat → Nat → Int32) → Prop) (x : Nat → Int32) (g : Nat → Nat → Int32) (v1 v2 v3 v4 v5 v7 v8 v9 : Int32) : Prop := ((v8 = 0 → (vp_in v9 8400 ∧ (∀ v7_342 : Int32, v7_342 = ((g 32) v9.toNatClampNeg) → (wX9_drops x g v9 (fun x_350 g_350 => (W256 x_350 g_350 v1 v2 v3 v4 v5 v7_342 1 v9)))))) ∧ (¬ v8 = 0 → (vp_in v9 8400 ∧ (wX9_reckoned x g v7 ((g 32) v9.toNatClampNeg) (fun r_329 => (wX9_drops x g v9 (fun x_350 g_350 => (W256 x_350 g_350 v1 v2 v3 v4 v5 r_329 1 v9))))))))
def lX9_comesToSession_256 (Φ : (Nat → Int32) → (Nat → Nat → Int32) → Prop) : Nat → (Nat → Int32) → (Nat → Nat → Int32) → Int32 → Int32 → Int32 → Int32 → Int32 → Int32 → Int32 → Int32 → Prop
  | 0, _, _, _, _, _, _, _, _, _, _ => False
  | n256 + 1, x, g, v1, v2, v3, v4, v5, v7, v8, v9 => (vp_in 6 7 ∧ (wX9_placeOf ((g 28) (6 : Int32).toNatClampNeg) (fun r_265 => ((r_265 ≤ v9 → (wX9_makes x g v1 v4 v5 (fun r_368 x_368 g_368 => (vp_in r_368 8400 ∧ ((v8 = 0 → (wX9_comesInto x_368 (va_up g_368 32 (upd (g_368 32) r_368.toNatClampNeg v7)) r_368 1 v3 (fun x_396 g_396 => (Φ x_396 g_396)))) ∧ (¬ v8 = 0 → (wX9_comesInto x_368 (va_up g_368 32 (upd (g_368 32) r_368.toNatClampNeg v7)) r_368 0 v3 (fun x_396 g_396 => (Φ x_396 g_396))))))))) ∧ (¬ r_265 ≤ v9 → (vp_in 5 9 ∧ (wX9_overlaps x g v9 v1 v2 (v2 + ((g 6) (5 : Int32).toNatClampNeg)) (fun r_284 => ((r_284 = 0 → (∀ v9_356 : Int32, v9_356 = v9 + 1 → ((lX9_comesToSession_256 Φ n256) x g v1 v2 v3 v4 v5 v7 v8 v9_356))) ∧ (¬ r_284 = 0 → (vp_in v9 8400 ∧ ((((g 33) v9.toNatClampNeg) = 0 → (jX9_comesToSession_314 (lX9_comesToSession_256 Φ n256) Φ x g v1 v2 v3 v4 v5 v7 v8 v9)) ∧ (¬ ((g 33) v9.toNatClampNeg) = 0 → (vp_in v9 8400 ∧ (wX9_puts x g v9 ((g 34) v9.toNatClampNeg) 2 (fun x_311 g_311 => (jX9_comesToSession_314 (lX9_comesToSession_256 Φ n256) Φ x_311 g_311 v1 v2 v3 v4 v5 v7 v8 v9)))))))))))))))))
def jX9_comesToSession_162 (W104 : (Nat → Int32) → (Nat → Nat → Int32) → Int32 → Int32 → Int32 → Int32 → Int32 → Int32 → Int32 → Prop) (Φ : (Nat → Int32) → (Nat → Nat → Int32) → Prop) (x : Nat → Int32) (g : Nat → Nat → Int32) (v1 v2 v3 v5 v6 v7 s0 : Int32) : Prop := (vp_in v7 8400 ∧ ((((g 31) v7.toNatClampNeg) ≤ v5 → (∀ v7_190 : Int32, v7_190 = v7 + 1 → (W104 x g v1 v2 v3 s0 v5 v6 v7_190))) ∧ (¬ ((g 31) v7.toNatClampNeg) ≤ v5 → (vp_in v7 8400 ∧ (∀ v5_188 : Int32, v5_188 = ((g 31) v7.toNatClampNeg) → (∀ v7_190 : Int32, v7_190 = v7 + 1 → (W104 x g v1 v2 v3 s0 v5_188 v6 v7_190)))))))
def lX9_comesToSession_104 (Φ : (Nat → Int32) → (Nat → Nat → Int32) → Prop) : Nat → (Nat → Int32) → (Nat → Nat → Int32) → Int32 → Int32 → Int32 → Int32 → Int32 → Int32 → Int32 → Prop
  | 0, _, _, _, _, _, _, _, _, _ => False
  | n104 + 1, x, g, v1, v2, v3, v4, v5, v6, v7 => (vp_in 6 7 ∧ (wX9_placeOf ((g 28) (6 : Int32).toNatClampNeg) (fun r_113 => ((r_113 ≤ v7 → ((v6 = 1 → (wX9_windowOf x g v1 v4 (fun r_206 => ((r_206 = (-1) → (wX9_placeOf 0 (fun r_251 => (∃ n256 : Nat, lX9_comesToSession_256 Φ n256 x g v1 v2 v3 v4 v5 0 0 r_251)))) ∧ (¬ r_206 = (-1) → (wX9_windowOf x g v1 v4 (fun r_221 => (vp_in r_221 8400 ∧ ((((g 31) r_221.toNatClampNeg) = v5 → (wX9_windowOf x g v1 v4 (fun r_235 => (wX9_comesInto x g r_235 0 v3 (fun x_240 g_240 => (Φ x_240 g_240)))))) ∧ (¬ ((g 31) r_221.toNatClampNeg) = v5 → (wX9_placeOf 0 (fun r_251 => (∃ n256 : Nat, lX9_comesToSession_256 Φ n256 x g v1 v2 v3 v4 v5 0 0 r_251))))))))))))) ∧ (¬ v6 = 1 → (wX9_placeOf 0 (fun r_251 => (∃ n256 : Nat, lX9_comesToSession_256 Φ n256 x g v1 v2 v3 v4 v5 0 0 r_251)))))) ∧ (¬ r_113 ≤ v7 → (vp_in 5 9 ∧ (wX9_overlaps x g v7 v1 v2 (v2 + ((g 6) (5 : Int32).toNatClampNeg)) (fun r_132 => ((r_132 = 0 → (∀ v7_190 : Int32, v7_190 = v7 + 1 → ((lX9_comesToSession_104 Φ n104) x g v1 v2 v3 v4 v5 v6 v7_190))) ∧ (¬ r_132 = 0 → (vp_in v7 8400 ∧ ((v4 ≤ ((g 30) v7.toNatClampNeg) → (jX9_comesToSession_162 (lX9_comesToSession_104 Φ n104) Φ x g v1 v2 v3 v5 v6 v7 v4)) ∧ (¬ v4 ≤ ((g 30) v7.toNatClampNeg) → (vp_in v7 8400 ∧ (jX9_comesToSession_162 (lX9_comesToSession_104 Φ n104) Φ x g v1 v2 v3 v5 v6 v7 ((g 30) v7.toNatClampNeg))))))))))))))))
def lX9_comesToSession_22 (Φ : (Nat → Int32) → (Nat → Nat → Int32) → Prop) : Nat → (Nat → Int32) → (Nat → Nat → Int32) → Int32 → Int32 → Int32 → Int32 → Int32 → Int32 → Int32 → Prop
  | 0, _, _, _, _, _, _, _, _, _ => False
  | n22 + 1, x, g, v1, v2, v3, v4, v5, v6, v7 => (vp_in 6 7 ∧ (wX9_placeOf ((g 28) (6 : Int32).toNatClampNeg) (fun r_31 => ((r_31 ≤ v7 → ((v6 = 0 → (wX9_isOver x g v5 (fun r_80 => ((r_80 = 0 → (wX9_placeOf 0 (fun r_99 => (∃ n104 : Nat, lX9_comesToSession_104 Φ n104 x g v1 v2 v3 v4 v5 v6 r_99)))) ∧ (¬ r_80 = 0 → (vp_in 6 7 ∧ (vp_in 6 7 ∧ (Φ x (va_up g 26 (upd (g 26) (6 : Int32).toNatClampNeg (((g 26) (6 : Int32).toNatClampNeg) + 1))))))))))) ∧ (¬ v6 = 0 → (wX9_placeOf 0 (fun r_99 => (∃ n104 : Nat, lX9_comesToSession_104 Φ n104 x g v1 v2 v3 v4 v5 v6 r_99)))))) ∧ (¬ r_31 ≤ v7 → (vp_in 5 9 ∧ (wX9_overlaps x g v7 v1 v2 (v2 + ((g 6) (5 : Int32).toNatClampNeg)) (fun r_52 => ((r_52 = 0 → (∀ v6_64 : Int32, v6_64 = (v6 + 0) → (∀ v7_66 : Int32, v7_66 = v7 + 1 → ((lX9_comesToSession_22 Φ n22) x g v1 v2 v3 v4 v5 v6_64 v7_66)))) ∧ (¬ r_52 = 0 → (∀ v6_64 : Int32, v6_64 = (v6 + 1) → (∀ v7_66 : Int32, v7_66 = v7 + 1 → ((lX9_comesToSession_22 Φ n22) x g v1 v2 v3 v4 v5 v6_64 v7_66)))))))))))))
def wX9_comesToSession (x : Nat → Int32) (g : Nat → Nat → Int32) (a1 a2 a3 : Int32) (Φ : (Nat → Int32) → (Nat → Nat → Int32) → Prop) : Prop := (vp_in 5 9 ∧ (∀ v5_11 : Int32, v5_11 = (a2 + ((g 6) (5 : Int32).toNatClampNeg)) → (wX9_placeOf 0 (fun r_17 => (∃ n22 : Nat, lX9_comesToSession_22 Φ n22 x g a1 a2 a3 a2 v5_11 0 r_17)))))
set_option maxRecDepth 100000 in
set_option maxHeartbeats 4000000 in
theorem kX9_comesToSession {l : Launch} {D : va_G} {E : va_W} {o : Nat} {ad : Nat → Nat} {cI cZ : ClassId} {sz : Nat} (x0 : Nat → Int32) (g0 : Nat → Nat → Int32) (a1 a2 a3 : Int32) {Φ : (Nat → Int32) → (Nat → Nat → Int32) → Prop} (h : wX9_comesToSession x0 g0 a1 a2 a3 Φ) : Met l yX9_comesToSession (zws yX9_comesToSession cX9_comesToSession 11 none) { frames := 3, cells := 0, slots := 0, locals := 70 } (zPc D (mT cI cZ) zX0 (mW E o ad cI cZ (x0, g0)) [.ref o, .int a1, .int a2, .int a3] sz) (zQv D (mT cI cZ) (mW E o ad cI cZ) (fun u => Φ u.1 u.2) (mW E o ad cI cZ (x0, g0)) sz) 0 0 (va_A (mW E o ad cI cZ (x0, g0)) sz) := by
  refine zMet (by decide) (Nat.le_of_ble_eq_true rfl) ?_
  intro p e s m args below meth c A hx hb hr hml hown hts hlocks hsz hAe hA hS hP hK hD hX ls hl
  subst hsz
  have hF : zFx p s m args c cX9_comesToSession RX9 A D (mT cI cZ) zX0 11 := ⟨hx, hb, hml, hown, hts, hA, hK, zX0_cl, hX⟩
  have hl : lv_has ls 11 [(0, .ref o), (1, .int a1), (2, .int a2), (3, .int a3)] := hl
  have L256 : ∀ n256 : Nat, ∀ (x : Nat → Int32) (g : Nat → Nat → Int32) (v1 v2 v3 v4 v5 v7 v8 v9 : Int32), lX9_comesToSession_256 Φ n256 x g v1 v2 v3 v4 v5 v7 v8 v9 → ∀ (H : Heap) (locs : List Loc) (ls : Array Slot), va_P D vwCl (mW E o ad cI cZ (x, g)) H → va_D A (mW E o ad cI cZ (x, g)) → va_S A s.heap H locs → lv_has ls 11 [(0, .ref o), (1, .int v1), (2, .int v2), (3, .int v3), (4, .int v4), (5, .int v5), (7, .int v7), (8, .int v8), (9, .int v9)] → W p l e { frames := 3, cells := 0, slots := 0, locals := 70 } s m args below meth c H locs 0 0 (MQ below (zQv D (mT cI cZ) (mW E o ad cI cZ) (fun u => Φ u.1 u.2) (mW E o ad cI cZ (x0, g0)) s.heap.size) args s 0 0 (va_A (mW E o ad cI cZ (x0, g0)) s.heap.size)) (F0 m 256 ls []) := by
    intro n256
    induction n256 with
    | zero => intro x g v1 v2 v3 v4 v5 v7 v8 v9 h H locs ls hP hD hS hl; exact h.elim
    | succ n256 ih256 =>
      have J314 : ∀ (x : Nat → Int32) (g : Nat → Nat → Int32) (v1 v2 v3 v4 v5 v7 v8 v9 : Int32), jX9_comesToSession_314 (lX9_comesToSession_256 Φ n256) Φ x g v1 v2 v3 v4 v5 v7 v8 v9 → ∀ (H : Heap) (locs : List Loc) (ls : Array Slot), va_P D vwCl (mW E o ad cI cZ (x, g)) H → va_D A (mW E o ad cI cZ (x, g)) → va_S A s.heap H locs → lv_has ls 11 [(0, .ref o), (1, .int v1), (2, .int v2), (3, .int v3), (4, .int v4), (5, .int v5), (7, .int v7), (8, .int v8), (9, .int v9)] → W p l e { frames := 3, cells := 0, slots := 0, locals := 70 } s m args below meth c H locs 0 0 (MQ below (zQv D (mT cI cZ) (mW E o ad cI cZ) (fun u => Φ u.1 u.2) (mW E o ad cI cZ (x0, g0)) s.heap.size) args s 0 0 (va_A (mW E o ad cI cZ (x0, g0)) s.heap.size)) (F0 m 314 ls []) := by
        intro x g v1 v2 v3 v4 v5 v7 v8 v9 h H locs ls hP hD hS hl
        unfold jX9_comesToSession_314 at h
        refine lv_iload (pc := 314) hx hb dX9_comesToSession_314 (lv_at hl 7 rfl) ?_
        refine lv_if_eq (pc := 316) (tgt := 335) hx hb dX9_comesToSession_316 (by decide) (fun c_316 => ?_) (fun c_316 => ?_)
        · have h := h.1 c_316
          refine lv_aload_n (pc := 335) hx hb dX9_comesToSession_335 rfl (lv_at hl 0 rfl) ?_
          refine mG_32 (pc := 336) hF hP dX9_comesToSession_336 ?_
          refine lv_iload (pc := 339) hx hb dX9_comesToSession_339 (lv_at hl 8 rfl) ?_
          obtain ⟨hi_341, h⟩ := h
          refine mL_32 (pc := 341) hF hP (f := (g 32)) rfl hi_341 dX9_comesToSession_341 ?_
          refine lv_topi (fun v7_342 e_v7_342 => ?_)
          replace h := h v7_342 e_v7_342
          refine lv_istore (pc := 342) (lv' := [(7, .int v7_342), (0, .ref o), (1, .int v1), (2, .int v2), (3, .int v3), (4, .int v4), (5, .int v5), (8, .int v8), (9, .int v9)]) hx hb dX9_comesToSession_342 hl (by decide) rfl (fun ls hl => ?_)
          refine lv_iconst (pc := 344) (v := 1) hx hb dX9_comesToSession_344 (by decide) ?_
          refine lv_istore (pc := 345) (lv' := [(8, .int 1), (7, .int v7_342), (0, .ref o), (1, .int v1), (2, .int v2), (3, .int v3), (4, .int v4), (5, .int v5), (9, .int v9)]) hx hb dX9_comesToSession_345 hl (by decide) rfl (fun ls hl => ?_)
          refine lv_aload_n (pc := 347) hx hb dX9_comesToSession_347 rfl (lv_at hl 2 rfl) ?_
          refine lv_iload (pc := 348) hx hb dX9_comesToSession_348 (lv_at hl 8 rfl) ?_
          refine mVv (pc := 350) (x := x) (g := g) [.int v9] hF (kX9_drops x g v9 h) (cwX9_X9_drops hts ⟨Nat.le_of_ble_eq_true rfl, Nat.le_of_ble_eq_true rfl⟩) hP hD hS rfl rfl hl.1 (Nat.le_of_ble_eq_true rfl) dX9_comesToSession_350 ⟨Nat.le_refl _, Nat.le_refl _⟩ (fun x_350 g_350 H locs h hP hD hS => ?_)
          refine lv_goto (pc := 353) (tgt := 256) hx hb dX9_comesToSession_353 (by decide) ?_
          exact ih256 x_350 g_350 v1 v2 v3 v4 v5 v7_342 1 v9 h _ _ _ hP hD hS (lv_sub hl [2, 3, 4, 5, 6, 7, 1, 0, 8] rfl)
        · have h := h.2 c_316
          refine lv_aload_n (pc := 319) hx hb dX9_comesToSession_319 rfl (lv_at hl 0 rfl) ?_
          refine lv_iload (pc := 320) hx hb dX9_comesToSession_320 (lv_at hl 6 rfl) ?_
          refine lv_aload_n (pc := 322) hx hb dX9_comesToSession_322 rfl (lv_at hl 0 rfl) ?_
          refine mG_32 (pc := 323) hF hP dX9_comesToSession_323 ?_
          refine lv_iload (pc := 326) hx hb dX9_comesToSession_326 (lv_at hl 8 rfl) ?_
          obtain ⟨hi_328, h⟩ := h
          refine mL_32 (pc := 328) hF hP (f := (g 32)) rfl hi_328 dX9_comesToSession_328 ?_
          refine mVip (pc := 329) (x := x) (g := g) [.int v7, .int ((g 32) v9.toNatClampNeg)] hF (kX9_reckoned x g v7 ((g 32) v9.toNatClampNeg) h) (cwX9_X9_reckoned hts ⟨Nat.le_of_ble_eq_true rfl, Nat.le_of_ble_eq_true rfl⟩) hP hD hS rfl rfl hl.1 (Nat.le_of_ble_eq_true rfl) dX9_comesToSession_329 ⟨Nat.le_refl _, Nat.le_refl _⟩ (fun r_329 H locs h hP hD hS => ?_)
          refine lv_goto (pc := 332) (tgt := 342) hx hb dX9_comesToSession_332 (by decide) ?_
          refine lv_istore (pc := 342) (lv' := [(7, .int r_329), (0, .ref o), (1, .int v1), (2, .int v2), (3, .int v3), (4, .int v4), (5, .int v5), (8, .int v8), (9, .int v9)]) hx hb dX9_comesToSession_342 hl (by decide) rfl (fun ls hl => ?_)
          refine lv_iconst (pc := 344) (v := 1) hx hb dX9_comesToSession_344 (by decide) ?_
          refine lv_istore (pc := 345) (lv' := [(8, .int 1), (7, .int r_329), (0, .ref o), (1, .int v1), (2, .int v2), (3, .int v3), (4, .int v4), (5, .int v5), (9, .int v9)]) hx hb dX9_comesToSession_345 hl (by decide) rfl (fun ls hl => ?_)
          refine lv_aload_n (pc := 347) hx hb dX9_comesToSession_347 rfl (lv_at hl 2 rfl) ?_
          refine lv_iload (pc := 348) hx hb dX9_comesToSession_348 (lv_at hl 8 rfl) ?_
          refine mVv (pc := 350) (x := x) (g := g) [.int v9] hF (kX9_drops x g v9 h) (cwX9_X9_drops hts ⟨Nat.le_of_ble_eq_true rfl, Nat.le_of_ble_eq_true rfl⟩) hP hD hS rfl rfl hl.1 (Nat.le_of_ble_eq_true rfl) dX9_comesToSession_350 ⟨Nat.le_refl _, Nat.le_refl _⟩ (fun x_350 g_350 H locs h hP hD hS => ?_)
          refine lv_goto (pc := 353) (tgt := 256) hx hb dX9_comesToSession_353 (by decide) ?_
          exact ih256 x_350 g_350 v1 v2 v3 v4 v5 r_329 1 v9 h _ _ _ hP hD hS (lv_sub hl [2, 3, 4, 5, 6, 7, 1, 0, 8] rfl)
      intro x g v1 v2 v3 v4 v5 v7 v8 v9 h H locs ls hP hD hS hl
      unfold lX9_comesToSession_256 at h
      refine lv_iload (pc := 256) hx hb dX9_comesToSession_256 (lv_at hl 8 rfl) ?_
      refine lv_aload_n (pc := 258) hx hb dX9_comesToSession_258 rfl (lv_at hl 0 rfl) ?_
      refine mG_28 (pc := 259) hF hP dX9_comesToSession_259 ?_
      refine lv_bipush (pc := 262) (v := 6) hx hb dX9_comesToSession_262 (by decide) ?_
      obtain ⟨hi_264, h⟩ := h
      refine mL_28 (pc := 264) hF hP (f := (g 28)) rfl hi_264 dX9_comesToSession_264 ?_
      refine mSip (pc := 265) (x := x) (g := g) [.int ((g 28) (6 : Int32).toNatClampNeg)] hF (kX9_placeOf x g ((g 28) (6 : Int32).toNatClampNeg) h) (cwX9_X9_placeOf hts ⟨Nat.le_of_ble_eq_true rfl, Nat.le_of_ble_eq_true rfl⟩) hP hD hS rfl rfl hl.1 (Nat.le_of_ble_eq_true rfl) dX9_comesToSession_265 ⟨Nat.le_refl _, Nat.le_refl _⟩ (fun r_265 H locs h hP hD hS => ?_)
      refine lv_icmp_ge (pc := 268) (tgt := 362) hx hb dX9_comesToSession_268 (by decide) (fun c_268 => ?_) (fun c_268 => ?_)
      · have h := h.1 c_268
        refine lv_aload_n (pc := 362) hx hb dX9_comesToSession_362 rfl (lv_at hl 0 rfl) ?_
        refine lv_iload_n (pc := 363) hx hb dX9_comesToSession_363 rfl (lv_at hl 1 rfl) ?_
        refine lv_iload (pc := 364) hx hb dX9_comesToSession_364 (lv_at hl 4 rfl) ?_
        refine lv_iload (pc := 366) hx hb dX9_comesToSession_366 (lv_at hl 5 rfl) ?_
        refine mVi (pc := 368) (x := x) (g := g) [.int v1, .int v4, .int v5] hF (kX9_makes x g v1 v4 v5 h) (cwX9_X9_makes hts ⟨Nat.le_of_ble_eq_true rfl, Nat.le_of_ble_eq_true rfl⟩) hP hD hS rfl rfl hl.1 (Nat.le_of_ble_eq_true rfl) dX9_comesToSession_368 ⟨Nat.le_refl _, Nat.le_refl _⟩ (fun r_368 x_368 g_368 H locs h hP hD hS => ?_)
        refine lv_istore (pc := 371) (lv' := [(10, .int r_368), (0, .ref o), (1, .int v1), (2, .int v2), (3, .int v3), (4, .int v4), (5, .int v5), (7, .int v7), (8, .int v8), (9, .int v9)]) hx hb dX9_comesToSession_371 hl (by decide) rfl (fun ls hl => ?_)
        refine lv_aload_n (pc := 373) hx hb dX9_comesToSession_373 rfl (lv_at hl 1 rfl) ?_
        refine mG_32 (pc := 374) hF hP dX9_comesToSession_374 ?_
        refine lv_iload (pc := 377) hx hb dX9_comesToSession_377 (lv_at hl 0 rfl) ?_
        refine lv_iload (pc := 379) hx hb dX9_comesToSession_379 (lv_at hl 7 rfl) ?_
        obtain ⟨hi_381, h⟩ := h
        refine mP_32 (pc := 381) hF hP hD hS (f := (g_368 32)) rfl hi_381 dX9_comesToSession_381 (fun H locs hP hD hS => ?_)
        refine lv_aload_n (pc := 382) hx hb dX9_comesToSession_382 rfl (lv_at hl 1 rfl) ?_
        refine lv_iload (pc := 383) hx hb dX9_comesToSession_383 (lv_at hl 0 rfl) ?_
        refine lv_iload (pc := 385) hx hb dX9_comesToSession_385 (lv_at hl 8 rfl) ?_
        refine lv_if_ne (pc := 387) (tgt := 394) hx hb dX9_comesToSession_387 (by decide) (fun c_387 => ?_) (fun c_387 => ?_)
        · have h := h.2 c_387
          refine lv_iconst (pc := 394) (v := 0) hx hb dX9_comesToSession_394 (by decide) ?_
          refine lv_iload_n (pc := 395) hx hb dX9_comesToSession_395 rfl (lv_at hl 4 rfl) ?_
          refine mVv (pc := 396) (x := x_368) (g := (va_up g_368 32 (upd (g_368 32) r_368.toNatClampNeg v7))) [.int r_368, .int 0, .int v3] hF (kX9_comesInto x_368 (va_up g_368 32 (upd (g_368 32) r_368.toNatClampNeg v7)) r_368 0 v3 h) (cwX9_X9_comesInto hts ⟨Nat.le_of_ble_eq_true rfl, Nat.le_of_ble_eq_true rfl⟩) hP hD hS rfl rfl hl.1 (Nat.le_of_ble_eq_true rfl) dX9_comesToSession_396 ⟨Nat.le_refl _, Nat.le_refl _⟩ (fun x_396 g_396 H locs h hP hD hS => ?_)
          exact zvr (pc := 399) (Wd := mW E o ad cI cZ) (u := (x_396, g_396)) hx hb hr hlocks hAe hK hP hD hS dX9_comesToSession_399 (Nat.le_refl _) (Nat.le_refl _) h
        · have h := h.1 c_387
          refine lv_iconst (pc := 390) (v := 1) hx hb dX9_comesToSession_390 (by decide) ?_
          refine lv_goto (pc := 391) (tgt := 395) hx hb dX9_comesToSession_391 (by decide) ?_
          refine lv_iload_n (pc := 395) hx hb dX9_comesToSession_395 rfl (lv_at hl 4 rfl) ?_
          refine mVv (pc := 396) (x := x_368) (g := (va_up g_368 32 (upd (g_368 32) r_368.toNatClampNeg v7))) [.int r_368, .int 1, .int v3] hF (kX9_comesInto x_368 (va_up g_368 32 (upd (g_368 32) r_368.toNatClampNeg v7)) r_368 1 v3 h) (cwX9_X9_comesInto hts ⟨Nat.le_of_ble_eq_true rfl, Nat.le_of_ble_eq_true rfl⟩) hP hD hS rfl rfl hl.1 (Nat.le_of_ble_eq_true rfl) dX9_comesToSession_396 ⟨Nat.le_refl _, Nat.le_refl _⟩ (fun x_396 g_396 H locs h hP hD hS => ?_)
          exact zvr (pc := 399) (Wd := mW E o ad cI cZ) (u := (x_396, g_396)) hx hb hr hlocks hAe hK hP hD hS dX9_comesToSession_399 (Nat.le_refl _) (Nat.le_refl _) h
      · have h := h.2 c_268
        refine lv_aload_n (pc := 271) hx hb dX9_comesToSession_271 rfl (lv_at hl 0 rfl) ?_
        refine lv_iload (pc := 272) hx hb dX9_comesToSession_272 (lv_at hl 8 rfl) ?_
        refine lv_iload_n (pc := 274) hx hb dX9_comesToSession_274 rfl (lv_at hl 1 rfl) ?_
        refine lv_iload_n (pc := 275) hx hb dX9_comesToSession_275 rfl (lv_at hl 2 rfl) ?_
        refine lv_iload_n (pc := 276) hx hb dX9_comesToSession_276 rfl (lv_at hl 2 rfl) ?_
        refine lv_aload_n (pc := 277) hx hb dX9_comesToSession_277 rfl (lv_at hl 0 rfl) ?_
        refine mG_6 (pc := 278) hF hP dX9_comesToSession_278 ?_
        refine lv_iconst (pc := 281) (v := 5) hx hb dX9_comesToSession_281 (by decide) ?_
        obtain ⟨hi_282, h⟩ := h
        refine mL_6 (pc := 282) hF hP (f := (g 6)) rfl hi_282 dX9_comesToSession_282 ?_
        refine lv_iadd (pc := 283) hx hb dX9_comesToSession_283 ?_
        refine mVbp (pc := 284) (x := x) (g := g) [.int v9, .int v1, .int v2, .int (v2 + ((g 6) (5 : Int32).toNatClampNeg))] hF (kX9_overlaps x g v9 v1 v2 (v2 + ((g 6) (5 : Int32).toNatClampNeg)) h) (cwX9_X9_overlaps hts ⟨Nat.le_of_ble_eq_true rfl, Nat.le_of_ble_eq_true rfl⟩) hP hD hS rfl rfl hl.1 (Nat.le_of_ble_eq_true rfl) dX9_comesToSession_284 ⟨Nat.le_refl _, Nat.le_refl _⟩ (fun r_284 H locs hb_284 h hP hD hS => ?_)
        refine lv_if_eq (pc := 287) (tgt := 356) hx hb dX9_comesToSession_287 (by decide) (fun c_287 => ?_) (fun c_287 => ?_)
        · have h := h.1 c_287
          obtain ⟨v9_356, e_v9_356⟩ : ∃ y : Int32, y = v9 + 1 := ⟨_, rfl⟩
          replace h := h v9_356 e_v9_356
          refine lv_iinc (pc := 356) (v := v9_356) (lv' := [(9, .int v9_356), (0, .ref o), (1, .int v1), (2, .int v2), (3, .int v3), (4, .int v4), (5, .int v5), (7, .int v7), (8, .int v8)]) hx hb dX9_comesToSession_356 hl (k := 8) rfl (by rw [e_v9_356]; rfl) (by decide) rfl (fun ls hl => ?_)
          refine lv_goto (pc := 359) (tgt := 256) hx hb dX9_comesToSession_359 (by decide) ?_
          exact ih256 x g v1 v2 v3 v4 v5 v7 v8 v9_356 h _ _ _ hP hD hS (lv_sub hl [1, 2, 3, 4, 5, 6, 7, 8, 0] rfl)
        · have h := h.2 c_287
          refine lv_aload_n (pc := 290) hx hb dX9_comesToSession_290 rfl (lv_at hl 0 rfl) ?_
          refine mG_33 (pc := 291) hF hP dX9_comesToSession_291 ?_
          refine lv_iload (pc := 294) hx hb dX9_comesToSession_294 (lv_at hl 8 rfl) ?_
          obtain ⟨hi_296, h⟩ := h
          refine mL_33 (pc := 296) hF hP (f := (g 33)) rfl hi_296 dX9_comesToSession_296 ?_
          refine lv_if_eq (pc := 297) (tgt := 314) hx hb dX9_comesToSession_297 (by decide) (fun c_297 => ?_) (fun c_297 => ?_)
          · have h := h.1 c_297
            exact J314 x g v1 v2 v3 v4 v5 v7 v8 v9 h _ _ _ hP hD hS (lv_sub hl [0, 1, 2, 3, 4, 5, 6, 7, 8] rfl)
          · have h := h.2 c_297
            refine lv_aload_n (pc := 300) hx hb dX9_comesToSession_300 rfl (lv_at hl 0 rfl) ?_
            refine lv_iload (pc := 301) hx hb dX9_comesToSession_301 (lv_at hl 8 rfl) ?_
            refine lv_aload_n (pc := 303) hx hb dX9_comesToSession_303 rfl (lv_at hl 0 rfl) ?_
            refine mG_34 (pc := 304) hF hP dX9_comesToSession_304 ?_
            refine lv_iload (pc := 307) hx hb dX9_comesToSession_307 (lv_at hl 8 rfl) ?_
            obtain ⟨hi_309, h⟩ := h
            refine mL_34 (pc := 309) hF hP (f := (g 34)) rfl hi_309 dX9_comesToSession_309 ?_
            refine lv_iconst (pc := 310) (v := 2) hx hb dX9_comesToSession_310 (by decide) ?_
            refine mVv (pc := 311) (x := x) (g := g) [.int v9, .int ((g 34) v9.toNatClampNeg), .int 2] hF (kX9_puts x g v9 ((g 34) v9.toNatClampNeg) 2 h) (cwX9_X9_puts hts ⟨Nat.le_of_ble_eq_true rfl, Nat.le_of_ble_eq_true rfl⟩) hP hD hS rfl rfl hl.1 (Nat.le_of_ble_eq_true rfl) dX9_comesToSession_311 ⟨Nat.le_refl _, Nat.le_refl _⟩ (fun x_311 g_311 H locs h hP hD hS => ?_)
            exact J314 x_311 g_311 v1 v2 v3 v4 v5 v7 v8 v9 h _ _ _ hP hD hS (lv_sub hl [0, 1, 2, 3, 4, 5, 6, 7, 8] rfl)
  have L104 : ∀ n104 : Nat, ∀ (x : Nat → Int32) (g : Nat → Nat → Int32) (v1 v2 v3 v4 v5 v6 v7 : Int32), lX9_comesToSession_104 Φ n104 x g v1 v2 v3 v4 v5 v6 v7 → ∀ (H : Heap) (locs : List Loc) (ls : Array Slot), va_P D vwCl (mW E o ad cI cZ (x, g)) H → va_D A (mW E o ad cI cZ (x, g)) → va_S A s.heap H locs → lv_has ls 11 [(0, .ref o), (1, .int v1), (2, .int v2), (3, .int v3), (4, .int v4), (5, .int v5), (6, .int v6), (7, .int v7)] → W p l e { frames := 3, cells := 0, slots := 0, locals := 70 } s m args below meth c H locs 0 0 (MQ below (zQv D (mT cI cZ) (mW E o ad cI cZ) (fun u => Φ u.1 u.2) (mW E o ad cI cZ (x0, g0)) s.heap.size) args s 0 0 (va_A (mW E o ad cI cZ (x0, g0)) s.heap.size)) (F0 m 104 ls []) := by
    intro n104
    induction n104 with
    | zero => intro x g v1 v2 v3 v4 v5 v6 v7 h H locs ls hP hD hS hl; exact h.elim
    | succ n104 ih104 =>
      have J162 : ∀ (x : Nat → Int32) (g : Nat → Nat → Int32) (v1 v2 v3 v5 v6 v7 s0 : Int32), jX9_comesToSession_162 (lX9_comesToSession_104 Φ n104) Φ x g v1 v2 v3 v5 v6 v7 s0 → ∀ (H : Heap) (locs : List Loc) (ls : Array Slot), va_P D vwCl (mW E o ad cI cZ (x, g)) H → va_D A (mW E o ad cI cZ (x, g)) → va_S A s.heap H locs → lv_has ls 11 [(0, .ref o), (1, .int v1), (2, .int v2), (3, .int v3), (5, .int v5), (6, .int v6), (7, .int v7)] → W p l e { frames := 3, cells := 0, slots := 0, locals := 70 } s m args below meth c H locs 0 0 (MQ below (zQv D (mT cI cZ) (mW E o ad cI cZ) (fun u => Φ u.1 u.2) (mW E o ad cI cZ (x0, g0)) s.heap.size) args s 0 0 (va_A (mW E o ad cI cZ (x0, g0)) s.heap.size)) (F0 m 162 ls [.int s0]) := by
        intro x g v1 v2 v3 v5 v6 v7 s0 h H locs ls hP hD hS hl
        unfold jX9_comesToSession_162 at h
        refine lv_istore (pc := 162) (lv' := [(4, .int s0), (0, .ref o), (1, .int v1), (2, .int v2), (3, .int v3), (5, .int v5), (6, .int v6), (7, .int v7)]) hx hb dX9_comesToSession_162 hl (by decide) rfl (fun ls hl => ?_)
        refine lv_aload_n (pc := 164) hx hb dX9_comesToSession_164 rfl (lv_at hl 1 rfl) ?_
        refine mG_31 (pc := 165) hF hP dX9_comesToSession_165 ?_
        refine lv_iload (pc := 168) hx hb dX9_comesToSession_168 (lv_at hl 7 rfl) ?_
        obtain ⟨hi_170, h⟩ := h
        refine mL_31 (pc := 170) hF hP (f := (g 31)) rfl hi_170 dX9_comesToSession_170 ?_
        refine lv_iload (pc := 171) hx hb dX9_comesToSession_171 (lv_at hl 5 rfl) ?_
        refine lv_icmp_le (pc := 173) (tgt := 186) hx hb dX9_comesToSession_173 (by decide) (fun c_173 => ?_) (fun c_173 => ?_)
        · have h := h.1 c_173
          refine lv_iload (pc := 186) hx hb dX9_comesToSession_186 (lv_at hl 5 rfl) ?_
          refine lv_istore (pc := 188) (lv' := [(5, .int v5), (4, .int s0), (0, .ref o), (1, .int v1), (2, .int v2), (3, .int v3), (6, .int v6), (7, .int v7)]) hx hb dX9_comesToSession_188 hl (by decide) rfl (fun ls hl => ?_)
          obtain ⟨v7_190, e_v7_190⟩ : ∃ y : Int32, y = v7 + 1 := ⟨_, rfl⟩
          replace h := h v7_190 e_v7_190
          refine lv_iinc (pc := 190) (v := v7_190) (lv' := [(7, .int v7_190), (5, .int v5), (4, .int s0), (0, .ref o), (1, .int v1), (2, .int v2), (3, .int v3), (6, .int v6)]) hx hb dX9_comesToSession_190 hl (k := 7) rfl (by rw [e_v7_190]; rfl) (by decide) rfl (fun ls hl => ?_)
          refine lv_goto (pc := 193) (tgt := 104) hx hb dX9_comesToSession_193 (by decide) ?_
          exact ih104 x g v1 v2 v3 s0 v5 v6 v7_190 h _ _ _ hP hD hS (lv_sub hl [3, 4, 5, 6, 2, 1, 7, 0] rfl)
        · have h := h.2 c_173
          refine lv_aload_n (pc := 176) hx hb dX9_comesToSession_176 rfl (lv_at hl 1 rfl) ?_
          refine mG_31 (pc := 177) hF hP dX9_comesToSession_177 ?_
          refine lv_iload (pc := 180) hx hb dX9_comesToSession_180 (lv_at hl 7 rfl) ?_
          obtain ⟨hi_182, h⟩ := h
          refine mL_31 (pc := 182) hF hP (f := (g 31)) rfl hi_182 dX9_comesToSession_182 ?_
          refine lv_goto (pc := 183) (tgt := 188) hx hb dX9_comesToSession_183 (by decide) ?_
          refine lv_topi (fun v5_188 e_v5_188 => ?_)
          replace h := h v5_188 e_v5_188
          refine lv_istore (pc := 188) (lv' := [(5, .int v5_188), (4, .int s0), (0, .ref o), (1, .int v1), (2, .int v2), (3, .int v3), (6, .int v6), (7, .int v7)]) hx hb dX9_comesToSession_188 hl (by decide) rfl (fun ls hl => ?_)
          obtain ⟨v7_190, e_v7_190⟩ : ∃ y : Int32, y = v7 + 1 := ⟨_, rfl⟩
          replace h := h v7_190 e_v7_190
          refine lv_iinc (pc := 190) (v := v7_190) (lv' := [(7, .int v7_190), (5, .int v5_188), (4, .int s0), (0, .ref o), (1, .int v1), (2, .int v2), (3, .int v3), (6, .int v6)]) hx hb dX9_comesToSession_190 hl (k := 7) rfl (by rw [e_v7_190]; rfl) (by decide) rfl (fun ls hl => ?_)
          refine lv_goto (pc := 193) (tgt := 104) hx hb dX9_comesToSession_193 (by decide) ?_
          exact ih104 x g v1 v2 v3 s0 v5_188 v6 v7_190 h _ _ _ hP hD hS (lv_sub hl [3, 4, 5, 6, 2, 1, 7, 0] rfl)
      intro x g v1 v2 v3 v4 v5 v6 v7 h H locs ls hP hD hS hl
      unfold lX9_comesToSession_104 at h
      refine lv_iload (pc := 104) hx hb dX9_comesToSession_104 (lv_at hl 7 rfl) ?_
      refine lv_aload_n (pc := 106) hx hb dX9_comesToSession_106 rfl (lv_at hl 0 rfl) ?_
      refine mG_28 (pc := 107) hF hP dX9_comesToSession_107 ?_
      refine lv_bipush (pc := 110) (v := 6) hx hb dX9_comesToSession_110 (by decide) ?_
      obtain ⟨hi_112, h⟩ := h
      refine mL_28 (pc := 112) hF hP (f := (g 28)) rfl hi_112 dX9_comesToSession_112 ?_
      refine mSip (pc := 113) (x := x) (g := g) [.int ((g 28) (6 : Int32).toNatClampNeg)] hF (kX9_placeOf x g ((g 28) (6 : Int32).toNatClampNeg) h) (cwX9_X9_placeOf hts ⟨Nat.le_of_ble_eq_true rfl, Nat.le_of_ble_eq_true rfl⟩) hP hD hS rfl rfl hl.1 (Nat.le_of_ble_eq_true rfl) dX9_comesToSession_113 ⟨Nat.le_refl _, Nat.le_refl _⟩ (fun r_113 H locs h hP hD hS => ?_)
      refine lv_icmp_ge (pc := 116) (tgt := 196) hx hb dX9_comesToSession_116 (by decide) (fun c_116 => ?_) (fun c_116 => ?_)
      · have h := h.1 c_116
        refine lv_iload (pc := 196) hx hb dX9_comesToSession_196 (lv_at hl 6 rfl) ?_
        refine lv_iconst (pc := 198) (v := 1) hx hb dX9_comesToSession_198 (by decide) ?_
        refine lv_icmp_ne (pc := 199) (tgt := 244) hx hb dX9_comesToSession_199 (by decide) (fun c_199 => ?_) (fun c_199 => ?_)
        · have h := h.2 c_199
          refine lv_iconst (pc := 244) (v := 0) hx hb dX9_comesToSession_244 (by decide) ?_
          refine lv_istore (pc := 245) (lv' := [(7, .int 0), (0, .ref o), (1, .int v1), (2, .int v2), (3, .int v3), (4, .int v4), (5, .int v5), (6, .int v6)]) hx hb dX9_comesToSession_245 hl (by decide) rfl (fun ls hl => ?_)
          refine lv_iconst (pc := 247) (v := 0) hx hb dX9_comesToSession_247 (by decide) ?_
          refine lv_istore (pc := 248) (lv' := [(8, .int 0), (7, .int 0), (0, .ref o), (1, .int v1), (2, .int v2), (3, .int v3), (4, .int v4), (5, .int v5), (6, .int v6)]) hx hb dX9_comesToSession_248 hl (by decide) rfl (fun ls hl => ?_)
          refine lv_iconst (pc := 250) (v := 0) hx hb dX9_comesToSession_250 (by decide) ?_
          refine mSip (pc := 251) (x := x) (g := g) [.int 0] hF (kX9_placeOf x g 0 h) (cwX9_X9_placeOf hts ⟨Nat.le_of_ble_eq_true rfl, Nat.le_of_ble_eq_true rfl⟩) hP hD hS rfl rfl hl.1 (Nat.le_of_ble_eq_true rfl) dX9_comesToSession_251 ⟨Nat.le_refl _, Nat.le_refl _⟩ (fun r_251 H locs h hP hD hS => ?_)
          refine lv_istore (pc := 254) (lv' := [(9, .int r_251), (8, .int 0), (7, .int 0), (0, .ref o), (1, .int v1), (2, .int v2), (3, .int v3), (4, .int v4), (5, .int v5), (6, .int v6)]) hx hb dX9_comesToSession_254 hl (by decide) rfl (fun ls hl => ?_)
          obtain ⟨n256, h⟩ := h
          exact L256 n256 x g v1 v2 v3 v4 v5 0 0 r_251 h _ _ _ hP hD hS (lv_sub hl [3, 4, 5, 6, 7, 8, 2, 1, 0] rfl)
        · have h := h.1 c_199
          refine lv_aload_n (pc := 202) hx hb dX9_comesToSession_202 rfl (lv_at hl 0 rfl) ?_
          refine lv_iload_n (pc := 203) hx hb dX9_comesToSession_203 rfl (lv_at hl 1 rfl) ?_
          refine lv_iload (pc := 204) hx hb dX9_comesToSession_204 (lv_at hl 4 rfl) ?_
          refine mVip (pc := 206) (x := x) (g := g) [.int v1, .int v4] hF (kX9_windowOf x g v1 v4 h) (cwX9_X9_windowOf hts ⟨Nat.le_of_ble_eq_true rfl, Nat.le_of_ble_eq_true rfl⟩) hP hD hS rfl rfl hl.1 (Nat.le_of_ble_eq_true rfl) dX9_comesToSession_206 ⟨Nat.le_refl _, Nat.le_refl _⟩ (fun r_206 H locs h hP hD hS => ?_)
          refine lv_iconst (pc := 209) (v := (-1)) hx hb dX9_comesToSession_209 (by decide) ?_
          refine lv_icmp_eq (pc := 210) (tgt := 244) hx hb dX9_comesToSession_210 (by decide) (fun c_210 => ?_) (fun c_210 => ?_)
          · have h := h.1 c_210
            refine lv_iconst (pc := 244) (v := 0) hx hb dX9_comesToSession_244 (by decide) ?_
            refine lv_istore (pc := 245) (lv' := [(7, .int 0), (0, .ref o), (1, .int v1), (2, .int v2), (3, .int v3), (4, .int v4), (5, .int v5), (6, .int v6)]) hx hb dX9_comesToSession_245 hl (by decide) rfl (fun ls hl => ?_)
            refine lv_iconst (pc := 247) (v := 0) hx hb dX9_comesToSession_247 (by decide) ?_
            refine lv_istore (pc := 248) (lv' := [(8, .int 0), (7, .int 0), (0, .ref o), (1, .int v1), (2, .int v2), (3, .int v3), (4, .int v4), (5, .int v5), (6, .int v6)]) hx hb dX9_comesToSession_248 hl (by decide) rfl (fun ls hl => ?_)
            refine lv_iconst (pc := 250) (v := 0) hx hb dX9_comesToSession_250 (by decide) ?_
            refine mSip (pc := 251) (x := x) (g := g) [.int 0] hF (kX9_placeOf x g 0 h) (cwX9_X9_placeOf hts ⟨Nat.le_of_ble_eq_true rfl, Nat.le_of_ble_eq_true rfl⟩) hP hD hS rfl rfl hl.1 (Nat.le_of_ble_eq_true rfl) dX9_comesToSession_251 ⟨Nat.le_refl _, Nat.le_refl _⟩ (fun r_251 H locs h hP hD hS => ?_)
            refine lv_istore (pc := 254) (lv' := [(9, .int r_251), (8, .int 0), (7, .int 0), (0, .ref o), (1, .int v1), (2, .int v2), (3, .int v3), (4, .int v4), (5, .int v5), (6, .int v6)]) hx hb dX9_comesToSession_254 hl (by decide) rfl (fun ls hl => ?_)
            obtain ⟨n256, h⟩ := h
            exact L256 n256 x g v1 v2 v3 v4 v5 0 0 r_251 h _ _ _ hP hD hS (lv_sub hl [3, 4, 5, 6, 7, 8, 2, 1, 0] rfl)
          · have h := h.2 c_210
            refine lv_aload_n (pc := 213) hx hb dX9_comesToSession_213 rfl (lv_at hl 0 rfl) ?_
            refine mG_31 (pc := 214) hF hP dX9_comesToSession_214 ?_
            refine lv_aload_n (pc := 217) hx hb dX9_comesToSession_217 rfl (lv_at hl 0 rfl) ?_
            refine lv_iload_n (pc := 218) hx hb dX9_comesToSession_218 rfl (lv_at hl 1 rfl) ?_
            refine lv_iload (pc := 219) hx hb dX9_comesToSession_219 (lv_at hl 4 rfl) ?_
            refine mVip (pc := 221) (x := x) (g := g) [.int v1, .int v4] hF (kX9_windowOf x g v1 v4 h) (cwX9_X9_windowOf hts ⟨Nat.le_of_ble_eq_true rfl, Nat.le_of_ble_eq_true rfl⟩) hP hD hS rfl rfl hl.1 (Nat.le_of_ble_eq_true rfl) dX9_comesToSession_221 ⟨Nat.le_refl _, Nat.le_refl _⟩ (fun r_221 H locs h hP hD hS => ?_)
            obtain ⟨hi_224, h⟩ := h
            refine mL_31 (pc := 224) hF hP (f := (g 31)) rfl hi_224 dX9_comesToSession_224 ?_
            refine lv_iload (pc := 225) hx hb dX9_comesToSession_225 (lv_at hl 5 rfl) ?_
            refine lv_icmp_ne (pc := 227) (tgt := 244) hx hb dX9_comesToSession_227 (by decide) (fun c_227 => ?_) (fun c_227 => ?_)
            · have h := h.2 c_227
              refine lv_iconst (pc := 244) (v := 0) hx hb dX9_comesToSession_244 (by decide) ?_
              refine lv_istore (pc := 245) (lv' := [(7, .int 0), (0, .ref o), (1, .int v1), (2, .int v2), (3, .int v3), (4, .int v4), (5, .int v5), (6, .int v6)]) hx hb dX9_comesToSession_245 hl (by decide) rfl (fun ls hl => ?_)
              refine lv_iconst (pc := 247) (v := 0) hx hb dX9_comesToSession_247 (by decide) ?_
              refine lv_istore (pc := 248) (lv' := [(8, .int 0), (7, .int 0), (0, .ref o), (1, .int v1), (2, .int v2), (3, .int v3), (4, .int v4), (5, .int v5), (6, .int v6)]) hx hb dX9_comesToSession_248 hl (by decide) rfl (fun ls hl => ?_)
              refine lv_iconst (pc := 250) (v := 0) hx hb dX9_comesToSession_250 (by decide) ?_
              refine mSip (pc := 251) (x := x) (g := g) [.int 0] hF (kX9_placeOf x g 0 h) (cwX9_X9_placeOf hts ⟨Nat.le_of_ble_eq_true rfl, Nat.le_of_ble_eq_true rfl⟩) hP hD hS rfl rfl hl.1 (Nat.le_of_ble_eq_true rfl) dX9_comesToSession_251 ⟨Nat.le_refl _, Nat.le_refl _⟩ (fun r_251 H locs h hP hD hS => ?_)
              refine lv_istore (pc := 254) (lv' := [(9, .int r_251), (8, .int 0), (7, .int 0), (0, .ref o), (1, .int v1), (2, .int v2), (3, .int v3), (4, .int v4), (5, .int v5), (6, .int v6)]) hx hb dX9_comesToSession_254 hl (by decide) rfl (fun ls hl => ?_)
              obtain ⟨n256, h⟩ := h
              exact L256 n256 x g v1 v2 v3 v4 v5 0 0 r_251 h _ _ _ hP hD hS (lv_sub hl [3, 4, 5, 6, 7, 8, 2, 1, 0] rfl)
            · have h := h.1 c_227
              refine lv_aload_n (pc := 230) hx hb dX9_comesToSession_230 rfl (lv_at hl 0 rfl) ?_
              refine lv_aload_n (pc := 231) hx hb dX9_comesToSession_231 rfl (lv_at hl 0 rfl) ?_
              refine lv_iload_n (pc := 232) hx hb dX9_comesToSession_232 rfl (lv_at hl 1 rfl) ?_
              refine lv_iload (pc := 233) hx hb dX9_comesToSession_233 (lv_at hl 4 rfl) ?_
              refine mVip (pc := 235) (x := x) (g := g) [.int v1, .int v4] hF (kX9_windowOf x g v1 v4 h) (cwX9_X9_windowOf hts ⟨Nat.le_of_ble_eq_true rfl, Nat.le_of_ble_eq_true rfl⟩) hP hD hS rfl rfl hl.1 (Nat.le_of_ble_eq_true rfl) dX9_comesToSession_235 ⟨Nat.le_refl _, Nat.le_refl _⟩ (fun r_235 H locs h hP hD hS => ?_)
              refine lv_iconst (pc := 238) (v := 0) hx hb dX9_comesToSession_238 (by decide) ?_
              refine lv_iload_n (pc := 239) hx hb dX9_comesToSession_239 rfl (lv_at hl 3 rfl) ?_
              refine mVv (pc := 240) (x := x) (g := g) [.int r_235, .int 0, .int v3] hF (kX9_comesInto x g r_235 0 v3 h) (cwX9_X9_comesInto hts ⟨Nat.le_of_ble_eq_true rfl, Nat.le_of_ble_eq_true rfl⟩) hP hD hS rfl rfl hl.1 (Nat.le_of_ble_eq_true rfl) dX9_comesToSession_240 ⟨Nat.le_refl _, Nat.le_refl _⟩ (fun x_240 g_240 H locs h hP hD hS => ?_)
              exact zvr (pc := 243) (Wd := mW E o ad cI cZ) (u := (x_240, g_240)) hx hb hr hlocks hAe hK hP hD hS dX9_comesToSession_243 (Nat.le_refl _) (Nat.le_refl _) h
      · have h := h.2 c_116
        refine lv_aload_n (pc := 119) hx hb dX9_comesToSession_119 rfl (lv_at hl 0 rfl) ?_
        refine lv_iload (pc := 120) hx hb dX9_comesToSession_120 (lv_at hl 7 rfl) ?_
        refine lv_iload_n (pc := 122) hx hb dX9_comesToSession_122 rfl (lv_at hl 1 rfl) ?_
        refine lv_iload_n (pc := 123) hx hb dX9_comesToSession_123 rfl (lv_at hl 2 rfl) ?_
        refine lv_iload_n (pc := 124) hx hb dX9_comesToSession_124 rfl (lv_at hl 2 rfl) ?_
        refine lv_aload_n (pc := 125) hx hb dX9_comesToSession_125 rfl (lv_at hl 0 rfl) ?_
        refine mG_6 (pc := 126) hF hP dX9_comesToSession_126 ?_
        refine lv_iconst (pc := 129) (v := 5) hx hb dX9_comesToSession_129 (by decide) ?_
        obtain ⟨hi_130, h⟩ := h
        refine mL_6 (pc := 130) hF hP (f := (g 6)) rfl hi_130 dX9_comesToSession_130 ?_
        refine lv_iadd (pc := 131) hx hb dX9_comesToSession_131 ?_
        refine mVbp (pc := 132) (x := x) (g := g) [.int v7, .int v1, .int v2, .int (v2 + ((g 6) (5 : Int32).toNatClampNeg))] hF (kX9_overlaps x g v7 v1 v2 (v2 + ((g 6) (5 : Int32).toNatClampNeg)) h) (cwX9_X9_overlaps hts ⟨Nat.le_of_ble_eq_true rfl, Nat.le_of_ble_eq_true rfl⟩) hP hD hS rfl rfl hl.1 (Nat.le_of_ble_eq_true rfl) dX9_comesToSession_132 ⟨Nat.le_refl _, Nat.le_refl _⟩ (fun r_132 H locs hb_132 h hP hD hS => ?_)
        refine lv_if_eq (pc := 135) (tgt := 190) hx hb dX9_comesToSession_135 (by decide) (fun c_135 => ?_) (fun c_135 => ?_)
        · have h := h.1 c_135
          obtain ⟨v7_190, e_v7_190⟩ : ∃ y : Int32, y = v7 + 1 := ⟨_, rfl⟩
          replace h := h v7_190 e_v7_190
          refine lv_iinc (pc := 190) (v := v7_190) (lv' := [(7, .int v7_190), (0, .ref o), (1, .int v1), (2, .int v2), (3, .int v3), (4, .int v4), (5, .int v5), (6, .int v6)]) hx hb dX9_comesToSession_190 hl (k := 7) rfl (by rw [e_v7_190]; rfl) (by decide) rfl (fun ls hl => ?_)
          refine lv_goto (pc := 193) (tgt := 104) hx hb dX9_comesToSession_193 (by decide) ?_
          exact ih104 x g v1 v2 v3 v4 v5 v6 v7_190 h _ _ _ hP hD hS (lv_sub hl [1, 2, 3, 4, 5, 6, 7, 0] rfl)
        · have h := h.2 c_135
          refine lv_aload_n (pc := 138) hx hb dX9_comesToSession_138 rfl (lv_at hl 0 rfl) ?_
          refine mG_30 (pc := 139) hF hP dX9_comesToSession_139 ?_
          refine lv_iload (pc := 142) hx hb dX9_comesToSession_142 (lv_at hl 7 rfl) ?_
          obtain ⟨hi_144, h⟩ := h
          refine mL_30 (pc := 144) hF hP (f := (g 30)) rfl hi_144 dX9_comesToSession_144 ?_
          refine lv_iload (pc := 145) hx hb dX9_comesToSession_145 (lv_at hl 4 rfl) ?_
          refine lv_icmp_ge (pc := 147) (tgt := 160) hx hb dX9_comesToSession_147 (by decide) (fun c_147 => ?_) (fun c_147 => ?_)
          · have h := h.1 c_147
            refine lv_iload (pc := 160) hx hb dX9_comesToSession_160 (lv_at hl 4 rfl) ?_
            exact J162 x g v1 v2 v3 v5 v6 v7 v4 h _ _ _ hP hD hS (lv_sub hl [0, 1, 2, 3, 5, 6, 7] rfl)
          · have h := h.2 c_147
            refine lv_aload_n (pc := 150) hx hb dX9_comesToSession_150 rfl (lv_at hl 0 rfl) ?_
            refine mG_30 (pc := 151) hF hP dX9_comesToSession_151 ?_
            refine lv_iload (pc := 154) hx hb dX9_comesToSession_154 (lv_at hl 7 rfl) ?_
            obtain ⟨hi_156, h⟩ := h
            refine mL_30 (pc := 156) hF hP (f := (g 30)) rfl hi_156 dX9_comesToSession_156 ?_
            refine lv_goto (pc := 157) (tgt := 162) hx hb dX9_comesToSession_157 (by decide) ?_
            exact J162 x g v1 v2 v3 v5 v6 v7 ((g 30) v7.toNatClampNeg) h _ _ _ hP hD hS (lv_sub hl [0, 1, 2, 3, 5, 6, 7] rfl)
  have L22 : ∀ n22 : Nat, ∀ (x : Nat → Int32) (g : Nat → Nat → Int32) (v1 v2 v3 v4 v5 v6 v7 : Int32), lX9_comesToSession_22 Φ n22 x g v1 v2 v3 v4 v5 v6 v7 → ∀ (H : Heap) (locs : List Loc) (ls : Array Slot), va_P D vwCl (mW E o ad cI cZ (x, g)) H → va_D A (mW E o ad cI cZ (x, g)) → va_S A s.heap H locs → lv_has ls 11 [(0, .ref o), (1, .int v1), (2, .int v2), (3, .int v3), (4, .int v4), (5, .int v5), (6, .int v6), (7, .int v7)] → W p l e { frames := 3, cells := 0, slots := 0, locals := 70 } s m args below meth c H locs 0 0 (MQ below (zQv D (mT cI cZ) (mW E o ad cI cZ) (fun u => Φ u.1 u.2) (mW E o ad cI cZ (x0, g0)) s.heap.size) args s 0 0 (va_A (mW E o ad cI cZ (x0, g0)) s.heap.size)) (F0 m 22 ls []) := by
    intro n22
    induction n22 with
    | zero => intro x g v1 v2 v3 v4 v5 v6 v7 h H locs ls hP hD hS hl; exact h.elim
    | succ n22 ih22 =>
      intro x g v1 v2 v3 v4 v5 v6 v7 h H locs ls hP hD hS hl
      unfold lX9_comesToSession_22 at h
      refine lv_iload (pc := 22) hx hb dX9_comesToSession_22 (lv_at hl 7 rfl) ?_
      refine lv_aload_n (pc := 24) hx hb dX9_comesToSession_24 rfl (lv_at hl 0 rfl) ?_
      refine mG_28 (pc := 25) hF hP dX9_comesToSession_25 ?_
      refine lv_bipush (pc := 28) (v := 6) hx hb dX9_comesToSession_28 (by decide) ?_
      obtain ⟨hi_30, h⟩ := h
      refine mL_28 (pc := 30) hF hP (f := (g 28)) rfl hi_30 dX9_comesToSession_30 ?_
      refine mSip (pc := 31) (x := x) (g := g) [.int ((g 28) (6 : Int32).toNatClampNeg)] hF (kX9_placeOf x g ((g 28) (6 : Int32).toNatClampNeg) h) (cwX9_X9_placeOf hts ⟨Nat.le_of_ble_eq_true rfl, Nat.le_of_ble_eq_true rfl⟩) hP hD hS rfl rfl hl.1 (Nat.le_of_ble_eq_true rfl) dX9_comesToSession_31 ⟨Nat.le_refl _, Nat.le_refl _⟩ (fun r_31 H locs h hP hD hS => ?_)
      refine lv_icmp_ge (pc := 34) (tgt := 72) hx hb dX9_comesToSession_34 (by decide) (fun c_34 => ?_) (fun c_34 => ?_)
      · have h := h.1 c_34
        refine lv_iload (pc := 72) hx hb dX9_comesToSession_72 (lv_at hl 6 rfl) ?_
        refine lv_if_ne (pc := 74) (tgt := 98) hx hb dX9_comesToSession_74 (by decide) (fun c_74 => ?_) (fun c_74 => ?_)
        · have h := h.2 c_74
          refine lv_iconst (pc := 98) (v := 0) hx hb dX9_comesToSession_98 (by decide) ?_
          refine mSip (pc := 99) (x := x) (g := g) [.int 0] hF (kX9_placeOf x g 0 h) (cwX9_X9_placeOf hts ⟨Nat.le_of_ble_eq_true rfl, Nat.le_of_ble_eq_true rfl⟩) hP hD hS rfl rfl hl.1 (Nat.le_of_ble_eq_true rfl) dX9_comesToSession_99 ⟨Nat.le_refl _, Nat.le_refl _⟩ (fun r_99 H locs h hP hD hS => ?_)
          refine lv_istore (pc := 102) (lv' := [(7, .int r_99), (0, .ref o), (1, .int v1), (2, .int v2), (3, .int v3), (4, .int v4), (5, .int v5), (6, .int v6)]) hx hb dX9_comesToSession_102 hl (by decide) rfl (fun ls hl => ?_)
          obtain ⟨n104, h⟩ := h
          exact L104 n104 x g v1 v2 v3 v4 v5 v6 r_99 h _ _ _ hP hD hS (lv_sub hl [1, 2, 3, 4, 5, 6, 7, 0] rfl)
        · have h := h.1 c_74
          refine lv_aload_n (pc := 77) hx hb dX9_comesToSession_77 rfl (lv_at hl 0 rfl) ?_
          refine lv_iload (pc := 78) hx hb dX9_comesToSession_78 (lv_at hl 5 rfl) ?_
          refine mVbp (pc := 80) (x := x) (g := g) [.int v5] hF (kX9_isOver x g v5 h) (cwX9_X9_isOver hts ⟨Nat.le_of_ble_eq_true rfl, Nat.le_of_ble_eq_true rfl⟩) hP hD hS rfl rfl hl.1 (Nat.le_of_ble_eq_true rfl) dX9_comesToSession_80 ⟨Nat.le_refl _, Nat.le_refl _⟩ (fun r_80 H locs hb_80 h hP hD hS => ?_)
          refine lv_if_eq (pc := 83) (tgt := 98) hx hb dX9_comesToSession_83 (by decide) (fun c_83 => ?_) (fun c_83 => ?_)
          · have h := h.1 c_83
            refine lv_iconst (pc := 98) (v := 0) hx hb dX9_comesToSession_98 (by decide) ?_
            refine mSip (pc := 99) (x := x) (g := g) [.int 0] hF (kX9_placeOf x g 0 h) (cwX9_X9_placeOf hts ⟨Nat.le_of_ble_eq_true rfl, Nat.le_of_ble_eq_true rfl⟩) hP hD hS rfl rfl hl.1 (Nat.le_of_ble_eq_true rfl) dX9_comesToSession_99 ⟨Nat.le_refl _, Nat.le_refl _⟩ (fun r_99 H locs h hP hD hS => ?_)
            refine lv_istore (pc := 102) (lv' := [(7, .int r_99), (0, .ref o), (1, .int v1), (2, .int v2), (3, .int v3), (4, .int v4), (5, .int v5), (6, .int v6)]) hx hb dX9_comesToSession_102 hl (by decide) rfl (fun ls hl => ?_)
            obtain ⟨n104, h⟩ := h
            exact L104 n104 x g v1 v2 v3 v4 v5 v6 r_99 h _ _ _ hP hD hS (lv_sub hl [1, 2, 3, 4, 5, 6, 7, 0] rfl)
          · have h := h.2 c_83
            refine lv_aload_n (pc := 86) hx hb dX9_comesToSession_86 rfl (lv_at hl 0 rfl) ?_
            refine mG_26 (pc := 87) hF hP dX9_comesToSession_87 ?_
            refine lv_bipush (pc := 90) (v := 6) hx hb dX9_comesToSession_90 (by decide) ?_
            refine lv_dup2_11 (pc := 92) hx hb dX9_comesToSession_92 rfl rfl ?_
            obtain ⟨hi_93, h⟩ := h
            refine mL_26 (pc := 93) hF hP (f := (g 26)) rfl hi_93 dX9_comesToSession_93 ?_
            refine lv_iconst (pc := 94) (v := 1) hx hb dX9_comesToSession_94 (by decide) ?_
            refine lv_iadd (pc := 95) hx hb dX9_comesToSession_95 ?_
            obtain ⟨hi_96, h⟩ := h
            refine mP_26 (pc := 96) hF hP hD hS (f := (g 26)) rfl hi_96 dX9_comesToSession_96 (fun H locs hP hD hS => ?_)
            exact zvr (pc := 97) (Wd := mW E o ad cI cZ) (u := (x, (va_up g 26 (upd (g 26) (6 : Int32).toNatClampNeg (((g 26) (6 : Int32).toNatClampNeg) + 1))))) hx hb hr hlocks hAe hK hP hD hS dX9_comesToSession_97 (Nat.le_refl _) (Nat.le_refl _) h
      · have h := h.2 c_34
        refine lv_iload (pc := 37) hx hb dX9_comesToSession_37 (lv_at hl 6 rfl) ?_
        refine lv_aload_n (pc := 39) hx hb dX9_comesToSession_39 rfl (lv_at hl 0 rfl) ?_
        refine lv_iload (pc := 40) hx hb dX9_comesToSession_40 (lv_at hl 7 rfl) ?_
        refine lv_iload_n (pc := 42) hx hb dX9_comesToSession_42 rfl (lv_at hl 1 rfl) ?_
        refine lv_iload_n (pc := 43) hx hb dX9_comesToSession_43 rfl (lv_at hl 2 rfl) ?_
        refine lv_iload_n (pc := 44) hx hb dX9_comesToSession_44 rfl (lv_at hl 2 rfl) ?_
        refine lv_aload_n (pc := 45) hx hb dX9_comesToSession_45 rfl (lv_at hl 0 rfl) ?_
        refine mG_6 (pc := 46) hF hP dX9_comesToSession_46 ?_
        refine lv_iconst (pc := 49) (v := 5) hx hb dX9_comesToSession_49 (by decide) ?_
        obtain ⟨hi_50, h⟩ := h
        refine mL_6 (pc := 50) hF hP (f := (g 6)) rfl hi_50 dX9_comesToSession_50 ?_
        refine lv_iadd (pc := 51) hx hb dX9_comesToSession_51 ?_
        refine mVbp (pc := 52) (x := x) (g := g) [.int v7, .int v1, .int v2, .int (v2 + ((g 6) (5 : Int32).toNatClampNeg))] hF (kX9_overlaps x g v7 v1 v2 (v2 + ((g 6) (5 : Int32).toNatClampNeg)) h) (cwX9_X9_overlaps hts ⟨Nat.le_of_ble_eq_true rfl, Nat.le_of_ble_eq_true rfl⟩) hP hD hS rfl rfl hl.1 (Nat.le_of_ble_eq_true rfl) dX9_comesToSession_52 ⟨Nat.le_refl _, Nat.le_refl _⟩ (fun r_52 H locs hb_52 h hP hD hS => ?_)
        refine lv_if_eq (pc := 55) (tgt := 62) hx hb dX9_comesToSession_55 (by decide) (fun c_55 => ?_) (fun c_55 => ?_)
        · have h := h.1 c_55
          refine lv_iconst (pc := 62) (v := 0) hx hb dX9_comesToSession_62 (by decide) ?_
          refine lv_iadd (pc := 63) hx hb dX9_comesToSession_63 ?_
          refine lv_topi (fun v6_64 e_v6_64 => ?_)
          replace h := h v6_64 e_v6_64
          refine lv_istore (pc := 64) (lv' := [(6, .int v6_64), (0, .ref o), (1, .int v1), (2, .int v2), (3, .int v3), (4, .int v4), (5, .int v5), (7, .int v7)]) hx hb dX9_comesToSession_64 hl (by decide) rfl (fun ls hl => ?_)
          obtain ⟨v7_66, e_v7_66⟩ : ∃ y : Int32, y = v7 + 1 := ⟨_, rfl⟩
          replace h := h v7_66 e_v7_66
          refine lv_iinc (pc := 66) (v := v7_66) (lv' := [(7, .int v7_66), (6, .int v6_64), (0, .ref o), (1, .int v1), (2, .int v2), (3, .int v3), (4, .int v4), (5, .int v5)]) hx hb dX9_comesToSession_66 hl (k := 7) rfl (by rw [e_v7_66]; rfl) (by decide) rfl (fun ls hl => ?_)
          refine lv_goto (pc := 69) (tgt := 22) hx hb dX9_comesToSession_69 (by decide) ?_
          exact ih22 x g v1 v2 v3 v4 v5 v6_64 v7_66 h _ _ _ hP hD hS (lv_sub hl [2, 3, 4, 5, 6, 7, 1, 0] rfl)
        · have h := h.2 c_55
          refine lv_iconst (pc := 58) (v := 1) hx hb dX9_comesToSession_58 (by decide) ?_
          refine lv_goto (pc := 59) (tgt := 63) hx hb dX9_comesToSession_59 (by decide) ?_
          refine lv_iadd (pc := 63) hx hb dX9_comesToSession_63 ?_
          refine lv_topi (fun v6_64 e_v6_64 => ?_)
          replace h := h v6_64 e_v6_64
          refine lv_istore (pc := 64) (lv' := [(6, .int v6_64), (0, .ref o), (1, .int v1), (2, .int v2), (3, .int v3), (4, .int v4), (5, .int v5), (7, .int v7)]) hx hb dX9_comesToSession_64 hl (by decide) rfl (fun ls hl => ?_)
          obtain ⟨v7_66, e_v7_66⟩ : ∃ y : Int32, y = v7 + 1 := ⟨_, rfl⟩
          replace h := h v7_66 e_v7_66
          refine lv_iinc (pc := 66) (v := v7_66) (lv' := [(7, .int v7_66), (6, .int v6_64), (0, .ref o), (1, .int v1), (2, .int v2), (3, .int v3), (4, .int v4), (5, .int v5)]) hx hb dX9_comesToSession_66 hl (k := 7) rfl (by rw [e_v7_66]; rfl) (by decide) rfl (fun ls hl => ?_)
          refine lv_goto (pc := 69) (tgt := 22) hx hb dX9_comesToSession_69 (by decide) ?_
          exact ih22 x g v1 v2 v3 v4 v5 v6_64 v7_66 h _ _ _ hP hD hS (lv_sub hl [2, 3, 4, 5, 6, 7, 1, 0] rfl)
  unfold wX9_comesToSession at h
  refine lv_iload_n (pc := 0) hx hb dX9_comesToSession_0 rfl (lv_at hl 2 rfl) ?_
  refine lv_istore (pc := 1) (lv' := [(4, .int a2), (0, .ref o), (1, .int a1), (2, .int a2), (3, .int a3)]) hx hb dX9_comesToSession_1 hl (by decide) rfl (fun ls hl => ?_)
  refine lv_iload_n (pc := 3) hx hb dX9_comesToSession_3 rfl (lv_at hl 3 rfl) ?_
  refine lv_aload_n (pc := 4) hx hb dX9_comesToSession_4 rfl (lv_at hl 1 rfl) ?_
  refine mG_6 (pc := 5) hF hP dX9_comesToSession_5 ?_
  refine lv_iconst (pc := 8) (v := 5) hx hb dX9_comesToSession_8 (by decide) ?_
  obtain ⟨hi_9, h⟩ := h
  refine mL_6 (pc := 9) hF hP (f := (g0 6)) rfl hi_9 dX9_comesToSession_9 ?_
  refine lv_iadd (pc := 10) hx hb dX9_comesToSession_10 ?_
  refine lv_topi (fun v5_11 e_v5_11 => ?_)
  replace h := h v5_11 e_v5_11
  refine lv_istore (pc := 11) (lv' := [(5, .int v5_11), (4, .int a2), (0, .ref o), (1, .int a1), (2, .int a2), (3, .int a3)]) hx hb dX9_comesToSession_11 hl (by decide) rfl (fun ls hl => ?_)
  refine lv_iconst (pc := 13) (v := 0) hx hb dX9_comesToSession_13 (by decide) ?_
  refine lv_istore (pc := 14) (lv' := [(6, .int 0), (5, .int v5_11), (4, .int a2), (0, .ref o), (1, .int a1), (2, .int a2), (3, .int a3)]) hx hb dX9_comesToSession_14 hl (by decide) rfl (fun ls hl => ?_)
  refine lv_iconst (pc := 16) (v := 0) hx hb dX9_comesToSession_16 (by decide) ?_
  refine mSip (pc := 17) (x := x0) (g := g0) [.int 0] hF (kX9_placeOf x0 g0 0 h) (cwX9_X9_placeOf hts ⟨Nat.le_of_ble_eq_true rfl, Nat.le_of_ble_eq_true rfl⟩) hP hD hS rfl rfl hl.1 (Nat.le_of_ble_eq_true rfl) dX9_comesToSession_17 ⟨Nat.le_refl _, Nat.le_refl _⟩ (fun r_17 H locs h hP hD hS => ?_)
  refine lv_istore (pc := 20) (lv' := [(7, .int r_17), (6, .int 0), (5, .int v5_11), (4, .int a2), (0, .ref o), (1, .int a1), (2, .int a2), (3, .int a3)]) hx hb dX9_comesToSession_20 hl (by decide) rfl (fun ls hl => ?_)
  obtain ⟨n22, h⟩ := h
  exact L22 n22 x0 g0 a1 a2 a3 a2 v5_11 0 r_17 h _ _ _ hP hD hS (lv_sub hl [4, 5, 6, 7, 3, 2, 1, 0] rfl)
