def lX9_copies_103 (Φ : (Nat → Int32) → (Nat → Nat → Int32) → Prop) : Nat → (Nat → Int32) → (Nat → Nat → Int32) → Int32 → Int32 → Int32 → Prop
  | 0, _, _, _, _, _ => False
  | n103 + 1, x, g, v1, v2, v3 => (vp_in v1 7 ∧ ((((g 28) v1.toNatClampNeg) ≤ v3 → (Φ x g)) ∧ (¬ ((g 28) v1.toNatClampNeg) ≤ v3 → (wX9_copiesWindow x g ((1200 * v1) + v3) ((1200 * v2) + v3) (fun x_128 g_128 => (∀ v3_131 : Int32, v3_131 = v3 + 1 → ((lX9_copies_103 Φ n103) x_128 g_128 v1 v2 v3_131)))))))
def lX9_copies_2 (Φ : (Nat → Int32) → (Nat → Nat → Int32) → Prop) : Nat → (Nat → Int32) → (Nat → Nat → Int32) → Int32 → Int32 → Int32 → Prop
  | 0, _, _, _, _, _ => False
  | n2 + 1, x, g, v1, v2, v3 => ((3 ≤ v3 → (vp_in v1 7 ∧ (vp_in v2 7 ∧ (vp_in v1 7 ∧ (vp_in v2 7 ∧ (vp_in v1 7 ∧ (vp_in v2 7 ∧ (vp_in v1 7 ∧ (vp_in v2 7 ∧ (∃ n103 : Nat, lX9_copies_103 Φ n103 x (va_up (va_up (va_up (va_up g 25 (upd (g 25) v2.toNatClampNeg ((g 25) v1.toNatClampNeg))) 26 (upd (g 26) v2.toNatClampNeg ((g 26) v1.toNatClampNeg))) 27 (upd (g 27) v2.toNatClampNeg ((g 27) v1.toNatClampNeg))) 28 (upd (g 28) v2.toNatClampNeg ((g 28) v1.toNatClampNeg))) v1 v2 0)))))))))) ∧ (¬ 3 ≤ v3 → (vp_in ((3 * v1) + v3) 21 ∧ (vp_in ((3 * v2) + v3) 21 ∧ (vp_in ((3 * v1) + v3) 21 ∧ (vp_in ((3 * v2) + v3) 21 ∧ (∀ v3_47 : Int32, v3_47 = v3 + 1 → ((lX9_copies_2 Φ n2) x (va_up (va_up g 23 (upd (g 23) ((3 * v2) + v3).toNatClampNeg ((g 23) ((3 * v1) + v3).toNatClampNeg))) 24 (upd (g 24) ((3 * v2) + v3).toNatClampNeg ((g 24) ((3 * v1) + v3).toNatClampNeg))) v1 v2 v3_47))))))))
def wX9_copies (x : Nat → Int32) (g : Nat → Nat → Int32) (a1 a2 : Int32) (Φ : (Nat → Int32) → (Nat → Nat → Int32) → Prop) : Prop := (∃ n2 : Nat, lX9_copies_2 Φ n2 x g a1 a2 0)
set_option maxRecDepth 100000 in
set_option maxHeartbeats 4000000 in
theorem kX9_copies {l : Launch} {D : va_G} {E : va_W} {o : Nat} {ad : Nat → Nat} {cI cZ : ClassId} {sz : Nat} (x0 : Nat → Int32) (g0 : Nat → Nat → Int32) (a1 a2 : Int32) {Φ : (Nat → Int32) → (Nat → Nat → Int32) → Prop} (h : wX9_copies x0 g0 a1 a2 Φ) : Met l yX9_copies (zws yX9_copies cX9_copies 4 none) { frames := 1, cells := 0, slots := 0, locals := 22 } (zPc D (mT cI cZ) zX0 (mW E o ad cI cZ (x0, g0)) [.ref o, .int a1, .int a2] sz) (zQv D (mT cI cZ) (mW E o ad cI cZ) (fun u => Φ u.1 u.2) (mW E o ad cI cZ (x0, g0)) sz) 0 0 (va_A (mW E o ad cI cZ (x0, g0)) sz) := by
  refine zMet (by decide) (Nat.le_of_ble_eq_true rfl) ?_
  intro p e s m args below meth c A hx hb hr hml hown hts hlocks hsz hAe hA hS hP hK hD hX ls hl
  subst hsz
  have hF : zFx p s m args c cX9_copies RX9 A D (mT cI cZ) zX0 4 := ⟨hx, hb, hml, hown, hts, hA, hK, zX0_cl, hX⟩
  have hl : lv_has ls 4 [(0, .ref o), (1, .int a1), (2, .int a2)] := hl
  have L103 : ∀ n103 : Nat, ∀ (x : Nat → Int32) (g : Nat → Nat → Int32) (v1 v2 v3 : Int32), lX9_copies_103 Φ n103 x g v1 v2 v3 → ∀ (H : Heap) (locs : List Loc) (ls : Array Slot), va_P D vwCl (mW E o ad cI cZ (x, g)) H → va_D A (mW E o ad cI cZ (x, g)) → va_S A s.heap H locs → lv_has ls 4 [(0, .ref o), (1, .int v1), (2, .int v2), (3, .int v3)] → W p l e { frames := 1, cells := 0, slots := 0, locals := 22 } s m args below meth c H locs 0 0 (MQ below (zQv D (mT cI cZ) (mW E o ad cI cZ) (fun u => Φ u.1 u.2) (mW E o ad cI cZ (x0, g0)) s.heap.size) args s 0 0 (va_A (mW E o ad cI cZ (x0, g0)) s.heap.size)) (F0 m 103 ls []) := by
    intro n103
    induction n103 with
    | zero => intro x g v1 v2 v3 h H locs ls hP hD hS hl; exact h.elim
    | succ n103 ih103 =>
      intro x g v1 v2 v3 h H locs ls hP hD hS hl
      unfold lX9_copies_103 at h
      refine lv_iload_n (pc := 103) hx hb dX9_copies_103 rfl (lv_at hl 3 rfl) ?_
      refine lv_aload_n (pc := 104) hx hb dX9_copies_104 rfl (lv_at hl 0 rfl) ?_
      refine mG_28 (pc := 105) hF hP dX9_copies_105 ?_
      refine lv_iload_n (pc := 108) hx hb dX9_copies_108 rfl (lv_at hl 1 rfl) ?_
      obtain ⟨hi_109, h⟩ := h
      refine mL_28 (pc := 109) hF hP (f := (g 28)) rfl hi_109 dX9_copies_109 ?_
      refine lv_icmp_ge (pc := 110) (tgt := 137) hx hb dX9_copies_110 (by decide) (fun c_110 => ?_) (fun c_110 => ?_)
      · have h := h.1 c_110
        exact zvr (pc := 137) (Wd := mW E o ad cI cZ) (u := (x, g)) hx hb hr hlocks hAe hK hP hD hS dX9_copies_137 (Nat.le_refl _) (Nat.le_refl _) h
      · have h := h.2 c_110
        refine lv_aload_n (pc := 113) hx hb dX9_copies_113 rfl (lv_at hl 0 rfl) ?_
        refine lv_sipush (pc := 114) (v := 1200) hx hb dX9_copies_114 (by decide) ?_
        refine lv_iload_n (pc := 117) hx hb dX9_copies_117 rfl (lv_at hl 1 rfl) ?_
        refine lv_imul (pc := 118) hx hb dX9_copies_118 ?_
        refine lv_iload_n (pc := 119) hx hb dX9_copies_119 rfl (lv_at hl 3 rfl) ?_
        refine lv_iadd (pc := 120) hx hb dX9_copies_120 ?_
        refine lv_sipush (pc := 121) (v := 1200) hx hb dX9_copies_121 (by decide) ?_
        refine lv_iload_n (pc := 124) hx hb dX9_copies_124 rfl (lv_at hl 2 rfl) ?_
        refine lv_imul (pc := 125) hx hb dX9_copies_125 ?_
        refine lv_iload_n (pc := 126) hx hb dX9_copies_126 rfl (lv_at hl 3 rfl) ?_
        refine lv_iadd (pc := 127) hx hb dX9_copies_127 ?_
        refine mVv (pc := 128) (x := x) (g := g) [.int ((1200 * v1) + v3), .int ((1200 * v2) + v3)] hF (kX9_copiesWindow x g ((1200 * v1) + v3) ((1200 * v2) + v3) h) (cwX9_X9_copiesWindow hts ⟨Nat.le_of_ble_eq_true rfl, Nat.le_of_ble_eq_true rfl⟩) hP hD hS rfl rfl hl.1 (Nat.le_of_ble_eq_true rfl) dX9_copies_128 ⟨Nat.le_refl _, Nat.le_refl _⟩ (fun x_128 g_128 H locs h hP hD hS => ?_)
        obtain ⟨v3_131, e_v3_131⟩ : ∃ y : Int32, y = v3 + 1 := ⟨_, rfl⟩
        replace h := h v3_131 e_v3_131
        refine lv_iinc (pc := 131) (v := v3_131) (lv' := [(3, .int v3_131), (0, .ref o), (1, .int v1), (2, .int v2)]) hx hb dX9_copies_131 hl (k := 3) rfl (by rw [e_v3_131]; rfl) (by decide) rfl (fun ls hl => ?_)
        refine lv_goto (pc := 134) (tgt := 103) hx hb dX9_copies_134 (by decide) ?_
        exact ih103 x_128 g_128 v1 v2 v3_131 h _ _ _ hP hD hS (lv_sub hl [1, 2, 3, 0] rfl)
  have L2 : ∀ n2 : Nat, ∀ (x : Nat → Int32) (g : Nat → Nat → Int32) (v1 v2 v3 : Int32), lX9_copies_2 Φ n2 x g v1 v2 v3 → ∀ (H : Heap) (locs : List Loc) (ls : Array Slot), va_P D vwCl (mW E o ad cI cZ (x, g)) H → va_D A (mW E o ad cI cZ (x, g)) → va_S A s.heap H locs → lv_has ls 4 [(0, .ref o), (1, .int v1), (2, .int v2), (3, .int v3)] → W p l e { frames := 1, cells := 0, slots := 0, locals := 22 } s m args below meth c H locs 0 0 (MQ below (zQv D (mT cI cZ) (mW E o ad cI cZ) (fun u => Φ u.1 u.2) (mW E o ad cI cZ (x0, g0)) s.heap.size) args s 0 0 (va_A (mW E o ad cI cZ (x0, g0)) s.heap.size)) (F0 m 2 ls []) := by
    intro n2
    induction n2 with
    | zero => intro x g v1 v2 v3 h H locs ls hP hD hS hl; exact h.elim
    | succ n2 ih2 =>
      intro x g v1 v2 v3 h H locs ls hP hD hS hl
      unfold lX9_copies_2 at h
      refine lv_iload_n (pc := 2) hx hb dX9_copies_2 rfl (lv_at hl 3 rfl) ?_
      refine lv_iconst (pc := 3) (v := 3) hx hb dX9_copies_3 (by decide) ?_
      refine lv_icmp_ge (pc := 4) (tgt := 53) hx hb dX9_copies_4 (by decide) (fun c_4 => ?_) (fun c_4 => ?_)
      · have h := h.1 c_4
        refine lv_aload_n (pc := 53) hx hb dX9_copies_53 rfl (lv_at hl 0 rfl) ?_
        refine mG_25 (pc := 54) hF hP dX9_copies_54 ?_
        refine lv_iload_n (pc := 57) hx hb dX9_copies_57 rfl (lv_at hl 2 rfl) ?_
        refine lv_aload_n (pc := 58) hx hb dX9_copies_58 rfl (lv_at hl 0 rfl) ?_
        refine mG_25 (pc := 59) hF hP dX9_copies_59 ?_
        refine lv_iload_n (pc := 62) hx hb dX9_copies_62 rfl (lv_at hl 1 rfl) ?_
        obtain ⟨hi_63, h⟩ := h
        refine mL_25 (pc := 63) hF hP (f := (g 25)) rfl hi_63 dX9_copies_63 ?_
        obtain ⟨hi_64, h⟩ := h
        refine mP_25 (pc := 64) hF hP hD hS (f := (g 25)) rfl hi_64 dX9_copies_64 (fun H locs hP hD hS => ?_)
        refine lv_aload_n (pc := 65) hx hb dX9_copies_65 rfl (lv_at hl 0 rfl) ?_
        refine mG_26 (pc := 66) hF hP dX9_copies_66 ?_
        refine lv_iload_n (pc := 69) hx hb dX9_copies_69 rfl (lv_at hl 2 rfl) ?_
        refine lv_aload_n (pc := 70) hx hb dX9_copies_70 rfl (lv_at hl 0 rfl) ?_
        refine mG_26 (pc := 71) hF hP dX9_copies_71 ?_
        refine lv_iload_n (pc := 74) hx hb dX9_copies_74 rfl (lv_at hl 1 rfl) ?_
        obtain ⟨hi_75, h⟩ := h
        refine mL_26 (pc := 75) hF hP (f := (g 26)) rfl hi_75 dX9_copies_75 ?_
        obtain ⟨hi_76, h⟩ := h
        refine mP_26 (pc := 76) hF hP hD hS (f := (g 26)) rfl hi_76 dX9_copies_76 (fun H locs hP hD hS => ?_)
        refine lv_aload_n (pc := 77) hx hb dX9_copies_77 rfl (lv_at hl 0 rfl) ?_
        refine mG_27 (pc := 78) hF hP dX9_copies_78 ?_
        refine lv_iload_n (pc := 81) hx hb dX9_copies_81 rfl (lv_at hl 2 rfl) ?_
        refine lv_aload_n (pc := 82) hx hb dX9_copies_82 rfl (lv_at hl 0 rfl) ?_
        refine mG_27 (pc := 83) hF hP dX9_copies_83 ?_
        refine lv_iload_n (pc := 86) hx hb dX9_copies_86 rfl (lv_at hl 1 rfl) ?_
        obtain ⟨hi_87, h⟩ := h
        refine mL_27 (pc := 87) hF hP (f := (g 27)) rfl hi_87 dX9_copies_87 ?_
        obtain ⟨hi_88, h⟩ := h
        refine mP_27 (pc := 88) hF hP hD hS (f := (g 27)) rfl hi_88 dX9_copies_88 (fun H locs hP hD hS => ?_)
        refine lv_aload_n (pc := 89) hx hb dX9_copies_89 rfl (lv_at hl 0 rfl) ?_
        refine mG_28 (pc := 90) hF hP dX9_copies_90 ?_
        refine lv_iload_n (pc := 93) hx hb dX9_copies_93 rfl (lv_at hl 2 rfl) ?_
        refine lv_aload_n (pc := 94) hx hb dX9_copies_94 rfl (lv_at hl 0 rfl) ?_
        refine mG_28 (pc := 95) hF hP dX9_copies_95 ?_
        refine lv_iload_n (pc := 98) hx hb dX9_copies_98 rfl (lv_at hl 1 rfl) ?_
        obtain ⟨hi_99, h⟩ := h
        refine mL_28 (pc := 99) hF hP (f := (g 28)) rfl hi_99 dX9_copies_99 ?_
        obtain ⟨hi_100, h⟩ := h
        refine mP_28 (pc := 100) hF hP hD hS (f := (g 28)) rfl hi_100 dX9_copies_100 (fun H locs hP hD hS => ?_)
        refine lv_iconst (pc := 101) (v := 0) hx hb dX9_copies_101 (by decide) ?_
        refine lv_istore_n (pc := 102) (lv' := [(3, .int 0), (0, .ref o), (1, .int v1), (2, .int v2)]) hx hb dX9_copies_102 rfl hl (by decide) rfl (fun ls hl => ?_)
        obtain ⟨n103, h⟩ := h
        exact L103 n103 x (va_up (va_up (va_up (va_up g 25 (upd (g 25) v2.toNatClampNeg ((g 25) v1.toNatClampNeg))) 26 (upd (g 26) v2.toNatClampNeg ((g 26) v1.toNatClampNeg))) 27 (upd (g 27) v2.toNatClampNeg ((g 27) v1.toNatClampNeg))) 28 (upd (g 28) v2.toNatClampNeg ((g 28) v1.toNatClampNeg))) v1 v2 0 h _ _ _ hP hD hS (lv_sub hl [1, 2, 3, 0] rfl)
      · have h := h.2 c_4
        refine lv_aload_n (pc := 7) hx hb dX9_copies_7 rfl (lv_at hl 0 rfl) ?_
        refine mG_23 (pc := 8) hF hP dX9_copies_8 ?_
        refine lv_iconst (pc := 11) (v := 3) hx hb dX9_copies_11 (by decide) ?_
        refine lv_iload_n (pc := 12) hx hb dX9_copies_12 rfl (lv_at hl 2 rfl) ?_
        refine lv_imul (pc := 13) hx hb dX9_copies_13 ?_
        refine lv_iload_n (pc := 14) hx hb dX9_copies_14 rfl (lv_at hl 3 rfl) ?_
        refine lv_iadd (pc := 15) hx hb dX9_copies_15 ?_
        refine lv_aload_n (pc := 16) hx hb dX9_copies_16 rfl (lv_at hl 0 rfl) ?_
        refine mG_23 (pc := 17) hF hP dX9_copies_17 ?_
        refine lv_iconst (pc := 20) (v := 3) hx hb dX9_copies_20 (by decide) ?_
        refine lv_iload_n (pc := 21) hx hb dX9_copies_21 rfl (lv_at hl 1 rfl) ?_
        refine lv_imul (pc := 22) hx hb dX9_copies_22 ?_
        refine lv_iload_n (pc := 23) hx hb dX9_copies_23 rfl (lv_at hl 3 rfl) ?_
        refine lv_iadd (pc := 24) hx hb dX9_copies_24 ?_
        obtain ⟨hi_25, h⟩ := h
        refine mL_23 (pc := 25) hF hP (f := (g 23)) rfl hi_25 dX9_copies_25 ?_
        obtain ⟨hi_26, h⟩ := h
        refine mP_23 (pc := 26) hF hP hD hS (f := (g 23)) rfl hi_26 dX9_copies_26 (fun H locs hP hD hS => ?_)
        refine lv_aload_n (pc := 27) hx hb dX9_copies_27 rfl (lv_at hl 0 rfl) ?_
        refine mG_24 (pc := 28) hF hP dX9_copies_28 ?_
        refine lv_iconst (pc := 31) (v := 3) hx hb dX9_copies_31 (by decide) ?_
        refine lv_iload_n (pc := 32) hx hb dX9_copies_32 rfl (lv_at hl 2 rfl) ?_
        refine lv_imul (pc := 33) hx hb dX9_copies_33 ?_
        refine lv_iload_n (pc := 34) hx hb dX9_copies_34 rfl (lv_at hl 3 rfl) ?_
        refine lv_iadd (pc := 35) hx hb dX9_copies_35 ?_
        refine lv_aload_n (pc := 36) hx hb dX9_copies_36 rfl (lv_at hl 0 rfl) ?_
        refine mG_24 (pc := 37) hF hP dX9_copies_37 ?_
        refine lv_iconst (pc := 40) (v := 3) hx hb dX9_copies_40 (by decide) ?_
        refine lv_iload_n (pc := 41) hx hb dX9_copies_41 rfl (lv_at hl 1 rfl) ?_
        refine lv_imul (pc := 42) hx hb dX9_copies_42 ?_
        refine lv_iload_n (pc := 43) hx hb dX9_copies_43 rfl (lv_at hl 3 rfl) ?_
        refine lv_iadd (pc := 44) hx hb dX9_copies_44 ?_
        obtain ⟨hi_45, h⟩ := h
        refine mL_24 (pc := 45) hF hP (f := (g 24)) rfl hi_45 dX9_copies_45 ?_
        obtain ⟨hi_46, h⟩ := h
        refine mP_24 (pc := 46) hF hP hD hS (f := (g 24)) rfl hi_46 dX9_copies_46 (fun H locs hP hD hS => ?_)
        obtain ⟨v3_47, e_v3_47⟩ : ∃ y : Int32, y = v3 + 1 := ⟨_, rfl⟩
        replace h := h v3_47 e_v3_47
        refine lv_iinc (pc := 47) (v := v3_47) (lv' := [(3, .int v3_47), (0, .ref o), (1, .int v1), (2, .int v2)]) hx hb dX9_copies_47 hl (k := 3) rfl (by rw [e_v3_47]; rfl) (by decide) rfl (fun ls hl => ?_)
        refine lv_goto (pc := 50) (tgt := 2) hx hb dX9_copies_50 (by decide) ?_
        exact ih2 x (va_up (va_up g 23 (upd (g 23) ((3 * v2) + v3).toNatClampNeg ((g 23) ((3 * v1) + v3).toNatClampNeg))) 24 (upd (g 24) ((3 * v2) + v3).toNatClampNeg ((g 24) ((3 * v1) + v3).toNatClampNeg))) v1 v2 v3_47 h _ _ _ hP hD hS (lv_sub hl [1, 2, 3, 0] rfl)
  unfold wX9_copies at h
  refine lv_iconst (pc := 0) (v := 0) hx hb dX9_copies_0 (by decide) ?_
  refine lv_istore_n (pc := 1) (lv' := [(3, .int 0), (0, .ref o), (1, .int a1), (2, .int a2)]) hx hb dX9_copies_1 rfl hl (by decide) rfl (fun ls hl => ?_)
  obtain ⟨n2, h⟩ := h
  exact L2 n2 x0 g0 a1 a2 0 h _ _ _ hP hD hS (lv_sub hl [1, 2, 3, 0] rfl)

def jX9_barrier_21 (Φ : Int32 → (Nat → Int32) → (Nat → Nat → Int32) → Prop) (x : Nat → Int32) (g : Nat → Nat → Int32) (s1 : Int32) : Prop := (wX9_can x g s1 (fun r_21 x_21 g_21 => ((r_21 = 0 → (Φ 0 x_21 g_21)) ∧ (¬ r_21 = 0 → (wX9_copies x_21 g_21 6 (x_21 35) (fun x_36 g_36 => (vp_in (x_36 35) 5 ∧ (Φ (((x_36 37) + 1) - 1) (va_up (va_up x_36 35 ((x_36 35) + 1)) 37 ((x_36 37) + 1)) (va_up g_36 36 (upd (g_36 36) (x_36 35).toNatClampNeg (x_36 37)))))))))))
def jX9_barrier_16 (Φ : Int32 → (Nat → Int32) → (Nat → Nat → Int32) → Prop) (x : Nat → Int32) (g : Nat → Nat → Int32) : Prop := (jX9_barrier_21 Φ x g 1)
def wX9_barrier (x : Nat → Int32) (g : Nat → Nat → Int32) (Φ : Int32 → (Nat → Int32) → (Nat → Nat → Int32) → Prop) : Prop := (((x 5) = 0 → (jX9_barrier_16 Φ x g)) ∧ (¬ (x 5) = 0 → (((x 35) = 5 → (jX9_barrier_16 Φ x g)) ∧ (¬ (x 35) = 5 → (jX9_barrier_21 Φ x g 0)))))
set_option maxRecDepth 100000 in
set_option maxHeartbeats 4000000 in
theorem kX9_barrier {l : Launch} {D : va_G} {E : va_W} {o : Nat} {ad : Nat → Nat} {cI cZ : ClassId} {sz : Nat} (x0 : Nat → Int32) (g0 : Nat → Nat → Int32) {Φ : Int32 → (Nat → Int32) → (Nat → Nat → Int32) → Prop} (h : wX9_barrier x0 g0 Φ) : Met l yX9_barrier (zws yX9_barrier cX9_barrier 1 (some .int)) { frames := 2, cells := 0, slots := 0, locals := 45 } (zPc D (mT cI cZ) zX0 (mW E o ad cI cZ (x0, g0)) [.ref o] sz) (zQi D (mT cI cZ) (mW E o ad cI cZ) (fun r u => Φ r u.1 u.2) (mW E o ad cI cZ (x0, g0)) sz) 0 0 (va_A (mW E o ad cI cZ (x0, g0)) sz) := by
  refine zMet (by decide) (Nat.le_of_ble_eq_true rfl) ?_
  intro p e s m args below meth c A hx hb hr hml hown hts hlocks hsz hAe hA hS hP hK hD hX ls hl
  subst hsz
  have hF : zFx p s m args c cX9_barrier RX9 A D (mT cI cZ) zX0 1 := ⟨hx, hb, hml, hown, hts, hA, hK, zX0_cl, hX⟩
  have hl : lv_has ls 1 [(0, .ref o)] := hl
  have J21 : ∀ (x : Nat → Int32) (g : Nat → Nat → Int32) (s1 : Int32), jX9_barrier_21 Φ x g s1 → ∀ (H : Heap) (locs : List Loc) (ls : Array Slot), va_P D vwCl (mW E o ad cI cZ (x, g)) H → va_D A (mW E o ad cI cZ (x, g)) → va_S A s.heap H locs → lv_has ls 1 [(0, .ref o)] → W p l e { frames := 2, cells := 0, slots := 0, locals := 45 } s m args below meth c H locs 0 0 (MQ below (zQi D (mT cI cZ) (mW E o ad cI cZ) (fun r u => Φ r u.1 u.2) (mW E o ad cI cZ (x0, g0)) s.heap.size) args s 0 0 (va_A (mW E o ad cI cZ (x0, g0)) s.heap.size)) (F0 m 21 ls [.int s1, .ref o]) := by
    intro x g s1 h H locs ls hP hD hS hl
    unfold jX9_barrier_21 at h
    refine mVb (pc := 21) (x := x) (g := g) [.int s1] hF (kX9_can x g s1 h) (cwX9_X9_can hts ⟨Nat.le_of_ble_eq_true rfl, Nat.le_of_ble_eq_true rfl⟩) hP hD hS rfl rfl hl.1 (Nat.le_of_ble_eq_true rfl) dX9_barrier_21 ⟨Nat.le_refl _, Nat.le_refl _⟩ (fun r_21 x_21 g_21 H locs hb_21 h hP hD hS => ?_)
    refine lv_if_ne (pc := 24) (tgt := 29) hx hb dX9_barrier_24 (by decide) (fun c_24 => ?_) (fun c_24 => ?_)
    · have h := h.2 c_24
      refine lv_aload_n (pc := 29) hx hb dX9_barrier_29 rfl (lv_at hl 0 rfl) ?_
      refine lv_bipush (pc := 30) (v := 6) hx hb dX9_barrier_30 (by decide) ?_
      refine lv_aload_n (pc := 32) hx hb dX9_barrier_32 rfl (lv_at hl 0 rfl) ?_
      refine mG_35 (pc := 33) (v := (x_21 35)) hF hP rfl dX9_barrier_33 ?_
      refine mVv (pc := 36) (x := x_21) (g := g_21) [.int 6, .int (x_21 35)] hF (kX9_copies x_21 g_21 6 (x_21 35) h) (cwX9_X9_copies hts ⟨Nat.le_of_ble_eq_true rfl, Nat.le_of_ble_eq_true rfl⟩) hP hD hS rfl rfl hl.1 (Nat.le_of_ble_eq_true rfl) dX9_barrier_36 ⟨Nat.le_refl _, Nat.le_refl _⟩ (fun x_36 g_36 H locs h hP hD hS => ?_)
      refine lv_aload_n (pc := 39) hx hb dX9_barrier_39 rfl (lv_at hl 0 rfl) ?_
      refine mG_36 (pc := 40) hF hP dX9_barrier_40 ?_
      refine lv_aload_n (pc := 43) hx hb dX9_barrier_43 rfl (lv_at hl 0 rfl) ?_
      refine mG_35 (pc := 44) (v := (x_36 35)) hF hP rfl dX9_barrier_44 ?_
      refine lv_aload_n (pc := 47) hx hb dX9_barrier_47 rfl (lv_at hl 0 rfl) ?_
      refine mG_37 (pc := 48) (v := (x_36 37)) hF hP rfl dX9_barrier_48 ?_
      obtain ⟨hi_51, h⟩ := h
      refine mP_36 (pc := 51) hF hP hD hS (f := (g_36 36)) rfl hi_51 dX9_barrier_51 (fun H locs hP hD hS => ?_)
      refine lv_aload_n (pc := 52) hx hb dX9_barrier_52 rfl (lv_at hl 0 rfl) ?_
      refine lv_dup (pc := 53) hx hb dX9_barrier_53 rfl ?_
      refine mG_35 (pc := 54) (v := (x_36 35)) hF hP rfl dX9_barrier_54 ?_
      refine lv_iconst (pc := 57) (v := 1) hx hb dX9_barrier_57 (by decide) ?_
      refine lv_iadd (pc := 58) hx hb dX9_barrier_58 ?_
      refine mP_35 (pc := 59) hF hP hD hS dX9_barrier_59 (fun H locs hP hD hS => ?_)
      refine lv_aload_n (pc := 62) hx hb dX9_barrier_62 rfl (lv_at hl 0 rfl) ?_
      refine lv_dup (pc := 63) hx hb dX9_barrier_63 rfl ?_
      refine mG_37 (pc := 64) (v := (x_36 37)) hF hP rfl dX9_barrier_64 ?_
      refine lv_iconst (pc := 67) (v := 1) hx hb dX9_barrier_67 (by decide) ?_
      refine lv_iadd (pc := 68) hx hb dX9_barrier_68 ?_
      refine mP_37 (pc := 69) hF hP hD hS dX9_barrier_69 (fun H locs hP hD hS => ?_)
      refine lv_aload_n (pc := 72) hx hb dX9_barrier_72 rfl (lv_at hl 0 rfl) ?_
      refine mG_37 (pc := 73) (v := ((x_36 37) + 1)) hF hP rfl dX9_barrier_73 ?_
      refine lv_iconst (pc := 76) (v := 1) hx hb dX9_barrier_76 (by decide) ?_
      refine lv_isub (pc := 77) hx hb dX9_barrier_77 ?_
      exact zirV (pc := 78) (Wd := mW E o ad cI cZ) (u := ((va_up (va_up x_36 35 ((x_36 35) + 1)) 37 ((x_36 37) + 1)), (va_up g_36 36 (upd (g_36 36) (x_36 35).toNatClampNeg (x_36 37))))) hx hb hr hlocks hAe hK hP hD hS rfl dX9_barrier_78 (Nat.le_refl _) (Nat.le_refl _) h
    · have h := h.1 c_24
      refine lv_iconst (pc := 27) (v := 0) hx hb dX9_barrier_27 (by decide) ?_
      exact zirV (pc := 28) (Wd := mW E o ad cI cZ) (u := (x_21, g_21)) hx hb hr hlocks hAe hK hP hD hS rfl dX9_barrier_28 (Nat.le_refl _) (Nat.le_refl _) h
  have J16 : ∀ (x : Nat → Int32) (g : Nat → Nat → Int32), jX9_barrier_16 Φ x g → ∀ (H : Heap) (locs : List Loc) (ls : Array Slot), va_P D vwCl (mW E o ad cI cZ (x, g)) H → va_D A (mW E o ad cI cZ (x, g)) → va_S A s.heap H locs → lv_has ls 1 [(0, .ref o)] → W p l e { frames := 2, cells := 0, slots := 0, locals := 45 } s m args below meth c H locs 0 0 (MQ below (zQi D (mT cI cZ) (mW E o ad cI cZ) (fun r u => Φ r u.1 u.2) (mW E o ad cI cZ (x0, g0)) s.heap.size) args s 0 0 (va_A (mW E o ad cI cZ (x0, g0)) s.heap.size)) (F0 m 16 ls [.ref o]) := by
    intro x g  h H locs ls hP hD hS hl
    unfold jX9_barrier_16 at h
    refine lv_iconst (pc := 16) (v := 1) hx hb dX9_barrier_16 (by decide) ?_
    refine lv_goto (pc := 17) (tgt := 21) hx hb dX9_barrier_17 (by decide) ?_
    exact J21 x g 1 h _ _ _ hP hD hS (lv_sub hl [0] rfl)
  unfold wX9_barrier at h
  refine lv_aload_n (pc := 0) hx hb dX9_barrier_0 rfl (lv_at hl 0 rfl) ?_
  refine lv_aload_n (pc := 1) hx hb dX9_barrier_1 rfl (lv_at hl 0 rfl) ?_
  refine mG_5 (pc := 2) (v := (x0 5)) hF hP rfl dX9_barrier_2 ?_
  refine lv_if_eq (pc := 5) (tgt := 16) hx hb dX9_barrier_5 (by decide) (fun c_5 => ?_) (fun c_5 => ?_)
  · have h := h.1 c_5
    exact J16 x0 g0 h _ _ _ hP hD hS (lv_sub hl [0] rfl)
  · have h := h.2 c_5
    refine lv_aload_n (pc := 8) hx hb dX9_barrier_8 rfl (lv_at hl 0 rfl) ?_
    refine mG_35 (pc := 9) (v := (x0 35)) hF hP rfl dX9_barrier_9 ?_
    refine lv_iconst (pc := 12) (v := 5) hx hb dX9_barrier_12 (by decide) ?_
    refine lv_icmp_ne (pc := 13) (tgt := 20) hx hb dX9_barrier_13 (by decide) (fun c_13 => ?_) (fun c_13 => ?_)
    · have h := h.2 c_13
      refine lv_iconst (pc := 20) (v := 0) hx hb dX9_barrier_20 (by decide) ?_
      exact J21 x0 g0 0 h _ _ _ hP hD hS (lv_sub hl [0] rfl)
    · have h := h.1 c_13
      exact J16 x0 g0 h _ _ _ hP hD hS (lv_sub hl [0] rfl)

def lX9_complete_71 (Φ : Int32 → (Nat → Int32) → (Nat → Nat → Int32) → Prop) : Nat → (Nat → Int32) → (Nat → Nat → Int32) → Int32 → Int32 → Int32 → Prop
  | 0, _, _, _, _, _ => False
  | n71 + 1, x, g, v2, v3, v4 => (((x 35) ≤ v4 → (vp_in 5 7 ∧ (Φ (((g 27) (5 : Int32).toNatClampNeg) - v3) (va_up x 35 ((x 35) - (v2 + 1))) g))) ∧ (¬ (x 35) ≤ v4 → (wX9_copies x g v4 ((v4 - v2) - 1) (fun x_89 g_89 => (vp_in v4 5 ∧ (vp_in ((v4 - v2) - 1) 5 ∧ (∀ v4_110 : Int32, v4_110 = v4 + 1 → ((lX9_complete_71 Φ n71) x_89 (va_up g_89 36 (upd (g_89 36) ((v4 - v2) - 1).toNatClampNeg ((g_89 36) v4.toNatClampNeg))) v2 v3 v4_110))))))))
def jX9_complete_45 (Φ : Int32 → (Nat → Int32) → (Nat → Nat → Int32) → Prop) (x : Nat → Int32) (g : Nat → Nat → Int32) (v2 s1 : Int32) : Prop := (wX9_can x g s1 (fun r_45 x_45 g_45 => ((r_45 = 0 → (Φ 0 x_45 g_45)) ∧ (¬ r_45 = 0 → (vp_in 5 7 ∧ (∀ v3_59 : Int32, v3_59 = ((g_45 27) (5 : Int32).toNatClampNeg) → (wX9_copies x_45 g_45 v2 5 (fun x_63 g_63 => (∀ v4_69 : Int32, v4_69 = (v2 + 1) → (∃ n71 : Nat, lX9_complete_71 Φ n71 x_63 g_63 v2 v3_59 v4_69))))))))))
def lX9_complete_4 (Φ : Int32 → (Nat → Int32) → (Nat → Nat → Int32) → Prop) : Nat → (Nat → Int32) → (Nat → Nat → Int32) → Int32 → Int32 → Int32 → Prop
  | 0, _, _, _, _, _ => False
  | n4 + 1, x, g, v1, v2, v3 => (((x 35) ≤ v3 → ((v2 = (-1) → (jX9_complete_45 Φ x g v2 1)) ∧ (¬ v2 = (-1) → (jX9_complete_45 Φ x g v2 0)))) ∧ (¬ (x 35) ≤ v3 → (vp_in v3 5 ∧ ((((g 36) v3.toNatClampNeg) = v1 → (∀ v3_28 : Int32, v3_28 = v3 + 1 → ((lX9_complete_4 Φ n4) x g v1 v3 v3_28))) ∧ (¬ ((g 36) v3.toNatClampNeg) = v1 → (∀ v3_28 : Int32, v3_28 = v3 + 1 → ((lX9_complete_4 Φ n4) x g v1 v2 v3_28)))))))
def wX9_complete (x : Nat → Int32) (g : Nat → Nat → Int32) (a1 : Int32) (Φ : Int32 → (Nat → Int32) → (Nat → Nat → Int32) → Prop) : Prop := (∃ n4 : Nat, lX9_complete_4 Φ n4 x g a1 (-1) 0)
set_option maxRecDepth 100000 in
set_option maxHeartbeats 4000000 in
theorem kX9_complete {l : Launch} {D : va_G} {E : va_W} {o : Nat} {ad : Nat → Nat} {cI cZ : ClassId} {sz : Nat} (x0 : Nat → Int32) (g0 : Nat → Nat → Int32) (a1 : Int32) {Φ : Int32 → (Nat → Int32) → (Nat → Nat → Int32) → Prop} (h : wX9_complete x0 g0 a1 Φ) : Met l yX9_complete (zws yX9_complete cX9_complete 5 (some .int)) { frames := 2, cells := 0, slots := 0, locals := 45 } (zPc D (mT cI cZ) zX0 (mW E o ad cI cZ (x0, g0)) [.ref o, .int a1] sz) (zQi D (mT cI cZ) (mW E o ad cI cZ) (fun r u => Φ r u.1 u.2) (mW E o ad cI cZ (x0, g0)) sz) 0 0 (va_A (mW E o ad cI cZ (x0, g0)) sz) := by
  refine zMet (by decide) (Nat.le_of_ble_eq_true rfl) ?_
  intro p e s m args below meth c A hx hb hr hml hown hts hlocks hsz hAe hA hS hP hK hD hX ls hl
  subst hsz
  have hF : zFx p s m args c cX9_complete RX9 A D (mT cI cZ) zX0 5 := ⟨hx, hb, hml, hown, hts, hA, hK, zX0_cl, hX⟩
  have hl : lv_has ls 5 [(0, .ref o), (1, .int a1)] := hl
  have L71 : ∀ n71 : Nat, ∀ (x : Nat → Int32) (g : Nat → Nat → Int32) (v2 v3 v4 : Int32), lX9_complete_71 Φ n71 x g v2 v3 v4 → ∀ (H : Heap) (locs : List Loc) (ls : Array Slot), va_P D vwCl (mW E o ad cI cZ (x, g)) H → va_D A (mW E o ad cI cZ (x, g)) → va_S A s.heap H locs → lv_has ls 5 [(0, .ref o), (2, .int v2), (3, .int v3), (4, .int v4)] → W p l e { frames := 2, cells := 0, slots := 0, locals := 45 } s m args below meth c H locs 0 0 (MQ below (zQi D (mT cI cZ) (mW E o ad cI cZ) (fun r u => Φ r u.1 u.2) (mW E o ad cI cZ (x0, g0)) s.heap.size) args s 0 0 (va_A (mW E o ad cI cZ (x0, g0)) s.heap.size)) (F0 m 71 ls []) := by
    intro n71
    induction n71 with
    | zero => intro x g v2 v3 v4 h H locs ls hP hD hS hl; exact h.elim
    | succ n71 ih71 =>
      intro x g v2 v3 v4 h H locs ls hP hD hS hl
      unfold lX9_complete_71 at h
      refine lv_iload (pc := 71) hx hb dX9_complete_71 (lv_at hl 3 rfl) ?_
      refine lv_aload_n (pc := 73) hx hb dX9_complete_73 rfl (lv_at hl 0 rfl) ?_
      refine mG_35 (pc := 74) (v := (x 35)) hF hP rfl dX9_complete_74 ?_
      refine lv_icmp_ge (pc := 77) (tgt := 116) hx hb dX9_complete_77 (by decide) (fun c_77 => ?_) (fun c_77 => ?_)
      · have h := h.1 c_77
        refine lv_aload_n (pc := 116) hx hb dX9_complete_116 rfl (lv_at hl 0 rfl) ?_
        refine lv_dup (pc := 117) hx hb dX9_complete_117 rfl ?_
        refine mG_35 (pc := 118) (v := (x 35)) hF hP rfl dX9_complete_118 ?_
        refine lv_iload_n (pc := 121) hx hb dX9_complete_121 rfl (lv_at hl 1 rfl) ?_
        refine lv_iconst (pc := 122) (v := 1) hx hb dX9_complete_122 (by decide) ?_
        refine lv_iadd (pc := 123) hx hb dX9_complete_123 ?_
        refine lv_isub (pc := 124) hx hb dX9_complete_124 ?_
        refine mP_35 (pc := 125) hF hP hD hS dX9_complete_125 (fun H locs hP hD hS => ?_)
        refine lv_aload_n (pc := 128) hx hb dX9_complete_128 rfl (lv_at hl 0 rfl) ?_
        refine mG_27 (pc := 129) hF hP dX9_complete_129 ?_
        refine lv_iconst (pc := 132) (v := 5) hx hb dX9_complete_132 (by decide) ?_
        obtain ⟨hi_133, h⟩ := h
        refine mL_27 (pc := 133) hF hP (f := (g 27)) rfl hi_133 dX9_complete_133 ?_
        refine lv_iload_n (pc := 134) hx hb dX9_complete_134 rfl (lv_at hl 2 rfl) ?_
        refine lv_isub (pc := 135) hx hb dX9_complete_135 ?_
        exact zirV (pc := 136) (Wd := mW E o ad cI cZ) (u := ((va_up x 35 ((x 35) - (v2 + 1))), g)) hx hb hr hlocks hAe hK hP hD hS rfl dX9_complete_136 (Nat.le_refl _) (Nat.le_refl _) h
      · have h := h.2 c_77
        refine lv_aload_n (pc := 80) hx hb dX9_complete_80 rfl (lv_at hl 0 rfl) ?_
        refine lv_iload (pc := 81) hx hb dX9_complete_81 (lv_at hl 3 rfl) ?_
        refine lv_iload (pc := 83) hx hb dX9_complete_83 (lv_at hl 3 rfl) ?_
        refine lv_iload_n (pc := 85) hx hb dX9_complete_85 rfl (lv_at hl 1 rfl) ?_
        refine lv_isub (pc := 86) hx hb dX9_complete_86 ?_
        refine lv_iconst (pc := 87) (v := 1) hx hb dX9_complete_87 (by decide) ?_
        refine lv_isub (pc := 88) hx hb dX9_complete_88 ?_
        refine mVv (pc := 89) (x := x) (g := g) [.int v4, .int ((v4 - v2) - 1)] hF (kX9_copies x g v4 ((v4 - v2) - 1) h) (cwX9_X9_copies hts ⟨Nat.le_of_ble_eq_true rfl, Nat.le_of_ble_eq_true rfl⟩) hP hD hS rfl rfl hl.1 (Nat.le_of_ble_eq_true rfl) dX9_complete_89 ⟨Nat.le_refl _, Nat.le_refl _⟩ (fun x_89 g_89 H locs h hP hD hS => ?_)
        refine lv_aload_n (pc := 92) hx hb dX9_complete_92 rfl (lv_at hl 0 rfl) ?_
        refine mG_36 (pc := 93) hF hP dX9_complete_93 ?_
        refine lv_iload (pc := 96) hx hb dX9_complete_96 (lv_at hl 3 rfl) ?_
        refine lv_iload_n (pc := 98) hx hb dX9_complete_98 rfl (lv_at hl 1 rfl) ?_
        refine lv_isub (pc := 99) hx hb dX9_complete_99 ?_
        refine lv_iconst (pc := 100) (v := 1) hx hb dX9_complete_100 (by decide) ?_
        refine lv_isub (pc := 101) hx hb dX9_complete_101 ?_
        refine lv_aload_n (pc := 102) hx hb dX9_complete_102 rfl (lv_at hl 0 rfl) ?_
        refine mG_36 (pc := 103) hF hP dX9_complete_103 ?_
        refine lv_iload (pc := 106) hx hb dX9_complete_106 (lv_at hl 3 rfl) ?_
        obtain ⟨hi_108, h⟩ := h
        refine mL_36 (pc := 108) hF hP (f := (g_89 36)) rfl hi_108 dX9_complete_108 ?_
        obtain ⟨hi_109, h⟩ := h
        refine mP_36 (pc := 109) hF hP hD hS (f := (g_89 36)) rfl hi_109 dX9_complete_109 (fun H locs hP hD hS => ?_)
        obtain ⟨v4_110, e_v4_110⟩ : ∃ y : Int32, y = v4 + 1 := ⟨_, rfl⟩
        replace h := h v4_110 e_v4_110
        refine lv_iinc (pc := 110) (v := v4_110) (lv' := [(4, .int v4_110), (0, .ref o), (2, .int v2), (3, .int v3)]) hx hb dX9_complete_110 hl (k := 3) rfl (by rw [e_v4_110]; rfl) (by decide) rfl (fun ls hl => ?_)
        refine lv_goto (pc := 113) (tgt := 71) hx hb dX9_complete_113 (by decide) ?_
        exact ih71 x_89 (va_up g_89 36 (upd (g_89 36) ((v4 - v2) - 1).toNatClampNeg ((g_89 36) v4.toNatClampNeg))) v2 v3 v4_110 h _ _ _ hP hD hS (lv_sub hl [1, 2, 3, 0] rfl)
  have J45 : ∀ (x : Nat → Int32) (g : Nat → Nat → Int32) (v2 s1 : Int32), jX9_complete_45 Φ x g v2 s1 → ∀ (H : Heap) (locs : List Loc) (ls : Array Slot), va_P D vwCl (mW E o ad cI cZ (x, g)) H → va_D A (mW E o ad cI cZ (x, g)) → va_S A s.heap H locs → lv_has ls 5 [(0, .ref o), (2, .int v2)] → W p l e { frames := 2, cells := 0, slots := 0, locals := 45 } s m args below meth c H locs 0 0 (MQ below (zQi D (mT cI cZ) (mW E o ad cI cZ) (fun r u => Φ r u.1 u.2) (mW E o ad cI cZ (x0, g0)) s.heap.size) args s 0 0 (va_A (mW E o ad cI cZ (x0, g0)) s.heap.size)) (F0 m 45 ls [.int s1, .ref o]) := by
    intro x g v2 s1 h H locs ls hP hD hS hl
    unfold jX9_complete_45 at h
    refine mVb (pc := 45) (x := x) (g := g) [.int s1] hF (kX9_can x g s1 h) (cwX9_X9_can hts ⟨Nat.le_of_ble_eq_true rfl, Nat.le_of_ble_eq_true rfl⟩) hP hD hS rfl rfl hl.1 (Nat.le_of_ble_eq_true rfl) dX9_complete_45 ⟨Nat.le_refl _, Nat.le_refl _⟩ (fun r_45 x_45 g_45 H locs hb_45 h hP hD hS => ?_)
    refine lv_if_ne (pc := 48) (tgt := 53) hx hb dX9_complete_48 (by decide) (fun c_48 => ?_) (fun c_48 => ?_)
    · have h := h.2 c_48
      refine lv_aload_n (pc := 53) hx hb dX9_complete_53 rfl (lv_at hl 0 rfl) ?_
      refine mG_27 (pc := 54) hF hP dX9_complete_54 ?_
      refine lv_iconst (pc := 57) (v := 5) hx hb dX9_complete_57 (by decide) ?_
      obtain ⟨hi_58, h⟩ := h
      refine mL_27 (pc := 58) hF hP (f := (g_45 27)) rfl hi_58 dX9_complete_58 ?_
      refine lv_topi (fun v3_59 e_v3_59 => ?_)
      replace h := h v3_59 e_v3_59
      refine lv_istore_n (pc := 59) (lv' := [(3, .int v3_59), (0, .ref o), (2, .int v2)]) hx hb dX9_complete_59 rfl hl (by decide) rfl (fun ls hl => ?_)
      refine lv_aload_n (pc := 60) hx hb dX9_complete_60 rfl (lv_at hl 1 rfl) ?_
      refine lv_iload_n (pc := 61) hx hb dX9_complete_61 rfl (lv_at hl 2 rfl) ?_
      refine lv_iconst (pc := 62) (v := 5) hx hb dX9_complete_62 (by decide) ?_
      refine mVv (pc := 63) (x := x_45) (g := g_45) [.int v2, .int 5] hF (kX9_copies x_45 g_45 v2 5 h) (cwX9_X9_copies hts ⟨Nat.le_of_ble_eq_true rfl, Nat.le_of_ble_eq_true rfl⟩) hP hD hS rfl rfl hl.1 (Nat.le_of_ble_eq_true rfl) dX9_complete_63 ⟨Nat.le_refl _, Nat.le_refl _⟩ (fun x_63 g_63 H locs h hP hD hS => ?_)
      refine lv_iload_n (pc := 66) hx hb dX9_complete_66 rfl (lv_at hl 2 rfl) ?_
      refine lv_iconst (pc := 67) (v := 1) hx hb dX9_complete_67 (by decide) ?_
      refine lv_iadd (pc := 68) hx hb dX9_complete_68 ?_
      refine lv_topi (fun v4_69 e_v4_69 => ?_)
      replace h := h v4_69 e_v4_69
      refine lv_istore (pc := 69) (lv' := [(4, .int v4_69), (3, .int v3_59), (0, .ref o), (2, .int v2)]) hx hb dX9_complete_69 hl (by decide) rfl (fun ls hl => ?_)
      obtain ⟨n71, h⟩ := h
      exact L71 n71 x_63 g_63 v2 v3_59 v4_69 h _ _ _ hP hD hS (lv_sub hl [2, 3, 1, 0] rfl)
    · have h := h.1 c_48
      refine lv_iconst (pc := 51) (v := 0) hx hb dX9_complete_51 (by decide) ?_
      exact zirV (pc := 52) (Wd := mW E o ad cI cZ) (u := (x_45, g_45)) hx hb hr hlocks hAe hK hP hD hS rfl dX9_complete_52 (Nat.le_refl _) (Nat.le_refl _) h
  have L4 : ∀ n4 : Nat, ∀ (x : Nat → Int32) (g : Nat → Nat → Int32) (v1 v2 v3 : Int32), lX9_complete_4 Φ n4 x g v1 v2 v3 → ∀ (H : Heap) (locs : List Loc) (ls : Array Slot), va_P D vwCl (mW E o ad cI cZ (x, g)) H → va_D A (mW E o ad cI cZ (x, g)) → va_S A s.heap H locs → lv_has ls 5 [(0, .ref o), (1, .int v1), (2, .int v2), (3, .int v3)] → W p l e { frames := 2, cells := 0, slots := 0, locals := 45 } s m args below meth c H locs 0 0 (MQ below (zQi D (mT cI cZ) (mW E o ad cI cZ) (fun r u => Φ r u.1 u.2) (mW E o ad cI cZ (x0, g0)) s.heap.size) args s 0 0 (va_A (mW E o ad cI cZ (x0, g0)) s.heap.size)) (F0 m 4 ls []) := by
    intro n4
    induction n4 with
    | zero => intro x g v1 v2 v3 h H locs ls hP hD hS hl; exact h.elim
    | succ n4 ih4 =>
      intro x g v1 v2 v3 h H locs ls hP hD hS hl
      unfold lX9_complete_4 at h
      refine lv_iload_n (pc := 4) hx hb dX9_complete_4 rfl (lv_at hl 3 rfl) ?_
      refine lv_aload_n (pc := 5) hx hb dX9_complete_5 rfl (lv_at hl 0 rfl) ?_
      refine mG_35 (pc := 6) (v := (x 35)) hF hP rfl dX9_complete_6 ?_
      refine lv_icmp_ge (pc := 9) (tgt := 34) hx hb dX9_complete_9 (by decide) (fun c_9 => ?_) (fun c_9 => ?_)
      · have h := h.1 c_9
        refine lv_aload_n (pc := 34) hx hb dX9_complete_34 rfl (lv_at hl 0 rfl) ?_
        refine lv_iload_n (pc := 35) hx hb dX9_complete_35 rfl (lv_at hl 2 rfl) ?_
        refine lv_iconst (pc := 36) (v := (-1)) hx hb dX9_complete_36 (by decide) ?_
        refine lv_icmp_ne (pc := 37) (tgt := 44) hx hb dX9_complete_37 (by decide) (fun c_37 => ?_) (fun c_37 => ?_)
        · have h := h.2 c_37
          refine lv_iconst (pc := 44) (v := 0) hx hb dX9_complete_44 (by decide) ?_
          exact J45 x g v2 0 h _ _ _ hP hD hS (lv_sub hl [0, 2] rfl)
        · have h := h.1 c_37
          refine lv_iconst (pc := 40) (v := 1) hx hb dX9_complete_40 (by decide) ?_
          refine lv_goto (pc := 41) (tgt := 45) hx hb dX9_complete_41 (by decide) ?_
          exact J45 x g v2 1 h _ _ _ hP hD hS (lv_sub hl [0, 2] rfl)
      · have h := h.2 c_9
        refine lv_aload_n (pc := 12) hx hb dX9_complete_12 rfl (lv_at hl 0 rfl) ?_
        refine mG_36 (pc := 13) hF hP dX9_complete_13 ?_
        refine lv_iload_n (pc := 16) hx hb dX9_complete_16 rfl (lv_at hl 3 rfl) ?_
        obtain ⟨hi_17, h⟩ := h
        refine mL_36 (pc := 17) hF hP (f := (g 36)) rfl hi_17 dX9_complete_17 ?_
        refine lv_iload_n (pc := 18) hx hb dX9_complete_18 rfl (lv_at hl 1 rfl) ?_
        refine lv_icmp_ne (pc := 19) (tgt := 26) hx hb dX9_complete_19 (by decide) (fun c_19 => ?_) (fun c_19 => ?_)
        · have h := h.2 c_19
          refine lv_iload_n (pc := 26) hx hb dX9_complete_26 rfl (lv_at hl 2 rfl) ?_
          refine lv_istore_n (pc := 27) (lv' := [(2, .int v2), (0, .ref o), (1, .int v1), (3, .int v3)]) hx hb dX9_complete_27 rfl hl (by decide) rfl (fun ls hl => ?_)
          obtain ⟨v3_28, e_v3_28⟩ : ∃ y : Int32, y = v3 + 1 := ⟨_, rfl⟩
          replace h := h v3_28 e_v3_28
          refine lv_iinc (pc := 28) (v := v3_28) (lv' := [(3, .int v3_28), (2, .int v2), (0, .ref o), (1, .int v1)]) hx hb dX9_complete_28 hl (k := 3) rfl (by rw [e_v3_28]; rfl) (by decide) rfl (fun ls hl => ?_)
          refine lv_goto (pc := 31) (tgt := 4) hx hb dX9_complete_31 (by decide) ?_
          exact ih4 x g v1 v2 v3_28 h _ _ _ hP hD hS (lv_sub hl [2, 3, 1, 0] rfl)
        · have h := h.1 c_19
          refine lv_iload_n (pc := 22) hx hb dX9_complete_22 rfl (lv_at hl 3 rfl) ?_
          refine lv_goto (pc := 23) (tgt := 27) hx hb dX9_complete_23 (by decide) ?_
          refine lv_istore_n (pc := 27) (lv' := [(2, .int v3), (0, .ref o), (1, .int v1), (3, .int v3)]) hx hb dX9_complete_27 rfl hl (by decide) rfl (fun ls hl => ?_)
          obtain ⟨v3_28, e_v3_28⟩ : ∃ y : Int32, y = v3 + 1 := ⟨_, rfl⟩
          replace h := h v3_28 e_v3_28
          refine lv_iinc (pc := 28) (v := v3_28) (lv' := [(3, .int v3_28), (2, .int v3), (0, .ref o), (1, .int v1)]) hx hb dX9_complete_28 hl (k := 3) rfl (by rw [e_v3_28]; rfl) (by decide) rfl (fun ls hl => ?_)
          refine lv_goto (pc := 31) (tgt := 4) hx hb dX9_complete_31 (by decide) ?_
          exact ih4 x g v1 v3 v3_28 h _ _ _ hP hD hS (lv_sub hl [2, 3, 1, 0] rfl)
  unfold wX9_complete at h
  refine lv_iconst (pc := 0) (v := (-1)) hx hb dX9_complete_0 (by decide) ?_
  refine lv_istore_n (pc := 1) (lv' := [(2, .int (-1)), (0, .ref o), (1, .int a1)]) hx hb dX9_complete_1 rfl hl (by decide) rfl (fun ls hl => ?_)
  refine lv_iconst (pc := 2) (v := 0) hx hb dX9_complete_2 (by decide) ?_
  refine lv_istore_n (pc := 3) (lv' := [(3, .int 0), (2, .int (-1)), (0, .ref o), (1, .int a1)]) hx hb dX9_complete_3 rfl hl (by decide) rfl (fun ls hl => ?_)
  obtain ⟨n4, h⟩ := h
  exact L4 n4 x0 g0 a1 (-1) 0 h _ _ _ hP hD hS (lv_sub hl [2, 3, 1, 0] rfl)

def wX9_doubtful (x : Nat → Int32) (g : Nat → Nat → Int32) (Φ : Int32 → (Nat → Int32) → (Nat → Nat → Int32) → Prop) : Prop := (Φ (x 35) (va_up x 44 0) g)
set_option maxRecDepth 100000 in
set_option maxHeartbeats 4000000 in
theorem kX9_doubtful {l : Launch} {D : va_G} {E : va_W} {o : Nat} {ad : Nat → Nat} {cI cZ : ClassId} {sz : Nat} (x0 : Nat → Int32) (g0 : Nat → Nat → Int32) {Φ : Int32 → (Nat → Int32) → (Nat → Nat → Int32) → Prop} (h : wX9_doubtful x0 g0 Φ) : Met l yX9_doubtful (zws yX9_doubtful cX9_doubtful 1 (some .int)) { frames := 0, cells := 0, slots := 0, locals := 0 } (zPc D (mT cI cZ) zX0 (mW E o ad cI cZ (x0, g0)) [.ref o] sz) (zQi D (mT cI cZ) (mW E o ad cI cZ) (fun r u => Φ r u.1 u.2) (mW E o ad cI cZ (x0, g0)) sz) 0 0 (va_A (mW E o ad cI cZ (x0, g0)) sz) := by
  refine zMet (by decide) (Nat.le_of_ble_eq_true rfl) ?_
  intro p e s m args below meth c A hx hb hr hml hown hts hlocks hsz hAe hA hS hP hK hD hX ls hl
  subst hsz
  have hF : zFx p s m args c cX9_doubtful RX9 A D (mT cI cZ) zX0 1 := ⟨hx, hb, hml, hown, hts, hA, hK, zX0_cl, hX⟩
  have hl : lv_has ls 1 [(0, .ref o)] := hl
  unfold wX9_doubtful at h
  refine lv_aload_n (pc := 0) hx hb dX9_doubtful_0 rfl (lv_at hl 0 rfl) ?_
  refine lv_iconst (pc := 1) (v := 0) hx hb dX9_doubtful_1 (by decide) ?_
  refine mP_44 (pc := 2) hF hP hD hS dX9_doubtful_2 (fun H locs hP hD hS => ?_)
  refine lv_aload_n (pc := 5) hx hb dX9_doubtful_5 rfl (lv_at hl 0 rfl) ?_
  refine mG_35 (pc := 6) (v := (x0 35)) hF hP rfl dX9_doubtful_6 ?_
  exact zirV (pc := 9) (Wd := mW E o ad cI cZ) (u := ((va_up x0 44 0), g0)) hx hb hr hlocks hAe hK hP hD hS rfl dX9_doubtful_9 (Nat.le_refl _) (Nat.le_refl _) h

def jX9_crash_13 (Φ : Int32 → (Nat → Int32) → (Nat → Nat → Int32) → Prop) (x : Nat → Int32) (g : Nat → Nat → Int32) (s1 : Int32) : Prop := (wX9_can x g s1 (fun r_13 x_13 g_13 => ((r_13 = 0 → (Φ 0 x_13 g_13)) ∧ (¬ r_13 = 0 → (vp_in 6 7 ∧ (∀ v1_28 : Int32, v1_28 = ((g_13 27) (6 : Int32).toNatClampNeg) → (wX9_copies x_13 g_13 5 6 (fun x_33 g_33 => (vp_in 6 7 ∧ (Φ (v1_28 - ((g_33 27) (6 : Int32).toNatClampNeg)) (va_up x_33 35 0) g_33))))))))))
def wX9_crash (x : Nat → Int32) (g : Nat → Nat → Int32) (Φ : Int32 → (Nat → Int32) → (Nat → Nat → Int32) → Prop) : Prop := (((x 5) = 0 → (jX9_crash_13 Φ x g 1)) ∧ (¬ (x 5) = 0 → (jX9_crash_13 Φ x g 0)))
set_option maxRecDepth 100000 in
set_option maxHeartbeats 4000000 in
theorem kX9_crash {l : Launch} {D : va_G} {E : va_W} {o : Nat} {ad : Nat → Nat} {cI cZ : ClassId} {sz : Nat} (x0 : Nat → Int32) (g0 : Nat → Nat → Int32) {Φ : Int32 → (Nat → Int32) → (Nat → Nat → Int32) → Prop} (h : wX9_crash x0 g0 Φ) : Met l yX9_crash (zws yX9_crash cX9_crash 2 (some .int)) { frames := 2, cells := 0, slots := 0, locals := 45 } (zPc D (mT cI cZ) zX0 (mW E o ad cI cZ (x0, g0)) [.ref o] sz) (zQi D (mT cI cZ) (mW E o ad cI cZ) (fun r u => Φ r u.1 u.2) (mW E o ad cI cZ (x0, g0)) sz) 0 0 (va_A (mW E o ad cI cZ (x0, g0)) sz) := by
  refine zMet (by decide) (Nat.le_of_ble_eq_true rfl) ?_
  intro p e s m args below meth c A hx hb hr hml hown hts hlocks hsz hAe hA hS hP hK hD hX ls hl
  subst hsz
  have hF : zFx p s m args c cX9_crash RX9 A D (mT cI cZ) zX0 2 := ⟨hx, hb, hml, hown, hts, hA, hK, zX0_cl, hX⟩
  have hl : lv_has ls 2 [(0, .ref o)] := hl
  have J13 : ∀ (x : Nat → Int32) (g : Nat → Nat → Int32) (s1 : Int32), jX9_crash_13 Φ x g s1 → ∀ (H : Heap) (locs : List Loc) (ls : Array Slot), va_P D vwCl (mW E o ad cI cZ (x, g)) H → va_D A (mW E o ad cI cZ (x, g)) → va_S A s.heap H locs → lv_has ls 2 [(0, .ref o)] → W p l e { frames := 2, cells := 0, slots := 0, locals := 45 } s m args below meth c H locs 0 0 (MQ below (zQi D (mT cI cZ) (mW E o ad cI cZ) (fun r u => Φ r u.1 u.2) (mW E o ad cI cZ (x0, g0)) s.heap.size) args s 0 0 (va_A (mW E o ad cI cZ (x0, g0)) s.heap.size)) (F0 m 13 ls [.int s1, .ref o]) := by
    intro x g s1 h H locs ls hP hD hS hl
    unfold jX9_crash_13 at h
    refine mVb (pc := 13) (x := x) (g := g) [.int s1] hF (kX9_can x g s1 h) (cwX9_X9_can hts ⟨Nat.le_of_ble_eq_true rfl, Nat.le_of_ble_eq_true rfl⟩) hP hD hS rfl rfl hl.1 (Nat.le_of_ble_eq_true rfl) dX9_crash_13 ⟨Nat.le_refl _, Nat.le_refl _⟩ (fun r_13 x_13 g_13 H locs hb_13 h hP hD hS => ?_)
    refine lv_if_ne (pc := 16) (tgt := 21) hx hb dX9_crash_16 (by decide) (fun c_16 => ?_) (fun c_16 => ?_)
    · have h := h.2 c_16
      refine lv_aload_n (pc := 21) hx hb dX9_crash_21 rfl (lv_at hl 0 rfl) ?_
      refine mG_27 (pc := 22) hF hP dX9_crash_22 ?_
      refine lv_bipush (pc := 25) (v := 6) hx hb dX9_crash_25 (by decide) ?_
      obtain ⟨hi_27, h⟩ := h
      refine mL_27 (pc := 27) hF hP (f := (g_13 27)) rfl hi_27 dX9_crash_27 ?_
      refine lv_topi (fun v1_28 e_v1_28 => ?_)
      replace h := h v1_28 e_v1_28
      refine lv_istore_n (pc := 28) (lv' := [(1, .int v1_28), (0, .ref o)]) hx hb dX9_crash_28 rfl hl (by decide) rfl (fun ls hl => ?_)
      refine lv_aload_n (pc := 29) hx hb dX9_crash_29 rfl (lv_at hl 1 rfl) ?_
      refine lv_iconst (pc := 30) (v := 5) hx hb dX9_crash_30 (by decide) ?_
      refine lv_bipush (pc := 31) (v := 6) hx hb dX9_crash_31 (by decide) ?_
      refine mVv (pc := 33) (x := x_13) (g := g_13) [.int 5, .int 6] hF (kX9_copies x_13 g_13 5 6 h) (cwX9_X9_copies hts ⟨Nat.le_of_ble_eq_true rfl, Nat.le_of_ble_eq_true rfl⟩) hP hD hS rfl rfl hl.1 (Nat.le_of_ble_eq_true rfl) dX9_crash_33 ⟨Nat.le_refl _, Nat.le_refl _⟩ (fun x_33 g_33 H locs h hP hD hS => ?_)
      refine lv_aload_n (pc := 36) hx hb dX9_crash_36 rfl (lv_at hl 1 rfl) ?_
      refine lv_iconst (pc := 37) (v := 0) hx hb dX9_crash_37 (by decide) ?_
      refine mP_35 (pc := 38) hF hP hD hS dX9_crash_38 (fun H locs hP hD hS => ?_)
      refine lv_iload_n (pc := 41) hx hb dX9_crash_41 rfl (lv_at hl 0 rfl) ?_
      refine lv_aload_n (pc := 42) hx hb dX9_crash_42 rfl (lv_at hl 1 rfl) ?_
      refine mG_27 (pc := 43) hF hP dX9_crash_43 ?_
      refine lv_bipush (pc := 46) (v := 6) hx hb dX9_crash_46 (by decide) ?_
      obtain ⟨hi_48, h⟩ := h
      refine mL_27 (pc := 48) hF hP (f := (g_33 27)) rfl hi_48 dX9_crash_48 ?_
      refine lv_isub (pc := 49) hx hb dX9_crash_49 ?_
      exact zirV (pc := 50) (Wd := mW E o ad cI cZ) (u := ((va_up x_33 35 0), g_33)) hx hb hr hlocks hAe hK hP hD hS rfl dX9_crash_50 (Nat.le_refl _) (Nat.le_refl _) h
    · have h := h.1 c_16
      refine lv_iconst (pc := 19) (v := 0) hx hb dX9_crash_19 (by decide) ?_
      exact zirV (pc := 20) (Wd := mW E o ad cI cZ) (u := (x_13, g_13)) hx hb hr hlocks hAe hK hP hD hS rfl dX9_crash_20 (Nat.le_refl _) (Nat.le_refl _) h
  unfold wX9_crash at h
  refine lv_aload_n (pc := 0) hx hb dX9_crash_0 rfl (lv_at hl 0 rfl) ?_
  refine lv_aload_n (pc := 1) hx hb dX9_crash_1 rfl (lv_at hl 0 rfl) ?_
  refine mG_5 (pc := 2) (v := (x0 5)) hF hP rfl dX9_crash_2 ?_
  refine lv_if_eq (pc := 5) (tgt := 12) hx hb dX9_crash_5 (by decide) (fun c_5 => ?_) (fun c_5 => ?_)
  · have h := h.1 c_5
    refine lv_iconst (pc := 12) (v := 1) hx hb dX9_crash_12 (by decide) ?_
    exact J13 x0 g0 1 h _ _ _ hP hD hS (lv_sub hl [0] rfl)
  · have h := h.2 c_5
    refine lv_iconst (pc := 8) (v := 0) hx hb dX9_crash_8 (by decide) ?_
    refine lv_goto (pc := 9) (tgt := 13) hx hb dX9_crash_9 (by decide) ?_
    exact J13 x0 g0 0 h _ _ _ hP hD hS (lv_sub hl [0] rfl)

def wX9_workerOf (a1 a2 : Int32) (Φ : Int32 → Prop) : Prop := (Φ ((a1 * a2) / 8))
set_option maxRecDepth 100000 in
set_option maxHeartbeats 4000000 in
theorem kX9_workerOf {l : Launch} {D : va_G} {E : va_W} {o : Nat} {ad : Nat → Nat} {cI cZ : ClassId} {sz : Nat} (x0 : Nat → Int32) (g0 : Nat → Nat → Int32) (a1 a2 : Int32) {Φ : Int32 → Prop} (h : wX9_workerOf a1 a2 Φ) : Met l yX9_workerOf (zws yX9_workerOf cX9_workerOf 3 (some .int)) { frames := 0, cells := 0, slots := 0, locals := 0 } (zPc D (mT cI cZ) zX0 (mW E o ad cI cZ (x0, g0)) [.ref o, .int a1, .int a2] sz) (zQi D (mT cI cZ) (mW E o ad cI cZ) (fun r u => u = (x0, g0) ∧ Φ r) (mW E o ad cI cZ (x0, g0)) sz) 0 0 (va_A (mW E o ad cI cZ (x0, g0)) sz) := by
  refine zMet (by decide) (Nat.le_of_ble_eq_true rfl) ?_
  intro p e s m args below meth c A hx hb hr hml hown hts hlocks hsz hAe hA hS hP hK hD hX ls hl
  subst hsz
  have hF : zFx p s m args c cX9_workerOf RX9 A D (mT cI cZ) zX0 3 := ⟨hx, hb, hml, hown, hts, hA, hK, zX0_cl, hX⟩
  have hl : lv_has ls 3 [(0, .ref o), (1, .int a1), (2, .int a2)] := hl
  unfold wX9_workerOf at h
  refine lv_iload_n (pc := 0) hx hb dX9_workerOf_0 rfl (lv_at hl 1 rfl) ?_
  refine lv_iload_n (pc := 1) hx hb dX9_workerOf_1 rfl (lv_at hl 2 rfl) ?_
  refine lv_imul (pc := 2) hx hb dX9_workerOf_2 ?_
  refine lv_bipush (pc := 3) (v := 8) hx hb dX9_workerOf_3 (by decide) ?_
  refine lv_idiv (pc := 5) hx hb dX9_workerOf_5 (by decide) ?_
  exact zirV (pc := 6) (Wd := mW E o ad cI cZ) (u := (x0, g0)) hx hb hr hlocks hAe hK hP hD hS rfl dX9_workerOf_6 (Nat.le_refl _) (Nat.le_refl _) ⟨rfl, h⟩

def lX9_workers_30 (Φ : Int32 → (Nat → Int32) → (Nat → Nat → Int32) → Prop) : Nat → (Nat → Int32) → (Nat → Nat → Int32) → Int32 → Int32 → Int32 → Prop
  | 0, _, _, _, _, _ => False
  | n30 + 1, x, g, v1, v2, v3 => (vp_in 6 7 ∧ (wX9_placeOf ((g 28) (6 : Int32).toNatClampNeg) (fun r_38 => ((r_38 ≤ v3 → (Φ v2 (va_up x 43 v1) g)) ∧ (¬ r_38 ≤ v3 → (vp_in v3 8400 ∧ (wX9_workerOf ((g 29) v3.toNatClampNeg) v1 (fun r_53 => (vp_in v3 8400 ∧ (wX9_workerOf ((g 29) v3.toNatClampNeg) (x 43) (fun r_67 => ((r_53 = r_67 → (∀ v2_79 : Int32, v2_79 = (v2 + 0) → (∀ v3_80 : Int32, v3_80 = v3 + 1 → ((lX9_workers_30 Φ n30) x g v1 v2_79 v3_80)))) ∧ (¬ r_53 = r_67 → (∀ v2_79 : Int32, v2_79 = (v2 + 1) → (∀ v3_80 : Int32, v3_80 = v3 + 1 → ((lX9_workers_30 Φ n30) x g v1 v2_79 v3_80))))))))))))))))
def jX9_workers_15 (Φ : Int32 → (Nat → Int32) → (Nat → Nat → Int32) → Prop) (x : Nat → Int32) (g : Nat → Nat → Int32) (v1 s1 : Int32) : Prop := (wX9_can x g s1 (fun r_15 x_15 g_15 => ((r_15 = 0 → (Φ 0 x_15 g_15)) ∧ (¬ r_15 = 0 → (wX9_placeOf 0 (fun r_26 => (∃ n30 : Nat, lX9_workers_30 Φ n30 x_15 g_15 v1 0 r_26)))))))
def wX9_workers (x : Nat → Int32) (g : Nat → Nat → Int32) (a1 : Int32) (Φ : Int32 → (Nat → Int32) → (Nat → Nat → Int32) → Prop) : Prop := (wX9_isIn a1 1 4 (fun r_4 => ((r_4 = 0 → (jX9_workers_15 Φ x g a1 1)) ∧ (¬ r_4 = 0 → (jX9_workers_15 Φ x g a1 0)))))
set_option maxRecDepth 100000 in
set_option maxHeartbeats 4000000 in
theorem kX9_workers {l : Launch} {D : va_G} {E : va_W} {o : Nat} {ad : Nat → Nat} {cI cZ : ClassId} {sz : Nat} (x0 : Nat → Int32) (g0 : Nat → Nat → Int32) (a1 : Int32) {Φ : Int32 → (Nat → Int32) → (Nat → Nat → Int32) → Prop} (h : wX9_workers x0 g0 a1 Φ) : Met l yX9_workers (zws yX9_workers cX9_workers 4 (some .int)) { frames := 1, cells := 0, slots := 0, locals := 22 } (zPc D (mT cI cZ) zX0 (mW E o ad cI cZ (x0, g0)) [.ref o, .int a1] sz) (zQi D (mT cI cZ) (mW E o ad cI cZ) (fun r u => Φ r u.1 u.2) (mW E o ad cI cZ (x0, g0)) sz) 0 0 (va_A (mW E o ad cI cZ (x0, g0)) sz) := by
  refine zMet (by decide) (Nat.le_of_ble_eq_true rfl) ?_
  intro p e s m args below meth c A hx hb hr hml hown hts hlocks hsz hAe hA hS hP hK hD hX ls hl
  subst hsz
  have hF : zFx p s m args c cX9_workers RX9 A D (mT cI cZ) zX0 4 := ⟨hx, hb, hml, hown, hts, hA, hK, zX0_cl, hX⟩
  have hl : lv_has ls 4 [(0, .ref o), (1, .int a1)] := hl
  have L30 : ∀ n30 : Nat, ∀ (x : Nat → Int32) (g : Nat → Nat → Int32) (v1 v2 v3 : Int32), lX9_workers_30 Φ n30 x g v1 v2 v3 → ∀ (H : Heap) (locs : List Loc) (ls : Array Slot), va_P D vwCl (mW E o ad cI cZ (x, g)) H → va_D A (mW E o ad cI cZ (x, g)) → va_S A s.heap H locs → lv_has ls 4 [(0, .ref o), (1, .int v1), (2, .int v2), (3, .int v3)] → W p l e { frames := 1, cells := 0, slots := 0, locals := 22 } s m args below meth c H locs 0 0 (MQ below (zQi D (mT cI cZ) (mW E o ad cI cZ) (fun r u => Φ r u.1 u.2) (mW E o ad cI cZ (x0, g0)) s.heap.size) args s 0 0 (va_A (mW E o ad cI cZ (x0, g0)) s.heap.size)) (F0 m 30 ls []) := by
    intro n30
    induction n30 with
    | zero => intro x g v1 v2 v3 h H locs ls hP hD hS hl; exact h.elim
    | succ n30 ih30 =>
      intro x g v1 v2 v3 h H locs ls hP hD hS hl
      unfold lX9_workers_30 at h
      refine lv_iload_n (pc := 30) hx hb dX9_workers_30 rfl (lv_at hl 3 rfl) ?_
      refine lv_aload_n (pc := 31) hx hb dX9_workers_31 rfl (lv_at hl 0 rfl) ?_
      refine mG_28 (pc := 32) hF hP dX9_workers_32 ?_
      refine lv_bipush (pc := 35) (v := 6) hx hb dX9_workers_35 (by decide) ?_
      obtain ⟨hi_37, h⟩ := h
      refine mL_28 (pc := 37) hF hP (f := (g 28)) rfl hi_37 dX9_workers_37 ?_
      refine mSip (pc := 38) (x := x) (g := g) [.int ((g 28) (6 : Int32).toNatClampNeg)] hF (kX9_placeOf x g ((g 28) (6 : Int32).toNatClampNeg) h) (cwX9_X9_placeOf hts ⟨Nat.le_of_ble_eq_true rfl, Nat.le_of_ble_eq_true rfl⟩) hP hD hS rfl rfl hl.1 (Nat.le_of_ble_eq_true rfl) dX9_workers_38 ⟨Nat.le_refl _, Nat.le_refl _⟩ (fun r_38 H locs h hP hD hS => ?_)
      refine lv_icmp_ge (pc := 41) (tgt := 86) hx hb dX9_workers_41 (by decide) (fun c_41 => ?_) (fun c_41 => ?_)
      · have h := h.1 c_41
        refine lv_aload_n (pc := 86) hx hb dX9_workers_86 rfl (lv_at hl 0 rfl) ?_
        refine lv_iload_n (pc := 87) hx hb dX9_workers_87 rfl (lv_at hl 1 rfl) ?_
        refine mP_43 (pc := 88) hF hP hD hS dX9_workers_88 (fun H locs hP hD hS => ?_)
        refine lv_iload_n (pc := 91) hx hb dX9_workers_91 rfl (lv_at hl 2 rfl) ?_
        exact zirV (pc := 92) (Wd := mW E o ad cI cZ) (u := ((va_up x 43 v1), g)) hx hb hr hlocks hAe hK hP hD hS rfl dX9_workers_92 (Nat.le_refl _) (Nat.le_refl _) h
      · have h := h.2 c_41
        refine lv_iload_n (pc := 44) hx hb dX9_workers_44 rfl (lv_at hl 2 rfl) ?_
        refine lv_aload_n (pc := 45) hx hb dX9_workers_45 rfl (lv_at hl 0 rfl) ?_
        refine lv_aload_n (pc := 46) hx hb dX9_workers_46 rfl (lv_at hl 0 rfl) ?_
        refine mG_29 (pc := 47) hF hP dX9_workers_47 ?_
        refine lv_iload_n (pc := 50) hx hb dX9_workers_50 rfl (lv_at hl 3 rfl) ?_
        obtain ⟨hi_51, h⟩ := h
        refine mL_29 (pc := 51) hF hP (f := (g 29)) rfl hi_51 dX9_workers_51 ?_
        refine lv_iload_n (pc := 52) hx hb dX9_workers_52 rfl (lv_at hl 1 rfl) ?_
        refine mVip (pc := 53) (x := x) (g := g) [.int ((g 29) v3.toNatClampNeg), .int v1] hF (kX9_workerOf x g ((g 29) v3.toNatClampNeg) v1 h) (cwX9_X9_workerOf hts ⟨Nat.le_of_ble_eq_true rfl, Nat.le_of_ble_eq_true rfl⟩) hP hD hS rfl rfl hl.1 (Nat.le_of_ble_eq_true rfl) dX9_workers_53 ⟨Nat.le_refl _, Nat.le_refl _⟩ (fun r_53 H locs h hP hD hS => ?_)
        refine lv_aload_n (pc := 56) hx hb dX9_workers_56 rfl (lv_at hl 0 rfl) ?_
        refine lv_aload_n (pc := 57) hx hb dX9_workers_57 rfl (lv_at hl 0 rfl) ?_
        refine mG_29 (pc := 58) hF hP dX9_workers_58 ?_
        refine lv_iload_n (pc := 61) hx hb dX9_workers_61 rfl (lv_at hl 3 rfl) ?_
        obtain ⟨hi_62, h⟩ := h
        refine mL_29 (pc := 62) hF hP (f := (g 29)) rfl hi_62 dX9_workers_62 ?_
        refine lv_aload_n (pc := 63) hx hb dX9_workers_63 rfl (lv_at hl 0 rfl) ?_
        refine mG_43 (pc := 64) (v := (x 43)) hF hP rfl dX9_workers_64 ?_
        refine mVip (pc := 67) (x := x) (g := g) [.int ((g 29) v3.toNatClampNeg), .int (x 43)] hF (kX9_workerOf x g ((g 29) v3.toNatClampNeg) (x 43) h) (cwX9_X9_workerOf hts ⟨Nat.le_of_ble_eq_true rfl, Nat.le_of_ble_eq_true rfl⟩) hP hD hS rfl rfl hl.1 (Nat.le_of_ble_eq_true rfl) dX9_workers_67 ⟨Nat.le_refl _, Nat.le_refl _⟩ (fun r_67 H locs h hP hD hS => ?_)
        refine lv_icmp_ne (pc := 70) (tgt := 77) hx hb dX9_workers_70 (by decide) (fun c_70 => ?_) (fun c_70 => ?_)
        · have h := h.2 c_70
          refine lv_iconst (pc := 77) (v := 1) hx hb dX9_workers_77 (by decide) ?_
          refine lv_iadd (pc := 78) hx hb dX9_workers_78 ?_
          refine lv_topi (fun v2_79 e_v2_79 => ?_)
          replace h := h v2_79 e_v2_79
          refine lv_istore_n (pc := 79) (lv' := [(2, .int v2_79), (0, .ref o), (1, .int v1), (3, .int v3)]) hx hb dX9_workers_79 rfl hl (by decide) rfl (fun ls hl => ?_)
          obtain ⟨v3_80, e_v3_80⟩ : ∃ y : Int32, y = v3 + 1 := ⟨_, rfl⟩
          replace h := h v3_80 e_v3_80
          refine lv_iinc (pc := 80) (v := v3_80) (lv' := [(3, .int v3_80), (2, .int v2_79), (0, .ref o), (1, .int v1)]) hx hb dX9_workers_80 hl (k := 3) rfl (by rw [e_v3_80]; rfl) (by decide) rfl (fun ls hl => ?_)
          refine lv_goto (pc := 83) (tgt := 30) hx hb dX9_workers_83 (by decide) ?_
          exact ih30 x g v1 v2_79 v3_80 h _ _ _ hP hD hS (lv_sub hl [2, 3, 1, 0] rfl)
        · have h := h.1 c_70
          refine lv_iconst (pc := 73) (v := 0) hx hb dX9_workers_73 (by decide) ?_
          refine lv_goto (pc := 74) (tgt := 78) hx hb dX9_workers_74 (by decide) ?_
          refine lv_iadd (pc := 78) hx hb dX9_workers_78 ?_
          refine lv_topi (fun v2_79 e_v2_79 => ?_)
          replace h := h v2_79 e_v2_79
          refine lv_istore_n (pc := 79) (lv' := [(2, .int v2_79), (0, .ref o), (1, .int v1), (3, .int v3)]) hx hb dX9_workers_79 rfl hl (by decide) rfl (fun ls hl => ?_)
          obtain ⟨v3_80, e_v3_80⟩ : ∃ y : Int32, y = v3 + 1 := ⟨_, rfl⟩
          replace h := h v3_80 e_v3_80
          refine lv_iinc (pc := 80) (v := v3_80) (lv' := [(3, .int v3_80), (2, .int v2_79), (0, .ref o), (1, .int v1)]) hx hb dX9_workers_80 hl (k := 3) rfl (by rw [e_v3_80]; rfl) (by decide) rfl (fun ls hl => ?_)
          refine lv_goto (pc := 83) (tgt := 30) hx hb dX9_workers_83 (by decide) ?_
          exact ih30 x g v1 v2_79 v3_80 h _ _ _ hP hD hS (lv_sub hl [2, 3, 1, 0] rfl)
  have J15 : ∀ (x : Nat → Int32) (g : Nat → Nat → Int32) (v1 s1 : Int32), jX9_workers_15 Φ x g v1 s1 → ∀ (H : Heap) (locs : List Loc) (ls : Array Slot), va_P D vwCl (mW E o ad cI cZ (x, g)) H → va_D A (mW E o ad cI cZ (x, g)) → va_S A s.heap H locs → lv_has ls 4 [(0, .ref o), (1, .int v1)] → W p l e { frames := 1, cells := 0, slots := 0, locals := 22 } s m args below meth c H locs 0 0 (MQ below (zQi D (mT cI cZ) (mW E o ad cI cZ) (fun r u => Φ r u.1 u.2) (mW E o ad cI cZ (x0, g0)) s.heap.size) args s 0 0 (va_A (mW E o ad cI cZ (x0, g0)) s.heap.size)) (F0 m 15 ls [.int s1, .ref o]) := by
    intro x g v1 s1 h H locs ls hP hD hS hl
    unfold jX9_workers_15 at h
    refine mVb (pc := 15) (x := x) (g := g) [.int s1] hF (kX9_can x g s1 h) (cwX9_X9_can hts ⟨Nat.le_of_ble_eq_true rfl, Nat.le_of_ble_eq_true rfl⟩) hP hD hS rfl rfl hl.1 (Nat.le_of_ble_eq_true rfl) dX9_workers_15 ⟨Nat.le_refl _, Nat.le_refl _⟩ (fun r_15 x_15 g_15 H locs hb_15 h hP hD hS => ?_)
    refine lv_if_ne (pc := 18) (tgt := 23) hx hb dX9_workers_18 (by decide) (fun c_18 => ?_) (fun c_18 => ?_)
    · have h := h.2 c_18
      refine lv_iconst (pc := 23) (v := 0) hx hb dX9_workers_23 (by decide) ?_
      refine lv_istore_n (pc := 24) (lv' := [(2, .int 0), (0, .ref o), (1, .int v1)]) hx hb dX9_workers_24 rfl hl (by decide) rfl (fun ls hl => ?_)
      refine lv_iconst (pc := 25) (v := 0) hx hb dX9_workers_25 (by decide) ?_
      refine mSip (pc := 26) (x := x_15) (g := g_15) [.int 0] hF (kX9_placeOf x_15 g_15 0 h) (cwX9_X9_placeOf hts ⟨Nat.le_of_ble_eq_true rfl, Nat.le_of_ble_eq_true rfl⟩) hP hD hS rfl rfl hl.1 (Nat.le_of_ble_eq_true rfl) dX9_workers_26 ⟨Nat.le_refl _, Nat.le_refl _⟩ (fun r_26 H locs h hP hD hS => ?_)
      refine lv_istore_n (pc := 29) (lv' := [(3, .int r_26), (2, .int 0), (0, .ref o), (1, .int v1)]) hx hb dX9_workers_29 rfl hl (by decide) rfl (fun ls hl => ?_)
      obtain ⟨n30, h⟩ := h
      exact L30 n30 x_15 g_15 v1 0 r_26 h _ _ _ hP hD hS (lv_sub hl [2, 3, 1, 0] rfl)
    · have h := h.1 c_18
      refine lv_iconst (pc := 21) (v := 0) hx hb dX9_workers_21 (by decide) ?_
      exact zirV (pc := 22) (Wd := mW E o ad cI cZ) (u := (x_15, g_15)) hx hb hr hlocks hAe hK hP hD hS rfl dX9_workers_22 (Nat.le_refl _) (Nat.le_refl _) h
  unfold wX9_workers at h
  refine lv_aload_n (pc := 0) hx hb dX9_workers_0 rfl (lv_at hl 0 rfl) ?_
  refine lv_iload_n (pc := 1) hx hb dX9_workers_1 rfl (lv_at hl 1 rfl) ?_
  refine lv_iconst (pc := 2) (v := 1) hx hb dX9_workers_2 (by decide) ?_
  refine lv_iconst (pc := 3) (v := 4) hx hb dX9_workers_3 (by decide) ?_
  refine mSbp (pc := 4) (x := x0) (g := g0) [.int a1, .int 1, .int 4] hF (kX9_isIn x0 g0 a1 1 4 h) (cwX9_X9_isIn hts ⟨Nat.le_of_ble_eq_true rfl, Nat.le_of_ble_eq_true rfl⟩) hP hD hS rfl rfl hl.1 (Nat.le_of_ble_eq_true rfl) dX9_workers_4 ⟨Nat.le_refl _, Nat.le_refl _⟩ (fun r_4 H locs hb_4 h hP hD hS => ?_)
  refine lv_if_eq (pc := 7) (tgt := 14) hx hb dX9_workers_7 (by decide) (fun c_7 => ?_) (fun c_7 => ?_)
  · have h := h.1 c_7
    refine lv_iconst (pc := 14) (v := 1) hx hb dX9_workers_14 (by decide) ?_
    exact J15 x0 g0 a1 1 h _ _ _ hP hD hS (lv_sub hl [0, 1] rfl)
  · have h := h.2 c_7
    refine lv_iconst (pc := 10) (v := 0) hx hb dX9_workers_10 (by decide) ?_
    refine lv_goto (pc := 11) (tgt := 15) hx hb dX9_workers_11 (by decide) ?_
    exact J15 x0 g0 a1 0 h _ _ _ hP hD hS (lv_sub hl [0, 1] rfl)

def lX9_load_35 (Φ : Int32 → (Nat → Int32) → (Nat → Nat → Int32) → Prop) : Nat → (Nat → Int32) → (Nat → Nat → Int32) → Int32 → Int32 → Int32 → Prop
  | 0, _, _, _, _, _ => False
  | n35 + 1, x, g, v1, v2, v3 => (vp_in 6 7 ∧ (wX9_placeOf ((g 28) (6 : Int32).toNatClampNeg) (fun r_43 => ((r_43 ≤ v3 → (Φ v2 x g)) ∧ (¬ r_43 ≤ v3 → (vp_in v3 8400 ∧ (wX9_workerOf ((g 29) v3.toNatClampNeg) (x 43) (fun r_61 => ((r_61 = v1 → (∀ v2_74 : Int32, v2_74 = (v2 + 1) → (∀ v3_75 : Int32, v3_75 = v3 + 1 → ((lX9_load_35 Φ n35) x g v1 v2_74 v3_75)))) ∧ (¬ r_61 = v1 → (∀ v2_74 : Int32, v2_74 = (v2 + 0) → (∀ v3_75 : Int32, v3_75 = v3 + 1 → ((lX9_load_35 Φ n35) x g v1 v2_74 v3_75)))))))))))))
def jX9_load_20 (Φ : Int32 → (Nat → Int32) → (Nat → Nat → Int32) → Prop) (x : Nat → Int32) (g : Nat → Nat → Int32) (v1 s1 : Int32) : Prop := (wX9_can x g s1 (fun r_20 x_20 g_20 => ((r_20 = 0 → (Φ 0 x_20 g_20)) ∧ (¬ r_20 = 0 → (wX9_placeOf 0 (fun r_31 => (∃ n35 : Nat, lX9_load_35 Φ n35 x_20 g_20 v1 0 r_31)))))))
def wX9_load (x : Nat → Int32) (g : Nat → Nat → Int32) (a1 : Int32) (Φ : Int32 → (Nat → Int32) → (Nat → Nat → Int32) → Prop) : Prop := (wX9_isIn a1 0 ((x 43) - 1) (fun r_9 => ((r_9 = 0 → (jX9_load_20 Φ x g a1 1)) ∧ (¬ r_9 = 0 → (jX9_load_20 Φ x g a1 0)))))
set_option maxRecDepth 100000 in
set_option maxHeartbeats 4000000 in
theorem kX9_load {l : Launch} {D : va_G} {E : va_W} {o : Nat} {ad : Nat → Nat} {cI cZ : ClassId} {sz : Nat} (x0 : Nat → Int32) (g0 : Nat → Nat → Int32) (a1 : Int32) {Φ : Int32 → (Nat → Int32) → (Nat → Nat → Int32) → Prop} (h : wX9_load x0 g0 a1 Φ) : Met l yX9_load (zws yX9_load cX9_load 4 (some .int)) { frames := 1, cells := 0, slots := 0, locals := 22 } (zPc D (mT cI cZ) zX0 (mW E o ad cI cZ (x0, g0)) [.ref o, .int a1] sz) (zQi D (mT cI cZ) (mW E o ad cI cZ) (fun r u => Φ r u.1 u.2) (mW E o ad cI cZ (x0, g0)) sz) 0 0 (va_A (mW E o ad cI cZ (x0, g0)) sz) := by
  refine zMet (by decide) (Nat.le_of_ble_eq_true rfl) ?_
  intro p e s m args below meth c A hx hb hr hml hown hts hlocks hsz hAe hA hS hP hK hD hX ls hl
  subst hsz
  have hF : zFx p s m args c cX9_load RX9 A D (mT cI cZ) zX0 4 := ⟨hx, hb, hml, hown, hts, hA, hK, zX0_cl, hX⟩
  have hl : lv_has ls 4 [(0, .ref o), (1, .int a1)] := hl
  have L35 : ∀ n35 : Nat, ∀ (x : Nat → Int32) (g : Nat → Nat → Int32) (v1 v2 v3 : Int32), lX9_load_35 Φ n35 x g v1 v2 v3 → ∀ (H : Heap) (locs : List Loc) (ls : Array Slot), va_P D vwCl (mW E o ad cI cZ (x, g)) H → va_D A (mW E o ad cI cZ (x, g)) → va_S A s.heap H locs → lv_has ls 4 [(0, .ref o), (1, .int v1), (2, .int v2), (3, .int v3)] → W p l e { frames := 1, cells := 0, slots := 0, locals := 22 } s m args below meth c H locs 0 0 (MQ below (zQi D (mT cI cZ) (mW E o ad cI cZ) (fun r u => Φ r u.1 u.2) (mW E o ad cI cZ (x0, g0)) s.heap.size) args s 0 0 (va_A (mW E o ad cI cZ (x0, g0)) s.heap.size)) (F0 m 35 ls []) := by
    intro n35
    induction n35 with
    | zero => intro x g v1 v2 v3 h H locs ls hP hD hS hl; exact h.elim
    | succ n35 ih35 =>
      intro x g v1 v2 v3 h H locs ls hP hD hS hl
      unfold lX9_load_35 at h
      refine lv_iload_n (pc := 35) hx hb dX9_load_35 rfl (lv_at hl 3 rfl) ?_
      refine lv_aload_n (pc := 36) hx hb dX9_load_36 rfl (lv_at hl 0 rfl) ?_
      refine mG_28 (pc := 37) hF hP dX9_load_37 ?_
      refine lv_bipush (pc := 40) (v := 6) hx hb dX9_load_40 (by decide) ?_
      obtain ⟨hi_42, h⟩ := h
      refine mL_28 (pc := 42) hF hP (f := (g 28)) rfl hi_42 dX9_load_42 ?_
      refine mSip (pc := 43) (x := x) (g := g) [.int ((g 28) (6 : Int32).toNatClampNeg)] hF (kX9_placeOf x g ((g 28) (6 : Int32).toNatClampNeg) h) (cwX9_X9_placeOf hts ⟨Nat.le_of_ble_eq_true rfl, Nat.le_of_ble_eq_true rfl⟩) hP hD hS rfl rfl hl.1 (Nat.le_of_ble_eq_true rfl) dX9_load_43 ⟨Nat.le_refl _, Nat.le_refl _⟩ (fun r_43 H locs h hP hD hS => ?_)
      refine lv_icmp_ge (pc := 46) (tgt := 81) hx hb dX9_load_46 (by decide) (fun c_46 => ?_) (fun c_46 => ?_)
      · have h := h.1 c_46
        refine lv_iload_n (pc := 81) hx hb dX9_load_81 rfl (lv_at hl 2 rfl) ?_
        exact zirV (pc := 82) (Wd := mW E o ad cI cZ) (u := (x, g)) hx hb hr hlocks hAe hK hP hD hS rfl dX9_load_82 (Nat.le_refl _) (Nat.le_refl _) h
      · have h := h.2 c_46
        refine lv_iload_n (pc := 49) hx hb dX9_load_49 rfl (lv_at hl 2 rfl) ?_
        refine lv_aload_n (pc := 50) hx hb dX9_load_50 rfl (lv_at hl 0 rfl) ?_
        refine lv_aload_n (pc := 51) hx hb dX9_load_51 rfl (lv_at hl 0 rfl) ?_
        refine mG_29 (pc := 52) hF hP dX9_load_52 ?_
        refine lv_iload_n (pc := 55) hx hb dX9_load_55 rfl (lv_at hl 3 rfl) ?_
        obtain ⟨hi_56, h⟩ := h
        refine mL_29 (pc := 56) hF hP (f := (g 29)) rfl hi_56 dX9_load_56 ?_
        refine lv_aload_n (pc := 57) hx hb dX9_load_57 rfl (lv_at hl 0 rfl) ?_
        refine mG_43 (pc := 58) (v := (x 43)) hF hP rfl dX9_load_58 ?_
        refine mVip (pc := 61) (x := x) (g := g) [.int ((g 29) v3.toNatClampNeg), .int (x 43)] hF (kX9_workerOf x g ((g 29) v3.toNatClampNeg) (x 43) h) (cwX9_X9_workerOf hts ⟨Nat.le_of_ble_eq_true rfl, Nat.le_of_ble_eq_true rfl⟩) hP hD hS rfl rfl hl.1 (Nat.le_of_ble_eq_true rfl) dX9_load_61 ⟨Nat.le_refl _, Nat.le_refl _⟩ (fun r_61 H locs h hP hD hS => ?_)
        refine lv_iload_n (pc := 64) hx hb dX9_load_64 rfl (lv_at hl 1 rfl) ?_
        refine lv_icmp_ne (pc := 65) (tgt := 72) hx hb dX9_load_65 (by decide) (fun c_65 => ?_) (fun c_65 => ?_)
        · have h := h.2 c_65
          refine lv_iconst (pc := 72) (v := 0) hx hb dX9_load_72 (by decide) ?_
          refine lv_iadd (pc := 73) hx hb dX9_load_73 ?_
          refine lv_topi (fun v2_74 e_v2_74 => ?_)
          replace h := h v2_74 e_v2_74
          refine lv_istore_n (pc := 74) (lv' := [(2, .int v2_74), (0, .ref o), (1, .int v1), (3, .int v3)]) hx hb dX9_load_74 rfl hl (by decide) rfl (fun ls hl => ?_)
          obtain ⟨v3_75, e_v3_75⟩ : ∃ y : Int32, y = v3 + 1 := ⟨_, rfl⟩
          replace h := h v3_75 e_v3_75
          refine lv_iinc (pc := 75) (v := v3_75) (lv' := [(3, .int v3_75), (2, .int v2_74), (0, .ref o), (1, .int v1)]) hx hb dX9_load_75 hl (k := 3) rfl (by rw [e_v3_75]; rfl) (by decide) rfl (fun ls hl => ?_)
          refine lv_goto (pc := 78) (tgt := 35) hx hb dX9_load_78 (by decide) ?_
          exact ih35 x g v1 v2_74 v3_75 h _ _ _ hP hD hS (lv_sub hl [2, 3, 1, 0] rfl)
        · have h := h.1 c_65
          refine lv_iconst (pc := 68) (v := 1) hx hb dX9_load_68 (by decide) ?_
          refine lv_goto (pc := 69) (tgt := 73) hx hb dX9_load_69 (by decide) ?_
          refine lv_iadd (pc := 73) hx hb dX9_load_73 ?_
          refine lv_topi (fun v2_74 e_v2_74 => ?_)
          replace h := h v2_74 e_v2_74
          refine lv_istore_n (pc := 74) (lv' := [(2, .int v2_74), (0, .ref o), (1, .int v1), (3, .int v3)]) hx hb dX9_load_74 rfl hl (by decide) rfl (fun ls hl => ?_)
          obtain ⟨v3_75, e_v3_75⟩ : ∃ y : Int32, y = v3 + 1 := ⟨_, rfl⟩
          replace h := h v3_75 e_v3_75
          refine lv_iinc (pc := 75) (v := v3_75) (lv' := [(3, .int v3_75), (2, .int v2_74), (0, .ref o), (1, .int v1)]) hx hb dX9_load_75 hl (k := 3) rfl (by rw [e_v3_75]; rfl) (by decide) rfl (fun ls hl => ?_)
          refine lv_goto (pc := 78) (tgt := 35) hx hb dX9_load_78 (by decide) ?_
          exact ih35 x g v1 v2_74 v3_75 h _ _ _ hP hD hS (lv_sub hl [2, 3, 1, 0] rfl)
  have J20 : ∀ (x : Nat → Int32) (g : Nat → Nat → Int32) (v1 s1 : Int32), jX9_load_20 Φ x g v1 s1 → ∀ (H : Heap) (locs : List Loc) (ls : Array Slot), va_P D vwCl (mW E o ad cI cZ (x, g)) H → va_D A (mW E o ad cI cZ (x, g)) → va_S A s.heap H locs → lv_has ls 4 [(0, .ref o), (1, .int v1)] → W p l e { frames := 1, cells := 0, slots := 0, locals := 22 } s m args below meth c H locs 0 0 (MQ below (zQi D (mT cI cZ) (mW E o ad cI cZ) (fun r u => Φ r u.1 u.2) (mW E o ad cI cZ (x0, g0)) s.heap.size) args s 0 0 (va_A (mW E o ad cI cZ (x0, g0)) s.heap.size)) (F0 m 20 ls [.int s1, .ref o]) := by
    intro x g v1 s1 h H locs ls hP hD hS hl
    unfold jX9_load_20 at h
    refine mVb (pc := 20) (x := x) (g := g) [.int s1] hF (kX9_can x g s1 h) (cwX9_X9_can hts ⟨Nat.le_of_ble_eq_true rfl, Nat.le_of_ble_eq_true rfl⟩) hP hD hS rfl rfl hl.1 (Nat.le_of_ble_eq_true rfl) dX9_load_20 ⟨Nat.le_refl _, Nat.le_refl _⟩ (fun r_20 x_20 g_20 H locs hb_20 h hP hD hS => ?_)
    refine lv_if_ne (pc := 23) (tgt := 28) hx hb dX9_load_23 (by decide) (fun c_23 => ?_) (fun c_23 => ?_)
    · have h := h.2 c_23
      refine lv_iconst (pc := 28) (v := 0) hx hb dX9_load_28 (by decide) ?_
      refine lv_istore_n (pc := 29) (lv' := [(2, .int 0), (0, .ref o), (1, .int v1)]) hx hb dX9_load_29 rfl hl (by decide) rfl (fun ls hl => ?_)
      refine lv_iconst (pc := 30) (v := 0) hx hb dX9_load_30 (by decide) ?_
      refine mSip (pc := 31) (x := x_20) (g := g_20) [.int 0] hF (kX9_placeOf x_20 g_20 0 h) (cwX9_X9_placeOf hts ⟨Nat.le_of_ble_eq_true rfl, Nat.le_of_ble_eq_true rfl⟩) hP hD hS rfl rfl hl.1 (Nat.le_of_ble_eq_true rfl) dX9_load_31 ⟨Nat.le_refl _, Nat.le_refl _⟩ (fun r_31 H locs h hP hD hS => ?_)
      refine lv_istore_n (pc := 34) (lv' := [(3, .int r_31), (2, .int 0), (0, .ref o), (1, .int v1)]) hx hb dX9_load_34 rfl hl (by decide) rfl (fun ls hl => ?_)
      obtain ⟨n35, h⟩ := h
      exact L35 n35 x_20 g_20 v1 0 r_31 h _ _ _ hP hD hS (lv_sub hl [2, 3, 1, 0] rfl)
    · have h := h.1 c_23
      refine lv_iconst (pc := 26) (v := 0) hx hb dX9_load_26 (by decide) ?_
      exact zirV (pc := 27) (Wd := mW E o ad cI cZ) (u := (x_20, g_20)) hx hb hr hlocks hAe hK hP hD hS rfl dX9_load_27 (Nat.le_refl _) (Nat.le_refl _) h
  unfold wX9_load at h
  refine lv_aload_n (pc := 0) hx hb dX9_load_0 rfl (lv_at hl 0 rfl) ?_
  refine lv_iload_n (pc := 1) hx hb dX9_load_1 rfl (lv_at hl 1 rfl) ?_
  refine lv_iconst (pc := 2) (v := 0) hx hb dX9_load_2 (by decide) ?_
  refine lv_aload_n (pc := 3) hx hb dX9_load_3 rfl (lv_at hl 0 rfl) ?_
  refine mG_43 (pc := 4) (v := (x0 43)) hF hP rfl dX9_load_4 ?_
  refine lv_iconst (pc := 7) (v := 1) hx hb dX9_load_7 (by decide) ?_
  refine lv_isub (pc := 8) hx hb dX9_load_8 ?_
  refine mSbp (pc := 9) (x := x0) (g := g0) [.int a1, .int 0, .int ((x0 43) - 1)] hF (kX9_isIn x0 g0 a1 0 ((x0 43) - 1) h) (cwX9_X9_isIn hts ⟨Nat.le_of_ble_eq_true rfl, Nat.le_of_ble_eq_true rfl⟩) hP hD hS rfl rfl hl.1 (Nat.le_of_ble_eq_true rfl) dX9_load_9 ⟨Nat.le_refl _, Nat.le_refl _⟩ (fun r_9 H locs hb_9 h hP hD hS => ?_)
  refine lv_if_eq (pc := 12) (tgt := 19) hx hb dX9_load_12 (by decide) (fun c_12 => ?_) (fun c_12 => ?_)
  · have h := h.1 c_12
    refine lv_iconst (pc := 19) (v := 1) hx hb dX9_load_19 (by decide) ?_
    exact J20 x0 g0 a1 1 h _ _ _ hP hD hS (lv_sub hl [0, 1] rfl)
  · have h := h.2 c_12
    refine lv_iconst (pc := 15) (v := 0) hx hb dX9_load_15 (by decide) ?_
    refine lv_goto (pc := 16) (tgt := 20) hx hb dX9_load_16 (by decide) ?_
    exact J20 x0 g0 a1 0 h _ _ _ hP hD hS (lv_sub hl [0, 1] rfl)
