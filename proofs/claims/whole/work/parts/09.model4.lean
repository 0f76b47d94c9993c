def wX9_counts (x : Nat → Int32) (g : Nat → Nat → Int32) (a1 : Int32) (Φ : Int32 → Prop) : Prop := (vp_in 1 9 ∧ ((((g 6) (1 : Int32).toNatClampNeg) = 0 → (Φ 1)) ∧ (¬ ((g 6) (1 : Int32).toNatClampNeg) = 0 → (vp_in 1 9 ∧ ((((g 6) (1 : Int32).toNatClampNeg) = 1 → (vp_in 2 9 ∧ ((((g 6) (2 : Int32).toNatClampNeg) ≤ a1 → (Φ 0)) ∧ (¬ ((g 6) (2 : Int32).toNatClampNeg) ≤ a1 → (Φ 1))))) ∧ (¬ ((g 6) (1 : Int32).toNatClampNeg) = 1 → (vp_in 1 9 ∧ ((((g 6) (1 : Int32).toNatClampNeg) = 2 → (vp_in 2 9 ∧ ((a1 = ((g 6) (2 : Int32).toNatClampNeg) → (Φ 1)) ∧ (¬ a1 = ((g 6) (2 : Int32).toNatClampNeg) → (Φ 0))))) ∧ (¬ ((g 6) (1 : Int32).toNatClampNeg) = 2 → (vp_in 2 9 ∧ ((a1 ≤ ((g 6) (2 : Int32).toNatClampNeg) → (Φ 0)) ∧ (¬ a1 ≤ ((g 6) (2 : Int32).toNatClampNeg) → (Φ 1)))))))))))))
set_option maxRecDepth 100000 in
set_option maxHeartbeats 4000000 in
theorem kX9_counts {l : Launch} {D : va_G} {E : va_W} {o : Nat} {ad : Nat → Nat} {cI cZ : ClassId} {sz : Nat} (x0 : Nat → Int32) (g0 : Nat → Nat → Int32) (a1 : Int32) {Φ : Int32 → Prop} (h : wX9_counts x0 g0 a1 Φ) : Met l yX9_counts (zws yX9_counts cX9_counts 2 (some .boolean)) { frames := 0, cells := 0, slots := 0, locals := 0 } (zPc D (mT cI cZ) zX0 (mW E o ad cI cZ (x0, g0)) [.ref o, .int a1] sz) (zQi D (mT cI cZ) (mW E o ad cI cZ) (fun r u => u = (x0, g0) ∧ (r = 0 ∨ r = 1) ∧ Φ r) (mW E o ad cI cZ (x0, g0)) sz) 0 0 (va_A (mW E o ad cI cZ (x0, g0)) sz) := by
  refine zMet (by decide) (Nat.le_of_ble_eq_true rfl) ?_
  intro p e s m args below meth c A hx hb hr hml hown hts hlocks hsz hAe hA hS hP hK hD hX ls hl
  subst hsz
  have hF : zFx p s m args c cX9_counts RX9 A D (mT cI cZ) zX0 2 := ⟨hx, hb, hml, hown, hts, hA, hK, zX0_cl, hX⟩
  have hl : lv_has ls 2 [(0, .ref o), (1, .int a1)] := hl
  unfold wX9_counts at h
  refine lv_aload_n (pc := 0) hx hb dX9_counts_0 rfl (lv_at hl 0 rfl) ?_
  refine mG_6 (pc := 1) hF hP dX9_counts_1 ?_
  refine lv_iconst (pc := 4) (v := 1) hx hb dX9_counts_4 (by decide) ?_
  obtain ⟨hi_5, h⟩ := h
  refine mL_6 (pc := 5) hF hP (f := (g0 6)) rfl hi_5 dX9_counts_5 ?_
  refine lv_if_eq (pc := 6) (tgt := 65) hx hb dX9_counts_6 (by decide) (fun c_6 => ?_) (fun c_6 => ?_)
  · have h := h.1 c_6
    refine lv_iconst (pc := 65) (v := 1) hx hb dX9_counts_65 (by decide) ?_
    refine lv_goto (pc := 66) (tgt := 70) hx hb dX9_counts_66 (by decide) ?_
    exact zirV (pc := 70) (Wd := mW E o ad cI cZ) (u := (x0, g0)) hx hb hr hlocks hAe hK hP hD hS rfl dX9_counts_70 (Nat.le_refl _) (Nat.le_refl _) ⟨rfl, (Or.inr rfl), h⟩
  · have h := h.2 c_6
    refine lv_aload_n (pc := 9) hx hb dX9_counts_9 rfl (lv_at hl 0 rfl) ?_
    refine mG_6 (pc := 10) hF hP dX9_counts_10 ?_
    refine lv_iconst (pc := 13) (v := 1) hx hb dX9_counts_13 (by decide) ?_
    obtain ⟨hi_14, h⟩ := h
    refine mL_6 (pc := 14) hF hP (f := (g0 6)) rfl hi_14 dX9_counts_14 ?_
    refine lv_iconst (pc := 15) (v := 1) hx hb dX9_counts_15 (by decide) ?_
    refine lv_icmp_ne (pc := 16) (tgt := 32) hx hb dX9_counts_16 (by decide) (fun c_16 => ?_) (fun c_16 => ?_)
    · have h := h.2 c_16
      refine lv_aload_n (pc := 32) hx hb dX9_counts_32 rfl (lv_at hl 0 rfl) ?_
      refine mG_6 (pc := 33) hF hP dX9_counts_33 ?_
      refine lv_iconst (pc := 36) (v := 1) hx hb dX9_counts_36 (by decide) ?_
      obtain ⟨hi_37, h⟩ := h
      refine mL_6 (pc := 37) hF hP (f := (g0 6)) rfl hi_37 dX9_counts_37 ?_
      refine lv_iconst (pc := 38) (v := 2) hx hb dX9_counts_38 (by decide) ?_
      refine lv_icmp_ne (pc := 39) (tgt := 55) hx hb dX9_counts_39 (by decide) (fun c_39 => ?_) (fun c_39 => ?_)
      · have h := h.2 c_39
        refine lv_iload_n (pc := 55) hx hb dX9_counts_55 rfl (lv_at hl 1 rfl) ?_
        refine lv_aload_n (pc := 56) hx hb dX9_counts_56 rfl (lv_at hl 0 rfl) ?_
        refine mG_6 (pc := 57) hF hP dX9_counts_57 ?_
        refine lv_iconst (pc := 60) (v := 2) hx hb dX9_counts_60 (by decide) ?_
        obtain ⟨hi_61, h⟩ := h
        refine mL_6 (pc := 61) hF hP (f := (g0 6)) rfl hi_61 dX9_counts_61 ?_
        refine lv_icmp_le (pc := 62) (tgt := 69) hx hb dX9_counts_62 (by decide) (fun c_62 => ?_) (fun c_62 => ?_)
        · have h := h.1 c_62
          refine lv_iconst (pc := 69) (v := 0) hx hb dX9_counts_69 (by decide) ?_
          exact zirV (pc := 70) (Wd := mW E o ad cI cZ) (u := (x0, g0)) hx hb hr hlocks hAe hK hP hD hS rfl dX9_counts_70 (Nat.le_refl _) (Nat.le_refl _) ⟨rfl, (Or.inl rfl), h⟩
        · have h := h.2 c_62
          refine lv_iconst (pc := 65) (v := 1) hx hb dX9_counts_65 (by decide) ?_
          refine lv_goto (pc := 66) (tgt := 70) hx hb dX9_counts_66 (by decide) ?_
          exact zirV (pc := 70) (Wd := mW E o ad cI cZ) (u := (x0, g0)) hx hb hr hlocks hAe hK hP hD hS rfl dX9_counts_70 (Nat.le_refl _) (Nat.le_refl _) ⟨rfl, (Or.inr rfl), h⟩
      · have h := h.1 c_39
        refine lv_iload_n (pc := 42) hx hb dX9_counts_42 rfl (lv_at hl 1 rfl) ?_
        refine lv_aload_n (pc := 43) hx hb dX9_counts_43 rfl (lv_at hl 0 rfl) ?_
        refine mG_6 (pc := 44) hF hP dX9_counts_44 ?_
        refine lv_iconst (pc := 47) (v := 2) hx hb dX9_counts_47 (by decide) ?_
        obtain ⟨hi_48, h⟩ := h
        refine mL_6 (pc := 48) hF hP (f := (g0 6)) rfl hi_48 dX9_counts_48 ?_
        refine lv_icmp_ne (pc := 49) (tgt := 69) hx hb dX9_counts_49 (by decide) (fun c_49 => ?_) (fun c_49 => ?_)
        · have h := h.2 c_49
          refine lv_iconst (pc := 69) (v := 0) hx hb dX9_counts_69 (by decide) ?_
          exact zirV (pc := 70) (Wd := mW E o ad cI cZ) (u := (x0, g0)) hx hb hr hlocks hAe hK hP hD hS rfl dX9_counts_70 (Nat.le_refl _) (Nat.le_refl _) ⟨rfl, (Or.inl rfl), h⟩
        · have h := h.1 c_49
          refine lv_goto (pc := 52) (tgt := 65) hx hb dX9_counts_52 (by decide) ?_
          refine lv_iconst (pc := 65) (v := 1) hx hb dX9_counts_65 (by decide) ?_
          refine lv_goto (pc := 66) (tgt := 70) hx hb dX9_counts_66 (by decide) ?_
          exact zirV (pc := 70) (Wd := mW E o ad cI cZ) (u := (x0, g0)) hx hb hr hlocks hAe hK hP hD hS rfl dX9_counts_70 (Nat.le_refl _) (Nat.le_refl _) ⟨rfl, (Or.inr rfl), h⟩
    · have h := h.1 c_16
      refine lv_iload_n (pc := 19) hx hb dX9_counts_19 rfl (lv_at hl 1 rfl) ?_
      refine lv_aload_n (pc := 20) hx hb dX9_counts_20 rfl (lv_at hl 0 rfl) ?_
      refine mG_6 (pc := 21) hF hP dX9_counts_21 ?_
      refine lv_iconst (pc := 24) (v := 2) hx hb dX9_counts_24 (by decide) ?_
      obtain ⟨hi_25, h⟩ := h
      refine mL_6 (pc := 25) hF hP (f := (g0 6)) rfl hi_25 dX9_counts_25 ?_
      refine lv_icmp_ge (pc := 26) (tgt := 69) hx hb dX9_counts_26 (by decide) (fun c_26 => ?_) (fun c_26 => ?_)
      · have h := h.1 c_26
        refine lv_iconst (pc := 69) (v := 0) hx hb dX9_counts_69 (by decide) ?_
        exact zirV (pc := 70) (Wd := mW E o ad cI cZ) (u := (x0, g0)) hx hb hr hlocks hAe hK hP hD hS rfl dX9_counts_70 (Nat.le_refl _) (Nat.le_refl _) ⟨rfl, (Or.inl rfl), h⟩
      · have h := h.2 c_26
        refine lv_goto (pc := 29) (tgt := 65) hx hb dX9_counts_29 (by decide) ?_
        refine lv_iconst (pc := 65) (v := 1) hx hb dX9_counts_65 (by decide) ?_
        refine lv_goto (pc := 66) (tgt := 70) hx hb dX9_counts_66 (by decide) ?_
        exact zirV (pc := 70) (Wd := mW E o ad cI cZ) (u := (x0, g0)) hx hb hr hlocks hAe hK hP hD hS rfl dX9_counts_70 (Nat.le_refl _) (Nat.le_refl _) ⟨rfl, (Or.inr rfl), h⟩

def jX9_comes_83 (W56 : (Nat → Int32) → (Nat → Nat → Int32) → Int32 → Int32 → Int32 → Int32 → Prop) (Φ : (Nat → Int32) → (Nat → Nat → Int32) → Prop) (x : Nat → Int32) (g : Nat → Nat → Int32) (v1 v2 v3 v4 : Int32) : Prop := (vp_in 6 9 ∧ (∀ v4_93 : Int32, v4_93 = (v4 + ((g 6) (6 : Int32).toNatClampNeg)) → (W56 x g v1 v2 v3 v4_93)))
def lX9_comes_56 (Φ : (Nat → Int32) → (Nat → Nat → Int32) → Prop) : Nat → (Nat → Int32) → (Nat → Nat → Int32) → Int32 → Int32 → Int32 → Int32 → Prop
  | 0, _, _, _, _, _, _ => False
  | n56 + 1, x, g, v1, v2, v3, v4 => ((v2 < v4 → (Φ x g)) ∧ (¬ v2 < v4 → (vp_in 5 9 ∧ (((v4 + ((g 6) (5 : Int32).toNatClampNeg)) ≤ v2 → (jX9_comes_83 (lX9_comes_56 Φ n56) Φ x g v1 v2 v3 v4)) ∧ (¬ (v4 + ((g 6) (5 : Int32).toNatClampNeg)) ≤ v2 → (wX9_comesToFixed x g v1 v4 v3 (fun x_80 g_80 => (jX9_comes_83 (lX9_comes_56 Φ n56) Φ x_80 g_80 v1 v2 v3 v4))))))))
def wX9_comes (x : Nat → Int32) (g : Nat → Nat → Int32) (a1 a2 a3 : Int32) (Φ : (Nat → Int32) → (Nat → Nat → Int32) → Prop) : Prop := (vp_in 4 9 ∧ ((((g 6) (4 : Int32).toNatClampNeg) = 2 → (wX9_comesToSession x g a1 a2 a3 (fun x_14 g_14 => (Φ x_14 g_14)))) ∧ (¬ ((g 6) (4 : Int32).toNatClampNeg) = 2 → (vp_in 4 9 ∧ ((((g 6) (4 : Int32).toNatClampNeg) = 0 → (vp_in 5 9 ∧ (¬ ((g 6) (5 : Int32).toNatClampNeg) = 0 ∧ (vp_in 5 9 ∧ (wX9_comesToFixed x g a1 ((a2 / ((g 6) (5 : Int32).toNatClampNeg)) * ((g 6) (5 : Int32).toNatClampNeg)) a3 (fun x_47 g_47 => (Φ x_47 g_47))))))) ∧ (¬ ((g 6) (4 : Int32).toNatClampNeg) = 0 → (∃ n56 : Nat, lX9_comes_56 Φ n56 x g a1 a2 a3 0)))))))
set_option maxRecDepth 100000 in
set_option maxHeartbeats 4000000 in
theorem kX9_comes {l : Launch} {D : va_G} {E : va_W} {o : Nat} {ad : Nat → Nat} {cI cZ : ClassId} {sz : Nat} (x0 : Nat → Int32) (g0 : Nat → Nat → Int32) (a1 a2 a3 : Int32) {Φ : (Nat → Int32) → (Nat → Nat → Int32) → Prop} (h : wX9_comes x0 g0 a1 a2 a3 Φ) : Met l yX9_comes (zws yX9_comes cX9_comes 5 none) { frames := 4, cells := 0, slots := 0, locals := 100 } (zPc D (mT cI cZ) zX0 (mW E o ad cI cZ (x0, g0)) [.ref o, .int a1, .int a2, .int a3] sz) (zQv D (mT cI cZ) (mW E o ad cI cZ) (fun u => Φ u.1 u.2) (mW E o ad cI cZ (x0, g0)) sz) 0 0 (va_A (mW E o ad cI cZ (x0, g0)) sz) := by
  refine zMet (by decide) (Nat.le_of_ble_eq_true rfl) ?_
  intro p e s m args below meth c A hx hb hr hml hown hts hlocks hsz hAe hA hS hP hK hD hX ls hl
  subst hsz
  have hF : zFx p s m args c cX9_comes RX9 A D (mT cI cZ) zX0 5 := ⟨hx, hb, hml, hown, hts, hA, hK, zX0_cl, hX⟩
  have hl : lv_has ls 5 [(0, .ref o), (1, .int a1), (2, .int a2), (3, .int a3)] := hl
  have L56 : ∀ n56 : Nat, ∀ (x : Nat → Int32) (g : Nat → Nat → Int32) (v1 v2 v3 v4 : Int32), lX9_comes_56 Φ n56 x g v1 v2 v3 v4 → ∀ (H : Heap) (locs : List Loc) (ls : Array Slot), va_P D vwCl (mW E o ad cI cZ (x, g)) H → va_D A (mW E o ad cI cZ (x, g)) → va_S A s.heap H locs → lv_has ls 5 [(0, .ref o), (1, .int v1), (2, .int v2), (3, .int v3), (4, .int v4)] → W p l e { frames := 4, cells := 0, slots := 0, locals := 100 } s m args below meth c H locs 0 0 (MQ below (zQv D (mT cI cZ) (mW E o ad cI cZ) (fun u => Φ u.1 u.2) (mW E o ad cI cZ (x0, g0)) s.heap.size) args s 0 0 (va_A (mW E o ad cI cZ (x0, g0)) s.heap.size)) (F0 m 56 ls []) := by
    intro n56
    induction n56 with
    | zero => intro x g v1 v2 v3 v4 h H locs ls hP hD hS hl; exact h.elim
    | succ n56 ih56 =>
      have J83 : ∀ (x : Nat → Int32) (g : Nat → Nat → Int32) (v1 v2 v3 v4 : Int32), jX9_comes_83 (lX9_comes_56 Φ n56) Φ x g v1 v2 v3 v4 → ∀ (H : Heap) (locs : List Loc) (ls : Array Slot), va_P D vwCl (mW E o ad cI cZ (x, g)) H → va_D A (mW E o ad cI cZ (x, g)) → va_S A s.heap H locs → lv_has ls 5 [(0, .ref o), (1, .int v1), (2, .int v2), (3, .int v3), (4, .int v4)] → W p l e { frames := 4, cells := 0, slots := 0, locals := 100 } s m args below meth c H locs 0 0 (MQ below (zQv D (mT cI cZ) (mW E o ad cI cZ) (fun u => Φ u.1 u.2) (mW E o ad cI cZ (x0, g0)) s.heap.size) args s 0 0 (va_A (mW E o ad cI cZ (x0, g0)) s.heap.size)) (F0 m 83 ls []) := by
        intro x g v1 v2 v3 v4 h H locs ls hP hD hS hl
        unfold jX9_comes_83 at h
        refine lv_iload (pc := 83) hx hb dX9_comes_83 (lv_at hl 4 rfl) ?_
        refine lv_aload_n (pc := 85) hx hb dX9_comes_85 rfl (lv_at hl 0 rfl) ?_
        refine mG_6 (pc := 86) hF hP dX9_comes_86 ?_
        refine lv_bipush (pc := 89) (v := 6) hx hb dX9_comes_89 (by decide) ?_
        obtain ⟨hi_91, h⟩ := h
        refine mL_6 (pc := 91) hF hP (f := (g 6)) rfl hi_91 dX9_comes_91 ?_
        refine lv_iadd (pc := 92) hx hb dX9_comes_92 ?_
        refine lv_topi (fun v4_93 e_v4_93 => ?_)
        replace h := h v4_93 e_v4_93
        refine lv_istore (pc := 93) (lv' := [(4, .int v4_93), (0, .ref o), (1, .int v1), (2, .int v2), (3, .int v3)]) hx hb dX9_comes_93 hl (by decide) rfl (fun ls hl => ?_)
        refine lv_goto (pc := 95) (tgt := 56) hx hb dX9_comes_95 (by decide) ?_
        exact ih56 x g v1 v2 v3 v4_93 h _ _ _ hP hD hS (lv_sub hl [1, 2, 3, 4, 0] rfl)
      intro x g v1 v2 v3 v4 h H locs ls hP hD hS hl
      unfold lX9_comes_56 at h
      refine lv_iload (pc := 56) hx hb dX9_comes_56 (lv_at hl 4 rfl) ?_
      refine lv_iload_n (pc := 58) hx hb dX9_comes_58 rfl (lv_at hl 2 rfl) ?_
      refine lv_icmp_gt (pc := 59) (tgt := 98) hx hb dX9_comes_59 (by decide) (fun c_59 => ?_) (fun c_59 => ?_)
      · have h := h.1 c_59
        exact zvr (pc := 98) (Wd := mW E o ad cI cZ) (u := (x, g)) hx hb hr hlocks hAe hK hP hD hS dX9_comes_98 (Nat.le_refl _) (Nat.le_refl _) h
      · have h := h.2 c_59
        refine lv_iload_n (pc := 62) hx hb dX9_comes_62 rfl (lv_at hl 2 rfl) ?_
        refine lv_iload (pc := 63) hx hb dX9_comes_63 (lv_at hl 4 rfl) ?_
        refine lv_aload_n (pc := 65) hx hb dX9_comes_65 rfl (lv_at hl 0 rfl) ?_
        refine mG_6 (pc := 66) hF hP dX9_comes_66 ?_
        refine lv_iconst (pc := 69) (v := 5) hx hb dX9_comes_69 (by decide) ?_
        obtain ⟨hi_70, h⟩ := h
        refine mL_6 (pc := 70) hF hP (f := (g 6)) rfl hi_70 dX9_comes_70 ?_
        refine lv_iadd (pc := 71) hx hb dX9_comes_71 ?_
        refine lv_icmp_ge (pc := 72) (tgt := 83) hx hb dX9_comes_72 (by decide) (fun c_72 => ?_) (fun c_72 => ?_)
        · have h := h.1 c_72
          exact J83 x g v1 v2 v3 v4 h _ _ _ hP hD hS (lv_sub hl [0, 1, 2, 3, 4] rfl)
        · have h := h.2 c_72
          refine lv_aload_n (pc := 75) hx hb dX9_comes_75 rfl (lv_at hl 0 rfl) ?_
          refine lv_iload_n (pc := 76) hx hb dX9_comes_76 rfl (lv_at hl 1 rfl) ?_
          refine lv_iload (pc := 77) hx hb dX9_comes_77 (lv_at hl 4 rfl) ?_
          refine lv_iload_n (pc := 79) hx hb dX9_comes_79 rfl (lv_at hl 3 rfl) ?_
          refine mVv (pc := 80) (x := x) (g := g) [.int v1, .int v4, .int v3] hF (kX9_comesToFixed x g v1 v4 v3 h) (cwX9_X9_comesToFixed hts ⟨Nat.le_of_ble_eq_true rfl, Nat.le_of_ble_eq_true rfl⟩) hP hD hS rfl rfl hl.1 (Nat.le_of_ble_eq_true rfl) dX9_comes_80 ⟨Nat.le_refl _, Nat.le_refl _⟩ (fun x_80 g_80 H locs h hP hD hS => ?_)
          exact J83 x_80 g_80 v1 v2 v3 v4 h _ _ _ hP hD hS (lv_sub hl [0, 1, 2, 3, 4] rfl)
  unfold wX9_comes at h
  refine lv_aload_n (pc := 0) hx hb dX9_comes_0 rfl (lv_at hl 0 rfl) ?_
  refine mG_6 (pc := 1) hF hP dX9_comes_1 ?_
  refine lv_iconst (pc := 4) (v := 4) hx hb dX9_comes_4 (by decide) ?_
  obtain ⟨hi_5, h⟩ := h
  refine mL_6 (pc := 5) hF hP (f := (g0 6)) rfl hi_5 dX9_comes_5 ?_
  refine lv_iconst (pc := 6) (v := 2) hx hb dX9_comes_6 (by decide) ?_
  refine lv_icmp_ne (pc := 7) (tgt := 20) hx hb dX9_comes_7 (by decide) (fun c_7 => ?_) (fun c_7 => ?_)
  · have h := h.2 c_7
    refine lv_aload_n (pc := 20) hx hb dX9_comes_20 rfl (lv_at hl 0 rfl) ?_
    refine mG_6 (pc := 21) hF hP dX9_comes_21 ?_
    refine lv_iconst (pc := 24) (v := 4) hx hb dX9_comes_24 (by decide) ?_
    obtain ⟨hi_25, h⟩ := h
    refine mL_6 (pc := 25) hF hP (f := (g0 6)) rfl hi_25 dX9_comes_25 ?_
    refine lv_if_ne (pc := 26) (tgt := 53) hx hb dX9_comes_26 (by decide) (fun c_26 => ?_) (fun c_26 => ?_)
    · have h := h.2 c_26
      refine lv_iconst (pc := 53) (v := 0) hx hb dX9_comes_53 (by decide) ?_
      refine lv_istore (pc := 54) (lv' := [(4, .int 0), (0, .ref o), (1, .int a1), (2, .int a2), (3, .int a3)]) hx hb dX9_comes_54 hl (by decide) rfl (fun ls hl => ?_)
      obtain ⟨n56, h⟩ := h
      exact L56 n56 x0 g0 a1 a2 a3 0 h _ _ _ hP hD hS (lv_sub hl [1, 2, 3, 4, 0] rfl)
    · have h := h.1 c_26
      refine lv_aload_n (pc := 29) hx hb dX9_comes_29 rfl (lv_at hl 0 rfl) ?_
      refine lv_iload_n (pc := 30) hx hb dX9_comes_30 rfl (lv_at hl 1 rfl) ?_
      refine lv_iload_n (pc := 31) hx hb dX9_comes_31 rfl (lv_at hl 2 rfl) ?_
      refine lv_aload_n (pc := 32) hx hb dX9_comes_32 rfl (lv_at hl 0 rfl) ?_
      refine mG_6 (pc := 33) hF hP dX9_comes_33 ?_
      refine lv_iconst (pc := 36) (v := 5) hx hb dX9_comes_36 (by decide) ?_
      obtain ⟨hi_37, h⟩ := h
      refine mL_6 (pc := 37) hF hP (f := (g0 6)) rfl hi_37 dX9_comes_37 ?_
      obtain ⟨h0_38, h⟩ := h
      refine lv_idiv (pc := 38) hx hb dX9_comes_38 h0_38 ?_
      refine lv_aload_n (pc := 39) hx hb dX9_comes_39 rfl (lv_at hl 0 rfl) ?_
      refine mG_6 (pc := 40) hF hP dX9_comes_40 ?_
      refine lv_iconst (pc := 43) (v := 5) hx hb dX9_comes_43 (by decide) ?_
      obtain ⟨hi_44, h⟩ := h
      refine mL_6 (pc := 44) hF hP (f := (g0 6)) rfl hi_44 dX9_comes_44 ?_
      refine lv_imul (pc := 45) hx hb dX9_comes_45 ?_
      refine lv_iload_n (pc := 46) hx hb dX9_comes_46 rfl (lv_at hl 3 rfl) ?_
      refine mVv (pc := 47) (x := x0) (g := g0) [.int a1, .int ((a2 / ((g0 6) (5 : Int32).toNatClampNeg)) * ((g0 6) (5 : Int32).toNatClampNeg)), .int a3] hF (kX9_comesToFixed x0 g0 a1 ((a2 / ((g0 6) (5 : Int32).toNatClampNeg)) * ((g0 6) (5 : Int32).toNatClampNeg)) a3 h) (cwX9_X9_comesToFixed hts ⟨Nat.le_of_ble_eq_true rfl, Nat.le_of_ble_eq_true rfl⟩) hP hD hS rfl rfl hl.1 (Nat.le_of_ble_eq_true rfl) dX9_comes_47 ⟨Nat.le_refl _, Nat.le_refl _⟩ (fun x_47 g_47 H locs h hP hD hS => ?_)
      refine lv_goto (pc := 50) (tgt := 98) hx hb dX9_comes_50 (by decide) ?_
      exact zvr (pc := 98) (Wd := mW E o ad cI cZ) (u := (x_47, g_47)) hx hb hr hlocks hAe hK hP hD hS dX9_comes_98 (Nat.le_refl _) (Nat.le_refl _) h
  · have h := h.1 c_7
    refine lv_aload_n (pc := 10) hx hb dX9_comes_10 rfl (lv_at hl 0 rfl) ?_
    refine lv_iload_n (pc := 11) hx hb dX9_comes_11 rfl (lv_at hl 1 rfl) ?_
    refine lv_iload_n (pc := 12) hx hb dX9_comes_12 rfl (lv_at hl 2 rfl) ?_
    refine lv_iload_n (pc := 13) hx hb dX9_comes_13 rfl (lv_at hl 3 rfl) ?_
    refine mVv (pc := 14) (x := x0) (g := g0) [.int a1, .int a2, .int a3] hF (kX9_comesToSession x0 g0 a1 a2 a3 h) (cwX9_X9_comesToSession hts ⟨Nat.le_of_ble_eq_true rfl, Nat.le_of_ble_eq_true rfl⟩) hP hD hS rfl rfl hl.1 (Nat.le_of_ble_eq_true rfl) dX9_comes_14 ⟨Nat.le_refl _, Nat.le_refl _⟩ (fun x_14 g_14 H locs h hP hD hS => ?_)
    refine lv_goto (pc := 17) (tgt := 98) hx hb dX9_comes_17 (by decide) ?_
    exact zvr (pc := 98) (Wd := mW E o ad cI cZ) (u := (x_14, g_14)) hx hb hr hlocks hAe hK hP hD hS dX9_comes_98 (Nat.le_refl _) (Nat.le_refl _) h

def wX9_open (x : Nat → Int32) (g : Nat → Nat → Int32) (Φ : Int32 → Prop) : Prop := (vp_in 6 7 ∧ (((x 35) ≤ 0 → (vp_in 5 7 ∧ (Φ (((g 27) (6 : Int32).toNatClampNeg) - ((g 27) (5 : Int32).toNatClampNeg))))) ∧ (¬ (x 35) ≤ 0 → (vp_in ((x 35) - 1) 7 ∧ (Φ (((g 27) (6 : Int32).toNatClampNeg) - ((g 27) ((x 35) - 1).toNatClampNeg)))))))
set_option maxRecDepth 100000 in
set_option maxHeartbeats 4000000 in
theorem kX9_open {l : Launch} {D : va_G} {E : va_W} {o : Nat} {ad : Nat → Nat} {cI cZ : ClassId} {sz : Nat} (x0 : Nat → Int32) (g0 : Nat → Nat → Int32) {Φ : Int32 → Prop} (h : wX9_open x0 g0 Φ) : Met l yX9_open (zws yX9_open cX9_open 1 (some .int)) { frames := 0, cells := 0, slots := 0, locals := 0 } (zPc D (mT cI cZ) zX0 (mW E o ad cI cZ (x0, g0)) [.ref o] sz) (zQi D (mT cI cZ) (mW E o ad cI cZ) (fun r u => u = (x0, g0) ∧ Φ r) (mW E o ad cI cZ (x0, g0)) sz) 0 0 (va_A (mW E o ad cI cZ (x0, g0)) sz) := by
  refine zMet (by decide) (Nat.le_of_ble_eq_true rfl) ?_
  intro p e s m args below meth c A hx hb hr hml hown hts hlocks hsz hAe hA hS hP hK hD hX ls hl
  subst hsz
  have hF : zFx p s m args c cX9_open RX9 A D (mT cI cZ) zX0 1 := ⟨hx, hb, hml, hown, hts, hA, hK, zX0_cl, hX⟩
  have hl : lv_has ls 1 [(0, .ref o)] := hl
  unfold wX9_open at h
  refine lv_aload_n (pc := 0) hx hb dX9_open_0 rfl (lv_at hl 0 rfl) ?_
  refine mG_27 (pc := 1) hF hP dX9_open_1 ?_
  refine lv_bipush (pc := 4) (v := 6) hx hb dX9_open_4 (by decide) ?_
  obtain ⟨hi_6, h⟩ := h
  refine mL_27 (pc := 6) hF hP (f := (g0 27)) rfl hi_6 dX9_open_6 ?_
  refine lv_aload_n (pc := 7) hx hb dX9_open_7 rfl (lv_at hl 0 rfl) ?_
  refine mG_35 (pc := 8) (v := (x0 35)) hF hP rfl dX9_open_8 ?_
  refine lv_if_le (pc := 11) (tgt := 28) hx hb dX9_open_11 (by decide) (fun c_11 => ?_) (fun c_11 => ?_)
  · have h := h.1 c_11
    refine lv_aload_n (pc := 28) hx hb dX9_open_28 rfl (lv_at hl 0 rfl) ?_
    refine mG_27 (pc := 29) hF hP dX9_open_29 ?_
    refine lv_iconst (pc := 32) (v := 5) hx hb dX9_open_32 (by decide) ?_
    obtain ⟨hi_33, h⟩ := h
    refine mL_27 (pc := 33) hF hP (f := (g0 27)) rfl hi_33 dX9_open_33 ?_
    refine lv_isub (pc := 34) hx hb dX9_open_34 ?_
    exact zirV (pc := 35) (Wd := mW E o ad cI cZ) (u := (x0, g0)) hx hb hr hlocks hAe hK hP hD hS rfl dX9_open_35 (Nat.le_refl _) (Nat.le_refl _) ⟨rfl, h⟩
  · have h := h.2 c_11
    refine lv_aload_n (pc := 14) hx hb dX9_open_14 rfl (lv_at hl 0 rfl) ?_
    refine mG_27 (pc := 15) hF hP dX9_open_15 ?_
    refine lv_aload_n (pc := 18) hx hb dX9_open_18 rfl (lv_at hl 0 rfl) ?_
    refine mG_35 (pc := 19) (v := (x0 35)) hF hP rfl dX9_open_19 ?_
    refine lv_iconst (pc := 22) (v := 1) hx hb dX9_open_22 (by decide) ?_
    refine lv_isub (pc := 23) hx hb dX9_open_23 ?_
    obtain ⟨hi_24, h⟩ := h
    refine mL_27 (pc := 24) hF hP (f := (g0 27)) rfl hi_24 dX9_open_24 ?_
    refine lv_goto (pc := 25) (tgt := 34) hx hb dX9_open_25 (by decide) ?_
    refine lv_isub (pc := 34) hx hb dX9_open_34 ?_
    exact zirV (pc := 35) (Wd := mW E o ad cI cZ) (u := (x0, g0)) hx hb hr hlocks hAe hK hP hD hS rfl dX9_open_35 (Nat.le_refl _) (Nat.le_refl _) ⟨rfl, h⟩

def jX9_step_269 (Φ : Int32 → (Nat → Int32) → (Nat → Nat → Int32) → Prop) (x : Nat → Int32) (g : Nat → Nat → Int32) (v4 s1 s2 : Int32) : Prop := (vp_in s1 21 ∧ (wX9_finds x (va_up g 24 (upd (g 24) s1.toNatClampNeg s2)) (fun x_271 g_271 => (vp_in 6 7 ∧ (Φ (((g_271 27) (6 : Int32).toNatClampNeg) - v4) x_271 g_271)))))
def jX9_step_233 (Φ : Int32 → (Nat → Int32) → (Nat → Nat → Int32) → Prop) (x : Nat → Int32) (g : Nat → Nat → Int32) (v1 v4 v6 : Int32) : Prop := (∀ v7_237 : Int32, v7_237 = (18 + v1) → (vp_in v7_237 21 ∧ ((v6 ≤ ((g 24) v7_237.toNatClampNeg) → (vp_in v7_237 21 ∧ (jX9_step_269 Φ x g v4 v7_237 ((g 24) v7_237.toNatClampNeg)))) ∧ (¬ v6 ≤ ((g 24) v7_237.toNatClampNeg) → (jX9_step_269 Φ x g v4 v7_237 v6)))))
def jX9_step_173 (Φ : Int32 → (Nat → Int32) → (Nat → Nat → Int32) → Prop) (x : Nat → Int32) (g : Nat → Nat → Int32) (v1 v4 v5 v6 s1 s2 s3 : Int32) : Prop := (vp_in s1 900 ∧ (vp_in 6 7 ∧ (vp_in v5 900 ∧ (vp_in 7 9 ∧ (vp_in v5 900 ∧ (vp_in v5 900 ∧ ((((g 13) v5.toNatClampNeg) = 0 → (jX9_step_233 Φ x (va_up (va_up (va_up g 14 (upd (g 14) s1.toNatClampNeg (s2 + s3))) 15 (upd (g 15) v5.toNatClampNeg ((g 25) (6 : Int32).toNatClampNeg))) 16 (upd (g 16) v5.toNatClampNeg ((g 6) (7 : Int32).toNatClampNeg))) v1 v4 v6)) ∧ (¬ ((g 13) v5.toNatClampNeg) = 0 → (vp_in v5 900 ∧ (vp_in v5 900 ∧ (wX9_comes x (va_up (va_up (va_up g 14 (upd (g 14) s1.toNatClampNeg (s2 + s3))) 15 (upd (g 15) v5.toNatClampNeg ((g 25) (6 : Int32).toNatClampNeg))) 16 (upd (g 16) v5.toNatClampNeg ((g 6) (7 : Int32).toNatClampNeg))) ((g 10) v5.toNatClampNeg) v6 ((upd (g 14) s1.toNatClampNeg (s2 + s3)) v5.toNatClampNeg) (fun x_230 g_230 => (jX9_step_233 Φ x_230 g_230 v1 v4 v6)))))))))))))
def jX9_step_67 (Φ : Int32 → (Nat → Int32) → (Nat → Nat → Int32) → Prop) (x : Nat → Int32) (g : Nat → Nat → Int32) (v1 v3 s1 : Int32) : Prop := (wX9_can x g s1 (fun r_67 x_67 g_67 => ((r_67 = 0 → (Φ 0 x_67 g_67)) ∧ (¬ r_67 = 0 → (vp_in 6 7 ∧ (∀ v4_82 : Int32, v4_82 = ((g_67 27) (6 : Int32).toNatClampNeg) → (∀ v5_91 : Int32, v5_91 = ((300 * v1) + v3) → (vp_in v5_91 900 ∧ (∀ v6_100 : Int32, v6_100 = ((g_67 11) v5_91.toNatClampNeg) → (vp_in (18 + v1) 21 ∧ (vp_in (18 + v1) 21 ∧ (vp_in v5_91 900 ∧ (wX9_counts x_67 (va_up g_67 23 (upd (g_67 23) (18 + v1).toNatClampNeg (((g_67 23) (18 + v1).toNatClampNeg) + 1))) ((g_67 12) v5_91.toNatClampNeg) (fun r_129 => (vp_in v5_91 900 ∧ (vp_in v5_91 900 ∧ (vp_in 3 9 ∧ ((((g_67 6) (3 : Int32).toNatClampNeg) = 1 → (vp_in v5_91 900 ∧ (wX9_tableOf x_67 (va_up (va_up g_67 23 (upd (g_67 23) (18 + v1).toNatClampNeg (((g_67 23) (18 + v1).toNatClampNeg) + 1))) 13 (upd (g_67 13) v5_91.toNatClampNeg (vp_nar .boolean r_129))) ((g_67 10) v5_91.toNatClampNeg) v6_100 (fun r_166 => (jX9_step_173 Φ x_67 (va_up (va_up g_67 23 (upd (g_67 23) (18 + v1).toNatClampNeg (((g_67 23) (18 + v1).toNatClampNeg) + 1))) 13 (upd (g_67 13) v5_91.toNatClampNeg (vp_nar .boolean r_129))) v1 v4_82 v5_91 v6_100 v5_91 ((g_67 12) v5_91.toNatClampNeg) r_166))))) ∧ (¬ ((g_67 6) (3 : Int32).toNatClampNeg) = 1 → (jX9_step_173 Φ x_67 (va_up (va_up g_67 23 (upd (g_67 23) (18 + v1).toNatClampNeg (((g_67 23) (18 + v1).toNatClampNeg) + 1))) 13 (upd (g_67 13) v5_91.toNatClampNeg (vp_nar .boolean r_129))) v1 v4_82 v5_91 v6_100 v5_91 ((g_67 12) v5_91.toNatClampNeg) 0))))))))))))))))))))
def jX9_step_48 (Φ : Int32 → (Nat → Int32) → (Nat → Nat → Int32) → Prop) (x : Nat → Int32) (g : Nat → Nat → Int32) (v1 v3 : Int32) : Prop := (jX9_step_67 Φ x g v1 v3 2)
def jX9_step_22 (Φ : Int32 → (Nat → Int32) → (Nat → Nat → Int32) → Prop) (x : Nat → Int32) (g : Nat → Nat → Int32) (v1 v2 s0 : Int32) : Prop := ((v2 = 0 → (jX9_step_67 Φ x g v1 s0 1)) ∧ (¬ v2 = 0 → (((x 5) = 0 → (jX9_step_48 Φ x g v1 s0)) ∧ (¬ (x 5) = 0 → (wX9_open x g (fun r_40 => ((r_40 < 30 → (vp_in v1 3 ∧ ((s0 = ((g 9) v1.toNatClampNeg) → (jX9_step_67 Φ x g v1 s0 3)) ∧ (¬ s0 = ((g 9) v1.toNatClampNeg) → (jX9_step_67 Φ x g v1 s0 0))))) ∧ (¬ r_40 < 30 → (jX9_step_48 Φ x g v1 s0)))))))))
def wX9_step (x : Nat → Int32) (g : Nat → Nat → Int32) (a1 : Int32) (Φ : Int32 → (Nat → Int32) → (Nat → Nat → Int32) → Prop) : Prop := (wX9_isPartition a1 (fun r_1 => ((r_1 = 0 → (jX9_step_22 Φ x g a1 r_1 0)) ∧ (¬ r_1 = 0 → (vp_in (18 + a1) 21 ∧ (jX9_step_22 Φ x g a1 r_1 ((g 23) (18 + a1).toNatClampNeg)))))))
set_option maxRecDepth 100000 in
set_option maxHeartbeats 4000000 in
theorem kX9_step {l : Launch} {D : va_G} {E : va_W} {o : Nat} {ad : Nat → Nat} {cI cZ : ClassId} {sz : Nat} (x0 : Nat → Int32) (g0 : Nat → Nat → Int32) (a1 : Int32) {Φ : Int32 → (Nat → Int32) → (Nat → Nat → Int32) → Prop} (h : wX9_step x0 g0 a1 Φ) : Met l yX9_step (zws yX9_step cX9_step 8 (some .int)) { frames := 5, cells := 0, slots := 0, locals := 124 } (zPc D (mT cI cZ) zX0 (mW E o ad cI cZ (x0, g0)) [.ref o, .int a1] sz) (zQi D (mT cI cZ) (mW E o ad cI cZ) (fun r u => Φ r u.1 u.2) (mW E o ad cI cZ (x0, g0)) sz) 0 0 (va_A (mW E o ad cI cZ (x0, g0)) sz) := by
  refine zMet (by decide) (Nat.le_of_ble_eq_true rfl) ?_
  intro p e s m args below meth c A hx hb hr hml hown hts hlocks hsz hAe hA hS hP hK hD hX ls hl
  subst hsz
  have hF : zFx p s m args c cX9_step RX9 A D (mT cI cZ) zX0 8 := ⟨hx, hb, hml, hown, hts, hA, hK, zX0_cl, hX⟩
  have hl : lv_has ls 8 [(0, .ref o), (1, .int a1)] := hl
  have J269 : ∀ (x : Nat → Int32) (g : Nat → Nat → Int32) (v4 s1 s2 : Int32), jX9_step_269 Φ x g v4 s1 s2 → ∀ (H : Heap) (locs : List Loc) (ls : Array Slot), va_P D vwCl (mW E o ad cI cZ (x, g)) H → va_D A (mW E o ad cI cZ (x, g)) → va_S A s.heap H locs → lv_has ls 8 [(0, .ref o), (4, .int v4)] → W p l e { frames := 5, cells := 0, slots := 0, locals := 124 } s m args below meth c H locs 0 0 (MQ below (zQi D (mT cI cZ) (mW E o ad cI cZ) (fun r u => Φ r u.1 u.2) (mW E o ad cI cZ (x0, g0)) s.heap.size) args s 0 0 (va_A (mW E o ad cI cZ (x0, g0)) s.heap.size)) (F0 m 269 ls [.int s2, .int s1, .ref (ad 24)]) := by
    intro x g v4 s1 s2 h H locs ls hP hD hS hl
    unfold jX9_step_269 at h
    obtain ⟨hi_269, h⟩ := h
    refine mP_24 (pc := 269) hF hP hD hS (f := (g 24)) rfl hi_269 dX9_step_269 (fun H locs hP hD hS => ?_)
    refine lv_aload_n (pc := 270) hx hb dX9_step_270 rfl (lv_at hl 0 rfl) ?_
    refine mVv (pc := 271) (x := x) (g := (va_up g 24 (upd (g 24) s1.toNatClampNeg s2))) [] hF (kX9_finds x (va_up g 24 (upd (g 24) s1.toNatClampNeg s2)) h) (cwX9_X9_finds hts ⟨Nat.le_of_ble_eq_true rfl, Nat.le_of_ble_eq_true rfl⟩) hP hD hS rfl rfl hl.1 (Nat.le_of_ble_eq_true rfl) dX9_step_271 ⟨Nat.le_refl _, Nat.le_refl _⟩ (fun x_271 g_271 H locs h hP hD hS => ?_)
    refine lv_aload_n (pc := 274) hx hb dX9_step_274 rfl (lv_at hl 0 rfl) ?_
    refine mG_27 (pc := 275) hF hP dX9_step_275 ?_
    refine lv_bipush (pc := 278) (v := 6) hx hb dX9_step_278 (by decide) ?_
    obtain ⟨hi_280, h⟩ := h
    refine mL_27 (pc := 280) hF hP (f := (g_271 27)) rfl hi_280 dX9_step_280 ?_
    refine lv_iload (pc := 281) hx hb dX9_step_281 (lv_at hl 1 rfl) ?_
    refine lv_isub (pc := 283) hx hb dX9_step_283 ?_
    exact zirV (pc := 284) (Wd := mW E o ad cI cZ) (u := (x_271, g_271)) hx hb hr hlocks hAe hK hP hD hS rfl dX9_step_284 (Nat.le_refl _) (Nat.le_refl _) h
  have J233 : ∀ (x : Nat → Int32) (g : Nat → Nat → Int32) (v1 v4 v6 : Int32), jX9_step_233 Φ x g v1 v4 v6 → ∀ (H : Heap) (locs : List Loc) (ls : Array Slot), va_P D vwCl (mW E o ad cI cZ (x, g)) H → va_D A (mW E o ad cI cZ (x, g)) → va_S A s.heap H locs → lv_has ls 8 [(0, .ref o), (1, .int v1), (4, .int v4), (6, .int v6)] → W p l e { frames := 5, cells := 0, slots := 0, locals := 124 } s m args below meth c H locs 0 0 (MQ below (zQi D (mT cI cZ) (mW E o ad cI cZ) (fun r u => Φ r u.1 u.2) (mW E o ad cI cZ (x0, g0)) s.heap.size) args s 0 0 (va_A (mW E o ad cI cZ (x0, g0)) s.heap.size)) (F0 m 233 ls []) := by
    intro x g v1 v4 v6 h H locs ls hP hD hS hl
    unfold jX9_step_233 at h
    refine lv_bipush (pc := 233) (v := 18) hx hb dX9_step_233 (by decide) ?_
    refine lv_iload_n (pc := 235) hx hb dX9_step_235 rfl (lv_at hl 1 rfl) ?_
    refine lv_iadd (pc := 236) hx hb dX9_step_236 ?_
    refine lv_topi (fun v7_237 e_v7_237 => ?_)
    replace h := h v7_237 e_v7_237
    refine lv_istore (pc := 237) (lv' := [(7, .int v7_237), (0, .ref o), (1, .int v1), (4, .int v4), (6, .int v6)]) hx hb dX9_step_237 hl (by decide) rfl (fun ls hl => ?_)
    refine lv_aload_n (pc := 239) hx hb dX9_step_239 rfl (lv_at hl 1 rfl) ?_
    refine mG_24 (pc := 240) hF hP dX9_step_240 ?_
    refine lv_iload (pc := 243) hx hb dX9_step_243 (lv_at hl 0 rfl) ?_
    refine lv_iload (pc := 245) hx hb dX9_step_245 (lv_at hl 4 rfl) ?_
    refine lv_aload_n (pc := 247) hx hb dX9_step_247 rfl (lv_at hl 1 rfl) ?_
    refine mG_24 (pc := 248) hF hP dX9_step_248 ?_
    refine lv_iload (pc := 251) hx hb dX9_step_251 (lv_at hl 0 rfl) ?_
    obtain ⟨hi_253, h⟩ := h
    refine mL_24 (pc := 253) hF hP (f := (g 24)) rfl hi_253 dX9_step_253 ?_
    refine lv_icmp_le (pc := 254) (tgt := 262) hx hb dX9_step_254 (by decide) (fun c_254 => ?_) (fun c_254 => ?_)
    · have h := h.1 c_254
      refine lv_aload_n (pc := 262) hx hb dX9_step_262 rfl (lv_at hl 1 rfl) ?_
      refine mG_24 (pc := 263) hF hP dX9_step_263 ?_
      refine lv_iload (pc := 266) hx hb dX9_step_266 (lv_at hl 0 rfl) ?_
      obtain ⟨hi_268, h⟩ := h
      refine mL_24 (pc := 268) hF hP (f := (g 24)) rfl hi_268 dX9_step_268 ?_
      exact J269 x g v4 v7_237 ((g 24) v7_237.toNatClampNeg) h _ _ _ hP hD hS (lv_sub hl [1, 3] rfl)
    · have h := h.2 c_254
      refine lv_iload (pc := 257) hx hb dX9_step_257 (lv_at hl 4 rfl) ?_
      refine lv_goto (pc := 259) (tgt := 269) hx hb dX9_step_259 (by decide) ?_
      exact J269 x g v4 v7_237 v6 h _ _ _ hP hD hS (lv_sub hl [1, 3] rfl)
  have J173 : ∀ (x : Nat → Int32) (g : Nat → Nat → Int32) (v1 v4 v5 v6 s1 s2 s3 : Int32), jX9_step_173 Φ x g v1 v4 v5 v6 s1 s2 s3 → ∀ (H : Heap) (locs : List Loc) (ls : Array Slot), va_P D vwCl (mW E o ad cI cZ (x, g)) H → va_D A (mW E o ad cI cZ (x, g)) → va_S A s.heap H locs → lv_has ls 8 [(0, .ref o), (1, .int v1), (4, .int v4), (5, .int v5), (6, .int v6)] → W p l e { frames := 5, cells := 0, slots := 0, locals := 124 } s m args below meth c H locs 0 0 (MQ below (zQi D (mT cI cZ) (mW E o ad cI cZ) (fun r u => Φ r u.1 u.2) (mW E o ad cI cZ (x0, g0)) s.heap.size) args s 0 0 (va_A (mW E o ad cI cZ (x0, g0)) s.heap.size)) (F0 m 173 ls [.int s3, .int s2, .int s1, .ref (ad 14)]) := by
    intro x g v1 v4 v5 v6 s1 s2 s3 h H locs ls hP hD hS hl
    unfold jX9_step_173 at h
    refine lv_iadd (pc := 173) hx hb dX9_step_173 ?_
    obtain ⟨hi_174, h⟩ := h
    refine mP_14 (pc := 174) hF hP hD hS (f := (g 14)) rfl hi_174 dX9_step_174 (fun H locs hP hD hS => ?_)
    refine lv_aload_n (pc := 175) hx hb dX9_step_175 rfl (lv_at hl 0 rfl) ?_
    refine mG_15 (pc := 176) hF hP dX9_step_176 ?_
    refine lv_iload (pc := 179) hx hb dX9_step_179 (lv_at hl 3 rfl) ?_
    refine lv_aload_n (pc := 181) hx hb dX9_step_181 rfl (lv_at hl 0 rfl) ?_
    refine mG_25 (pc := 182) hF hP dX9_step_182 ?_
    refine lv_bipush (pc := 185) (v := 6) hx hb dX9_step_185 (by decide) ?_
    obtain ⟨hi_187, h⟩ := h
    refine mL_25 (pc := 187) hF hP (f := (g 25)) rfl hi_187 dX9_step_187 ?_
    obtain ⟨hi_188, h⟩ := h
    refine mP_15 (pc := 188) hF hP hD hS (f := (g 15)) rfl hi_188 dX9_step_188 (fun H locs hP hD hS => ?_)
    refine lv_aload_n (pc := 189) hx hb dX9_step_189 rfl (lv_at hl 0 rfl) ?_
    refine mG_16 (pc := 190) hF hP dX9_step_190 ?_
    refine lv_iload (pc := 193) hx hb dX9_step_193 (lv_at hl 3 rfl) ?_
    refine lv_aload_n (pc := 195) hx hb dX9_step_195 rfl (lv_at hl 0 rfl) ?_
    refine mG_6 (pc := 196) hF hP dX9_step_196 ?_
    refine lv_bipush (pc := 199) (v := 7) hx hb dX9_step_199 (by decide) ?_
    obtain ⟨hi_201, h⟩ := h
    refine mL_6 (pc := 201) hF hP (f := (g 6)) rfl hi_201 dX9_step_201 ?_
    obtain ⟨hi_202, h⟩ := h
    refine mP_16 (pc := 202) hF hP hD hS (f := (g 16)) rfl hi_202 dX9_step_202 (fun H locs hP hD hS => ?_)
    refine lv_aload_n (pc := 203) hx hb dX9_step_203 rfl (lv_at hl 0 rfl) ?_
    refine mG_13 (pc := 204) hF hP dX9_step_204 ?_
    refine lv_iload (pc := 207) hx hb dX9_step_207 (lv_at hl 3 rfl) ?_
    obtain ⟨hi_209, h⟩ := h
    refine mL_13 (pc := 209) hF hP (f := (g 13)) rfl hi_209 dX9_step_209 ?_
    refine lv_if_eq (pc := 210) (tgt := 233) hx hb dX9_step_210 (by decide) (fun c_210 => ?_) (fun c_210 => ?_)
    · have h := h.1 c_210
      exact J233 x (va_up (va_up (va_up g 14 (upd (g 14) s1.toNatClampNeg (s2 + s3))) 15 (upd (g 15) v5.toNatClampNeg ((g 25) (6 : Int32).toNatClampNeg))) 16 (upd (g 16) v5.toNatClampNeg ((g 6) (7 : Int32).toNatClampNeg))) v1 v4 v6 h _ _ _ hP hD hS (lv_sub hl [0, 1, 2, 4] rfl)
    · have h := h.2 c_210
      refine lv_aload_n (pc := 213) hx hb dX9_step_213 rfl (lv_at hl 0 rfl) ?_
      refine lv_aload_n (pc := 214) hx hb dX9_step_214 rfl (lv_at hl 0 rfl) ?_
      refine mG_10 (pc := 215) hF hP dX9_step_215 ?_
      refine lv_iload (pc := 218) hx hb dX9_step_218 (lv_at hl 3 rfl) ?_
      obtain ⟨hi_220, h⟩ := h
      refine mL_10 (pc := 220) hF hP (f := (g 10)) rfl hi_220 dX9_step_220 ?_
      refine lv_iload (pc := 221) hx hb dX9_step_221 (lv_at hl 4 rfl) ?_
      refine lv_aload_n (pc := 223) hx hb dX9_step_223 rfl (lv_at hl 0 rfl) ?_
      refine mG_14 (pc := 224) hF hP dX9_step_224 ?_
      refine lv_iload (pc := 227) hx hb dX9_step_227 (lv_at hl 3 rfl) ?_
      obtain ⟨hi_229, h⟩ := h
      refine mL_14 (pc := 229) hF hP (f := (upd (g 14) s1.toNatClampNeg (s2 + s3))) rfl hi_229 dX9_step_229 ?_
      refine mVv (pc := 230) (x := x) (g := (va_up (va_up (va_up g 14 (upd (g 14) s1.toNatClampNeg (s2 + s3))) 15 (upd (g 15) v5.toNatClampNeg ((g 25) (6 : Int32).toNatClampNeg))) 16 (upd (g 16) v5.toNatClampNeg ((g 6) (7 : Int32).toNatClampNeg)))) [.int ((g 10) v5.toNatClampNeg), .int v6, .int ((upd (g 14) s1.toNatClampNeg (s2 + s3)) v5.toNatClampNeg)] hF (kX9_comes x (va_up (va_up (va_up g 14 (upd (g 14) s1.toNatClampNeg (s2 + s3))) 15 (upd (g 15) v5.toNatClampNeg ((g 25) (6 : Int32).toNatClampNeg))) 16 (upd (g 16) v5.toNatClampNeg ((g 6) (7 : Int32).toNatClampNeg))) ((g 10) v5.toNatClampNeg) v6 ((upd (g 14) s1.toNatClampNeg (s2 + s3)) v5.toNatClampNeg) h) (cwX9_X9_comes hts ⟨Nat.le_of_ble_eq_true rfl, Nat.le_of_ble_eq_true rfl⟩) hP hD hS rfl rfl hl.1 (Nat.le_of_ble_eq_true rfl) dX9_step_230 ⟨Nat.le_refl _, Nat.le_refl _⟩ (fun x_230 g_230 H locs h hP hD hS => ?_)
      exact J233 x_230 g_230 v1 v4 v6 h _ _ _ hP hD hS (lv_sub hl [0, 1, 2, 4] rfl)
  have J67 : ∀ (x : Nat → Int32) (g : Nat → Nat → Int32) (v1 v3 s1 : Int32), jX9_step_67 Φ x g v1 v3 s1 → ∀ (H : Heap) (locs : List Loc) (ls : Array Slot), va_P D vwCl (mW E o ad cI cZ (x, g)) H → va_D A (mW E o ad cI cZ (x, g)) → va_S A s.heap H locs → lv_has ls 8 [(0, .ref o), (1, .int v1), (3, .int v3)] → W p l e { frames := 5, cells := 0, slots := 0, locals := 124 } s m args below meth c H locs 0 0 (MQ below (zQi D (mT cI cZ) (mW E o ad cI cZ) (fun r u => Φ r u.1 u.2) (mW E o ad cI cZ (x0, g0)) s.heap.size) args s 0 0 (va_A (mW E o ad cI cZ (x0, g0)) s.heap.size)) (F0 m 67 ls [.int s1, .ref o]) := by
    intro x g v1 v3 s1 h H locs ls hP hD hS hl
    unfold jX9_step_67 at h
    refine mVb (pc := 67) (x := x) (g := g) [.int s1] hF (kX9_can x g s1 h) (cwX9_X9_can hts ⟨Nat.le_of_ble_eq_true rfl, Nat.le_of_ble_eq_true rfl⟩) hP hD hS rfl rfl hl.1 (Nat.le_of_ble_eq_true rfl) dX9_step_67 ⟨Nat.le_refl _, Nat.le_refl _⟩ (fun r_67 x_67 g_67 H locs hb_67 h hP hD hS => ?_)
    refine lv_if_ne (pc := 70) (tgt := 75) hx hb dX9_step_70 (by decide) (fun c_70 => ?_) (fun c_70 => ?_)
    · have h := h.2 c_70
      refine lv_aload_n (pc := 75) hx hb dX9_step_75 rfl (lv_at hl 0 rfl) ?_
      refine mG_27 (pc := 76) hF hP dX9_step_76 ?_
      refine lv_bipush (pc := 79) (v := 6) hx hb dX9_step_79 (by decide) ?_
      obtain ⟨hi_81, h⟩ := h
      refine mL_27 (pc := 81) hF hP (f := (g_67 27)) rfl hi_81 dX9_step_81 ?_
      refine lv_topi (fun v4_82 e_v4_82 => ?_)
      replace h := h v4_82 e_v4_82
      refine lv_istore (pc := 82) (lv' := [(4, .int v4_82), (0, .ref o), (1, .int v1), (3, .int v3)]) hx hb dX9_step_82 hl (by decide) rfl (fun ls hl => ?_)
      refine lv_sipush (pc := 84) (v := 300) hx hb dX9_step_84 (by decide) ?_
      refine lv_iload_n (pc := 87) hx hb dX9_step_87 rfl (lv_at hl 2 rfl) ?_
      refine lv_imul (pc := 88) hx hb dX9_step_88 ?_
      refine lv_iload_n (pc := 89) hx hb dX9_step_89 rfl (lv_at hl 3 rfl) ?_
      refine lv_iadd (pc := 90) hx hb dX9_step_90 ?_
      refine lv_topi (fun v5_91 e_v5_91 => ?_)
      replace h := h v5_91 e_v5_91
      refine lv_istore (pc := 91) (lv' := [(5, .int v5_91), (4, .int v4_82), (0, .ref o), (1, .int v1), (3, .int v3)]) hx hb dX9_step_91 hl (by decide) rfl (fun ls hl => ?_)
      refine lv_aload_n (pc := 93) hx hb dX9_step_93 rfl (lv_at hl 2 rfl) ?_
      refine mG_11 (pc := 94) hF hP dX9_step_94 ?_
      refine lv_iload (pc := 97) hx hb dX9_step_97 (lv_at hl 0 rfl) ?_
      obtain ⟨hi_99, h⟩ := h
      refine mL_11 (pc := 99) hF hP (f := (g_67 11)) rfl hi_99 dX9_step_99 ?_
      refine lv_topi (fun v6_100 e_v6_100 => ?_)
      replace h := h v6_100 e_v6_100
      refine lv_istore (pc := 100) (lv' := [(6, .int v6_100), (5, .int v5_91), (4, .int v4_82), (0, .ref o), (1, .int v1), (3, .int v3)]) hx hb dX9_step_100 hl (by decide) rfl (fun ls hl => ?_)
      refine lv_aload_n (pc := 102) hx hb dX9_step_102 rfl (lv_at hl 3 rfl) ?_
      refine mG_23 (pc := 103) hF hP dX9_step_103 ?_
      refine lv_bipush (pc := 106) (v := 18) hx hb dX9_step_106 (by decide) ?_
      refine lv_iload_n (pc := 108) hx hb dX9_step_108 rfl (lv_at hl 4 rfl) ?_
      refine lv_iadd (pc := 109) hx hb dX9_step_109 ?_
      refine lv_dup2_11 (pc := 110) hx hb dX9_step_110 rfl rfl ?_
      obtain ⟨hi_111, h⟩ := h
      refine mL_23 (pc := 111) hF hP (f := (g_67 23)) rfl hi_111 dX9_step_111 ?_
      refine lv_iconst (pc := 112) (v := 1) hx hb dX9_step_112 (by decide) ?_
      refine lv_iadd (pc := 113) hx hb dX9_step_113 ?_
      obtain ⟨hi_114, h⟩ := h
      refine mP_23 (pc := 114) hF hP hD hS (f := (g_67 23)) rfl hi_114 dX9_step_114 (fun H locs hP hD hS => ?_)
      refine lv_aload_n (pc := 115) hx hb dX9_step_115 rfl (lv_at hl 3 rfl) ?_
      refine mG_13 (pc := 116) hF hP dX9_step_116 ?_
      refine lv_iload (pc := 119) hx hb dX9_step_119 (lv_at hl 1 rfl) ?_
      refine lv_aload_n (pc := 121) hx hb dX9_step_121 rfl (lv_at hl 3 rfl) ?_
      refine lv_aload_n (pc := 122) hx hb dX9_step_122 rfl (lv_at hl 3 rfl) ?_
      refine mG_12 (pc := 123) hF hP dX9_step_123 ?_
      refine lv_iload (pc := 126) hx hb dX9_step_126 (lv_at hl 1 rfl) ?_
      obtain ⟨hi_128, h⟩ := h
      refine mL_12 (pc := 128) hF hP (f := (g_67 12)) rfl hi_128 dX9_step_128 ?_
      refine mVbp (pc := 129) (x := x_67) (g := (va_up g_67 23 (upd (g_67 23) (18 + v1).toNatClampNeg (((g_67 23) (18 + v1).toNatClampNeg) + 1)))) [.int ((g_67 12) v5_91.toNatClampNeg)] hF (kX9_counts x_67 (va_up g_67 23 (upd (g_67 23) (18 + v1).toNatClampNeg (((g_67 23) (18 + v1).toNatClampNeg) + 1))) ((g_67 12) v5_91.toNatClampNeg) h) (cwX9_X9_counts hts ⟨Nat.le_of_ble_eq_true rfl, Nat.le_of_ble_eq_true rfl⟩) hP hD hS rfl rfl hl.1 (Nat.le_of_ble_eq_true rfl) dX9_step_129 ⟨Nat.le_refl _, Nat.le_refl _⟩ (fun r_129 H locs hb_129 h hP hD hS => ?_)
      obtain ⟨hi_132, h⟩ := h
      refine mP_13 (pc := 132) hF hP hD hS (f := (g_67 13)) rfl hi_132 dX9_step_132 (fun H locs hP hD hS => ?_)
      refine lv_aload_n (pc := 133) hx hb dX9_step_133 rfl (lv_at hl 3 rfl) ?_
      refine mG_14 (pc := 134) hF hP dX9_step_134 ?_
      refine lv_iload (pc := 137) hx hb dX9_step_137 (lv_at hl 1 rfl) ?_
      refine lv_aload_n (pc := 139) hx hb dX9_step_139 rfl (lv_at hl 3 rfl) ?_
      refine mG_12 (pc := 140) hF hP dX9_step_140 ?_
      refine lv_iload (pc := 143) hx hb dX9_step_143 (lv_at hl 1 rfl) ?_
      obtain ⟨hi_145, h⟩ := h
      refine mL_12 (pc := 145) hF hP (f := (g_67 12)) rfl hi_145 dX9_step_145 ?_
      refine lv_aload_n (pc := 146) hx hb dX9_step_146 rfl (lv_at hl 3 rfl) ?_
      refine mG_6 (pc := 147) hF hP dX9_step_147 ?_
      refine lv_iconst (pc := 150) (v := 3) hx hb dX9_step_150 (by decide) ?_
      obtain ⟨hi_151, h⟩ := h
      refine mL_6 (pc := 151) hF hP (f := (g_67 6)) rfl hi_151 dX9_step_151 ?_
      refine lv_iconst (pc := 152) (v := 1) hx hb dX9_step_152 (by decide) ?_
      refine lv_icmp_ne (pc := 153) (tgt := 172) hx hb dX9_step_153 (by decide) (fun c_153 => ?_) (fun c_153 => ?_)
      · have h := h.2 c_153
        refine lv_iconst (pc := 172) (v := 0) hx hb dX9_step_172 (by decide) ?_
        exact J173 x_67 (va_up (va_up g_67 23 (upd (g_67 23) (18 + v1).toNatClampNeg (((g_67 23) (18 + v1).toNatClampNeg) + 1))) 13 (upd (g_67 13) v5_91.toNatClampNeg (vp_nar .boolean r_129))) v1 v4_82 v5_91 v6_100 v5_91 ((g_67 12) v5_91.toNatClampNeg) 0 h _ _ _ hP hD hS (lv_sub hl [3, 4, 2, 1, 0] rfl)
      · have h := h.1 c_153
        refine lv_aload_n (pc := 156) hx hb dX9_step_156 rfl (lv_at hl 3 rfl) ?_
        refine lv_aload_n (pc := 157) hx hb dX9_step_157 rfl (lv_at hl 3 rfl) ?_
        refine mG_10 (pc := 158) hF hP dX9_step_158 ?_
        refine lv_iload (pc := 161) hx hb dX9_step_161 (lv_at hl 1 rfl) ?_
        obtain ⟨hi_163, h⟩ := h
        refine mL_10 (pc := 163) hF hP (f := (g_67 10)) rfl hi_163 dX9_step_163 ?_
        refine lv_iload (pc := 164) hx hb dX9_step_164 (lv_at hl 0 rfl) ?_
        refine mVip (pc := 166) (x := x_67) (g := (va_up (va_up g_67 23 (upd (g_67 23) (18 + v1).toNatClampNeg (((g_67 23) (18 + v1).toNatClampNeg) + 1))) 13 (upd (g_67 13) v5_91.toNatClampNeg (vp_nar .boolean r_129)))) [.int ((g_67 10) v5_91.toNatClampNeg), .int v6_100] hF (kX9_tableOf x_67 (va_up (va_up g_67 23 (upd (g_67 23) (18 + v1).toNatClampNeg (((g_67 23) (18 + v1).toNatClampNeg) + 1))) 13 (upd (g_67 13) v5_91.toNatClampNeg (vp_nar .boolean r_129))) ((g_67 10) v5_91.toNatClampNeg) v6_100 h) (cwX9_X9_tableOf hts ⟨Nat.le_of_ble_eq_true rfl, Nat.le_of_ble_eq_true rfl⟩) hP hD hS rfl rfl hl.1 (Nat.le_of_ble_eq_true rfl) dX9_step_166 ⟨Nat.le_refl _, Nat.le_refl _⟩ (fun r_166 H locs h hP hD hS => ?_)
        refine lv_goto (pc := 169) (tgt := 173) hx hb dX9_step_169 (by decide) ?_
        exact J173 x_67 (va_up (va_up g_67 23 (upd (g_67 23) (18 + v1).toNatClampNeg (((g_67 23) (18 + v1).toNatClampNeg) + 1))) 13 (upd (g_67 13) v5_91.toNatClampNeg (vp_nar .boolean r_129))) v1 v4_82 v5_91 v6_100 v5_91 ((g_67 12) v5_91.toNatClampNeg) r_166 h _ _ _ hP hD hS (lv_sub hl [3, 4, 2, 1, 0] rfl)
    · have h := h.1 c_70
      refine lv_iconst (pc := 73) (v := 0) hx hb dX9_step_73 (by decide) ?_
      exact zirV (pc := 74) (Wd := mW E o ad cI cZ) (u := (x_67, g_67)) hx hb hr hlocks hAe hK hP hD hS rfl dX9_step_74 (Nat.le_refl _) (Nat.le_refl _) h
  have J48 : ∀ (x : Nat → Int32) (g : Nat → Nat → Int32) (v1 v3 : Int32), jX9_step_48 Φ x g v1 v3 → ∀ (H : Heap) (locs : List Loc) (ls : Array Slot), va_P D vwCl (mW E o ad cI cZ (x, g)) H → va_D A (mW E o ad cI cZ (x, g)) → va_S A s.heap H locs → lv_has ls 8 [(0, .ref o), (1, .int v1), (3, .int v3)] → W p l e { frames := 5, cells := 0, slots := 0, locals := 124 } s m args below meth c H locs 0 0 (MQ below (zQi D (mT cI cZ) (mW E o ad cI cZ) (fun r u => Φ r u.1 u.2) (mW E o ad cI cZ (x0, g0)) s.heap.size) args s 0 0 (va_A (mW E o ad cI cZ (x0, g0)) s.heap.size)) (F0 m 48 ls [.ref o]) := by
    intro x g v1 v3 h H locs ls hP hD hS hl
    unfold jX9_step_48 at h
    refine lv_iconst (pc := 48) (v := 2) hx hb dX9_step_48 (by decide) ?_
    refine lv_goto (pc := 49) (tgt := 67) hx hb dX9_step_49 (by decide) ?_
    exact J67 x g v1 v3 2 h _ _ _ hP hD hS (lv_sub hl [0, 1, 2] rfl)
  have J22 : ∀ (x : Nat → Int32) (g : Nat → Nat → Int32) (v1 v2 s0 : Int32), jX9_step_22 Φ x g v1 v2 s0 → ∀ (H : Heap) (locs : List Loc) (ls : Array Slot), va_P D vwCl (mW E o ad cI cZ (x, g)) H → va_D A (mW E o ad cI cZ (x, g)) → va_S A s.heap H locs → lv_has ls 8 [(0, .ref o), (1, .int v1), (2, .int v2)] → W p l e { frames := 5, cells := 0, slots := 0, locals := 124 } s m args below meth c H locs 0 0 (MQ below (zQi D (mT cI cZ) (mW E o ad cI cZ) (fun r u => Φ r u.1 u.2) (mW E o ad cI cZ (x0, g0)) s.heap.size) args s 0 0 (va_A (mW E o ad cI cZ (x0, g0)) s.heap.size)) (F0 m 22 ls [.int s0]) := by
    intro x g v1 v2 s0 h H locs ls hP hD hS hl
    unfold jX9_step_22 at h
    refine lv_istore_n (pc := 22) (lv' := [(3, .int s0), (0, .ref o), (1, .int v1), (2, .int v2)]) hx hb dX9_step_22 rfl hl (by decide) rfl (fun ls hl => ?_)
    refine lv_aload_n (pc := 23) hx hb dX9_step_23 rfl (lv_at hl 1 rfl) ?_
    refine lv_iload_n (pc := 24) hx hb dX9_step_24 rfl (lv_at hl 3 rfl) ?_
    refine lv_if_ne (pc := 25) (tgt := 32) hx hb dX9_step_25 (by decide) (fun c_25 => ?_) (fun c_25 => ?_)
    · have h := h.2 c_25
      refine lv_aload_n (pc := 32) hx hb dX9_step_32 rfl (lv_at hl 1 rfl) ?_
      refine mG_5 (pc := 33) (v := (x 5)) hF hP rfl dX9_step_33 ?_
      refine lv_if_eq (pc := 36) (tgt := 48) hx hb dX9_step_36 (by decide) (fun c_36 => ?_) (fun c_36 => ?_)
      · have h := h.1 c_36
        exact J48 x g v1 s0 h _ _ _ hP hD hS (lv_sub hl [1, 2, 0] rfl)
      · have h := h.2 c_36
        refine lv_aload_n (pc := 39) hx hb dX9_step_39 rfl (lv_at hl 1 rfl) ?_
        refine mVip (pc := 40) (x := x) (g := g) [] hF (kX9_open x g h) (cwX9_X9_open hts ⟨Nat.le_of_ble_eq_true rfl, Nat.le_of_ble_eq_true rfl⟩) hP hD hS rfl rfl hl.1 (Nat.le_of_ble_eq_true rfl) dX9_step_40 ⟨Nat.le_refl _, Nat.le_refl _⟩ (fun r_40 H locs h hP hD hS => ?_)
        refine lv_bipush (pc := 43) (v := 30) hx hb dX9_step_43 (by decide) ?_
        refine lv_icmp_lt (pc := 45) (tgt := 52) hx hb dX9_step_45 (by decide) (fun c_45 => ?_) (fun c_45 => ?_)
        · have h := h.1 c_45
          refine lv_iload_n (pc := 52) hx hb dX9_step_52 rfl (lv_at hl 0 rfl) ?_
          refine lv_aload_n (pc := 53) hx hb dX9_step_53 rfl (lv_at hl 1 rfl) ?_
          refine mG_9 (pc := 54) hF hP dX9_step_54 ?_
          refine lv_iload_n (pc := 57) hx hb dX9_step_57 rfl (lv_at hl 2 rfl) ?_
          obtain ⟨hi_58, h⟩ := h
          refine mL_9 (pc := 58) hF hP (f := (g 9)) rfl hi_58 dX9_step_58 ?_
          refine lv_icmp_ne (pc := 59) (tgt := 66) hx hb dX9_step_59 (by decide) (fun c_59 => ?_) (fun c_59 => ?_)
          · have h := h.2 c_59
            refine lv_iconst (pc := 66) (v := 0) hx hb dX9_step_66 (by decide) ?_
            exact J67 x g v1 s0 0 h _ _ _ hP hD hS (lv_sub hl [1, 2, 0] rfl)
          · have h := h.1 c_59
            refine lv_iconst (pc := 62) (v := 3) hx hb dX9_step_62 (by decide) ?_
            refine lv_goto (pc := 63) (tgt := 67) hx hb dX9_step_63 (by decide) ?_
            exact J67 x g v1 s0 3 h _ _ _ hP hD hS (lv_sub hl [1, 2, 0] rfl)
        · have h := h.2 c_45
          exact J48 x g v1 s0 h _ _ _ hP hD hS (lv_sub hl [1, 2, 0] rfl)
    · have h := h.1 c_25
      refine lv_iconst (pc := 28) (v := 1) hx hb dX9_step_28 (by decide) ?_
      refine lv_goto (pc := 29) (tgt := 67) hx hb dX9_step_29 (by decide) ?_
      exact J67 x g v1 s0 1 h _ _ _ hP hD hS (lv_sub hl [1, 2, 0] rfl)
  unfold wX9_step at h
  refine lv_iload_n (pc := 0) hx hb dX9_step_0 rfl (lv_at hl 1 rfl) ?_
  refine mSbp (pc := 1) (x := x0) (g := g0) [.int a1] hF (kX9_isPartition x0 g0 a1 h) (cwX9_X9_isPartition hts ⟨Nat.le_of_ble_eq_true rfl, Nat.le_of_ble_eq_true rfl⟩) hP hD hS rfl rfl hl.1 (Nat.le_of_ble_eq_true rfl) dX9_step_1 ⟨Nat.le_refl _, Nat.le_refl _⟩ (fun r_1 H locs hb_1 h hP hD hS => ?_)
  refine lv_istore_n (pc := 4) (lv' := [(2, .int r_1), (0, .ref o), (1, .int a1)]) hx hb dX9_step_4 rfl hl (by decide) rfl (fun ls hl => ?_)
  refine lv_iload_n (pc := 5) hx hb dX9_step_5 rfl (lv_at hl 0 rfl) ?_
  refine lv_if_eq (pc := 6) (tgt := 21) hx hb dX9_step_6 (by decide) (fun c_6 => ?_) (fun c_6 => ?_)
  · have h := h.1 c_6
    refine lv_iconst (pc := 21) (v := 0) hx hb dX9_step_21 (by decide) ?_
    exact J22 x0 g0 a1 r_1 0 h _ _ _ hP hD hS (lv_sub hl [1, 2, 0] rfl)
  · have h := h.2 c_6
    refine lv_aload_n (pc := 9) hx hb dX9_step_9 rfl (lv_at hl 1 rfl) ?_
    refine mG_23 (pc := 10) hF hP dX9_step_10 ?_
    refine lv_bipush (pc := 13) (v := 18) hx hb dX9_step_13 (by decide) ?_
    refine lv_iload_n (pc := 15) hx hb dX9_step_15 rfl (lv_at hl 2 rfl) ?_
    refine lv_iadd (pc := 16) hx hb dX9_step_16 ?_
    obtain ⟨hi_17, h⟩ := h
    refine mL_23 (pc := 17) hF hP (f := (g0 23)) rfl hi_17 dX9_step_17 ?_
    refine lv_goto (pc := 18) (tgt := 22) hx hb dX9_step_18 (by decide) ?_
    exact J22 x0 g0 a1 r_1 ((g0 23) (18 + a1).toNatClampNeg) h _ _ _ hP hD hS (lv_sub hl [1, 2, 0] rfl)

def wX9_watermark (x : Nat → Int32) (g : Nat → Nat → Int32) (Φ : Int32 → (Nat → Int32) → (Nat → Nat → Int32) → Prop) : Prop := (vp_in 6 7 ∧ (Φ ((g 25) (6 : Int32).toNatClampNeg) (va_up x 44 0) g))
set_option maxRecDepth 100000 in
set_option maxHeartbeats 4000000 in
theorem kX9_watermark {l : Launch} {D : va_G} {E : va_W} {o : Nat} {ad : Nat → Nat} {cI cZ : ClassId} {sz : Nat} (x0 : Nat → Int32) (g0 : Nat → Nat → Int32) {Φ : Int32 → (Nat → Int32) → (Nat → Nat → Int32) → Prop} (h : wX9_watermark x0 g0 Φ) : Met l yX9_watermark (zws yX9_watermark cX9_watermark 1 (some .int)) { frames := 0, cells := 0, slots := 0, locals := 0 } (zPc D (mT cI cZ) zX0 (mW E o ad cI cZ (x0, g0)) [.ref o] sz) (zQi D (mT cI cZ) (mW E o ad cI cZ) (fun r u => Φ r u.1 u.2) (mW E o ad cI cZ (x0, g0)) sz) 0 0 (va_A (mW E o ad cI cZ (x0, g0)) sz) := by
  refine zMet (by decide) (Nat.le_of_ble_eq_true rfl) ?_
  intro p e s m args below meth c A hx hb hr hml hown hts hlocks hsz hAe hA hS hP hK hD hX ls hl
  subst hsz
  have hF : zFx p s m args c cX9_watermark RX9 A D (mT cI cZ) zX0 1 := ⟨hx, hb, hml, hown, hts, hA, hK, zX0_cl, hX⟩
  have hl : lv_has ls 1 [(0, .ref o)] := hl
  unfold wX9_watermark at h
  refine lv_aload_n (pc := 0) hx hb dX9_watermark_0 rfl (lv_at hl 0 rfl) ?_
  refine lv_iconst (pc := 1) (v := 0) hx hb dX9_watermark_1 (by decide) ?_
  refine mP_44 (pc := 2) hF hP hD hS dX9_watermark_2 (fun H locs hP hD hS => ?_)
  refine lv_aload_n (pc := 5) hx hb dX9_watermark_5 rfl (lv_at hl 0 rfl) ?_
  refine mG_25 (pc := 6) hF hP dX9_watermark_6 ?_
  refine lv_bipush (pc := 9) (v := 6) hx hb dX9_watermark_9 (by decide) ?_
  obtain ⟨hi_11, h⟩ := h
  refine mL_25 (pc := 11) hF hP (f := (g0 25)) rfl hi_11 dX9_watermark_11 ?_
  exact zirV (pc := 12) (Wd := mW E o ad cI cZ) (u := ((va_up x0 44 0), g0)) hx hb hr hlocks hAe hK hP hD hS rfl dX9_watermark_12 (Nat.le_refl _) (Nat.le_refl _) h

def jX9_read_13 (Φ : Int32 → (Nat → Int32) → (Nat → Nat → Int32) → Prop) (x : Nat → Int32) (g : Nat → Nat → Int32) (v1 s1 : Int32) : Prop := (wX9_can x g s1 (fun r_13 x_13 g_13 => ((r_13 = 0 → (Φ 0 x_13 g_13)) ∧ (¬ r_13 = 0 → (vp_in (18 + v1) 21 ∧ (Φ ((g_13 23) (18 + v1).toNatClampNeg) x_13 g_13))))))
def wX9_read (x : Nat → Int32) (g : Nat → Nat → Int32) (a1 : Int32) (Φ : Int32 → (Nat → Int32) → (Nat → Nat → Int32) → Prop) : Prop := (wX9_isPartition a1 (fun r_2 => ((r_2 = 0 → (jX9_read_13 Φ x g a1 1)) ∧ (¬ r_2 = 0 → (jX9_read_13 Φ x g a1 0)))))
set_option maxRecDepth 100000 in
set_option maxHeartbeats 4000000 in
theorem kX9_read {l : Launch} {D : va_G} {E : va_W} {o : Nat} {ad : Nat → Nat} {cI cZ : ClassId} {sz : Nat} (x0 : Nat → Int32) (g0 : Nat → Nat → Int32) (a1 : Int32) {Φ : Int32 → (Nat → Int32) → (Nat → Nat → Int32) → Prop} (h : wX9_read x0 g0 a1 Φ) : Met l yX9_read (zws yX9_read cX9_read 2 (some .int)) { frames := 2, cells := 0, slots := 0, locals := 42 } (zPc D (mT cI cZ) zX0 (mW E o ad cI cZ (x0, g0)) [.ref o, .int a1] sz) (zQi D (mT cI cZ) (mW E o ad cI cZ) (fun r u => Φ r u.1 u.2) (mW E o ad cI cZ (x0, g0)) sz) 0 0 (va_A (mW E o ad cI cZ (x0, g0)) sz) := by
  refine zMet (by decide) (Nat.le_of_ble_eq_true rfl) ?_
  intro p e s m args below meth c A hx hb hr hml hown hts hlocks hsz hAe hA hS hP hK hD hX ls hl
  subst hsz
  have hF : zFx p s m args c cX9_read RX9 A D (mT cI cZ) zX0 2 := ⟨hx, hb, hml, hown, hts, hA, hK, zX0_cl, hX⟩
  have hl : lv_has ls 2 [(0, .ref o), (1, .int a1)] := hl
  have J13 : ∀ (x : Nat → Int32) (g : Nat → Nat → Int32) (v1 s1 : Int32), jX9_read_13 Φ x g v1 s1 → ∀ (H : Heap) (locs : List Loc) (ls : Array Slot), va_P D vwCl (mW E o ad cI cZ (x, g)) H → va_D A (mW E o ad cI cZ (x, g)) → va_S A s.heap H locs → lv_has ls 2 [(0, .ref o), (1, .int v1)] → W p l e { frames := 2, cells := 0, slots := 0, locals := 42 } s m args below meth c H locs 0 0 (MQ below (zQi D (mT cI cZ) (mW E o ad cI cZ) (fun r u => Φ r u.1 u.2) (mW E o ad cI cZ (x0, g0)) s.heap.size) args s 0 0 (va_A (mW E o ad cI cZ (x0, g0)) s.heap.size)) (F0 m 13 ls [.int s1, .ref o]) := by
    intro x g v1 s1 h H locs ls hP hD hS hl
    unfold jX9_read_13 at h
    refine mVb (pc := 13) (x := x) (g := g) [.int s1] hF (kX9_can x g s1 h) (cwX9_X9_can hts ⟨Nat.le_of_ble_eq_true rfl, Nat.le_of_ble_eq_true rfl⟩) hP hD hS rfl rfl hl.1 (Nat.le_of_ble_eq_true rfl) dX9_read_13 ⟨Nat.le_refl _, Nat.le_refl _⟩ (fun r_13 x_13 g_13 H locs hb_13 h hP hD hS => ?_)
    refine lv_if_eq (pc := 16) (tgt := 31) hx hb dX9_read_16 (by decide) (fun c_16 => ?_) (fun c_16 => ?_)
    · have h := h.1 c_16
      refine lv_iconst (pc := 31) (v := 0) hx hb dX9_read_31 (by decide) ?_
      exact zirV (pc := 32) (Wd := mW E o ad cI cZ) (u := (x_13, g_13)) hx hb hr hlocks hAe hK hP hD hS rfl dX9_read_32 (Nat.le_refl _) (Nat.le_refl _) h
    · have h := h.2 c_16
      refine lv_aload_n (pc := 19) hx hb dX9_read_19 rfl (lv_at hl 0 rfl) ?_
      refine mG_23 (pc := 20) hF hP dX9_read_20 ?_
      refine lv_bipush (pc := 23) (v := 18) hx hb dX9_read_23 (by decide) ?_
      refine lv_iload_n (pc := 25) hx hb dX9_read_25 rfl (lv_at hl 1 rfl) ?_
      refine lv_iadd (pc := 26) hx hb dX9_read_26 ?_
      obtain ⟨hi_27, h⟩ := h
      refine mL_23 (pc := 27) hF hP (f := (g_13 23)) rfl hi_27 dX9_read_27 ?_
      refine lv_goto (pc := 28) (tgt := 32) hx hb dX9_read_28 (by decide) ?_
      exact zirV (pc := 32) (Wd := mW E o ad cI cZ) (u := (x_13, g_13)) hx hb hr hlocks hAe hK hP hD hS rfl dX9_read_32 (Nat.le_refl _) (Nat.le_refl _) h
  unfold wX9_read at h
  refine lv_aload_n (pc := 0) hx hb dX9_read_0 rfl (lv_at hl 0 rfl) ?_
  refine lv_iload_n (pc := 1) hx hb dX9_read_1 rfl (lv_at hl 1 rfl) ?_
  refine mSbp (pc := 2) (x := x0) (g := g0) [.int a1] hF (kX9_isPartition x0 g0 a1 h) (cwX9_X9_isPartition hts ⟨Nat.le_of_ble_eq_true rfl, Nat.le_of_ble_eq_true rfl⟩) hP hD hS rfl rfl hl.1 (Nat.le_of_ble_eq_true rfl) dX9_read_2 ⟨Nat.le_refl _, Nat.le_refl _⟩ (fun r_2 H locs hb_2 h hP hD hS => ?_)
  refine lv_if_eq (pc := 5) (tgt := 12) hx hb dX9_read_5 (by decide) (fun c_5 => ?_) (fun c_5 => ?_)
  · have h := h.1 c_5
    refine lv_iconst (pc := 12) (v := 1) hx hb dX9_read_12 (by decide) ?_
    exact J13 x0 g0 a1 1 h _ _ _ hP hD hS (lv_sub hl [0, 1] rfl)
  · have h := h.2 c_5
    refine lv_iconst (pc := 8) (v := 0) hx hb dX9_read_8 (by decide) ?_
    refine lv_goto (pc := 9) (tgt := 13) hx hb dX9_read_9 (by decide) ?_
    exact J13 x0 g0 a1 0 h _ _ _ hP hD hS (lv_sub hl [0, 1] rfl)

def wX9_tooLate (x : Nat → Int32) (g : Nat → Nat → Int32) (Φ : Int32 → (Nat → Int32) → (Nat → Nat → Int32) → Prop) : Prop := (vp_in 6 7 ∧ (Φ ((g 26) (6 : Int32).toNatClampNeg) (va_up x 44 0) g))
set_option maxRecDepth 100000 in
set_option maxHeartbeats 4000000 in
theorem kX9_tooLate {l : Launch} {D : va_G} {E : va_W} {o : Nat} {ad : Nat → Nat} {cI cZ : ClassId} {sz : Nat} (x0 : Nat → Int32) (g0 : Nat → Nat → Int32) {Φ : Int32 → (Nat → Int32) → (Nat → Nat → Int32) → Prop} (h : wX9_tooLate x0 g0 Φ) : Met l yX9_tooLate (zws yX9_tooLate cX9_tooLate 1 (some .int)) { frames := 0, cells := 0, slots := 0, locals := 0 } (zPc D (mT cI cZ) zX0 (mW E o ad cI cZ (x0, g0)) [.ref o] sz) (zQi D (mT cI cZ) (mW E o ad cI cZ) (fun r u => Φ r u.1 u.2) (mW E o ad cI cZ (x0, g0)) sz) 0 0 (va_A (mW E o ad cI cZ (x0, g0)) sz) := by
  refine zMet (by decide) (Nat.le_of_ble_eq_true rfl) ?_
  intro p e s m args below meth c A hx hb hr hml hown hts hlocks hsz hAe hA hS hP hK hD hX ls hl
  subst hsz
  have hF : zFx p s m args c cX9_tooLate RX9 A D (mT cI cZ) zX0 1 := ⟨hx, hb, hml, hown, hts, hA, hK, zX0_cl, hX⟩
  have hl : lv_has ls 1 [(0, .ref o)] := hl
  unfold wX9_tooLate at h
  refine lv_aload_n (pc := 0) hx hb dX9_tooLate_0 rfl (lv_at hl 0 rfl) ?_
  refine lv_iconst (pc := 1) (v := 0) hx hb dX9_tooLate_1 (by decide) ?_
  refine mP_44 (pc := 2) hF hP hD hS dX9_tooLate_2 (fun H locs hP hD hS => ?_)
  refine lv_aload_n (pc := 5) hx hb dX9_tooLate_5 rfl (lv_at hl 0 rfl) ?_
  refine mG_26 (pc := 6) hF hP dX9_tooLate_6 ?_
  refine lv_bipush (pc := 9) (v := 6) hx hb dX9_tooLate_9 (by decide) ?_
  obtain ⟨hi_11, h⟩ := h
  refine mL_26 (pc := 11) hF hP (f := (g0 26)) rfl hi_11 dX9_tooLate_11 ?_
  exact zirV (pc := 12) (Wd := mW E o ad cI cZ) (u := ((va_up x0 44 0), g0)) hx hb hr hlocks hAe hK hP hD hS rfl dX9_tooLate_12 (Nat.le_refl _) (Nat.le_refl _) h

def wX9_windows (x : Nat → Int32) (g : Nat → Nat → Int32) (Φ : Int32 → (Nat → Int32) → (Nat → Nat → Int32) → Prop) : Prop := (vp_in 6 7 ∧ (Φ ((g 28) (6 : Int32).toNatClampNeg) (va_up x 44 0) g))
set_option maxRecDepth 100000 in
set_option maxHeartbeats 4000000 in
theorem kX9_windows {l : Launch} {D : va_G} {E : va_W} {o : Nat} {ad : Nat → Nat} {cI cZ : ClassId} {sz : Nat} (x0 : Nat → Int32) (g0 : Nat → Nat → Int32) {Φ : Int32 → (Nat → Int32) → (Nat → Nat → Int32) → Prop} (h : wX9_windows x0 g0 Φ) : Met l yX9_windows (zws yX9_windows cX9_windows 1 (some .int)) { frames := 0, cells := 0, slots := 0, locals := 0 } (zPc D (mT cI cZ) zX0 (mW E o ad cI cZ (x0, g0)) [.ref o] sz) (zQi D (mT cI cZ) (mW E o ad cI cZ) (fun r u => Φ r u.1 u.2) (mW E o ad cI cZ (x0, g0)) sz) 0 0 (va_A (mW E o ad cI cZ (x0, g0)) sz) := by
  refine zMet (by decide) (Nat.le_of_ble_eq_true rfl) ?_
  intro p e s m args below meth c A hx hb hr hml hown hts hlocks hsz hAe hA hS hP hK hD hX ls hl
  subst hsz
  have hF : zFx p s m args c cX9_windows RX9 A D (mT cI cZ) zX0 1 := ⟨hx, hb, hml, hown, hts, hA, hK, zX0_cl, hX⟩
  have hl : lv_has ls 1 [(0, .ref o)] := hl
  unfold wX9_windows at h
  refine lv_aload_n (pc := 0) hx hb dX9_windows_0 rfl (lv_at hl 0 rfl) ?_
  refine lv_iconst (pc := 1) (v := 0) hx hb dX9_windows_1 (by decide) ?_
  refine mP_44 (pc := 2) hF hP hD hS dX9_windows_2 (fun H locs hP hD hS => ?_)
  refine lv_aload_n (pc := 5) hx hb dX9_windows_5 rfl (lv_at hl 0 rfl) ?_
  refine mG_28 (pc := 6) hF hP dX9_windows_6 ?_
  refine lv_bipush (pc := 9) (v := 6) hx hb dX9_windows_9 (by decide) ?_
  obtain ⟨hi_11, h⟩ := h
  refine mL_28 (pc := 11) hF hP (f := (g0 28)) rfl hi_11 dX9_windows_11 ?_
  exact zirV (pc := 12) (Wd := mW E o ad cI cZ) (u := ((va_up x0 44 0), g0)) hx hb hr hlocks hAe hK hP hD hS rfl dX9_windows_12 (Nat.le_refl _) (Nat.le_refl _) h

def jX9_window_36 (Φ : Int32 → (Nat → Int32) → (Nat → Nat → Int32) → Prop) (x : Nat → Int32) (g : Nat → Nat → Int32) (v1 v2 s1 : Int32) : Prop := (wX9_can x g s1 (fun r_36 x_36 g_36 => ((r_36 = 0 → (Φ 0 x_36 g_36)) ∧ (¬ r_36 = 0 → (wX9_placeOf v1 (fun r_45 => ((v2 = 0 → (vp_in r_45 8400 ∧ (Φ ((g_36 29) r_45.toNatClampNeg) x_36 g_36))) ∧ (¬ v2 = 0 → ((v2 = 1 → (vp_in r_45 8400 ∧ (Φ ((g_36 30) r_45.toNatClampNeg) x_36 g_36))) ∧ (¬ v2 = 1 → ((v2 = 2 → (vp_in r_45 8400 ∧ (Φ ((g_36 31) r_45.toNatClampNeg) x_36 g_36))) ∧ (¬ v2 = 2 → ((v2 = 3 → (vp_in r_45 8400 ∧ (Φ ((g_36 32) r_45.toNatClampNeg) x_36 g_36))) ∧ (¬ v2 = 3 → (vp_in r_45 8400 ∧ ((((g_36 33) r_45.toNatClampNeg) = 0 → (Φ 0 x_36 g_36)) ∧ (¬ ((g_36 33) r_45.toNatClampNeg) = 0 → (Φ 1 x_36 g_36))))))))))))))))))
def wX9_window (x : Nat → Int32) (g : Nat → Nat → Int32) (a1 a2 : Int32) (Φ : Int32 → (Nat → Int32) → (Nat → Nat → Int32) → Prop) : Prop := (vp_in 6 7 ∧ (wX9_isIn a1 0 (((g 28) (6 : Int32).toNatClampNeg) - 1) (fun r_12 => ((r_12 = 0 → (jX9_window_36 Φ x g a1 a2 1)) ∧ (¬ r_12 = 0 → (wX9_isIn a2 0 4 (fun r_25 => ((r_25 = 0 → (jX9_window_36 Φ x g a1 a2 2)) ∧ (¬ r_25 = 0 → (jX9_window_36 Φ x g a1 a2 0))))))))))
set_option maxRecDepth 100000 in
set_option maxHeartbeats 4000000 in
theorem kX9_window {l : Launch} {D : va_G} {E : va_W} {o : Nat} {ad : Nat → Nat} {cI cZ : ClassId} {sz : Nat} (x0 : Nat → Int32) (g0 : Nat → Nat → Int32) (a1 a2 : Int32) {Φ : Int32 → (Nat → Int32) → (Nat → Nat → Int32) → Prop} (h : wX9_window x0 g0 a1 a2 Φ) : Met l yX9_window (zws yX9_window cX9_window 4 (some .int)) { frames := 1, cells := 0, slots := 0, locals := 22 } (zPc D (mT cI cZ) zX0 (mW E o ad cI cZ (x0, g0)) [.ref o, .int a1, .int a2] sz) (zQi D (mT cI cZ) (mW E o ad cI cZ) (fun r u => Φ r u.1 u.2) (mW E o ad cI cZ (x0, g0)) sz) 0 0 (va_A (mW E o ad cI cZ (x0, g0)) sz) := by
  refine zMet (by decide) (Nat.le_of_ble_eq_true rfl) ?_
  intro p e s m args below meth c A hx hb hr hml hown hts hlocks hsz hAe hA hS hP hK hD hX ls hl
  subst hsz
  have hF : zFx p s m args c cX9_window RX9 A D (mT cI cZ) zX0 4 := ⟨hx, hb, hml, hown, hts, hA, hK, zX0_cl, hX⟩
  have hl : lv_has ls 4 [(0, .ref o), (1, .int a1), (2, .int a2)] := hl
  have J36 : ∀ (x : Nat → Int32) (g : Nat → Nat → Int32) (v1 v2 s1 : Int32), jX9_window_36 Φ x g v1 v2 s1 → ∀ (H : Heap) (locs : List Loc) (ls : Array Slot), va_P D vwCl (mW E o ad cI cZ (x, g)) H → va_D A (mW E o ad cI cZ (x, g)) → va_S A s.heap H locs → lv_has ls 4 [(0, .ref o), (1, .int v1), (2, .int v2)] → W p l e { frames := 1, cells := 0, slots := 0, locals := 22 } s m args below meth c H locs 0 0 (MQ below (zQi D (mT cI cZ) (mW E o ad cI cZ) (fun r u => Φ r u.1 u.2) (mW E o ad cI cZ (x0, g0)) s.heap.size) args s 0 0 (va_A (mW E o ad cI cZ (x0, g0)) s.heap.size)) (F0 m 36 ls [.int s1, .ref o]) := by
    intro x g v1 v2 s1 h H locs ls hP hD hS hl
    unfold jX9_window_36 at h
    refine mVb (pc := 36) (x := x) (g := g) [.int s1] hF (kX9_can x g s1 h) (cwX9_X9_can hts ⟨Nat.le_of_ble_eq_true rfl, Nat.le_of_ble_eq_true rfl⟩) hP hD hS rfl rfl hl.1 (Nat.le_of_ble_eq_true rfl) dX9_window_36 ⟨Nat.le_refl _, Nat.le_refl _⟩ (fun r_36 x_36 g_36 H locs hb_36 h hP hD hS => ?_)
    refine lv_if_ne (pc := 39) (tgt := 44) hx hb dX9_window_39 (by decide) (fun c_39 => ?_) (fun c_39 => ?_)
    · have h := h.2 c_39
      refine lv_iload_n (pc := 44) hx hb dX9_window_44 rfl (lv_at hl 1 rfl) ?_
      refine mSip (pc := 45) (x := x_36) (g := g_36) [.int v1] hF (kX9_placeOf x_36 g_36 v1 h) (cwX9_X9_placeOf hts ⟨Nat.le_of_ble_eq_true rfl, Nat.le_of_ble_eq_true rfl⟩) hP hD hS rfl rfl hl.1 (Nat.le_of_ble_eq_true rfl) dX9_window_45 ⟨Nat.le_refl _, Nat.le_refl _⟩ (fun r_45 H locs h hP hD hS => ?_)
      refine lv_istore_n (pc := 48) (lv' := [(3, .int r_45), (0, .ref o), (1, .int v1), (2, .int v2)]) hx hb dX9_window_48 rfl hl (by decide) rfl (fun ls hl => ?_)
      refine lv_iload_n (pc := 49) hx hb dX9_window_49 rfl (lv_at hl 3 rfl) ?_
      refine lv_if_ne (pc := 50) (tgt := 62) hx hb dX9_window_50 (by decide) (fun c_50 => ?_) (fun c_50 => ?_)
      · have h := h.2 c_50
        refine lv_iload_n (pc := 62) hx hb dX9_window_62 rfl (lv_at hl 3 rfl) ?_
        refine lv_iconst (pc := 63) (v := 1) hx hb dX9_window_63 (by decide) ?_
        refine lv_icmp_ne (pc := 64) (tgt := 76) hx hb dX9_window_64 (by decide) (fun c_64 => ?_) (fun c_64 => ?_)
        · have h := h.2 c_64
          refine lv_iload_n (pc := 76) hx hb dX9_window_76 rfl (lv_at hl 3 rfl) ?_
          refine lv_iconst (pc := 77) (v := 2) hx hb dX9_window_77 (by decide) ?_
          refine lv_icmp_ne (pc := 78) (tgt := 90) hx hb dX9_window_78 (by decide) (fun c_78 => ?_) (fun c_78 => ?_)
          · have h := h.2 c_78
            refine lv_iload_n (pc := 90) hx hb dX9_window_90 rfl (lv_at hl 3 rfl) ?_
            refine lv_iconst (pc := 91) (v := 3) hx hb dX9_window_91 (by decide) ?_
            refine lv_icmp_ne (pc := 92) (tgt := 104) hx hb dX9_window_92 (by decide) (fun c_92 => ?_) (fun c_92 => ?_)
            · have h := h.2 c_92
              refine lv_aload_n (pc := 104) hx hb dX9_window_104 rfl (lv_at hl 1 rfl) ?_
              refine mG_33 (pc := 105) hF hP dX9_window_105 ?_
              refine lv_iload_n (pc := 108) hx hb dX9_window_108 rfl (lv_at hl 0 rfl) ?_
              obtain ⟨hi_109, h⟩ := h
              refine mL_33 (pc := 109) hF hP (f := (g_36 33)) rfl hi_109 dX9_window_109 ?_
              refine lv_if_eq (pc := 110) (tgt := 117) hx hb dX9_window_110 (by decide) (fun c_110 => ?_) (fun c_110 => ?_)
              · have h := h.1 c_110
                refine lv_iconst (pc := 117) (v := 0) hx hb dX9_window_117 (by decide) ?_
                exact zirV (pc := 118) (Wd := mW E o ad cI cZ) (u := (x_36, g_36)) hx hb hr hlocks hAe hK hP hD hS rfl dX9_window_118 (Nat.le_refl _) (Nat.le_refl _) h
              · have h := h.2 c_110
                refine lv_iconst (pc := 113) (v := 1) hx hb dX9_window_113 (by decide) ?_
                refine lv_goto (pc := 114) (tgt := 118) hx hb dX9_window_114 (by decide) ?_
                exact zirV (pc := 118) (Wd := mW E o ad cI cZ) (u := (x_36, g_36)) hx hb hr hlocks hAe hK hP hD hS rfl dX9_window_118 (Nat.le_refl _) (Nat.le_refl _) h
            · have h := h.1 c_92
              refine lv_aload_n (pc := 95) hx hb dX9_window_95 rfl (lv_at hl 1 rfl) ?_
              refine mG_32 (pc := 96) hF hP dX9_window_96 ?_
              refine lv_iload_n (pc := 99) hx hb dX9_window_99 rfl (lv_at hl 0 rfl) ?_
              obtain ⟨hi_100, h⟩ := h
              refine mL_32 (pc := 100) hF hP (f := (g_36 32)) rfl hi_100 dX9_window_100 ?_
              refine lv_goto (pc := 101) (tgt := 118) hx hb dX9_window_101 (by decide) ?_
              exact zirV (pc := 118) (Wd := mW E o ad cI cZ) (u := (x_36, g_36)) hx hb hr hlocks hAe hK hP hD hS rfl dX9_window_118 (Nat.le_refl _) (Nat.le_refl _) h
          · have h := h.1 c_78
            refine lv_aload_n (pc := 81) hx hb dX9_window_81 rfl (lv_at hl 1 rfl) ?_
            refine mG_31 (pc := 82) hF hP dX9_window_82 ?_
            refine lv_iload_n (pc := 85) hx hb dX9_window_85 rfl (lv_at hl 0 rfl) ?_
            obtain ⟨hi_86, h⟩ := h
            refine mL_31 (pc := 86) hF hP (f := (g_36 31)) rfl hi_86 dX9_window_86 ?_
            refine lv_goto (pc := 87) (tgt := 118) hx hb dX9_window_87 (by decide) ?_
            exact zirV (pc := 118) (Wd := mW E o ad cI cZ) (u := (x_36, g_36)) hx hb hr hlocks hAe hK hP hD hS rfl dX9_window_118 (Nat.le_refl _) (Nat.le_refl _) h
        · have h := h.1 c_64
          refine lv_aload_n (pc := 67) hx hb dX9_window_67 rfl (lv_at hl 1 rfl) ?_
          refine mG_30 (pc := 68) hF hP dX9_window_68 ?_
          refine lv_iload_n (pc := 71) hx hb dX9_window_71 rfl (lv_at hl 0 rfl) ?_
          obtain ⟨hi_72, h⟩ := h
          refine mL_30 (pc := 72) hF hP (f := (g_36 30)) rfl hi_72 dX9_window_72 ?_
          refine lv_goto (pc := 73) (tgt := 118) hx hb dX9_window_73 (by decide) ?_
          exact zirV (pc := 118) (Wd := mW E o ad cI cZ) (u := (x_36, g_36)) hx hb hr hlocks hAe hK hP hD hS rfl dX9_window_118 (Nat.le_refl _) (Nat.le_refl _) h
      · have h := h.1 c_50
        refine lv_aload_n (pc := 53) hx hb dX9_window_53 rfl (lv_at hl 1 rfl) ?_
        refine mG_29 (pc := 54) hF hP dX9_window_54 ?_
        refine lv_iload_n (pc := 57) hx hb dX9_window_57 rfl (lv_at hl 0 rfl) ?_
        obtain ⟨hi_58, h⟩ := h
        refine mL_29 (pc := 58) hF hP (f := (g_36 29)) rfl hi_58 dX9_window_58 ?_
        refine lv_goto (pc := 59) (tgt := 118) hx hb dX9_window_59 (by decide) ?_
        exact zirV (pc := 118) (Wd := mW E o ad cI cZ) (u := (x_36, g_36)) hx hb hr hlocks hAe hK hP hD hS rfl dX9_window_118 (Nat.le_refl _) (Nat.le_refl _) h
    · have h := h.1 c_39
      refine lv_iconst (pc := 42) (v := 0) hx hb dX9_window_42 (by decide) ?_
      exact zirV (pc := 43) (Wd := mW E o ad cI cZ) (u := (x_36, g_36)) hx hb hr hlocks hAe hK hP hD hS rfl dX9_window_43 (Nat.le_refl _) (Nat.le_refl _) h
  unfold wX9_window at h
  refine lv_aload_n (pc := 0) hx hb dX9_window_0 rfl (lv_at hl 0 rfl) ?_
  refine lv_iload_n (pc := 1) hx hb dX9_window_1 rfl (lv_at hl 1 rfl) ?_
  refine lv_iconst (pc := 2) (v := 0) hx hb dX9_window_2 (by decide) ?_
  refine lv_aload_n (pc := 3) hx hb dX9_window_3 rfl (lv_at hl 0 rfl) ?_
  refine mG_28 (pc := 4) hF hP dX9_window_4 ?_
  refine lv_bipush (pc := 7) (v := 6) hx hb dX9_window_7 (by decide) ?_
  obtain ⟨hi_9, h⟩ := h
  refine mL_28 (pc := 9) hF hP (f := (g0 28)) rfl hi_9 dX9_window_9 ?_
  refine lv_iconst (pc := 10) (v := 1) hx hb dX9_window_10 (by decide) ?_
  refine lv_isub (pc := 11) hx hb dX9_window_11 ?_
  refine mSbp (pc := 12) (x := x0) (g := g0) [.int a1, .int 0, .int (((g0 28) (6 : Int32).toNatClampNeg) - 1)] hF (kX9_isIn x0 g0 a1 0 (((g0 28) (6 : Int32).toNatClampNeg) - 1) h) (cwX9_X9_isIn hts ⟨Nat.le_of_ble_eq_true rfl, Nat.le_of_ble_eq_true rfl⟩) hP hD hS rfl rfl hl.1 (Nat.le_of_ble_eq_true rfl) dX9_window_12 ⟨Nat.le_refl _, Nat.le_refl _⟩ (fun r_12 H locs hb_12 h hP hD hS => ?_)
  refine lv_if_ne (pc := 15) (tgt := 22) hx hb dX9_window_15 (by decide) (fun c_15 => ?_) (fun c_15 => ?_)
  · have h := h.2 c_15
    refine lv_iload_n (pc := 22) hx hb dX9_window_22 rfl (lv_at hl 2 rfl) ?_
    refine lv_iconst (pc := 23) (v := 0) hx hb dX9_window_23 (by decide) ?_
    refine lv_iconst (pc := 24) (v := 4) hx hb dX9_window_24 (by decide) ?_
    refine mSbp (pc := 25) (x := x0) (g := g0) [.int a2, .int 0, .int 4] hF (kX9_isIn x0 g0 a2 0 4 h) (cwX9_X9_isIn hts ⟨Nat.le_of_ble_eq_true rfl, Nat.le_of_ble_eq_true rfl⟩) hP hD hS rfl rfl hl.1 (Nat.le_of_ble_eq_true rfl) dX9_window_25 ⟨Nat.le_refl _, Nat.le_refl _⟩ (fun r_25 H locs hb_25 h hP hD hS => ?_)
    refine lv_if_eq (pc := 28) (tgt := 35) hx hb dX9_window_28 (by decide) (fun c_28 => ?_) (fun c_28 => ?_)
    · have h := h.1 c_28
      refine lv_iconst (pc := 35) (v := 2) hx hb dX9_window_35 (by decide) ?_
      exact J36 x0 g0 a1 a2 2 h _ _ _ hP hD hS (lv_sub hl [0, 1, 2] rfl)
    · have h := h.2 c_28
      refine lv_iconst (pc := 31) (v := 0) hx hb dX9_window_31 (by decide) ?_
      refine lv_goto (pc := 32) (tgt := 36) hx hb dX9_window_32 (by decide) ?_
      exact J36 x0 g0 a1 a2 0 h _ _ _ hP hD hS (lv_sub hl [0, 1, 2] rfl)
  · have h := h.1 c_15
    refine lv_iconst (pc := 18) (v := 1) hx hb dX9_window_18 (by decide) ?_
    refine lv_goto (pc := 19) (tgt := 36) hx hb dX9_window_19 (by decide) ?_
    exact J36 x0 g0 a1 a2 1 h _ _ _ hP hD hS (lv_sub hl [0, 1, 2] rfl)

def wX9_results (x : Nat → Int32) (g : Nat → Nat → Int32) (Φ : Int32 → (Nat → Int32) → (Nat → Nat → Int32) → Prop) : Prop := (vp_in 6 7 ∧ (Φ ((g 27) (6 : Int32).toNatClampNeg) (va_up x 44 0) g))
set_option maxRecDepth 100000 in
set_option maxHeartbeats 4000000 in
theorem kX9_results {l : Launch} {D : va_G} {E : va_W} {o : Nat} {ad : Nat → Nat} {cI cZ : ClassId} {sz : Nat} (x0 : Nat → Int32) (g0 : Nat → Nat → Int32) {Φ : Int32 → (Nat → Int32) → (Nat → Nat → Int32) → Prop} (h : wX9_results x0 g0 Φ) : Met l yX9_results (zws yX9_results cX9_results 1 (some .int)) { frames := 0, cells := 0, slots := 0, locals := 0 } (zPc D (mT cI cZ) zX0 (mW E o ad cI cZ (x0, g0)) [.ref o] sz) (zQi D (mT cI cZ) (mW E o ad cI cZ) (fun r u => Φ r u.1 u.2) (mW E o ad cI cZ (x0, g0)) sz) 0 0 (va_A (mW E o ad cI cZ (x0, g0)) sz) := by
  refine zMet (by decide) (Nat.le_of_ble_eq_true rfl) ?_
  intro p e s m args below meth c A hx hb hr hml hown hts hlocks hsz hAe hA hS hP hK hD hX ls hl
  subst hsz
  have hF : zFx p s m args c cX9_results RX9 A D (mT cI cZ) zX0 1 := ⟨hx, hb, hml, hown, hts, hA, hK, zX0_cl, hX⟩
  have hl : lv_has ls 1 [(0, .ref o)] := hl
  unfold wX9_results at h
  refine lv_aload_n (pc := 0) hx hb dX9_results_0 rfl (lv_at hl 0 rfl) ?_
  refine lv_iconst (pc := 1) (v := 0) hx hb dX9_results_1 (by decide) ?_
  refine mP_44 (pc := 2) hF hP hD hS dX9_results_2 (fun H locs hP hD hS => ?_)
  refine lv_aload_n (pc := 5) hx hb dX9_results_5 rfl (lv_at hl 0 rfl) ?_
  refine mG_27 (pc := 6) hF hP dX9_results_6 ?_
  refine lv_bipush (pc := 9) (v := 6) hx hb dX9_results_9 (by decide) ?_
  obtain ⟨hi_11, h⟩ := h
  refine mL_27 (pc := 11) hF hP (f := (g0 27)) rfl hi_11 dX9_results_11 ?_
  exact zirV (pc := 12) (Wd := mW E o ad cI cZ) (u := ((va_up x0 44 0), g0)) hx hb hr hlocks hAe hK hP hD hS rfl dX9_results_12 (Nat.le_refl _) (Nat.le_refl _) h

def wX9_committed (x : Nat → Int32) (g : Nat → Nat → Int32) (Φ : Int32 → (Nat → Int32) → (Nat → Nat → Int32) → Prop) : Prop := (vp_in 5 7 ∧ (Φ ((g 27) (5 : Int32).toNatClampNeg) (va_up x 44 0) g))
set_option maxRecDepth 100000 in
set_option maxHeartbeats 4000000 in
theorem kX9_committed {l : Launch} {D : va_G} {E : va_W} {o : Nat} {ad : Nat → Nat} {cI cZ : ClassId} {sz : Nat} (x0 : Nat → Int32) (g0 : Nat → Nat → Int32) {Φ : Int32 → (Nat → Int32) → (Nat → Nat → Int32) → Prop} (h : wX9_committed x0 g0 Φ) : Met l yX9_committed (zws yX9_committed cX9_committed 1 (some .int)) { frames := 0, cells := 0, slots := 0, locals := 0 } (zPc D (mT cI cZ) zX0 (mW E o ad cI cZ (x0, g0)) [.ref o] sz) (zQi D (mT cI cZ) (mW E o ad cI cZ) (fun r u => Φ r u.1 u.2) (mW E o ad cI cZ (x0, g0)) sz) 0 0 (va_A (mW E o ad cI cZ (x0, g0)) sz) := by
  refine zMet (by decide) (Nat.le_of_ble_eq_true rfl) ?_
  intro p e s m args below meth c A hx hb hr hml hown hts hlocks hsz hAe hA hS hP hK hD hX ls hl
  subst hsz
  have hF : zFx p s m args c cX9_committed RX9 A D (mT cI cZ) zX0 1 := ⟨hx, hb, hml, hown, hts, hA, hK, zX0_cl, hX⟩
  have hl : lv_has ls 1 [(0, .ref o)] := hl
  unfold wX9_committed at h
  refine lv_aload_n (pc := 0) hx hb dX9_committed_0 rfl (lv_at hl 0 rfl) ?_
  refine lv_iconst (pc := 1) (v := 0) hx hb dX9_committed_1 (by decide) ?_
  refine mP_44 (pc := 2) hF hP hD hS dX9_committed_2 (fun H locs hP hD hS => ?_)
  refine lv_aload_n (pc := 5) hx hb dX9_committed_5 rfl (lv_at hl 0 rfl) ?_
  refine mG_27 (pc := 6) hF hP dX9_committed_6 ?_
  refine lv_iconst (pc := 9) (v := 5) hx hb dX9_committed_9 (by decide) ?_
  obtain ⟨hi_10, h⟩ := h
  refine mL_27 (pc := 10) hF hP (f := (g0 27)) rfl hi_10 dX9_committed_10 ?_
  exact zirV (pc := 11) (Wd := mW E o ad cI cZ) (u := ((va_up x0 44 0), g0)) hx hb hr hlocks hAe hK hP hD hS rfl dX9_committed_11 (Nat.le_refl _) (Nat.le_refl _) h

def jX9_result_36 (Φ : Int32 → (Nat → Int32) → (Nat → Nat → Int32) → Prop) (x : Nat → Int32) (g : Nat → Nat → Int32) (v1 v2 s1 : Int32) : Prop := (wX9_can x g s1 (fun r_36 x_36 g_36 => ((r_36 = 0 → (Φ 0 x_36 g_36)) ∧ (¬ r_36 = 0 → ((v2 = 0 → (vp_in v1 8000 ∧ (Φ ((g_36 38) v1.toNatClampNeg) x_36 g_36))) ∧ (¬ v2 = 0 → ((v2 = 1 → (vp_in v1 8000 ∧ (Φ ((g_36 39) v1.toNatClampNeg) x_36 g_36))) ∧ (¬ v2 = 1 → ((v2 = 2 → (vp_in v1 8000 ∧ (Φ ((g_36 40) v1.toNatClampNeg) x_36 g_36))) ∧ (¬ v2 = 2 → ((v2 = 3 → (vp_in v1 8000 ∧ (Φ ((g_36 41) v1.toNatClampNeg) x_36 g_36))) ∧ (¬ v2 = 3 → (vp_in v1 8000 ∧ (Φ ((g_36 42) v1.toNatClampNeg) x_36 g_36))))))))))))))
def wX9_result (x : Nat → Int32) (g : Nat → Nat → Int32) (a1 a2 : Int32) (Φ : Int32 → (Nat → Int32) → (Nat → Nat → Int32) → Prop) : Prop := (vp_in 6 7 ∧ (wX9_isIn a1 0 (((g 27) (6 : Int32).toNatClampNeg) - 1) (fun r_12 => ((r_12 = 0 → (jX9_result_36 Φ x g a1 a2 1)) ∧ (¬ r_12 = 0 → (wX9_isIn a2 0 4 (fun r_25 => ((r_25 = 0 → (jX9_result_36 Φ x g a1 a2 2)) ∧ (¬ r_25 = 0 → (jX9_result_36 Φ x g a1 a2 0))))))))))
set_option maxRecDepth 100000 in
set_option maxHeartbeats 4000000 in
theorem kX9_result {l : Launch} {D : va_G} {E : va_W} {o : Nat} {ad : Nat → Nat} {cI cZ : ClassId} {sz : Nat} (x0 : Nat → Int32) (g0 : Nat → Nat → Int32) (a1 a2 : Int32) {Φ : Int32 → (Nat → Int32) → (Nat → Nat → Int32) → Prop} (h : wX9_result x0 g0 a1 a2 Φ) : Met l yX9_result (zws yX9_result cX9_result 3 (some .int)) { frames := 1, cells := 0, slots := 0, locals := 22 } (zPc D (mT cI cZ) zX0 (mW E o ad cI cZ (x0, g0)) [.ref o, .int a1, .int a2] sz) (zQi D (mT cI cZ) (mW E o ad cI cZ) (fun r u => Φ r u.1 u.2) (mW E o ad cI cZ (x0, g0)) sz) 0 0 (va_A (mW E o ad cI cZ (x0, g0)) sz) := by
  refine zMet (by decide) (Nat.le_of_ble_eq_true rfl) ?_
  intro p e s m args below meth c A hx hb hr hml hown hts hlocks hsz hAe hA hS hP hK hD hX ls hl
  subst hsz
  have hF : zFx p s m args c cX9_result RX9 A D (mT cI cZ) zX0 3 := ⟨hx, hb, hml, hown, hts, hA, hK, zX0_cl, hX⟩
  have hl : lv_has ls 3 [(0, .ref o), (1, .int a1), (2, .int a2)] := hl
  have J36 : ∀ (x : Nat → Int32) (g : Nat → Nat → Int32) (v1 v2 s1 : Int32), jX9_result_36 Φ x g v1 v2 s1 → ∀ (H : Heap) (locs : List Loc) (ls : Array Slot), va_P D vwCl (mW E o ad cI cZ (x, g)) H → va_D A (mW E o ad cI cZ (x, g)) → va_S A s.heap H locs → lv_has ls 3 [(0, .ref o), (1, .int v1), (2, .int v2)] → W p l e { frames := 1, cells := 0, slots := 0, locals := 22 } s m args below meth c H locs 0 0 (MQ below (zQi D (mT cI cZ) (mW E o ad cI cZ) (fun r u => Φ r u.1 u.2) (mW E o ad cI cZ (x0, g0)) s.heap.size) args s 0 0 (va_A (mW E o ad cI cZ (x0, g0)) s.heap.size)) (F0 m 36 ls [.int s1, .ref o]) := by
    intro x g v1 v2 s1 h H locs ls hP hD hS hl
    unfold jX9_result_36 at h
    refine mVb (pc := 36) (x := x) (g := g) [.int s1] hF (kX9_can x g s1 h) (cwX9_X9_can hts ⟨Nat.le_of_ble_eq_true rfl, Nat.le_of_ble_eq_true rfl⟩) hP hD hS rfl rfl hl.1 (Nat.le_of_ble_eq_true rfl) dX9_result_36 ⟨Nat.le_refl _, Nat.le_refl _⟩ (fun r_36 x_36 g_36 H locs hb_36 h hP hD hS => ?_)
    refine lv_if_ne (pc := 39) (tgt := 44) hx hb dX9_result_39 (by decide) (fun c_39 => ?_) (fun c_39 => ?_)
    · have h := h.2 c_39
      refine lv_iload_n (pc := 44) hx hb dX9_result_44 rfl (lv_at hl 2 rfl) ?_
      refine lv_if_ne (pc := 45) (tgt := 57) hx hb dX9_result_45 (by decide) (fun c_45 => ?_) (fun c_45 => ?_)
      · have h := h.2 c_45
        refine lv_iload_n (pc := 57) hx hb dX9_result_57 rfl (lv_at hl 2 rfl) ?_
        refine lv_iconst (pc := 58) (v := 1) hx hb dX9_result_58 (by decide) ?_
        refine lv_icmp_ne (pc := 59) (tgt := 71) hx hb dX9_result_59 (by decide) (fun c_59 => ?_) (fun c_59 => ?_)
        · have h := h.2 c_59
          refine lv_iload_n (pc := 71) hx hb dX9_result_71 rfl (lv_at hl 2 rfl) ?_
          refine lv_iconst (pc := 72) (v := 2) hx hb dX9_result_72 (by decide) ?_
          refine lv_icmp_ne (pc := 73) (tgt := 85) hx hb dX9_result_73 (by decide) (fun c_73 => ?_) (fun c_73 => ?_)
          · have h := h.2 c_73
            refine lv_iload_n (pc := 85) hx hb dX9_result_85 rfl (lv_at hl 2 rfl) ?_
            refine lv_iconst (pc := 86) (v := 3) hx hb dX9_result_86 (by decide) ?_
            refine lv_icmp_ne (pc := 87) (tgt := 99) hx hb dX9_result_87 (by decide) (fun c_87 => ?_) (fun c_87 => ?_)
            · have h := h.2 c_87
              refine lv_aload_n (pc := 99) hx hb dX9_result_99 rfl (lv_at hl 0 rfl) ?_
              refine mG_42 (pc := 100) hF hP dX9_result_100 ?_
              refine lv_iload_n (pc := 103) hx hb dX9_result_103 rfl (lv_at hl 1 rfl) ?_
              obtain ⟨hi_104, h⟩ := h
              refine mL_42 (pc := 104) hF hP (f := (g_36 42)) rfl hi_104 dX9_result_104 ?_
              exact zirV (pc := 105) (Wd := mW E o ad cI cZ) (u := (x_36, g_36)) hx hb hr hlocks hAe hK hP hD hS rfl dX9_result_105 (Nat.le_refl _) (Nat.le_refl _) h
            · have h := h.1 c_87
              refine lv_aload_n (pc := 90) hx hb dX9_result_90 rfl (lv_at hl 0 rfl) ?_
              refine mG_41 (pc := 91) hF hP dX9_result_91 ?_
              refine lv_iload_n (pc := 94) hx hb dX9_result_94 rfl (lv_at hl 1 rfl) ?_
              obtain ⟨hi_95, h⟩ := h
              refine mL_41 (pc := 95) hF hP (f := (g_36 41)) rfl hi_95 dX9_result_95 ?_
              refine lv_goto (pc := 96) (tgt := 105) hx hb dX9_result_96 (by decide) ?_
              exact zirV (pc := 105) (Wd := mW E o ad cI cZ) (u := (x_36, g_36)) hx hb hr hlocks hAe hK hP hD hS rfl dX9_result_105 (Nat.le_refl _) (Nat.le_refl _) h
          · have h := h.1 c_73
            refine lv_aload_n (pc := 76) hx hb dX9_result_76 rfl (lv_at hl 0 rfl) ?_
            refine mG_40 (pc := 77) hF hP dX9_result_77 ?_
            refine lv_iload_n (pc := 80) hx hb dX9_result_80 rfl (lv_at hl 1 rfl) ?_
            obtain ⟨hi_81, h⟩ := h
            refine mL_40 (pc := 81) hF hP (f := (g_36 40)) rfl hi_81 dX9_result_81 ?_
            refine lv_goto (pc := 82) (tgt := 105) hx hb dX9_result_82 (by decide) ?_
            exact zirV (pc := 105) (Wd := mW E o ad cI cZ) (u := (x_36, g_36)) hx hb hr hlocks hAe hK hP hD hS rfl dX9_result_105 (Nat.le_refl _) (Nat.le_refl _) h
        · have h := h.1 c_59
          refine lv_aload_n (pc := 62) hx hb dX9_result_62 rfl (lv_at hl 0 rfl) ?_
          refine mG_39 (pc := 63) hF hP dX9_result_63 ?_
          refine lv_iload_n (pc := 66) hx hb dX9_result_66 rfl (lv_at hl 1 rfl) ?_
          obtain ⟨hi_67, h⟩ := h
          refine mL_39 (pc := 67) hF hP (f := (g_36 39)) rfl hi_67 dX9_result_67 ?_
          refine lv_goto (pc := 68) (tgt := 105) hx hb dX9_result_68 (by decide) ?_
          exact zirV (pc := 105) (Wd := mW E o ad cI cZ) (u := (x_36, g_36)) hx hb hr hlocks hAe hK hP hD hS rfl dX9_result_105 (Nat.le_refl _) (Nat.le_refl _) h
      · have h := h.1 c_45
        refine lv_aload_n (pc := 48) hx hb dX9_result_48 rfl (lv_at hl 0 rfl) ?_
        refine mG_38 (pc := 49) hF hP dX9_result_49 ?_
        refine lv_iload_n (pc := 52) hx hb dX9_result_52 rfl (lv_at hl 1 rfl) ?_
        obtain ⟨hi_53, h⟩ := h
        refine mL_38 (pc := 53) hF hP (f := (g_36 38)) rfl hi_53 dX9_result_53 ?_
        refine lv_goto (pc := 54) (tgt := 105) hx hb dX9_result_54 (by decide) ?_
        exact zirV (pc := 105) (Wd := mW E o ad cI cZ) (u := (x_36, g_36)) hx hb hr hlocks hAe hK hP hD hS rfl dX9_result_105 (Nat.le_refl _) (Nat.le_refl _) h
    · have h := h.1 c_39
      refine lv_iconst (pc := 42) (v := 0) hx hb dX9_result_42 (by decide) ?_
      exact zirV (pc := 43) (Wd := mW E o ad cI cZ) (u := (x_36, g_36)) hx hb hr hlocks hAe hK hP hD hS rfl dX9_result_43 (Nat.le_refl _) (Nat.le_refl _) h
  unfold wX9_result at h
  refine lv_aload_n (pc := 0) hx hb dX9_result_0 rfl (lv_at hl 0 rfl) ?_
  refine lv_iload_n (pc := 1) hx hb dX9_result_1 rfl (lv_at hl 1 rfl) ?_
  refine lv_iconst (pc := 2) (v := 0) hx hb dX9_result_2 (by decide) ?_
  refine lv_aload_n (pc := 3) hx hb dX9_result_3 rfl (lv_at hl 0 rfl) ?_
  refine mG_27 (pc := 4) hF hP dX9_result_4 ?_
  refine lv_bipush (pc := 7) (v := 6) hx hb dX9_result_7 (by decide) ?_
  obtain ⟨hi_9, h⟩ := h
  refine mL_27 (pc := 9) hF hP (f := (g0 27)) rfl hi_9 dX9_result_9 ?_
  refine lv_iconst (pc := 10) (v := 1) hx hb dX9_result_10 (by decide) ?_
  refine lv_isub (pc := 11) hx hb dX9_result_11 ?_
  refine mSbp (pc := 12) (x := x0) (g := g0) [.int a1, .int 0, .int (((g0 27) (6 : Int32).toNatClampNeg) - 1)] hF (kX9_isIn x0 g0 a1 0 (((g0 27) (6 : Int32).toNatClampNeg) - 1) h) (cwX9_X9_isIn hts ⟨Nat.le_of_ble_eq_true rfl, Nat.le_of_ble_eq_true rfl⟩) hP hD hS rfl rfl hl.1 (Nat.le_of_ble_eq_true rfl) dX9_result_12 ⟨Nat.le_refl _, Nat.le_refl _⟩ (fun r_12 H locs hb_12 h hP hD hS => ?_)
  refine lv_if_ne (pc := 15) (tgt := 22) hx hb dX9_result_15 (by decide) (fun c_15 => ?_) (fun c_15 => ?_)
  · have h := h.2 c_15
    refine lv_iload_n (pc := 22) hx hb dX9_result_22 rfl (lv_at hl 2 rfl) ?_
    refine lv_iconst (pc := 23) (v := 0) hx hb dX9_result_23 (by decide) ?_
    refine lv_iconst (pc := 24) (v := 4) hx hb dX9_result_24 (by decide) ?_
    refine mSbp (pc := 25) (x := x0) (g := g0) [.int a2, .int 0, .int 4] hF (kX9_isIn x0 g0 a2 0 4 h) (cwX9_X9_isIn hts ⟨Nat.le_of_ble_eq_true rfl, Nat.le_of_ble_eq_true rfl⟩) hP hD hS rfl rfl hl.1 (Nat.le_of_ble_eq_true rfl) dX9_result_25 ⟨Nat.le_refl _, Nat.le_refl _⟩ (fun r_25 H locs hb_25 h hP hD hS => ?_)
    refine lv_if_eq (pc := 28) (tgt := 35) hx hb dX9_result_28 (by decide) (fun c_28 => ?_) (fun c_28 => ?_)
    · have h := h.1 c_28
      refine lv_iconst (pc := 35) (v := 2) hx hb dX9_result_35 (by decide) ?_
      exact J36 x0 g0 a1 a2 2 h _ _ _ hP hD hS (lv_sub hl [0, 1, 2] rfl)
    · have h := h.2 c_28
      refine lv_iconst (pc := 31) (v := 0) hx hb dX9_result_31 (by decide) ?_
      refine lv_goto (pc := 32) (tgt := 36) hx hb dX9_result_32 (by decide) ?_
      exact J36 x0 g0 a1 a2 0 h _ _ _ hP hD hS (lv_sub hl [0, 1, 2] rfl)
  · have h := h.1 c_15
    refine lv_iconst (pc := 18) (v := 1) hx hb dX9_result_18 (by decide) ?_
    refine lv_goto (pc := 19) (tgt := 36) hx hb dX9_result_19 (by decide) ?_
    exact J36 x0 g0 a1 a2 1 h _ _ _ hP hD hS (lv_sub hl [0, 1, 2] rfl)

def lX9_total_26 (Φ : Int32 → (Nat → Int32) → (Nat → Nat → Int32) → Prop) : Nat → (Nat → Int32) → (Nat → Nat → Int32) → Int32 → Int32 → Int32 → Int32 → Prop
  | 0, _, _, _, _, _, _ => False
  | n26 + 1, x, g, v1, v2, v3, v4 => (vp_in 6 7 ∧ ((((g 27) (6 : Int32).toNatClampNeg) ≤ v4 → (Φ v3 x g)) ∧ (¬ ((g 27) (6 : Int32).toNatClampNeg) ≤ v4 → (vp_in v4 8000 ∧ ((((g 38) v4.toNatClampNeg) = v1 → (vp_in v4 8000 ∧ ((((g 39) v4.toNatClampNeg) = v2 → (vp_in v4 8000 ∧ ((((g 42) v4.toNatClampNeg) = 0 → (vp_in v4 8000 ∧ (∀ v3_112 : Int32, v3_112 = ((g 41) v4.toNatClampNeg) → (∀ v4_113 : Int32, v4_113 = v4 + 1 → ((lX9_total_26 Φ n26) x g v1 v2 v3_112 v4_113))))) ∧ (¬ ((g 42) v4.toNatClampNeg) = 0 → (vp_in v4 8000 ∧ ((((g 42) v4.toNatClampNeg) = 1 → (vp_in v4 8000 ∧ (∀ v3_112 : Int32, v3_112 = (v3 + ((g 41) v4.toNatClampNeg)) → (∀ v4_113 : Int32, v4_113 = v4 + 1 → ((lX9_total_26 Φ n26) x g v1 v2 v3_112 v4_113))))) ∧ (¬ ((g 42) v4.toNatClampNeg) = 1 → (vp_in v4 8000 ∧ (∀ v3_112 : Int32, v3_112 = (v3 - ((g 41) v4.toNatClampNeg)) → (∀ v4_113 : Int32, v4_113 = v4 + 1 → ((lX9_total_26 Φ n26) x g v1 v2 v3_112 v4_113))))))))))) ∧ (¬ ((g 39) v4.toNatClampNeg) = v2 → (∀ v4_113 : Int32, v4_113 = v4 + 1 → ((lX9_total_26 Φ n26) x g v1 v2 v3 v4_113)))))) ∧ (¬ ((g 38) v4.toNatClampNeg) = v1 → (∀ v4_113 : Int32, v4_113 = v4 + 1 → ((lX9_total_26 Φ n26) x g v1 v2 v3 v4_113))))))))
def jX9_total_13 (Φ : Int32 → (Nat → Int32) → (Nat → Nat → Int32) → Prop) (x : Nat → Int32) (g : Nat → Nat → Int32) (v1 v2 s1 : Int32) : Prop := (wX9_can x g s1 (fun r_13 x_13 g_13 => ((r_13 = 0 → (Φ 0 x_13 g_13)) ∧ (¬ r_13 = 0 → (∃ n26 : Nat, lX9_total_26 Φ n26 x_13 g_13 v1 v2 0 0)))))
def wX9_total (x : Nat → Int32) (g : Nat → Nat → Int32) (a1 a2 : Int32) (Φ : Int32 → (Nat → Int32) → (Nat → Nat → Int32) → Prop) : Prop := (wX9_isKey a1 (fun r_2 => ((r_2 = 0 → (jX9_total_13 Φ x g a1 a2 1)) ∧ (¬ r_2 = 0 → (jX9_total_13 Φ x g a1 a2 0)))))
set_option maxRecDepth 100000 in
set_option maxHeartbeats 4000000 in
theorem kX9_total {l : Launch} {D : va_G} {E : va_W} {o : Nat} {ad : Nat → Nat} {cI cZ : ClassId} {sz : Nat} (x0 : Nat → Int32) (g0 : Nat → Nat → Int32) (a1 a2 : Int32) {Φ : Int32 → (Nat → Int32) → (Nat → Nat → Int32) → Prop} (h : wX9_total x0 g0 a1 a2 Φ) : Met l yX9_total (zws yX9_total cX9_total 5 (some .int)) { frames := 2, cells := 0, slots := 0, locals := 42 } (zPc D (mT cI cZ) zX0 (mW E o ad cI cZ (x0, g0)) [.ref o, .int a1, .int a2] sz) (zQi D (mT cI cZ) (mW E o ad cI cZ) (fun r u => Φ r u.1 u.2) (mW E o ad cI cZ (x0, g0)) sz) 0 0 (va_A (mW E o ad cI cZ (x0, g0)) sz) := by
  refine zMet (by decide) (Nat.le_of_ble_eq_true rfl) ?_
  intro p e s m args below meth c A hx hb hr hml hown hts hlocks hsz hAe hA hS hP hK hD hX ls hl
  subst hsz
  have hF : zFx p s m args c cX9_total RX9 A D (mT cI cZ) zX0 5 := ⟨hx, hb, hml, hown, hts, hA, hK, zX0_cl, hX⟩
  have hl : lv_has ls 5 [(0, .ref o), (1, .int a1), (2, .int a2)] := hl
  have L26 : ∀ n26 : Nat, ∀ (x : Nat → Int32) (g : Nat → Nat → Int32) (v1 v2 v3 v4 : Int32), lX9_total_26 Φ n26 x g v1 v2 v3 v4 → ∀ (H : Heap) (locs : List Loc) (ls : Array Slot), va_P D vwCl (mW E o ad cI cZ (x, g)) H → va_D A (mW E o ad cI cZ (x, g)) → va_S A s.heap H locs → lv_has ls 5 [(0, .ref o), (1, .int v1), (2, .int v2), (3, .int v3), (4, .int v4)] → W p l e { frames := 2, cells := 0, slots := 0, locals := 42 } s m args below meth c H locs 0 0 (MQ below (zQi D (mT cI cZ) (mW E o ad cI cZ) (fun r u => Φ r u.1 u.2) (mW E o ad cI cZ (x0, g0)) s.heap.size) args s 0 0 (va_A (mW E o ad cI cZ (x0, g0)) s.heap.size)) (F0 m 26 ls []) := by
    intro n26
    induction n26 with
    | zero => intro x g v1 v2 v3 v4 h H locs ls hP hD hS hl; exact h.elim
    | succ n26 ih26 =>
      intro x g v1 v2 v3 v4 h H locs ls hP hD hS hl
      unfold lX9_total_26 at h
      refine lv_iload (pc := 26) hx hb dX9_total_26 (lv_at hl 4 rfl) ?_
      refine lv_aload_n (pc := 28) hx hb dX9_total_28 rfl (lv_at hl 0 rfl) ?_
      refine mG_27 (pc := 29) hF hP dX9_total_29 ?_
      refine lv_bipush (pc := 32) (v := 6) hx hb dX9_total_32 (by decide) ?_
      obtain ⟨hi_34, h⟩ := h
      refine mL_27 (pc := 34) hF hP (f := (g 27)) rfl hi_34 dX9_total_34 ?_
      refine lv_icmp_ge (pc := 35) (tgt := 119) hx hb dX9_total_35 (by decide) (fun c_35 => ?_) (fun c_35 => ?_)
      · have h := h.1 c_35
        refine lv_iload_n (pc := 119) hx hb dX9_total_119 rfl (lv_at hl 3 rfl) ?_
        exact zirV (pc := 120) (Wd := mW E o ad cI cZ) (u := (x, g)) hx hb hr hlocks hAe hK hP hD hS rfl dX9_total_120 (Nat.le_refl _) (Nat.le_refl _) h
      · have h := h.2 c_35
        refine lv_aload_n (pc := 38) hx hb dX9_total_38 rfl (lv_at hl 0 rfl) ?_
        refine mG_38 (pc := 39) hF hP dX9_total_39 ?_
        refine lv_iload (pc := 42) hx hb dX9_total_42 (lv_at hl 4 rfl) ?_
        obtain ⟨hi_44, h⟩ := h
        refine mL_38 (pc := 44) hF hP (f := (g 38)) rfl hi_44 dX9_total_44 ?_
        refine lv_iload_n (pc := 45) hx hb dX9_total_45 rfl (lv_at hl 1 rfl) ?_
        refine lv_icmp_ne (pc := 46) (tgt := 113) hx hb dX9_total_46 (by decide) (fun c_46 => ?_) (fun c_46 => ?_)
        · have h := h.2 c_46
          obtain ⟨v4_113, e_v4_113⟩ : ∃ y : Int32, y = v4 + 1 := ⟨_, rfl⟩
          replace h := h v4_113 e_v4_113
          refine lv_iinc (pc := 113) (v := v4_113) (lv' := [(4, .int v4_113), (0, .ref o), (1, .int v1), (2, .int v2), (3, .int v3)]) hx hb dX9_total_113 hl (k := 4) rfl (by rw [e_v4_113]; rfl) (by decide) rfl (fun ls hl => ?_)
          refine lv_goto (pc := 116) (tgt := 26) hx hb dX9_total_116 (by decide) ?_
          exact ih26 x g v1 v2 v3 v4_113 h _ _ _ hP hD hS (lv_sub hl [1, 2, 3, 4, 0] rfl)
        · have h := h.1 c_46
          refine lv_aload_n (pc := 49) hx hb dX9_total_49 rfl (lv_at hl 0 rfl) ?_
          refine mG_39 (pc := 50) hF hP dX9_total_50 ?_
          refine lv_iload (pc := 53) hx hb dX9_total_53 (lv_at hl 4 rfl) ?_
          obtain ⟨hi_55, h⟩ := h
          refine mL_39 (pc := 55) hF hP (f := (g 39)) rfl hi_55 dX9_total_55 ?_
          refine lv_iload_n (pc := 56) hx hb dX9_total_56 rfl (lv_at hl 2 rfl) ?_
          refine lv_icmp_ne (pc := 57) (tgt := 113) hx hb dX9_total_57 (by decide) (fun c_57 => ?_) (fun c_57 => ?_)
          · have h := h.2 c_57
            obtain ⟨v4_113, e_v4_113⟩ : ∃ y : Int32, y = v4 + 1 := ⟨_, rfl⟩
            replace h := h v4_113 e_v4_113
            refine lv_iinc (pc := 113) (v := v4_113) (lv' := [(4, .int v4_113), (0, .ref o), (1, .int v1), (2, .int v2), (3, .int v3)]) hx hb dX9_total_113 hl (k := 4) rfl (by rw [e_v4_113]; rfl) (by decide) rfl (fun ls hl => ?_)
            refine lv_goto (pc := 116) (tgt := 26) hx hb dX9_total_116 (by decide) ?_
            exact ih26 x g v1 v2 v3 v4_113 h _ _ _ hP hD hS (lv_sub hl [1, 2, 3, 4, 0] rfl)
          · have h := h.1 c_57
            refine lv_aload_n (pc := 60) hx hb dX9_total_60 rfl (lv_at hl 0 rfl) ?_
            refine mG_42 (pc := 61) hF hP dX9_total_61 ?_
            refine lv_iload (pc := 64) hx hb dX9_total_64 (lv_at hl 4 rfl) ?_
            obtain ⟨hi_66, h⟩ := h
            refine mL_42 (pc := 66) hF hP (f := (g 42)) rfl hi_66 dX9_total_66 ?_
            refine lv_if_ne (pc := 67) (tgt := 80) hx hb dX9_total_67 (by decide) (fun c_67 => ?_) (fun c_67 => ?_)
            · have h := h.2 c_67
              refine lv_aload_n (pc := 80) hx hb dX9_total_80 rfl (lv_at hl 0 rfl) ?_
              refine mG_42 (pc := 81) hF hP dX9_total_81 ?_
              refine lv_iload (pc := 84) hx hb dX9_total_84 (lv_at hl 4 rfl) ?_
              obtain ⟨hi_86, h⟩ := h
              refine mL_42 (pc := 86) hF hP (f := (g 42)) rfl hi_86 dX9_total_86 ?_
              refine lv_iconst (pc := 87) (v := 1) hx hb dX9_total_87 (by decide) ?_
              refine lv_icmp_ne (pc := 88) (tgt := 103) hx hb dX9_total_88 (by decide) (fun c_88 => ?_) (fun c_88 => ?_)
              · have h := h.2 c_88
                refine lv_iload_n (pc := 103) hx hb dX9_total_103 rfl (lv_at hl 3 rfl) ?_
                refine lv_aload_n (pc := 104) hx hb dX9_total_104 rfl (lv_at hl 0 rfl) ?_
                refine mG_41 (pc := 105) hF hP dX9_total_105 ?_
                refine lv_iload (pc := 108) hx hb dX9_total_108 (lv_at hl 4 rfl) ?_
                obtain ⟨hi_110, h⟩ := h
                refine mL_41 (pc := 110) hF hP (f := (g 41)) rfl hi_110 dX9_total_110 ?_
                refine lv_isub (pc := 111) hx hb dX9_total_111 ?_
                refine lv_topi (fun v3_112 e_v3_112 => ?_)
                replace h := h v3_112 e_v3_112
                refine lv_istore_n (pc := 112) (lv' := [(3, .int v3_112), (0, .ref o), (1, .int v1), (2, .int v2), (4, .int v4)]) hx hb dX9_total_112 rfl hl (by decide) rfl (fun ls hl => ?_)
                obtain ⟨v4_113, e_v4_113⟩ : ∃ y : Int32, y = v4 + 1 := ⟨_, rfl⟩
                replace h := h v4_113 e_v4_113
                refine lv_iinc (pc := 113) (v := v4_113) (lv' := [(4, .int v4_113), (3, .int v3_112), (0, .ref o), (1, .int v1), (2, .int v2)]) hx hb dX9_total_113 hl (k := 4) rfl (by rw [e_v4_113]; rfl) (by decide) rfl (fun ls hl => ?_)
                refine lv_goto (pc := 116) (tgt := 26) hx hb dX9_total_116 (by decide) ?_
                exact ih26 x g v1 v2 v3_112 v4_113 h _ _ _ hP hD hS (lv_sub hl [2, 3, 4, 1, 0] rfl)
              · have h := h.1 c_88
                refine lv_iload_n (pc := 91) hx hb dX9_total_91 rfl (lv_at hl 3 rfl) ?_
                refine lv_aload_n (pc := 92) hx hb dX9_total_92 rfl (lv_at hl 0 rfl) ?_
                refine mG_41 (pc := 93) hF hP dX9_total_93 ?_
                refine lv_iload (pc := 96) hx hb dX9_total_96 (lv_at hl 4 rfl) ?_
                obtain ⟨hi_98, h⟩ := h
                refine mL_41 (pc := 98) hF hP (f := (g 41)) rfl hi_98 dX9_total_98 ?_
                refine lv_iadd (pc := 99) hx hb dX9_total_99 ?_
                refine lv_goto (pc := 100) (tgt := 112) hx hb dX9_total_100 (by decide) ?_
                refine lv_topi (fun v3_112 e_v3_112 => ?_)
                replace h := h v3_112 e_v3_112
                refine lv_istore_n (pc := 112) (lv' := [(3, .int v3_112), (0, .ref o), (1, .int v1), (2, .int v2), (4, .int v4)]) hx hb dX9_total_112 rfl hl (by decide) rfl (fun ls hl => ?_)
                obtain ⟨v4_113, e_v4_113⟩ : ∃ y : Int32, y = v4 + 1 := ⟨_, rfl⟩
                replace h := h v4_113 e_v4_113
                refine lv_iinc (pc := 113) (v := v4_113) (lv' := [(4, .int v4_113), (3, .int v3_112), (0, .ref o), (1, .int v1), (2, .int v2)]) hx hb dX9_total_113 hl (k := 4) rfl (by rw [e_v4_113]; rfl) (by decide) rfl (fun ls hl => ?_)
                refine lv_goto (pc := 116) (tgt := 26) hx hb dX9_total_116 (by decide) ?_
                exact ih26 x g v1 v2 v3_112 v4_113 h _ _ _ hP hD hS (lv_sub hl [2, 3, 4, 1, 0] rfl)
            · have h := h.1 c_67
              refine lv_aload_n (pc := 70) hx hb dX9_total_70 rfl (lv_at hl 0 rfl) ?_
              refine mG_41 (pc := 71) hF hP dX9_total_71 ?_
              refine lv_iload (pc := 74) hx hb dX9_total_74 (lv_at hl 4 rfl) ?_
              obtain ⟨hi_76, h⟩ := h
              refine mL_41 (pc := 76) hF hP (f := (g 41)) rfl hi_76 dX9_total_76 ?_
              refine lv_goto (pc := 77) (tgt := 112) hx hb dX9_total_77 (by decide) ?_
              refine lv_topi (fun v3_112 e_v3_112 => ?_)
              replace h := h v3_112 e_v3_112
              refine lv_istore_n (pc := 112) (lv' := [(3, .int v3_112), (0, .ref o), (1, .int v1), (2, .int v2), (4, .int v4)]) hx hb dX9_total_112 rfl hl (by decide) rfl (fun ls hl => ?_)
              obtain ⟨v4_113, e_v4_113⟩ : ∃ y : Int32, y = v4 + 1 := ⟨_, rfl⟩
              replace h := h v4_113 e_v4_113
              refine lv_iinc (pc := 113) (v := v4_113) (lv' := [(4, .int v4_113), (3, .int v3_112), (0, .ref o), (1, .int v1), (2, .int v2)]) hx hb dX9_total_113 hl (k := 4) rfl (by rw [e_v4_113]; rfl) (by decide) rfl (fun ls hl => ?_)
              refine lv_goto (pc := 116) (tgt := 26) hx hb dX9_total_116 (by decide) ?_
              exact ih26 x g v1 v2 v3_112 v4_113 h _ _ _ hP hD hS (lv_sub hl [2, 3, 4, 1, 0] rfl)
  have J13 : ∀ (x : Nat → Int32) (g : Nat → Nat → Int32) (v1 v2 s1 : Int32), jX9_total_13 Φ x g v1 v2 s1 → ∀ (H : Heap) (locs : List Loc) (ls : Array Slot), va_P D vwCl (mW E o ad cI cZ (x, g)) H → va_D A (mW E o ad cI cZ (x, g)) → va_S A s.heap H locs → lv_has ls 5 [(0, .ref o), (1, .int v1), (2, .int v2)] → W p l e { frames := 2, cells := 0, slots := 0, locals := 42 } s m args below meth c H locs 0 0 (MQ below (zQi D (mT cI cZ) (mW E o ad cI cZ) (fun r u => Φ r u.1 u.2) (mW E o ad cI cZ (x0, g0)) s.heap.size) args s 0 0 (va_A (mW E o ad cI cZ (x0, g0)) s.heap.size)) (F0 m 13 ls [.int s1, .ref o]) := by
    intro x g v1 v2 s1 h H locs ls hP hD hS hl
    unfold jX9_total_13 at h
    refine mVb (pc := 13) (x := x) (g := g) [.int s1] hF (kX9_can x g s1 h) (cwX9_X9_can hts ⟨Nat.le_of_ble_eq_true rfl, Nat.le_of_ble_eq_true rfl⟩) hP hD hS rfl rfl hl.1 (Nat.le_of_ble_eq_true rfl) dX9_total_13 ⟨Nat.le_refl _, Nat.le_refl _⟩ (fun r_13 x_13 g_13 H locs hb_13 h hP hD hS => ?_)
    refine lv_if_ne (pc := 16) (tgt := 21) hx hb dX9_total_16 (by decide) (fun c_16 => ?_) (fun c_16 => ?_)
    · have h := h.2 c_16
      refine lv_iconst (pc := 21) (v := 0) hx hb dX9_total_21 (by decide) ?_
      refine lv_istore_n (pc := 22) (lv' := [(3, .int 0), (0, .ref o), (1, .int v1), (2, .int v2)]) hx hb dX9_total_22 rfl hl (by decide) rfl (fun ls hl => ?_)
      refine lv_iconst (pc := 23) (v := 0) hx hb dX9_total_23 (by decide) ?_
      refine lv_istore (pc := 24) (lv' := [(4, .int 0), (3, .int 0), (0, .ref o), (1, .int v1), (2, .int v2)]) hx hb dX9_total_24 hl (by decide) rfl (fun ls hl => ?_)
      obtain ⟨n26, h⟩ := h
      exact L26 n26 x_13 g_13 v1 v2 0 0 h _ _ _ hP hD hS (lv_sub hl [2, 3, 4, 1, 0] rfl)
    · have h := h.1 c_16
      refine lv_iconst (pc := 19) (v := 0) hx hb dX9_total_19 (by decide) ?_
      exact zirV (pc := 20) (Wd := mW E o ad cI cZ) (u := (x_13, g_13)) hx hb hr hlocks hAe hK hP hD hS rfl dX9_total_20 (Nat.le_refl _) (Nat.le_refl _) h
  unfold wX9_total at h
  refine lv_aload_n (pc := 0) hx hb dX9_total_0 rfl (lv_at hl 0 rfl) ?_
  refine lv_iload_n (pc := 1) hx hb dX9_total_1 rfl (lv_at hl 1 rfl) ?_
  refine mSbp (pc := 2) (x := x0) (g := g0) [.int a1] hF (kX9_isKey x0 g0 a1 h) (cwX9_X9_isKey hts ⟨Nat.le_of_ble_eq_true rfl, Nat.le_of_ble_eq_true rfl⟩) hP hD hS rfl rfl hl.1 (Nat.le_of_ble_eq_true rfl) dX9_total_2 ⟨Nat.le_refl _, Nat.le_refl _⟩ (fun r_2 H locs hb_2 h hP hD hS => ?_)
  refine lv_if_eq (pc := 5) (tgt := 12) hx hb dX9_total_5 (by decide) (fun c_5 => ?_) (fun c_5 => ?_)
  · have h := h.1 c_5
    refine lv_iconst (pc := 12) (v := 1) hx hb dX9_total_12 (by decide) ?_
    exact J13 x0 g0 a1 a2 1 h _ _ _ hP hD hS (lv_sub hl [0, 1, 2] rfl)
  · have h := h.2 c_5
    refine lv_iconst (pc := 8) (v := 0) hx hb dX9_total_8 (by decide) ?_
    refine lv_goto (pc := 9) (tgt := 13) hx hb dX9_total_9 (by decide) ?_
    exact J13 x0 g0 a1 a2 0 h _ _ _ hP hD hS (lv_sub hl [0, 1, 2] rfl)

def jX9_totalAnew_279 (W114 : (Nat → Int32) → (Nat → Nat → Int32) → Int32 → Int32 → Int32 → Int32 → Int32 → Prop) (W128 : (Nat → Int32) → (Nat → Nat → Int32) → Int32 → Int32 → Int32 → Int32 → Int32 → Int32 → Prop) (Φ : Int32 → (Nat → Int32) → (Nat → Nat → Int32) → Prop) (x : Nat → Int32) (g : Nat → Nat → Int32) (v1 v2 v5 v6 v7 v8 s0 : Int32) : Prop := ((v5 = 0 → ((v8 = 0 → (∀ v7_298 : Int32, v7_298 = v7 + 1 → (W128 x g v1 v2 s0 0 v6 v7_298))) ∧ (¬ v8 = 0 → (∀ v7_298 : Int32, v7_298 = v7 + 1 → (W128 x g v1 v2 s0 1 v6 v7_298))))) ∧ (¬ v5 = 0 → (∀ v7_298 : Int32, v7_298 = v7 + 1 → (W128 x g v1 v2 s0 1 v6 v7_298))))
def jX9_totalAnew_249 (W114 : (Nat → Int32) → (Nat → Nat → Int32) → Int32 → Int32 → Int32 → Int32 → Int32 → Prop) (W128 : (Nat → Int32) → (Nat → Nat → Int32) → Int32 → Int32 → Int32 → Int32 → Int32 → Int32 → Prop) (Φ : Int32 → (Nat → Int32) → (Nat → Nat → Int32) → Prop) (x : Nat → Int32) (g : Nat → Nat → Int32) (v1 v2 v4 v5 v6 v7 v8 s0 : Int32) : Prop := ((v8 = 0 → (jX9_totalAnew_279 W114 W128 Φ x g v1 v2 v5 v6 v7 v8 v4)) ∧ (¬ v8 = 0 → ((v5 = 0 → (jX9_totalAnew_279 W114 W128 Φ x g v1 v2 v5 v6 v7 v8 s0)) ∧ (¬ v5 = 0 → (wX9_reckoned x g v4 s0 (fun r_271 => (jX9_totalAnew_279 W114 W128 Φ x g v1 v2 v5 v6 v7 v8 r_271)))))))
def jX9_totalAnew_226 (W114 : (Nat → Int32) → (Nat → Nat → Int32) → Int32 → Int32 → Int32 → Int32 → Int32 → Prop) (W128 : (Nat → Int32) → (Nat → Nat → Int32) → Int32 → Int32 → Int32 → Int32 → Int32 → Int32 → Prop) (Φ : Int32 → (Nat → Int32) → (Nat → Nat → Int32) → Prop) (x : Nat → Int32) (g : Nat → Nat → Int32) (v1 v2 v4 v5 v6 v7 s0 : Int32) : Prop := (vp_in 0 9 ∧ ((((g 6) (0 : Int32).toNatClampNeg) = 1 → (jX9_totalAnew_249 W114 W128 Φ x g v1 v2 v4 v5 v6 v7 s0 1)) ∧ (¬ ((g 6) (0 : Int32).toNatClampNeg) = 1 → (vp_in v7 900 ∧ (jX9_totalAnew_249 W114 W128 Φ x g v1 v2 v4 v5 v6 v7 s0 ((g 14) v7.toNatClampNeg))))))
def jX9_totalAnew_225 (W114 : (Nat → Int32) → (Nat → Nat → Int32) → Int32 → Int32 → Int32 → Int32 → Int32 → Prop) (W128 : (Nat → Int32) → (Nat → Nat → Int32) → Int32 → Int32 → Int32 → Int32 → Int32 → Int32 → Prop) (Φ : Int32 → (Nat → Int32) → (Nat → Nat → Int32) → Prop) (x : Nat → Int32) (g : Nat → Nat → Int32) (v1 v2 v4 v5 v6 v7 : Int32) : Prop := (jX9_totalAnew_226 W114 W128 Φ x g v1 v2 v4 v5 v6 v7 0)
def lX9_totalAnew_128 (W114 : (Nat → Int32) → (Nat → Nat → Int32) → Int32 → Int32 → Int32 → Int32 → Int32 → Prop) (Φ : Int32 → (Nat → Int32) → (Nat → Nat → Int32) → Prop) : Nat → (Nat → Int32) → (Nat → Nat → Int32) → Int32 → Int32 → Int32 → Int32 → Int32 → Int32 → Prop
  | 0, _, _, _, _, _, _, _, _ => False
  | n128 + 1, x, g, v1, v2, v4, v5, v6, v7 => (vp_in (18 + v6) 21 ∧ ((((300 * v6) + ((g 23) (18 + v6).toNatClampNeg)) ≤ v7 → (∀ v6_304 : Int32, v6_304 = v6 + 1 → (W114 x g v1 v2 v4 v5 v6_304))) ∧ (¬ ((300 * v6) + ((g 23) (18 + v6).toNatClampNeg)) ≤ v7 → (vp_in v7 900 ∧ ((((g 13) v7.toNatClampNeg) = 0 → (jX9_totalAnew_225 W114 (lX9_totalAnew_128 W114 Φ n128) Φ x g v1 v2 v4 v5 v6 v7)) ∧ (¬ ((g 13) v7.toNatClampNeg) = 0 → (vp_in v7 900 ∧ ((((g 10) v7.toNatClampNeg) = v1 → (vp_in v7 900 ∧ (vp_in 5 9 ∧ (wX9_isIn ((g 11) v7.toNatClampNeg) v2 ((v2 + ((g 6) (5 : Int32).toNatClampNeg)) - 1) (fun r_189 => ((r_189 = 0 → (jX9_totalAnew_225 W114 (lX9_totalAnew_128 W114 Φ n128) Φ x g v1 v2 v4 v5 v6 v7)) ∧ (¬ r_189 = 0 → (vp_in 5 9 ∧ (vp_in v7 900 ∧ (vp_in v7 900 ∧ ((((v2 + ((g 6) (5 : Int32).toNatClampNeg)) + ((g 16) v7.toNatClampNeg)) ≤ ((g 15) v7.toNatClampNeg) → (jX9_totalAnew_225 W114 (lX9_totalAnew_128 W114 Φ n128) Φ x g v1 v2 v4 v5 v6 v7)) ∧ (¬ ((v2 + ((g 6) (5 : Int32).toNatClampNeg)) + ((g 16) v7.toNatClampNeg)) ≤ ((g 15) v7.toNatClampNeg) → (jX9_totalAnew_226 W114 (lX9_totalAnew_128 W114 Φ n128) Φ x g v1 v2 v4 v5 v6 v7 1))))))))))))) ∧ (¬ ((g 10) v7.toNatClampNeg) = v1 → (jX9_totalAnew_225 W114 (lX9_totalAnew_128 W114 Φ n128) Φ x g v1 v2 v4 v5 v6 v7))))))))))
def lX9_totalAnew_114 (Φ : Int32 → (Nat → Int32) → (Nat → Nat → Int32) → Prop) : Nat → (Nat → Int32) → (Nat → Nat → Int32) → Int32 → Int32 → Int32 → Int32 → Int32 → Prop
  | 0, _, _, _, _, _, _, _ => False
  | n114 + 1, x, g, v1, v2, v4, v5, v6 => ((3 ≤ v6 → (Φ v4 x g)) ∧ (¬ 3 ≤ v6 → (∀ v7_126 : Int32, v7_126 = (300 * v6) → (∃ n128 : Nat, lX9_totalAnew_128 (lX9_totalAnew_114 Φ n114) Φ n128 x g v1 v2 v4 v5 v6 v7_126))))
def jX9_totalAnew_67 (Φ : Int32 → (Nat → Int32) → (Nat → Nat → Int32) → Prop) (x : Nat → Int32) (g : Nat → Nat → Int32) (v1 v2 s0 : Int32) : Prop := ((v2 < 0 → (Φ 0 x g)) ∧ (¬ v2 < 0 → ((999 < v2 → (Φ 0 x g)) ∧ (¬ 999 < v2 → (¬ s0 = 0 ∧ (((v2 - v2 / s0 * s0) = 0 → (vp_in 5 9 ∧ (vp_in 6 7 ∧ (((v2 + ((g 6) (5 : Int32).toNatClampNeg)) ≤ ((g 25) (6 : Int32).toNatClampNeg) → (∃ n114 : Nat, lX9_totalAnew_114 Φ n114 x g v1 v2 0 0 0)) ∧ (¬ (v2 + ((g 6) (5 : Int32).toNatClampNeg)) ≤ ((g 25) (6 : Int32).toNatClampNeg) → (Φ 0 x g)))))) ∧ (¬ (v2 - v2 / s0 * s0) = 0 → (Φ 0 x g))))))))
def jX9_totalAnew_34 (Φ : Int32 → (Nat → Int32) → (Nat → Nat → Int32) → Prop) (x : Nat → Int32) (g : Nat → Nat → Int32) (v1 v2 s1 : Int32) : Prop := (wX9_can x g s1 (fun r_34 x_34 g_34 => ((r_34 = 0 → (Φ 0 x_34 g_34)) ∧ (¬ r_34 = 0 → (vp_in 4 9 ∧ ((((g_34 6) (4 : Int32).toNatClampNeg) = 0 → (vp_in 5 9 ∧ (jX9_totalAnew_67 Φ x_34 g_34 v1 v2 ((g_34 6) (5 : Int32).toNatClampNeg)))) ∧ (¬ ((g_34 6) (4 : Int32).toNatClampNeg) = 0 → (vp_in 6 9 ∧ (jX9_totalAnew_67 Φ x_34 g_34 v1 v2 ((g_34 6) (6 : Int32).toNatClampNeg))))))))))
def jX9_totalAnew_29 (Φ : Int32 → (Nat → Int32) → (Nat → Nat → Int32) → Prop) (x : Nat → Int32) (g : Nat → Nat → Int32) (v1 v2 : Int32) : Prop := (jX9_totalAnew_34 Φ x g v1 v2 2)
def wX9_totalAnew (x : Nat → Int32) (g : Nat → Nat → Int32) (a1 a2 : Int32) (Φ : Int32 → (Nat → Int32) → (Nat → Nat → Int32) → Prop) : Prop := (wX9_isKey a1 (fun r_2 => ((r_2 = 0 → (jX9_totalAnew_34 Φ x g a1 a2 1)) ∧ (¬ r_2 = 0 → (((x 5) = 0 → (jX9_totalAnew_29 Φ x g a1 a2)) ∧ (¬ (x 5) = 0 → (vp_in 4 9 ∧ ((((g 6) (4 : Int32).toNatClampNeg) = 2 → (jX9_totalAnew_29 Φ x g a1 a2)) ∧ (¬ ((g 6) (4 : Int32).toNatClampNeg) = 2 → (jX9_totalAnew_34 Φ x g a1 a2 0))))))))))
set_option maxRecDepth 100000 in
set_option maxHeartbeats 4000000 in
theorem kX9_totalAnew {l : Launch} {D : va_G} {E : va_W} {o : Nat} {ad : Nat → Nat} {cI cZ : ClassId} {sz : Nat} (x0 : Nat → Int32) (g0 : Nat → Nat → Int32) (a1 a2 : Int32) {Φ : Int32 → (Nat → Int32) → (Nat → Nat → Int32) → Prop} (h : wX9_totalAnew x0 g0 a1 a2 Φ) : Met l yX9_totalAnew (zws yX9_totalAnew cX9_totalAnew 10 (some .int)) { frames := 2, cells := 0, slots := 0, locals := 42 } (zPc D (mT cI cZ) zX0 (mW E o ad cI cZ (x0, g0)) [.ref o, .int a1, .int a2] sz) (zQi D (mT cI cZ) (mW E o ad cI cZ) (fun r u => Φ r u.1 u.2) (mW E o ad cI cZ (x0, g0)) sz) 0 0 (va_A (mW E o ad cI cZ (x0, g0)) sz) := by
  refine zMet (by decide) (Nat.le_of_ble_eq_true rfl) ?_
  intro p e s m args below meth c A hx hb hr hml hown hts hlocks hsz hAe hA hS hP hK hD hX ls hl
  subst hsz
  have hF : zFx p s m args c cX9_totalAnew RX9 A D (mT cI cZ) zX0 10 := ⟨hx, hb, hml, hown, hts, hA, hK, zX0_cl, hX⟩
  have hl : lv_has ls 10 [(0, .ref o), (1, .int a1), (2, .int a2)] := hl
  have L114 : ∀ n114 : Nat, ∀ (x : Nat → Int32) (g : Nat → Nat → Int32) (v1 v2 v4 v5 v6 : Int32), lX9_totalAnew_114 Φ n114 x g v1 v2 v4 v5 v6 → ∀ (H : Heap) (locs : List Loc) (ls : Array Slot), va_P D vwCl (mW E o ad cI cZ (x, g)) H → va_D A (mW E o ad cI cZ (x, g)) → va_S A s.heap H locs → lv_has ls 10 [(0, .ref o), (1, .int v1), (2, .int v2), (4, .int v4), (5, .int v5), (6, .int v6)] → W p l e { frames := 2, cells := 0, slots := 0, locals := 42 } s m args below meth c H locs 0 0 (MQ below (zQi D (mT cI cZ) (mW E o ad cI cZ) (fun r u => Φ r u.1 u.2) (mW E o ad cI cZ (x0, g0)) s.heap.size) args s 0 0 (va_A (mW E o ad cI cZ (x0, g0)) s.heap.size)) (F0 m 114 ls []) := by
    intro n114
    induction n114 with
    | zero => intro x g v1 v2 v4 v5 v6 h H locs ls hP hD hS hl; exact h.elim
    | succ n114 ih114 =>
      have L128 : ∀ n128 : Nat, ∀ (x : Nat → Int32) (g : Nat → Nat → Int32) (v1 v2 v4 v5 v6 v7 : Int32), lX9_totalAnew_128 (lX9_totalAnew_114 Φ n114) Φ n128 x g v1 v2 v4 v5 v6 v7 → ∀ (H : Heap) (locs : List Loc) (ls : Array Slot), va_P D vwCl (mW E o ad cI cZ (x, g)) H → va_D A (mW E o ad cI cZ (x, g)) → va_S A s.heap H locs → lv_has ls 10 [(0, .ref o), (1, .int v1), (2, .int v2), (4, .int v4), (5, .int v5), (6, .int v6), (7, .int v7)] → W p l e { frames := 2, cells := 0, slots := 0, locals := 42 } s m args below meth c H locs 0 0 (MQ below (zQi D (mT cI cZ) (mW E o ad cI cZ) (fun r u => Φ r u.1 u.2) (mW E o ad cI cZ (x0, g0)) s.heap.size) args s 0 0 (va_A (mW E o ad cI cZ (x0, g0)) s.heap.size)) (F0 m 128 ls []) := by
        intro n128
        induction n128 with
        | zero => intro x g v1 v2 v4 v5 v6 v7 h H locs ls hP hD hS hl; exact h.elim
        | succ n128 ih128 =>
          have J279 : ∀ (x : Nat → Int32) (g : Nat → Nat → Int32) (v1 v2 v5 v6 v7 v8 s0 : Int32), jX9_totalAnew_279 (lX9_totalAnew_114 Φ n114) (lX9_totalAnew_128 (lX9_totalAnew_114 Φ n114) Φ n128) Φ x g v1 v2 v5 v6 v7 v8 s0 → ∀ (H : Heap) (locs : List Loc) (ls : Array Slot), va_P D vwCl (mW E o ad cI cZ (x, g)) H → va_D A (mW E o ad cI cZ (x, g)) → va_S A s.heap H locs → lv_has ls 10 [(0, .ref o), (1, .int v1), (2, .int v2), (5, .int v5), (6, .int v6), (7, .int v7), (8, .int v8)] → W p l e { frames := 2, cells := 0, slots := 0, locals := 42 } s m args below meth c H locs 0 0 (MQ below (zQi D (mT cI cZ) (mW E o ad cI cZ) (fun r u => Φ r u.1 u.2) (mW E o ad cI cZ (x0, g0)) s.heap.size) args s 0 0 (va_A (mW E o ad cI cZ (x0, g0)) s.heap.size)) (F0 m 279 ls [.int s0]) := by
            intro x g v1 v2 v5 v6 v7 v8 s0 h H locs ls hP hD hS hl
            unfold jX9_totalAnew_279 at h
            refine lv_istore (pc := 279) (lv' := [(4, .int s0), (0, .ref o), (1, .int v1), (2, .int v2), (5, .int v5), (6, .int v6), (7, .int v7), (8, .int v8)]) hx hb dX9_totalAnew_279 hl (by decide) rfl (fun ls hl => ?_)
            refine lv_iload (pc := 281) hx hb dX9_totalAnew_281 (lv_at hl 4 rfl) ?_
            refine lv_if_ne (pc := 283) (tgt := 291) hx hb dX9_totalAnew_283 (by decide) (fun c_283 => ?_) (fun c_283 => ?_)
            · have h := h.2 c_283
              refine lv_iconst (pc := 291) (v := 1) hx hb dX9_totalAnew_291 (by decide) ?_
              refine lv_goto (pc := 292) (tgt := 296) hx hb dX9_totalAnew_292 (by decide) ?_
              refine lv_istore (pc := 296) (lv' := [(5, .int 1), (4, .int s0), (0, .ref o), (1, .int v1), (2, .int v2), (6, .int v6), (7, .int v7), (8, .int v8)]) hx hb dX9_totalAnew_296 hl (by decide) rfl (fun ls hl => ?_)
              obtain ⟨v7_298, e_v7_298⟩ : ∃ y : Int32, y = v7 + 1 := ⟨_, rfl⟩
              replace h := h v7_298 e_v7_298
              refine lv_iinc (pc := 298) (v := v7_298) (lv' := [(7, .int v7_298), (5, .int 1), (4, .int s0), (0, .ref o), (1, .int v1), (2, .int v2), (6, .int v6), (8, .int v8)]) hx hb dX9_totalAnew_298 hl (k := 6) rfl (by rw [e_v7_298]; rfl) (by decide) rfl (fun ls hl => ?_)
              refine lv_goto (pc := 301) (tgt := 128) hx hb dX9_totalAnew_301 (by decide) ?_
              exact ih128 x g v1 v2 s0 1 v6 v7_298 h _ _ _ hP hD hS (lv_sub hl [3, 4, 5, 2, 1, 6, 0] rfl)
            · have h := h.1 c_283
              refine lv_iload (pc := 286) hx hb dX9_totalAnew_286 (lv_at hl 7 rfl) ?_
              refine lv_if_eq (pc := 288) (tgt := 295) hx hb dX9_totalAnew_288 (by decide) (fun c_288 => ?_) (fun c_288 => ?_)
              · have h := h.1 c_288
                refine lv_iconst (pc := 295) (v := 0) hx hb dX9_totalAnew_295 (by decide) ?_
                refine lv_istore (pc := 296) (lv' := [(5, .int 0), (4, .int s0), (0, .ref o), (1, .int v1), (2, .int v2), (6, .int v6), (7, .int v7), (8, .int v8)]) hx hb dX9_totalAnew_296 hl (by decide) rfl (fun ls hl => ?_)
                obtain ⟨v7_298, e_v7_298⟩ : ∃ y : Int32, y = v7 + 1 := ⟨_, rfl⟩
                replace h := h v7_298 e_v7_298
                refine lv_iinc (pc := 298) (v := v7_298) (lv' := [(7, .int v7_298), (5, .int 0), (4, .int s0), (0, .ref o), (1, .int v1), (2, .int v2), (6, .int v6), (8, .int v8)]) hx hb dX9_totalAnew_298 hl (k := 6) rfl (by rw [e_v7_298]; rfl) (by decide) rfl (fun ls hl => ?_)
                refine lv_goto (pc := 301) (tgt := 128) hx hb dX9_totalAnew_301 (by decide) ?_
                exact ih128 x g v1 v2 s0 0 v6 v7_298 h _ _ _ hP hD hS (lv_sub hl [3, 4, 5, 2, 1, 6, 0] rfl)
              · have h := h.2 c_288
                refine lv_iconst (pc := 291) (v := 1) hx hb dX9_totalAnew_291 (by decide) ?_
                refine lv_goto (pc := 292) (tgt := 296) hx hb dX9_totalAnew_292 (by decide) ?_
                refine lv_istore (pc := 296) (lv' := [(5, .int 1), (4, .int s0), (0, .ref o), (1, .int v1), (2, .int v2), (6, .int v6), (7, .int v7), (8, .int v8)]) hx hb dX9_totalAnew_296 hl (by decide) rfl (fun ls hl => ?_)
                obtain ⟨v7_298, e_v7_298⟩ : ∃ y : Int32, y = v7 + 1 := ⟨_, rfl⟩
                replace h := h v7_298 e_v7_298
                refine lv_iinc (pc := 298) (v := v7_298) (lv' := [(7, .int v7_298), (5, .int 1), (4, .int s0), (0, .ref o), (1, .int v1), (2, .int v2), (6, .int v6), (8, .int v8)]) hx hb dX9_totalAnew_298 hl (k := 6) rfl (by rw [e_v7_298]; rfl) (by decide) rfl (fun ls hl => ?_)
                refine lv_goto (pc := 301) (tgt := 128) hx hb dX9_totalAnew_301 (by decide) ?_
                exact ih128 x g v1 v2 s0 1 v6 v7_298 h _ _ _ hP hD hS (lv_sub hl [3, 4, 5, 2, 1, 6, 0] rfl)
          have J249 : ∀ (x : Nat → Int32) (g : Nat → Nat → Int32) (v1 v2 v4 v5 v6 v7 v8 s0 : Int32), jX9_totalAnew_249 (lX9_totalAnew_114 Φ n114) (lX9_totalAnew_128 (lX9_totalAnew_114 Φ n114) Φ n128) Φ x g v1 v2 v4 v5 v6 v7 v8 s0 → ∀ (H : Heap) (locs : List Loc) (ls : Array Slot), va_P D vwCl (mW E o ad cI cZ (x, g)) H → va_D A (mW E o ad cI cZ (x, g)) → va_S A s.heap H locs → lv_has ls 10 [(0, .ref o), (1, .int v1), (2, .int v2), (4, .int v4), (5, .int v5), (6, .int v6), (7, .int v7), (8, .int v8)] → W p l e { frames := 2, cells := 0, slots := 0, locals := 42 } s m args below meth c H locs 0 0 (MQ below (zQi D (mT cI cZ) (mW E o ad cI cZ) (fun r u => Φ r u.1 u.2) (mW E o ad cI cZ (x0, g0)) s.heap.size) args s 0 0 (va_A (mW E o ad cI cZ (x0, g0)) s.heap.size)) (F0 m 249 ls [.int s0]) := by
            intro x g v1 v2 v4 v5 v6 v7 v8 s0 h H locs ls hP hD hS hl
            unfold jX9_totalAnew_249 at h
            refine lv_istore (pc := 249) (lv' := [(9, .int s0), (0, .ref o), (1, .int v1), (2, .int v2), (4, .int v4), (5, .int v5), (6, .int v6), (7, .int v7), (8, .int v8)]) hx hb dX9_totalAnew_249 hl (by decide) rfl (fun ls hl => ?_)
            refine lv_iload (pc := 251) hx hb dX9_totalAnew_251 (lv_at hl 8 rfl) ?_
            refine lv_if_ne (pc := 253) (tgt := 261) hx hb dX9_totalAnew_253 (by decide) (fun c_253 => ?_) (fun c_253 => ?_)
            · have h := h.2 c_253
              refine lv_iload (pc := 261) hx hb dX9_totalAnew_261 (lv_at hl 5 rfl) ?_
              refine lv_if_eq (pc := 263) (tgt := 277) hx hb dX9_totalAnew_263 (by decide) (fun c_263 => ?_) (fun c_263 => ?_)
              · have h := h.1 c_263
                refine lv_iload (pc := 277) hx hb dX9_totalAnew_277 (lv_at hl 0 rfl) ?_
                exact J279 x g v1 v2 v5 v6 v7 v8 s0 h _ _ _ hP hD hS (lv_sub hl [1, 2, 3, 5, 6, 7, 8] rfl)
              · have h := h.2 c_263
                refine lv_aload_n (pc := 266) hx hb dX9_totalAnew_266 rfl (lv_at hl 1 rfl) ?_
                refine lv_iload (pc := 267) hx hb dX9_totalAnew_267 (lv_at hl 4 rfl) ?_
                refine lv_iload (pc := 269) hx hb dX9_totalAnew_269 (lv_at hl 0 rfl) ?_
                refine mVip (pc := 271) (x := x) (g := g) [.int v4, .int s0] hF (kX9_reckoned x g v4 s0 h) (cwX9_X9_reckoned hts ⟨Nat.le_of_ble_eq_true rfl, Nat.le_of_ble_eq_true rfl⟩) hP hD hS rfl rfl hl.1 (Nat.le_of_ble_eq_true rfl) dX9_totalAnew_271 ⟨Nat.le_refl _, Nat.le_refl _⟩ (fun r_271 H locs h hP hD hS => ?_)
                refine lv_goto (pc := 274) (tgt := 279) hx hb dX9_totalAnew_274 (by decide) ?_
                exact J279 x g v1 v2 v5 v6 v7 v8 r_271 h _ _ _ hP hD hS (lv_sub hl [1, 2, 3, 5, 6, 7, 8] rfl)
            · have h := h.1 c_253
              refine lv_iload (pc := 256) hx hb dX9_totalAnew_256 (lv_at hl 4 rfl) ?_
              refine lv_goto (pc := 258) (tgt := 279) hx hb dX9_totalAnew_258 (by decide) ?_
              exact J279 x g v1 v2 v5 v6 v7 v8 v4 h _ _ _ hP hD hS (lv_sub hl [1, 2, 3, 5, 6, 7, 8] rfl)
          have J226 : ∀ (x : Nat → Int32) (g : Nat → Nat → Int32) (v1 v2 v4 v5 v6 v7 s0 : Int32), jX9_totalAnew_226 (lX9_totalAnew_114 Φ n114) (lX9_totalAnew_128 (lX9_totalAnew_114 Φ n114) Φ n128) Φ x g v1 v2 v4 v5 v6 v7 s0 → ∀ (H : Heap) (locs : List Loc) (ls : Array Slot), va_P D vwCl (mW E o ad cI cZ (x, g)) H → va_D A (mW E o ad cI cZ (x, g)) → va_S A s.heap H locs → lv_has ls 10 [(0, .ref o), (1, .int v1), (2, .int v2), (4, .int v4), (5, .int v5), (6, .int v6), (7, .int v7)] → W p l e { frames := 2, cells := 0, slots := 0, locals := 42 } s m args below meth c H locs 0 0 (MQ below (zQi D (mT cI cZ) (mW E o ad cI cZ) (fun r u => Φ r u.1 u.2) (mW E o ad cI cZ (x0, g0)) s.heap.size) args s 0 0 (va_A (mW E o ad cI cZ (x0, g0)) s.heap.size)) (F0 m 226 ls [.int s0]) := by
            intro x g v1 v2 v4 v5 v6 v7 s0 h H locs ls hP hD hS hl
            unfold jX9_totalAnew_226 at h
            refine lv_istore (pc := 226) (lv' := [(8, .int s0), (0, .ref o), (1, .int v1), (2, .int v2), (4, .int v4), (5, .int v5), (6, .int v6), (7, .int v7)]) hx hb dX9_totalAnew_226 hl (by decide) rfl (fun ls hl => ?_)
            refine lv_aload_n (pc := 228) hx hb dX9_totalAnew_228 rfl (lv_at hl 1 rfl) ?_
            refine mG_6 (pc := 229) hF hP dX9_totalAnew_229 ?_
            refine lv_iconst (pc := 232) (v := 0) hx hb dX9_totalAnew_232 (by decide) ?_
            obtain ⟨hi_233, h⟩ := h
            refine mL_6 (pc := 233) hF hP (f := (g 6)) rfl hi_233 dX9_totalAnew_233 ?_
            refine lv_iconst (pc := 234) (v := 1) hx hb dX9_totalAnew_234 (by decide) ?_
            refine lv_icmp_ne (pc := 235) (tgt := 242) hx hb dX9_totalAnew_235 (by decide) (fun c_235 => ?_) (fun c_235 => ?_)
            · have h := h.2 c_235
              refine lv_aload_n (pc := 242) hx hb dX9_totalAnew_242 rfl (lv_at hl 1 rfl) ?_
              refine mG_14 (pc := 243) hF hP dX9_totalAnew_243 ?_
              refine lv_iload (pc := 246) hx hb dX9_totalAnew_246 (lv_at hl 7 rfl) ?_
              obtain ⟨hi_248, h⟩ := h
              refine mL_14 (pc := 248) hF hP (f := (g 14)) rfl hi_248 dX9_totalAnew_248 ?_
              exact J249 x g v1 v2 v4 v5 v6 v7 s0 ((g 14) v7.toNatClampNeg) h _ _ _ hP hD hS (lv_sub hl [1, 2, 3, 4, 5, 6, 7, 0] rfl)
            · have h := h.1 c_235
              refine lv_iconst (pc := 238) (v := 1) hx hb dX9_totalAnew_238 (by decide) ?_
              refine lv_goto (pc := 239) (tgt := 249) hx hb dX9_totalAnew_239 (by decide) ?_
              exact J249 x g v1 v2 v4 v5 v6 v7 s0 1 h _ _ _ hP hD hS (lv_sub hl [1, 2, 3, 4, 5, 6, 7, 0] rfl)
          have J225 : ∀ (x : Nat → Int32) (g : Nat → Nat → Int32) (v1 v2 v4 v5 v6 v7 : Int32), jX9_totalAnew_225 (lX9_totalAnew_114 Φ n114) (lX9_totalAnew_128 (lX9_totalAnew_114 Φ n114) Φ n128) Φ x g v1 v2 v4 v5 v6 v7 → ∀ (H : Heap) (locs : List Loc) (ls : Array Slot), va_P D vwCl (mW E o ad cI cZ (x, g)) H → va_D A (mW E o ad cI cZ (x, g)) → va_S A s.heap H locs → lv_has ls 10 [(0, .ref o), (1, .int v1), (2, .int v2), (4, .int v4), (5, .int v5), (6, .int v6), (7, .int v7)] → W p l e { frames := 2, cells := 0, slots := 0, locals := 42 } s m args below meth c H locs 0 0 (MQ below (zQi D (mT cI cZ) (mW E o ad cI cZ) (fun r u => Φ r u.1 u.2) (mW E o ad cI cZ (x0, g0)) s.heap.size) args s 0 0 (va_A (mW E o ad cI cZ (x0, g0)) s.heap.size)) (F0 m 225 ls []) := by
            intro x g v1 v2 v4 v5 v6 v7 h H locs ls hP hD hS hl
            unfold jX9_totalAnew_225 at h
            refine lv_iconst (pc := 225) (v := 0) hx hb dX9_totalAnew_225 (by decide) ?_
            exact J226 x g v1 v2 v4 v5 v6 v7 0 h _ _ _ hP hD hS (lv_sub hl [0, 1, 2, 3, 4, 5, 6] rfl)
          intro x g v1 v2 v4 v5 v6 v7 h H locs ls hP hD hS hl
          unfold lX9_totalAnew_128 at h
          refine lv_iload (pc := 128) hx hb dX9_totalAnew_128 (lv_at hl 6 rfl) ?_
          refine lv_sipush (pc := 130) (v := 300) hx hb dX9_totalAnew_130 (by decide) ?_
          refine lv_iload (pc := 133) hx hb dX9_totalAnew_133 (lv_at hl 5 rfl) ?_
          refine lv_imul (pc := 135) hx hb dX9_totalAnew_135 ?_
          refine lv_aload_n (pc := 136) hx hb dX9_totalAnew_136 rfl (lv_at hl 0 rfl) ?_
          refine mG_23 (pc := 137) hF hP dX9_totalAnew_137 ?_
          refine lv_bipush (pc := 140) (v := 18) hx hb dX9_totalAnew_140 (by decide) ?_
          refine lv_iload (pc := 142) hx hb dX9_totalAnew_142 (lv_at hl 5 rfl) ?_
          refine lv_iadd (pc := 144) hx hb dX9_totalAnew_144 ?_
          obtain ⟨hi_145, h⟩ := h
          refine mL_23 (pc := 145) hF hP (f := (g 23)) rfl hi_145 dX9_totalAnew_145 ?_
          refine lv_iadd (pc := 146) hx hb dX9_totalAnew_146 ?_
          refine lv_icmp_ge (pc := 147) (tgt := 304) hx hb dX9_totalAnew_147 (by decide) (fun c_147 => ?_) (fun c_147 => ?_)
          · have h := h.1 c_147
            obtain ⟨v6_304, e_v6_304⟩ : ∃ y : Int32, y = v6 + 1 := ⟨_, rfl⟩
            replace h := h v6_304 e_v6_304
            refine lv_iinc (pc := 304) (v := v6_304) (lv' := [(6, .int v6_304), (0, .ref o), (1, .int v1), (2, .int v2), (4, .int v4), (5, .int v5), (7, .int v7)]) hx hb dX9_totalAnew_304 hl (k := 5) rfl (by rw [e_v6_304]; rfl) (by decide) rfl (fun ls hl => ?_)
            refine lv_goto (pc := 307) (tgt := 114) hx hb dX9_totalAnew_307 (by decide) ?_
            exact ih114 x g v1 v2 v4 v5 v6_304 h _ _ _ hP hD hS (lv_sub hl [1, 2, 3, 4, 5, 0] rfl)
          · have h := h.2 c_147
            refine lv_aload_n (pc := 150) hx hb dX9_totalAnew_150 rfl (lv_at hl 0 rfl) ?_
            refine mG_13 (pc := 151) hF hP dX9_totalAnew_151 ?_
            refine lv_iload (pc := 154) hx hb dX9_totalAnew_154 (lv_at hl 6 rfl) ?_
            obtain ⟨hi_156, h⟩ := h
            refine mL_13 (pc := 156) hF hP (f := (g 13)) rfl hi_156 dX9_totalAnew_156 ?_
            refine lv_if_eq (pc := 157) (tgt := 225) hx hb dX9_totalAnew_157 (by decide) (fun c_157 => ?_) (fun c_157 => ?_)
            · have h := h.1 c_157
              exact J225 x g v1 v2 v4 v5 v6 v7 h _ _ _ hP hD hS (lv_sub hl [0, 1, 2, 3, 4, 5, 6] rfl)
            · have h := h.2 c_157
              refine lv_aload_n (pc := 160) hx hb dX9_totalAnew_160 rfl (lv_at hl 0 rfl) ?_
              refine mG_10 (pc := 161) hF hP dX9_totalAnew_161 ?_
              refine lv_iload (pc := 164) hx hb dX9_totalAnew_164 (lv_at hl 6 rfl) ?_
              obtain ⟨hi_166, h⟩ := h
              refine mL_10 (pc := 166) hF hP (f := (g 10)) rfl hi_166 dX9_totalAnew_166 ?_
              refine lv_iload_n (pc := 167) hx hb dX9_totalAnew_167 rfl (lv_at hl 1 rfl) ?_
              refine lv_icmp_ne (pc := 168) (tgt := 225) hx hb dX9_totalAnew_168 (by decide) (fun c_168 => ?_) (fun c_168 => ?_)
              · have h := h.2 c_168
                exact J225 x g v1 v2 v4 v5 v6 v7 h _ _ _ hP hD hS (lv_sub hl [0, 1, 2, 3, 4, 5, 6] rfl)
              · have h := h.1 c_168
                refine lv_aload_n (pc := 171) hx hb dX9_totalAnew_171 rfl (lv_at hl 0 rfl) ?_
                refine mG_11 (pc := 172) hF hP dX9_totalAnew_172 ?_
                refine lv_iload (pc := 175) hx hb dX9_totalAnew_175 (lv_at hl 6 rfl) ?_
                obtain ⟨hi_177, h⟩ := h
                refine mL_11 (pc := 177) hF hP (f := (g 11)) rfl hi_177 dX9_totalAnew_177 ?_
                refine lv_iload_n (pc := 178) hx hb dX9_totalAnew_178 rfl (lv_at hl 2 rfl) ?_
                refine lv_iload_n (pc := 179) hx hb dX9_totalAnew_179 rfl (lv_at hl 2 rfl) ?_
                refine lv_aload_n (pc := 180) hx hb dX9_totalAnew_180 rfl (lv_at hl 0 rfl) ?_
                refine mG_6 (pc := 181) hF hP dX9_totalAnew_181 ?_
                refine lv_iconst (pc := 184) (v := 5) hx hb dX9_totalAnew_184 (by decide) ?_
                obtain ⟨hi_185, h⟩ := h
                refine mL_6 (pc := 185) hF hP (f := (g 6)) rfl hi_185 dX9_totalAnew_185 ?_
                refine lv_iadd (pc := 186) hx hb dX9_totalAnew_186 ?_
                refine lv_iconst (pc := 187) (v := 1) hx hb dX9_totalAnew_187 (by decide) ?_
                refine lv_isub (pc := 188) hx hb dX9_totalAnew_188 ?_
                refine mSbp (pc := 189) (x := x) (g := g) [.int ((g 11) v7.toNatClampNeg), .int v2, .int ((v2 + ((g 6) (5 : Int32).toNatClampNeg)) - 1)] hF (kX9_isIn x g ((g 11) v7.toNatClampNeg) v2 ((v2 + ((g 6) (5 : Int32).toNatClampNeg)) - 1) h) (cwX9_X9_isIn hts ⟨Nat.le_of_ble_eq_true rfl, Nat.le_of_ble_eq_true rfl⟩) hP hD hS rfl rfl hl.1 (Nat.le_of_ble_eq_true rfl) dX9_totalAnew_189 ⟨Nat.le_refl _, Nat.le_refl _⟩ (fun r_189 H locs hb_189 h hP hD hS => ?_)
                refine lv_if_eq (pc := 192) (tgt := 225) hx hb dX9_totalAnew_192 (by decide) (fun c_192 => ?_) (fun c_192 => ?_)
                · have h := h.1 c_192
                  exact J225 x g v1 v2 v4 v5 v6 v7 h _ _ _ hP hD hS (lv_sub hl [0, 1, 2, 3, 4, 5, 6] rfl)
                · have h := h.2 c_192
                  refine lv_iload_n (pc := 195) hx hb dX9_totalAnew_195 rfl (lv_at hl 2 rfl) ?_
                  refine lv_aload_n (pc := 196) hx hb dX9_totalAnew_196 rfl (lv_at hl 0 rfl) ?_
                  refine mG_6 (pc := 197) hF hP dX9_totalAnew_197 ?_
                  refine lv_iconst (pc := 200) (v := 5) hx hb dX9_totalAnew_200 (by decide) ?_
                  obtain ⟨hi_201, h⟩ := h
                  refine mL_6 (pc := 201) hF hP (f := (g 6)) rfl hi_201 dX9_totalAnew_201 ?_
                  refine lv_iadd (pc := 202) hx hb dX9_totalAnew_202 ?_
                  refine lv_aload_n (pc := 203) hx hb dX9_totalAnew_203 rfl (lv_at hl 0 rfl) ?_
                  refine mG_16 (pc := 204) hF hP dX9_totalAnew_204 ?_
                  refine lv_iload (pc := 207) hx hb dX9_totalAnew_207 (lv_at hl 6 rfl) ?_
                  obtain ⟨hi_209, h⟩ := h
                  refine mL_16 (pc := 209) hF hP (f := (g 16)) rfl hi_209 dX9_totalAnew_209 ?_
                  refine lv_iadd (pc := 210) hx hb dX9_totalAnew_210 ?_
                  refine lv_aload_n (pc := 211) hx hb dX9_totalAnew_211 rfl (lv_at hl 0 rfl) ?_
                  refine mG_15 (pc := 212) hF hP dX9_totalAnew_212 ?_
                  refine lv_iload (pc := 215) hx hb dX9_totalAnew_215 (lv_at hl 6 rfl) ?_
                  obtain ⟨hi_217, h⟩ := h
                  refine mL_15 (pc := 217) hF hP (f := (g 15)) rfl hi_217 dX9_totalAnew_217 ?_
                  refine lv_icmp_le (pc := 218) (tgt := 225) hx hb dX9_totalAnew_218 (by decide) (fun c_218 => ?_) (fun c_218 => ?_)
                  · have h := h.1 c_218
                    exact J225 x g v1 v2 v4 v5 v6 v7 h _ _ _ hP hD hS (lv_sub hl [0, 1, 2, 3, 4, 5, 6] rfl)
                  · have h := h.2 c_218
                    refine lv_iconst (pc := 221) (v := 1) hx hb dX9_totalAnew_221 (by decide) ?_
                    refine lv_goto (pc := 222) (tgt := 226) hx hb dX9_totalAnew_222 (by decide) ?_
                    exact J226 x g v1 v2 v4 v5 v6 v7 1 h _ _ _ hP hD hS (lv_sub hl [0, 1, 2, 3, 4, 5, 6] rfl)
      intro x g v1 v2 v4 v5 v6 h H locs ls hP hD hS hl
      unfold lX9_totalAnew_114 at h
      refine lv_iload (pc := 114) hx hb dX9_totalAnew_114 (lv_at hl 5 rfl) ?_
      refine lv_iconst (pc := 116) (v := 3) hx hb dX9_totalAnew_116 (by decide) ?_
      refine lv_icmp_ge (pc := 117) (tgt := 310) hx hb dX9_totalAnew_117 (by decide) (fun c_117 => ?_) (fun c_117 => ?_)
      · have h := h.1 c_117
        refine lv_iload (pc := 310) hx hb dX9_totalAnew_310 (lv_at hl 3 rfl) ?_
        exact zirV (pc := 312) (Wd := mW E o ad cI cZ) (u := (x, g)) hx hb hr hlocks hAe hK hP hD hS rfl dX9_totalAnew_312 (Nat.le_refl _) (Nat.le_refl _) h
      · have h := h.2 c_117
        refine lv_sipush (pc := 120) (v := 300) hx hb dX9_totalAnew_120 (by decide) ?_
        refine lv_iload (pc := 123) hx hb dX9_totalAnew_123 (lv_at hl 5 rfl) ?_
        refine lv_imul (pc := 125) hx hb dX9_totalAnew_125 ?_
        refine lv_topi (fun v7_126 e_v7_126 => ?_)
        replace h := h v7_126 e_v7_126
        refine lv_istore (pc := 126) (lv' := [(7, .int v7_126), (0, .ref o), (1, .int v1), (2, .int v2), (4, .int v4), (5, .int v5), (6, .int v6)]) hx hb dX9_totalAnew_126 hl (by decide) rfl (fun ls hl => ?_)
        obtain ⟨n128, h⟩ := h
        exact L128 n128 x g v1 v2 v4 v5 v6 v7_126 h _ _ _ hP hD hS (lv_sub hl [1, 2, 3, 4, 5, 6, 0] rfl)
  have J67 : ∀ (x : Nat → Int32) (g : Nat → Nat → Int32) (v1 v2 s0 : Int32), jX9_totalAnew_67 Φ x g v1 v2 s0 → ∀ (H : Heap) (locs : List Loc) (ls : Array Slot), va_P D vwCl (mW E o ad cI cZ (x, g)) H → va_D A (mW E o ad cI cZ (x, g)) → va_S A s.heap H locs → lv_has ls 10 [(0, .ref o), (1, .int v1), (2, .int v2)] → W p l e { frames := 2, cells := 0, slots := 0, locals := 42 } s m args below meth c H locs 0 0 (MQ below (zQi D (mT cI cZ) (mW E o ad cI cZ) (fun r u => Φ r u.1 u.2) (mW E o ad cI cZ (x0, g0)) s.heap.size) args s 0 0 (va_A (mW E o ad cI cZ (x0, g0)) s.heap.size)) (F0 m 67 ls [.int s0]) := by
    intro x g v1 v2 s0 h H locs ls hP hD hS hl
    unfold jX9_totalAnew_67 at h
    refine lv_istore_n (pc := 67) (lv' := [(3, .int s0), (0, .ref o), (1, .int v1), (2, .int v2)]) hx hb dX9_totalAnew_67 rfl hl (by decide) rfl (fun ls hl => ?_)
    refine lv_iload_n (pc := 68) hx hb dX9_totalAnew_68 rfl (lv_at hl 3 rfl) ?_
    refine lv_if_lt (pc := 69) (tgt := 103) hx hb dX9_totalAnew_69 (by decide) (fun c_69 => ?_) (fun c_69 => ?_)
    · have h := h.1 c_69
      refine lv_iconst (pc := 103) (v := 0) hx hb dX9_totalAnew_103 (by decide) ?_
      exact zirV (pc := 104) (Wd := mW E o ad cI cZ) (u := (x, g)) hx hb hr hlocks hAe hK hP hD hS rfl dX9_totalAnew_104 (Nat.le_refl _) (Nat.le_refl _) h
    · have h := h.2 c_69
      refine lv_iload_n (pc := 72) hx hb dX9_totalAnew_72 rfl (lv_at hl 3 rfl) ?_
      refine lv_sipush (pc := 73) (v := 999) hx hb dX9_totalAnew_73 (by decide) ?_
      refine lv_icmp_gt (pc := 76) (tgt := 103) hx hb dX9_totalAnew_76 (by decide) (fun c_76 => ?_) (fun c_76 => ?_)
      · have h := h.1 c_76
        refine lv_iconst (pc := 103) (v := 0) hx hb dX9_totalAnew_103 (by decide) ?_
        exact zirV (pc := 104) (Wd := mW E o ad cI cZ) (u := (x, g)) hx hb hr hlocks hAe hK hP hD hS rfl dX9_totalAnew_104 (Nat.le_refl _) (Nat.le_refl _) h
      · have h := h.2 c_76
        refine lv_iload_n (pc := 79) hx hb dX9_totalAnew_79 rfl (lv_at hl 3 rfl) ?_
        refine lv_iload_n (pc := 80) hx hb dX9_totalAnew_80 rfl (lv_at hl 0 rfl) ?_
        obtain ⟨h0_81, h⟩ := h
        refine lv_irem (pc := 81) hx hb dX9_totalAnew_81 h0_81 ?_
        refine lv_if_ne (pc := 82) (tgt := 103) hx hb dX9_totalAnew_82 (by decide) (fun c_82 => ?_) (fun c_82 => ?_)
        · have h := h.2 c_82
          refine lv_iconst (pc := 103) (v := 0) hx hb dX9_totalAnew_103 (by decide) ?_
          exact zirV (pc := 104) (Wd := mW E o ad cI cZ) (u := (x, g)) hx hb hr hlocks hAe hK hP hD hS rfl dX9_totalAnew_104 (Nat.le_refl _) (Nat.le_refl _) h
        · have h := h.1 c_82
          refine lv_iload_n (pc := 85) hx hb dX9_totalAnew_85 rfl (lv_at hl 3 rfl) ?_
          refine lv_aload_n (pc := 86) hx hb dX9_totalAnew_86 rfl (lv_at hl 1 rfl) ?_
          refine mG_6 (pc := 87) hF hP dX9_totalAnew_87 ?_
          refine lv_iconst (pc := 90) (v := 5) hx hb dX9_totalAnew_90 (by decide) ?_
          obtain ⟨hi_91, h⟩ := h
          refine mL_6 (pc := 91) hF hP (f := (g 6)) rfl hi_91 dX9_totalAnew_91 ?_
          refine lv_iadd (pc := 92) hx hb dX9_totalAnew_92 ?_
          refine lv_aload_n (pc := 93) hx hb dX9_totalAnew_93 rfl (lv_at hl 1 rfl) ?_
          refine mG_25 (pc := 94) hF hP dX9_totalAnew_94 ?_
          refine lv_bipush (pc := 97) (v := 6) hx hb dX9_totalAnew_97 (by decide) ?_
          obtain ⟨hi_99, h⟩ := h
          refine mL_25 (pc := 99) hF hP (f := (g 25)) rfl hi_99 dX9_totalAnew_99 ?_
          refine lv_icmp_le (pc := 100) (tgt := 105) hx hb dX9_totalAnew_100 (by decide) (fun c_100 => ?_) (fun c_100 => ?_)
          · have h := h.1 c_100
            refine lv_iconst (pc := 105) (v := 0) hx hb dX9_totalAnew_105 (by decide) ?_
            refine lv_istore (pc := 106) (lv' := [(4, .int 0), (3, .int s0), (0, .ref o), (1, .int v1), (2, .int v2)]) hx hb dX9_totalAnew_106 hl (by decide) rfl (fun ls hl => ?_)
            refine lv_iconst (pc := 108) (v := 0) hx hb dX9_totalAnew_108 (by decide) ?_
            refine lv_istore (pc := 109) (lv' := [(5, .int 0), (4, .int 0), (3, .int s0), (0, .ref o), (1, .int v1), (2, .int v2)]) hx hb dX9_totalAnew_109 hl (by decide) rfl (fun ls hl => ?_)
            refine lv_iconst (pc := 111) (v := 0) hx hb dX9_totalAnew_111 (by decide) ?_
            refine lv_istore (pc := 112) (lv' := [(6, .int 0), (5, .int 0), (4, .int 0), (3, .int s0), (0, .ref o), (1, .int v1), (2, .int v2)]) hx hb dX9_totalAnew_112 hl (by decide) rfl (fun ls hl => ?_)
            obtain ⟨n114, h⟩ := h
            exact L114 n114 x g v1 v2 0 0 0 h _ _ _ hP hD hS (lv_sub hl [4, 5, 6, 2, 1, 0] rfl)
          · have h := h.2 c_100
            refine lv_iconst (pc := 103) (v := 0) hx hb dX9_totalAnew_103 (by decide) ?_
            exact zirV (pc := 104) (Wd := mW E o ad cI cZ) (u := (x, g)) hx hb hr hlocks hAe hK hP hD hS rfl dX9_totalAnew_104 (Nat.le_refl _) (Nat.le_refl _) h
  have J34 : ∀ (x : Nat → Int32) (g : Nat → Nat → Int32) (v1 v2 s1 : Int32), jX9_totalAnew_34 Φ x g v1 v2 s1 → ∀ (H : Heap) (locs : List Loc) (ls : Array Slot), va_P D vwCl (mW E o ad cI cZ (x, g)) H → va_D A (mW E o ad cI cZ (x, g)) → va_S A s.heap H locs → lv_has ls 10 [(0, .ref o), (1, .int v1), (2, .int v2)] → W p l e { frames := 2, cells := 0, slots := 0, locals := 42 } s m args below meth c H locs 0 0 (MQ below (zQi D (mT cI cZ) (mW E o ad cI cZ) (fun r u => Φ r u.1 u.2) (mW E o ad cI cZ (x0, g0)) s.heap.size) args s 0 0 (va_A (mW E o ad cI cZ (x0, g0)) s.heap.size)) (F0 m 34 ls [.int s1, .ref o]) := by
    intro x g v1 v2 s1 h H locs ls hP hD hS hl
    unfold jX9_totalAnew_34 at h
    refine mVb (pc := 34) (x := x) (g := g) [.int s1] hF (kX9_can x g s1 h) (cwX9_X9_can hts ⟨Nat.le_of_ble_eq_true rfl, Nat.le_of_ble_eq_true rfl⟩) hP hD hS rfl rfl hl.1 (Nat.le_of_ble_eq_true rfl) dX9_totalAnew_34 ⟨Nat.le_refl _, Nat.le_refl _⟩ (fun r_34 x_34 g_34 H locs hb_34 h hP hD hS => ?_)
    refine lv_if_ne (pc := 37) (tgt := 42) hx hb dX9_totalAnew_37 (by decide) (fun c_37 => ?_) (fun c_37 => ?_)
    · have h := h.2 c_37
      refine lv_aload_n (pc := 42) hx hb dX9_totalAnew_42 rfl (lv_at hl 0 rfl) ?_
      refine mG_6 (pc := 43) hF hP dX9_totalAnew_43 ?_
      refine lv_iconst (pc := 46) (v := 4) hx hb dX9_totalAnew_46 (by decide) ?_
      obtain ⟨hi_47, h⟩ := h
      refine mL_6 (pc := 47) hF hP (f := (g_34 6)) rfl hi_47 dX9_totalAnew_47 ?_
      refine lv_if_ne (pc := 48) (tgt := 60) hx hb dX9_totalAnew_48 (by decide) (fun c_48 => ?_) (fun c_48 => ?_)
      · have h := h.2 c_48
        refine lv_aload_n (pc := 60) hx hb dX9_totalAnew_60 rfl (lv_at hl 0 rfl) ?_
        refine mG_6 (pc := 61) hF hP dX9_totalAnew_61 ?_
        refine lv_bipush (pc := 64) (v := 6) hx hb dX9_totalAnew_64 (by decide) ?_
        obtain ⟨hi_66, h⟩ := h
        refine mL_6 (pc := 66) hF hP (f := (g_34 6)) rfl hi_66 dX9_totalAnew_66 ?_
        exact J67 x_34 g_34 v1 v2 ((g_34 6) (6 : Int32).toNatClampNeg) h _ _ _ hP hD hS (lv_sub hl [0, 1, 2] rfl)
      · have h := h.1 c_48
        refine lv_aload_n (pc := 51) hx hb dX9_totalAnew_51 rfl (lv_at hl 0 rfl) ?_
        refine mG_6 (pc := 52) hF hP dX9_totalAnew_52 ?_
        refine lv_iconst (pc := 55) (v := 5) hx hb dX9_totalAnew_55 (by decide) ?_
        obtain ⟨hi_56, h⟩ := h
        refine mL_6 (pc := 56) hF hP (f := (g_34 6)) rfl hi_56 dX9_totalAnew_56 ?_
        refine lv_goto (pc := 57) (tgt := 67) hx hb dX9_totalAnew_57 (by decide) ?_
        exact J67 x_34 g_34 v1 v2 ((g_34 6) (5 : Int32).toNatClampNeg) h _ _ _ hP hD hS (lv_sub hl [0, 1, 2] rfl)
    · have h := h.1 c_37
      refine lv_iconst (pc := 40) (v := 0) hx hb dX9_totalAnew_40 (by decide) ?_
      exact zirV (pc := 41) (Wd := mW E o ad cI cZ) (u := (x_34, g_34)) hx hb hr hlocks hAe hK hP hD hS rfl dX9_totalAnew_41 (Nat.le_refl _) (Nat.le_refl _) h
  have J29 : ∀ (x : Nat → Int32) (g : Nat → Nat → Int32) (v1 v2 : Int32), jX9_totalAnew_29 Φ x g v1 v2 → ∀ (H : Heap) (locs : List Loc) (ls : Array Slot), va_P D vwCl (mW E o ad cI cZ (x, g)) H → va_D A (mW E o ad cI cZ (x, g)) → va_S A s.heap H locs → lv_has ls 10 [(0, .ref o), (1, .int v1), (2, .int v2)] → W p l e { frames := 2, cells := 0, slots := 0, locals := 42 } s m args below meth c H locs 0 0 (MQ below (zQi D (mT cI cZ) (mW E o ad cI cZ) (fun r u => Φ r u.1 u.2) (mW E o ad cI cZ (x0, g0)) s.heap.size) args s 0 0 (va_A (mW E o ad cI cZ (x0, g0)) s.heap.size)) (F0 m 29 ls [.ref o]) := by
    intro x g v1 v2 h H locs ls hP hD hS hl
    unfold jX9_totalAnew_29 at h
    refine lv_iconst (pc := 29) (v := 2) hx hb dX9_totalAnew_29 (by decide) ?_
    refine lv_goto (pc := 30) (tgt := 34) hx hb dX9_totalAnew_30 (by decide) ?_
    exact J34 x g v1 v2 2 h _ _ _ hP hD hS (lv_sub hl [0, 1, 2] rfl)
  unfold wX9_totalAnew at h
  refine lv_aload_n (pc := 0) hx hb dX9_totalAnew_0 rfl (lv_at hl 0 rfl) ?_
  refine lv_iload_n (pc := 1) hx hb dX9_totalAnew_1 rfl (lv_at hl 1 rfl) ?_
  refine mSbp (pc := 2) (x := x0) (g := g0) [.int a1] hF (kX9_isKey x0 g0 a1 h) (cwX9_X9_isKey hts ⟨Nat.le_of_ble_eq_true rfl, Nat.le_of_ble_eq_true rfl⟩) hP hD hS rfl rfl hl.1 (Nat.le_of_ble_eq_true rfl) dX9_totalAnew_2 ⟨Nat.le_refl _, Nat.le_refl _⟩ (fun r_2 H locs hb_2 h hP hD hS => ?_)
  refine lv_if_ne (pc := 5) (tgt := 12) hx hb dX9_totalAnew_5 (by decide) (fun c_5 => ?_) (fun c_5 => ?_)
  · have h := h.2 c_5
    refine lv_aload_n (pc := 12) hx hb dX9_totalAnew_12 rfl (lv_at hl 0 rfl) ?_
    refine mG_5 (pc := 13) (v := (x0 5)) hF hP rfl dX9_totalAnew_13 ?_
    refine lv_if_eq (pc := 16) (tgt := 29) hx hb dX9_totalAnew_16 (by decide) (fun c_16 => ?_) (fun c_16 => ?_)
    · have h := h.1 c_16
      exact J29 x0 g0 a1 a2 h _ _ _ hP hD hS (lv_sub hl [0, 1, 2] rfl)
    · have h := h.2 c_16
      refine lv_aload_n (pc := 19) hx hb dX9_totalAnew_19 rfl (lv_at hl 0 rfl) ?_
      refine mG_6 (pc := 20) hF hP dX9_totalAnew_20 ?_
      refine lv_iconst (pc := 23) (v := 4) hx hb dX9_totalAnew_23 (by decide) ?_
      obtain ⟨hi_24, h⟩ := h
      refine mL_6 (pc := 24) hF hP (f := (g0 6)) rfl hi_24 dX9_totalAnew_24 ?_
      refine lv_iconst (pc := 25) (v := 2) hx hb dX9_totalAnew_25 (by decide) ?_
      refine lv_icmp_ne (pc := 26) (tgt := 33) hx hb dX9_totalAnew_26 (by decide) (fun c_26 => ?_) (fun c_26 => ?_)
      · have h := h.2 c_26
        refine lv_iconst (pc := 33) (v := 0) hx hb dX9_totalAnew_33 (by decide) ?_
        exact J34 x0 g0 a1 a2 0 h _ _ _ hP hD hS (lv_sub hl [0, 1, 2] rfl)
      · have h := h.1 c_26
        exact J29 x0 g0 a1 a2 h _ _ _ hP hD hS (lv_sub hl [0, 1, 2] rfl)
  · have h := h.1 c_5
    refine lv_iconst (pc := 8) (v := 1) hx hb dX9_totalAnew_8 (by decide) ?_
    refine lv_goto (pc := 9) (tgt := 34) hx hb dX9_totalAnew_9 (by decide) ?_
    exact J34 x0 g0 a1 a2 1 h _ _ _ hP hD hS (lv_sub hl [0, 1, 2] rfl)
