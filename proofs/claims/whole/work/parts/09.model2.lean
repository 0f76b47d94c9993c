def jX9_readsMode_120 (Φ : Int32 → (Nat → Int32) → (Nat → Nat → Int32) → Prop) (x : Nat → Int32) (g : Nat → Nat → Int32) : Prop := (wX9_isAtEnd x g (fun r_121 => ((r_121 = 0 → (wX9_blanks x g (fun r_128 x_128 g_128 => ((r_128 = 0 → (wX9_fails x_128 g_128 (fun x_144 g_144 => (Φ 0 x_144 g_144)))) ∧ (¬ r_128 = 0 → (wX9_isAtEnd x_128 g_128 (fun r_135 => ((r_135 = 0 → (wX9_fails x_128 g_128 (fun x_144 g_144 => (Φ 0 x_144 g_144)))) ∧ (¬ r_135 = 0 → (Φ 1 x_128 g_128)))))))))) ∧ (¬ r_121 = 0 → (Φ 1 x g)))))
def jX9_readsMode_36 (Φ : Int32 → (Nat → Int32) → (Nat → Nat → Int32) → Prop) (x : Nat → Int32) (g : Nat → Nat → Int32) (v1 s1 s2 : Int32) : Prop := (vp_in s1 9 ∧ (wX9_isAtEnd x (va_up g 7 (upd (g 7) s1.toNatClampNeg s2)) (fun r_38 => ((r_38 = 0 → ((v1 = 100 → (wX9_word x (va_up g 7 (upd (g 7) s1.toNatClampNeg s2)) 100 105 102 102 0 0 0 (fun r_64 x_64 g_64 => ((r_64 = 0 → (Φ 0 x_64 g_64)) ∧ (¬ r_64 = 0 → (jX9_readsMode_120 Φ x_64 g_64)))))) ∧ (¬ v1 = 100 → ((v1 = 98 → (wX9_word x (va_up g 7 (upd (g 7) s1.toNatClampNeg s2)) 98 97 99 107 0 0 0 (fun r_91 x_91 g_91 => ((r_91 = 0 → (Φ 0 x_91 g_91)) ∧ (¬ r_91 = 0 → (jX9_readsMode_120 Φ x_91 g_91)))))) ∧ (¬ v1 = 98 → (wX9_word x (va_up g 7 (upd (g 7) s1.toNatClampNeg s2)) 97 110 101 119 0 0 0 (fun r_112 x_112 g_112 => ((r_112 = 0 → (Φ 0 x_112 g_112)) ∧ (¬ r_112 = 0 → (jX9_readsMode_120 Φ x_112 g_112)))))))))) ∧ (¬ r_38 = 0 → (Φ 1 x (va_up g 7 (upd (g 7) s1.toNatClampNeg s2))))))))
def wX9_readsMode (x : Nat → Int32) (g : Nat → Nat → Int32) (Φ : Int32 → (Nat → Int32) → (Nat → Nat → Int32) → Prop) : Prop := (wX9_at x g (x 1) (fun r_5 => ((r_5 = 100 → (jX9_readsMode_36 Φ x g r_5 8 1)) ∧ (¬ r_5 = 100 → ((r_5 = 98 → (jX9_readsMode_36 Φ x g r_5 8 2)) ∧ (¬ r_5 = 98 → (jX9_readsMode_36 Φ x g r_5 8 0)))))))
set_option maxRecDepth 100000 in
set_option maxHeartbeats 4000000 in
theorem kX9_readsMode {l : Launch} {D : va_G} {E : va_W} {o : Nat} {ad : Nat → Nat} {cI cZ : ClassId} {sz : Nat} (x0 : Nat → Int32) (g0 : Nat → Nat → Int32) {Φ : Int32 → (Nat → Int32) → (Nat → Nat → Int32) → Prop} (h : wX9_readsMode x0 g0 Φ) : Met l yX9_readsMode (zws yX9_readsMode cX9_readsMode 2 (some .boolean)) { frames := 2, cells := 0, slots := 0, locals := 50 } (zPc D (mT cI cZ) zX0 (mW E o ad cI cZ (x0, g0)) [.ref o] sz) (zQi D (mT cI cZ) (mW E o ad cI cZ) (fun r u => (r = 0 ∨ r = 1) ∧ Φ r u.1 u.2) (mW E o ad cI cZ (x0, g0)) sz) 0 0 (va_A (mW E o ad cI cZ (x0, g0)) sz) := by
  refine zMet (by decide) (Nat.le_of_ble_eq_true rfl) ?_
  intro p e s m args below meth c A hx hb hr hml hown hts hlocks hsz hAe hA hS hP hK hD hX ls hl
  subst hsz
  have hF : zFx p s m args c cX9_readsMode RX9 A D (mT cI cZ) zX0 2 := ⟨hx, hb, hml, hown, hts, hA, hK, zX0_cl, hX⟩
  have hl : lv_has ls 2 [(0, .ref o)] := hl
  have J120 : ∀ (x : Nat → Int32) (g : Nat → Nat → Int32), jX9_readsMode_120 Φ x g → ∀ (H : Heap) (locs : List Loc) (ls : Array Slot), va_P D vwCl (mW E o ad cI cZ (x, g)) H → va_D A (mW E o ad cI cZ (x, g)) → va_S A s.heap H locs → lv_has ls 2 [(0, .ref o)] → W p l e { frames := 2, cells := 0, slots := 0, locals := 50 } s m args below meth c H locs 0 0 (MQ below (zQi D (mT cI cZ) (mW E o ad cI cZ) (fun r u => (r = 0 ∨ r = 1) ∧ Φ r u.1 u.2) (mW E o ad cI cZ (x0, g0)) s.heap.size) args s 0 0 (va_A (mW E o ad cI cZ (x0, g0)) s.heap.size)) (F0 m 120 ls []) := by
    intro x g  h H locs ls hP hD hS hl
    unfold jX9_readsMode_120 at h
    refine lv_aload_n (pc := 120) hx hb dX9_readsMode_120 rfl (lv_at hl 0 rfl) ?_
    refine mVbp (pc := 121) (x := x) (g := g) [] hF (kX9_isAtEnd x g h) (cwX9_X9_isAtEnd hts ⟨Nat.le_of_ble_eq_true rfl, Nat.le_of_ble_eq_true rfl⟩) hP hD hS rfl rfl hl.1 (Nat.le_of_ble_eq_true rfl) dX9_readsMode_121 ⟨Nat.le_refl _, Nat.le_refl _⟩ (fun r_121 H locs hb_121 h hP hD hS => ?_)
    refine lv_if_ne (pc := 124) (tgt := 141) hx hb dX9_readsMode_124 (by decide) (fun c_124 => ?_) (fun c_124 => ?_)
    · have h := h.2 c_124
      refine lv_iconst (pc := 141) (v := 1) hx hb dX9_readsMode_141 (by decide) ?_
      exact zirV (pc := 142) (Wd := mW E o ad cI cZ) (u := (x, g)) hx hb hr hlocks hAe hK hP hD hS rfl dX9_readsMode_142 (Nat.le_refl _) (Nat.le_refl _) ⟨(Or.inr rfl), h⟩
    · have h := h.1 c_124
      refine lv_aload_n (pc := 127) hx hb dX9_readsMode_127 rfl (lv_at hl 0 rfl) ?_
      refine mVb (pc := 128) (x := x) (g := g) [] hF (kX9_blanks x g h) (cwX9_X9_blanks hts ⟨Nat.le_of_ble_eq_true rfl, Nat.le_of_ble_eq_true rfl⟩) hP hD hS rfl rfl hl.1 (Nat.le_of_ble_eq_true rfl) dX9_readsMode_128 ⟨Nat.le_refl _, Nat.le_refl _⟩ (fun r_128 x_128 g_128 H locs hb_128 h hP hD hS => ?_)
      refine lv_if_eq (pc := 131) (tgt := 143) hx hb dX9_readsMode_131 (by decide) (fun c_131 => ?_) (fun c_131 => ?_)
      · have h := h.1 c_131
        refine lv_aload_n (pc := 143) hx hb dX9_readsMode_143 rfl (lv_at hl 0 rfl) ?_
        refine mVv (pc := 144) (x := x_128) (g := g_128) [] hF (kX9_fails x_128 g_128 h) (cwX9_X9_fails hts ⟨Nat.le_of_ble_eq_true rfl, Nat.le_of_ble_eq_true rfl⟩) hP hD hS rfl rfl hl.1 (Nat.le_of_ble_eq_true rfl) dX9_readsMode_144 ⟨Nat.le_refl _, Nat.le_refl _⟩ (fun x_144 g_144 H locs h hP hD hS => ?_)
        refine lv_iconst (pc := 147) (v := 0) hx hb dX9_readsMode_147 (by decide) ?_
        exact zirV (pc := 148) (Wd := mW E o ad cI cZ) (u := (x_144, g_144)) hx hb hr hlocks hAe hK hP hD hS rfl dX9_readsMode_148 (Nat.le_refl _) (Nat.le_refl _) ⟨(Or.inl rfl), h⟩
      · have h := h.2 c_131
        refine lv_aload_n (pc := 134) hx hb dX9_readsMode_134 rfl (lv_at hl 0 rfl) ?_
        refine mVbp (pc := 135) (x := x_128) (g := g_128) [] hF (kX9_isAtEnd x_128 g_128 h) (cwX9_X9_isAtEnd hts ⟨Nat.le_of_ble_eq_true rfl, Nat.le_of_ble_eq_true rfl⟩) hP hD hS rfl rfl hl.1 (Nat.le_of_ble_eq_true rfl) dX9_readsMode_135 ⟨Nat.le_refl _, Nat.le_refl _⟩ (fun r_135 H locs hb_135 h hP hD hS => ?_)
        refine lv_if_eq (pc := 138) (tgt := 143) hx hb dX9_readsMode_138 (by decide) (fun c_138 => ?_) (fun c_138 => ?_)
        · have h := h.1 c_138
          refine lv_aload_n (pc := 143) hx hb dX9_readsMode_143 rfl (lv_at hl 0 rfl) ?_
          refine mVv (pc := 144) (x := x_128) (g := g_128) [] hF (kX9_fails x_128 g_128 h) (cwX9_X9_fails hts ⟨Nat.le_of_ble_eq_true rfl, Nat.le_of_ble_eq_true rfl⟩) hP hD hS rfl rfl hl.1 (Nat.le_of_ble_eq_true rfl) dX9_readsMode_144 ⟨Nat.le_refl _, Nat.le_refl _⟩ (fun x_144 g_144 H locs h hP hD hS => ?_)
          refine lv_iconst (pc := 147) (v := 0) hx hb dX9_readsMode_147 (by decide) ?_
          exact zirV (pc := 148) (Wd := mW E o ad cI cZ) (u := (x_144, g_144)) hx hb hr hlocks hAe hK hP hD hS rfl dX9_readsMode_148 (Nat.le_refl _) (Nat.le_refl _) ⟨(Or.inl rfl), h⟩
        · have h := h.2 c_138
          refine lv_iconst (pc := 141) (v := 1) hx hb dX9_readsMode_141 (by decide) ?_
          exact zirV (pc := 142) (Wd := mW E o ad cI cZ) (u := (x_128, g_128)) hx hb hr hlocks hAe hK hP hD hS rfl dX9_readsMode_142 (Nat.le_refl _) (Nat.le_refl _) ⟨(Or.inr rfl), h⟩
  have J36 : ∀ (x : Nat → Int32) (g : Nat → Nat → Int32) (v1 s1 s2 : Int32), jX9_readsMode_36 Φ x g v1 s1 s2 → ∀ (H : Heap) (locs : List Loc) (ls : Array Slot), va_P D vwCl (mW E o ad cI cZ (x, g)) H → va_D A (mW E o ad cI cZ (x, g)) → va_S A s.heap H locs → lv_has ls 2 [(0, .ref o), (1, .int v1)] → W p l e { frames := 2, cells := 0, slots := 0, locals := 50 } s m args below meth c H locs 0 0 (MQ below (zQi D (mT cI cZ) (mW E o ad cI cZ) (fun r u => (r = 0 ∨ r = 1) ∧ Φ r u.1 u.2) (mW E o ad cI cZ (x0, g0)) s.heap.size) args s 0 0 (va_A (mW E o ad cI cZ (x0, g0)) s.heap.size)) (F0 m 36 ls [.int s2, .int s1, .ref (ad 7)]) := by
    intro x g v1 s1 s2 h H locs ls hP hD hS hl
    unfold jX9_readsMode_36 at h
    obtain ⟨hi_36, h⟩ := h
    refine mP_7 (pc := 36) hF hP hD hS (f := (g 7)) rfl hi_36 dX9_readsMode_36 (fun H locs hP hD hS => ?_)
    refine lv_aload_n (pc := 37) hx hb dX9_readsMode_37 rfl (lv_at hl 0 rfl) ?_
    refine mVbp (pc := 38) (x := x) (g := (va_up g 7 (upd (g 7) s1.toNatClampNeg s2))) [] hF (kX9_isAtEnd x (va_up g 7 (upd (g 7) s1.toNatClampNeg s2)) h) (cwX9_X9_isAtEnd hts ⟨Nat.le_of_ble_eq_true rfl, Nat.le_of_ble_eq_true rfl⟩) hP hD hS rfl rfl hl.1 (Nat.le_of_ble_eq_true rfl) dX9_readsMode_38 ⟨Nat.le_refl _, Nat.le_refl _⟩ (fun r_38 H locs hb_38 h hP hD hS => ?_)
    refine lv_if_eq (pc := 41) (tgt := 46) hx hb dX9_readsMode_41 (by decide) (fun c_41 => ?_) (fun c_41 => ?_)
    · have h := h.1 c_41
      refine lv_iload_n (pc := 46) hx hb dX9_readsMode_46 rfl (lv_at hl 1 rfl) ?_
      refine lv_bipush (pc := 47) (v := 100) hx hb dX9_readsMode_47 (by decide) ?_
      refine lv_icmp_ne (pc := 49) (tgt := 73) hx hb dX9_readsMode_49 (by decide) (fun c_49 => ?_) (fun c_49 => ?_)
      · have h := h.2 c_49
        refine lv_iload_n (pc := 73) hx hb dX9_readsMode_73 rfl (lv_at hl 1 rfl) ?_
        refine lv_bipush (pc := 74) (v := 98) hx hb dX9_readsMode_74 (by decide) ?_
        refine lv_icmp_ne (pc := 76) (tgt := 100) hx hb dX9_readsMode_76 (by decide) (fun c_76 => ?_) (fun c_76 => ?_)
        · have h := h.2 c_76
          refine lv_aload_n (pc := 100) hx hb dX9_readsMode_100 rfl (lv_at hl 0 rfl) ?_
          refine lv_bipush (pc := 101) (v := 97) hx hb dX9_readsMode_101 (by decide) ?_
          refine lv_bipush (pc := 103) (v := 110) hx hb dX9_readsMode_103 (by decide) ?_
          refine lv_bipush (pc := 105) (v := 101) hx hb dX9_readsMode_105 (by decide) ?_
          refine lv_bipush (pc := 107) (v := 119) hx hb dX9_readsMode_107 (by decide) ?_
          refine lv_iconst (pc := 109) (v := 0) hx hb dX9_readsMode_109 (by decide) ?_
          refine lv_iconst (pc := 110) (v := 0) hx hb dX9_readsMode_110 (by decide) ?_
          refine lv_iconst (pc := 111) (v := 0) hx hb dX9_readsMode_111 (by decide) ?_
          refine mVb (pc := 112) (x := x) (g := (va_up g 7 (upd (g 7) s1.toNatClampNeg s2))) [.int 97, .int 110, .int 101, .int 119, .int 0, .int 0, .int 0] hF (kX9_word x (va_up g 7 (upd (g 7) s1.toNatClampNeg s2)) 97 110 101 119 0 0 0 h) (cwX9_X9_word hts ⟨Nat.le_of_ble_eq_true rfl, Nat.le_of_ble_eq_true rfl⟩) hP hD hS rfl rfl hl.1 (Nat.le_of_ble_eq_true rfl) dX9_readsMode_112 ⟨Nat.le_refl _, Nat.le_refl _⟩ (fun r_112 x_112 g_112 H locs hb_112 h hP hD hS => ?_)
          refine lv_if_ne (pc := 115) (tgt := 120) hx hb dX9_readsMode_115 (by decide) (fun c_115 => ?_) (fun c_115 => ?_)
          · have h := h.2 c_115
            exact J120 x_112 g_112 h _ _ _ hP hD hS (lv_sub hl [0] rfl)
          · have h := h.1 c_115
            refine lv_iconst (pc := 118) (v := 0) hx hb dX9_readsMode_118 (by decide) ?_
            exact zirV (pc := 119) (Wd := mW E o ad cI cZ) (u := (x_112, g_112)) hx hb hr hlocks hAe hK hP hD hS rfl dX9_readsMode_119 (Nat.le_refl _) (Nat.le_refl _) ⟨(Or.inl rfl), h⟩
        · have h := h.1 c_76
          refine lv_aload_n (pc := 79) hx hb dX9_readsMode_79 rfl (lv_at hl 0 rfl) ?_
          refine lv_bipush (pc := 80) (v := 98) hx hb dX9_readsMode_80 (by decide) ?_
          refine lv_bipush (pc := 82) (v := 97) hx hb dX9_readsMode_82 (by decide) ?_
          refine lv_bipush (pc := 84) (v := 99) hx hb dX9_readsMode_84 (by decide) ?_
          refine lv_bipush (pc := 86) (v := 107) hx hb dX9_readsMode_86 (by decide) ?_
          refine lv_iconst (pc := 88) (v := 0) hx hb dX9_readsMode_88 (by decide) ?_
          refine lv_iconst (pc := 89) (v := 0) hx hb dX9_readsMode_89 (by decide) ?_
          refine lv_iconst (pc := 90) (v := 0) hx hb dX9_readsMode_90 (by decide) ?_
          refine mVb (pc := 91) (x := x) (g := (va_up g 7 (upd (g 7) s1.toNatClampNeg s2))) [.int 98, .int 97, .int 99, .int 107, .int 0, .int 0, .int 0] hF (kX9_word x (va_up g 7 (upd (g 7) s1.toNatClampNeg s2)) 98 97 99 107 0 0 0 h) (cwX9_X9_word hts ⟨Nat.le_of_ble_eq_true rfl, Nat.le_of_ble_eq_true rfl⟩) hP hD hS rfl rfl hl.1 (Nat.le_of_ble_eq_true rfl) dX9_readsMode_91 ⟨Nat.le_refl _, Nat.le_refl _⟩ (fun r_91 x_91 g_91 H locs hb_91 h hP hD hS => ?_)
          refine lv_if_eq (pc := 94) (tgt := 118) hx hb dX9_readsMode_94 (by decide) (fun c_94 => ?_) (fun c_94 => ?_)
          · have h := h.1 c_94
            refine lv_iconst (pc := 118) (v := 0) hx hb dX9_readsMode_118 (by decide) ?_
            exact zirV (pc := 119) (Wd := mW E o ad cI cZ) (u := (x_91, g_91)) hx hb hr hlocks hAe hK hP hD hS rfl dX9_readsMode_119 (Nat.le_refl _) (Nat.le_refl _) ⟨(Or.inl rfl), h⟩
          · have h := h.2 c_94
            refine lv_goto (pc := 97) (tgt := 120) hx hb dX9_readsMode_97 (by decide) ?_
            exact J120 x_91 g_91 h _ _ _ hP hD hS (lv_sub hl [0] rfl)
      · have h := h.1 c_49
        refine lv_aload_n (pc := 52) hx hb dX9_readsMode_52 rfl (lv_at hl 0 rfl) ?_
        refine lv_bipush (pc := 53) (v := 100) hx hb dX9_readsMode_53 (by decide) ?_
        refine lv_bipush (pc := 55) (v := 105) hx hb dX9_readsMode_55 (by decide) ?_
        refine lv_bipush (pc := 57) (v := 102) hx hb dX9_readsMode_57 (by decide) ?_
        refine lv_bipush (pc := 59) (v := 102) hx hb dX9_readsMode_59 (by decide) ?_
        refine lv_iconst (pc := 61) (v := 0) hx hb dX9_readsMode_61 (by decide) ?_
        refine lv_iconst (pc := 62) (v := 0) hx hb dX9_readsMode_62 (by decide) ?_
        refine lv_iconst (pc := 63) (v := 0) hx hb dX9_readsMode_63 (by decide) ?_
        refine mVb (pc := 64) (x := x) (g := (va_up g 7 (upd (g 7) s1.toNatClampNeg s2))) [.int 100, .int 105, .int 102, .int 102, .int 0, .int 0, .int 0] hF (kX9_word x (va_up g 7 (upd (g 7) s1.toNatClampNeg s2)) 100 105 102 102 0 0 0 h) (cwX9_X9_word hts ⟨Nat.le_of_ble_eq_true rfl, Nat.le_of_ble_eq_true rfl⟩) hP hD hS rfl rfl hl.1 (Nat.le_of_ble_eq_true rfl) dX9_readsMode_64 ⟨Nat.le_refl _, Nat.le_refl _⟩ (fun r_64 x_64 g_64 H locs hb_64 h hP hD hS => ?_)
        refine lv_if_eq (pc := 67) (tgt := 118) hx hb dX9_readsMode_67 (by decide) (fun c_67 => ?_) (fun c_67 => ?_)
        · have h := h.1 c_67
          refine lv_iconst (pc := 118) (v := 0) hx hb dX9_readsMode_118 (by decide) ?_
          exact zirV (pc := 119) (Wd := mW E o ad cI cZ) (u := (x_64, g_64)) hx hb hr hlocks hAe hK hP hD hS rfl dX9_readsMode_119 (Nat.le_refl _) (Nat.le_refl _) ⟨(Or.inl rfl), h⟩
        · have h := h.2 c_67
          refine lv_goto (pc := 70) (tgt := 120) hx hb dX9_readsMode_70 (by decide) ?_
          exact J120 x_64 g_64 h _ _ _ hP hD hS (lv_sub hl [0] rfl)
    · have h := h.2 c_41
      refine lv_iconst (pc := 44) (v := 1) hx hb dX9_readsMode_44 (by decide) ?_
      exact zirV (pc := 45) (Wd := mW E o ad cI cZ) (u := (x, (va_up g 7 (upd (g 7) s1.toNatClampNeg s2)))) hx hb hr hlocks hAe hK hP hD hS rfl dX9_readsMode_45 (Nat.le_refl _) (Nat.le_refl _) ⟨(Or.inr rfl), h⟩
  unfold wX9_readsMode at h
  refine lv_aload_n (pc := 0) hx hb dX9_readsMode_0 rfl (lv_at hl 0 rfl) ?_
  refine lv_aload_n (pc := 1) hx hb dX9_readsMode_1 rfl (lv_at hl 0 rfl) ?_
  refine mG_1 (pc := 2) (v := (x0 1)) hF hP rfl dX9_readsMode_2 ?_
  refine mVip (pc := 5) (x := x0) (g := g0) [.int (x0 1)] hF (kX9_at x0 g0 (x0 1) h) (cwX9_X9_at hts ⟨Nat.le_of_ble_eq_true rfl, Nat.le_of_ble_eq_true rfl⟩) hP hD hS rfl rfl hl.1 (Nat.le_of_ble_eq_true rfl) dX9_readsMode_5 ⟨Nat.le_refl _, Nat.le_refl _⟩ (fun r_5 H locs h hP hD hS => ?_)
  refine lv_istore_n (pc := 8) (lv' := [(1, .int r_5), (0, .ref o)]) hx hb dX9_readsMode_8 rfl hl (by decide) rfl (fun ls hl => ?_)
  refine lv_aload_n (pc := 9) hx hb dX9_readsMode_9 rfl (lv_at hl 1 rfl) ?_
  refine mG_7 (pc := 10) hF hP dX9_readsMode_10 ?_
  refine lv_bipush (pc := 13) (v := 8) hx hb dX9_readsMode_13 (by decide) ?_
  refine lv_iload_n (pc := 15) hx hb dX9_readsMode_15 rfl (lv_at hl 0 rfl) ?_
  refine lv_bipush (pc := 16) (v := 100) hx hb dX9_readsMode_16 (by decide) ?_
  refine lv_icmp_ne (pc := 18) (tgt := 25) hx hb dX9_readsMode_18 (by decide) (fun c_18 => ?_) (fun c_18 => ?_)
  · have h := h.2 c_18
    refine lv_iload_n (pc := 25) hx hb dX9_readsMode_25 rfl (lv_at hl 0 rfl) ?_
    refine lv_bipush (pc := 26) (v := 98) hx hb dX9_readsMode_26 (by decide) ?_
    refine lv_icmp_ne (pc := 28) (tgt := 35) hx hb dX9_readsMode_28 (by decide) (fun c_28 => ?_) (fun c_28 => ?_)
    · have h := h.2 c_28
      refine lv_iconst (pc := 35) (v := 0) hx hb dX9_readsMode_35 (by decide) ?_
      exact J36 x0 g0 r_5 8 0 h _ _ _ hP hD hS (lv_sub hl [1, 0] rfl)
    · have h := h.1 c_28
      refine lv_iconst (pc := 31) (v := 2) hx hb dX9_readsMode_31 (by decide) ?_
      refine lv_goto (pc := 32) (tgt := 36) hx hb dX9_readsMode_32 (by decide) ?_
      exact J36 x0 g0 r_5 8 2 h _ _ _ hP hD hS (lv_sub hl [1, 0] rfl)
  · have h := h.1 c_18
    refine lv_iconst (pc := 21) (v := 1) hx hb dX9_readsMode_21 (by decide) ?_
    refine lv_goto (pc := 22) (tgt := 36) hx hb dX9_readsMode_22 (by decide) ?_
    exact J36 x0 g0 r_5 8 1 h _ _ _ hP hD hS (lv_sub hl [1, 0] rfl)

def jX9_reads_66 (Φ : Int32 → (Nat → Int32) → (Nat → Nat → Int32) → Prop) (x : Nat → Int32) (g : Nat → Nat → Int32) (s0 : Int32) : Prop := ((s0 = 0 → (Φ (x 2) x g)) ∧ (¬ s0 = 0 → (Φ (-1) x g)))
def jX9_reads_65 (Φ : Int32 → (Nat → Int32) → (Nat → Nat → Int32) → Prop) (x : Nat → Int32) (g : Nat → Nat → Int32) : Prop := (jX9_reads_66 Φ x g 0)
def jX9_reads_47 (Φ : Int32 → (Nat → Int32) → (Nat → Nat → Int32) → Prop) (x : Nat → Int32) (g : Nat → Nat → Int32) : Prop := (wX9_readsLate x g (fun r_48 x_48 g_48 => ((r_48 = 0 → (jX9_reads_65 Φ x_48 g_48)) ∧ (¬ r_48 = 0 → (wX9_readsMode x_48 g_48 (fun r_55 x_55 g_55 => ((r_55 = 0 → (jX9_reads_65 Φ x_55 g_55)) ∧ (¬ r_55 = 0 → (jX9_reads_66 Φ x_55 g_55 1)))))))))
def wX9_reads (x : Nat → Int32) (g : Nat → Nat → Int32) (Φ : Int32 → (Nat → Int32) → (Nat → Nat → Int32) → Prop) : Prop := (wX9_readsFirst (va_up x 1 0) g (fun r_6 x_6 g_6 => ((r_6 = 0 → (jX9_reads_65 Φ x_6 g_6)) ∧ (¬ r_6 = 0 → (wX9_readsIf x_6 g_6 (fun r_13 x_13 g_13 => ((r_13 = 0 → (jX9_reads_65 Φ x_13 g_13)) ∧ (¬ r_13 = 0 → (wX9_readsJoin x_13 g_13 (fun r_20 x_20 g_20 => ((r_20 = 0 → (jX9_reads_65 Φ x_20 g_20)) ∧ (¬ r_20 = 0 → (wX9_readsWindows x_20 g_20 (fun r_27 x_27 g_27 => ((r_27 = 0 → (jX9_reads_65 Φ x_27 g_27)) ∧ (¬ r_27 = 0 → (wX9_isAtEnd x_27 g_27 (fun r_34 => ((r_34 = 0 → (wX9_blanks x_27 g_27 (fun r_41 x_41 g_41 => ((r_41 = 0 → (jX9_reads_65 Φ x_41 g_41)) ∧ (¬ r_41 = 0 → (jX9_reads_47 Φ x_41 g_41)))))) ∧ (¬ r_34 = 0 → (jX9_reads_47 Φ x_27 g_27)))))))))))))))))))))
set_option maxRecDepth 100000 in
set_option maxHeartbeats 4000000 in
theorem kX9_reads {l : Launch} {D : va_G} {E : va_W} {o : Nat} {ad : Nat → Nat} {cI cZ : ClassId} {sz : Nat} (x0 : Nat → Int32) (g0 : Nat → Nat → Int32) {Φ : Int32 → (Nat → Int32) → (Nat → Nat → Int32) → Prop} (h : wX9_reads x0 g0 Φ) : Met l yX9_reads (zws yX9_reads cX9_reads 2 (some .int)) { frames := 3, cells := 0, slots := 0, locals := 73 } (zPc D (mT cI cZ) zX0 (mW E o ad cI cZ (x0, g0)) [.ref o] sz) (zQi D (mT cI cZ) (mW E o ad cI cZ) (fun r u => Φ r u.1 u.2) (mW E o ad cI cZ (x0, g0)) sz) 0 0 (va_A (mW E o ad cI cZ (x0, g0)) sz) := by
  refine zMet (by decide) (Nat.le_of_ble_eq_true rfl) ?_
  intro p e s m args below meth c A hx hb hr hml hown hts hlocks hsz hAe hA hS hP hK hD hX ls hl
  subst hsz
  have hF : zFx p s m args c cX9_reads RX9 A D (mT cI cZ) zX0 2 := ⟨hx, hb, hml, hown, hts, hA, hK, zX0_cl, hX⟩
  have hl : lv_has ls 2 [(0, .ref o)] := hl
  have J66 : ∀ (x : Nat → Int32) (g : Nat → Nat → Int32) (s0 : Int32), jX9_reads_66 Φ x g s0 → ∀ (H : Heap) (locs : List Loc) (ls : Array Slot), va_P D vwCl (mW E o ad cI cZ (x, g)) H → va_D A (mW E o ad cI cZ (x, g)) → va_S A s.heap H locs → lv_has ls 2 [(0, .ref o)] → W p l e { frames := 3, cells := 0, slots := 0, locals := 73 } s m args below meth c H locs 0 0 (MQ below (zQi D (mT cI cZ) (mW E o ad cI cZ) (fun r u => Φ r u.1 u.2) (mW E o ad cI cZ (x0, g0)) s.heap.size) args s 0 0 (va_A (mW E o ad cI cZ (x0, g0)) s.heap.size)) (F0 m 66 ls [.int s0]) := by
    intro x g s0 h H locs ls hP hD hS hl
    unfold jX9_reads_66 at h
    refine lv_istore_n (pc := 66) (lv' := [(1, .int s0), (0, .ref o)]) hx hb dX9_reads_66 rfl hl (by decide) rfl (fun ls hl => ?_)
    refine lv_iload_n (pc := 67) hx hb dX9_reads_67 rfl (lv_at hl 0 rfl) ?_
    refine lv_if_eq (pc := 68) (tgt := 75) hx hb dX9_reads_68 (by decide) (fun c_68 => ?_) (fun c_68 => ?_)
    · have h := h.1 c_68
      refine lv_aload_n (pc := 75) hx hb dX9_reads_75 rfl (lv_at hl 1 rfl) ?_
      refine mG_2 (pc := 76) (v := (x 2)) hF hP rfl dX9_reads_76 ?_
      exact zirV (pc := 79) (Wd := mW E o ad cI cZ) (u := (x, g)) hx hb hr hlocks hAe hK hP hD hS rfl dX9_reads_79 (Nat.le_refl _) (Nat.le_refl _) h
    · have h := h.2 c_68
      refine lv_iconst (pc := 71) (v := (-1)) hx hb dX9_reads_71 (by decide) ?_
      refine lv_goto (pc := 72) (tgt := 79) hx hb dX9_reads_72 (by decide) ?_
      exact zirV (pc := 79) (Wd := mW E o ad cI cZ) (u := (x, g)) hx hb hr hlocks hAe hK hP hD hS rfl dX9_reads_79 (Nat.le_refl _) (Nat.le_refl _) h
  have J65 : ∀ (x : Nat → Int32) (g : Nat → Nat → Int32), jX9_reads_65 Φ x g → ∀ (H : Heap) (locs : List Loc) (ls : Array Slot), va_P D vwCl (mW E o ad cI cZ (x, g)) H → va_D A (mW E o ad cI cZ (x, g)) → va_S A s.heap H locs → lv_has ls 2 [(0, .ref o)] → W p l e { frames := 3, cells := 0, slots := 0, locals := 73 } s m args below meth c H locs 0 0 (MQ below (zQi D (mT cI cZ) (mW E o ad cI cZ) (fun r u => Φ r u.1 u.2) (mW E o ad cI cZ (x0, g0)) s.heap.size) args s 0 0 (va_A (mW E o ad cI cZ (x0, g0)) s.heap.size)) (F0 m 65 ls []) := by
    intro x g  h H locs ls hP hD hS hl
    unfold jX9_reads_65 at h
    refine lv_iconst (pc := 65) (v := 0) hx hb dX9_reads_65 (by decide) ?_
    exact J66 x g 0 h _ _ _ hP hD hS (lv_sub hl [0] rfl)
  have J47 : ∀ (x : Nat → Int32) (g : Nat → Nat → Int32), jX9_reads_47 Φ x g → ∀ (H : Heap) (locs : List Loc) (ls : Array Slot), va_P D vwCl (mW E o ad cI cZ (x, g)) H → va_D A (mW E o ad cI cZ (x, g)) → va_S A s.heap H locs → lv_has ls 2 [(0, .ref o)] → W p l e { frames := 3, cells := 0, slots := 0, locals := 73 } s m args below meth c H locs 0 0 (MQ below (zQi D (mT cI cZ) (mW E o ad cI cZ) (fun r u => Φ r u.1 u.2) (mW E o ad cI cZ (x0, g0)) s.heap.size) args s 0 0 (va_A (mW E o ad cI cZ (x0, g0)) s.heap.size)) (F0 m 47 ls []) := by
    intro x g  h H locs ls hP hD hS hl
    unfold jX9_reads_47 at h
    refine lv_aload_n (pc := 47) hx hb dX9_reads_47 rfl (lv_at hl 0 rfl) ?_
    refine mVb (pc := 48) (x := x) (g := g) [] hF (kX9_readsLate x g h) (cwX9_X9_readsLate hts ⟨Nat.le_of_ble_eq_true rfl, Nat.le_of_ble_eq_true rfl⟩) hP hD hS rfl rfl hl.1 (Nat.le_of_ble_eq_true rfl) dX9_reads_48 ⟨Nat.le_refl _, Nat.le_refl _⟩ (fun r_48 x_48 g_48 H locs hb_48 h hP hD hS => ?_)
    refine lv_if_eq (pc := 51) (tgt := 65) hx hb dX9_reads_51 (by decide) (fun c_51 => ?_) (fun c_51 => ?_)
    · have h := h.1 c_51
      exact J65 x_48 g_48 h _ _ _ hP hD hS (lv_sub hl [0] rfl)
    · have h := h.2 c_51
      refine lv_aload_n (pc := 54) hx hb dX9_reads_54 rfl (lv_at hl 0 rfl) ?_
      refine mVb (pc := 55) (x := x_48) (g := g_48) [] hF (kX9_readsMode x_48 g_48 h) (cwX9_X9_readsMode hts ⟨Nat.le_of_ble_eq_true rfl, Nat.le_of_ble_eq_true rfl⟩) hP hD hS rfl rfl hl.1 (Nat.le_of_ble_eq_true rfl) dX9_reads_55 ⟨Nat.le_refl _, Nat.le_refl _⟩ (fun r_55 x_55 g_55 H locs hb_55 h hP hD hS => ?_)
      refine lv_if_eq (pc := 58) (tgt := 65) hx hb dX9_reads_58 (by decide) (fun c_58 => ?_) (fun c_58 => ?_)
      · have h := h.1 c_58
        exact J65 x_55 g_55 h _ _ _ hP hD hS (lv_sub hl [0] rfl)
      · have h := h.2 c_58
        refine lv_iconst (pc := 61) (v := 1) hx hb dX9_reads_61 (by decide) ?_
        refine lv_goto (pc := 62) (tgt := 66) hx hb dX9_reads_62 (by decide) ?_
        exact J66 x_55 g_55 1 h _ _ _ hP hD hS (lv_sub hl [0] rfl)
  unfold wX9_reads at h
  refine lv_aload_n (pc := 0) hx hb dX9_reads_0 rfl (lv_at hl 0 rfl) ?_
  refine lv_iconst (pc := 1) (v := 0) hx hb dX9_reads_1 (by decide) ?_
  refine mP_1 (pc := 2) hF hP hD hS dX9_reads_2 (fun H locs hP hD hS => ?_)
  refine lv_aload_n (pc := 5) hx hb dX9_reads_5 rfl (lv_at hl 0 rfl) ?_
  refine mVb (pc := 6) (x := (va_up x0 1 0)) (g := g0) [] hF (kX9_readsFirst (va_up x0 1 0) g0 h) (cwX9_X9_readsFirst hts ⟨Nat.le_of_ble_eq_true rfl, Nat.le_of_ble_eq_true rfl⟩) hP hD hS rfl rfl hl.1 (Nat.le_of_ble_eq_true rfl) dX9_reads_6 ⟨Nat.le_refl _, Nat.le_refl _⟩ (fun r_6 x_6 g_6 H locs hb_6 h hP hD hS => ?_)
  refine lv_if_eq (pc := 9) (tgt := 65) hx hb dX9_reads_9 (by decide) (fun c_9 => ?_) (fun c_9 => ?_)
  · have h := h.1 c_9
    exact J65 x_6 g_6 h _ _ _ hP hD hS (lv_sub hl [0] rfl)
  · have h := h.2 c_9
    refine lv_aload_n (pc := 12) hx hb dX9_reads_12 rfl (lv_at hl 0 rfl) ?_
    refine mVb (pc := 13) (x := x_6) (g := g_6) [] hF (kX9_readsIf x_6 g_6 h) (cwX9_X9_readsIf hts ⟨Nat.le_of_ble_eq_true rfl, Nat.le_of_ble_eq_true rfl⟩) hP hD hS rfl rfl hl.1 (Nat.le_of_ble_eq_true rfl) dX9_reads_13 ⟨Nat.le_refl _, Nat.le_refl _⟩ (fun r_13 x_13 g_13 H locs hb_13 h hP hD hS => ?_)
    refine lv_if_eq (pc := 16) (tgt := 65) hx hb dX9_reads_16 (by decide) (fun c_16 => ?_) (fun c_16 => ?_)
    · have h := h.1 c_16
      exact J65 x_13 g_13 h _ _ _ hP hD hS (lv_sub hl [0] rfl)
    · have h := h.2 c_16
      refine lv_aload_n (pc := 19) hx hb dX9_reads_19 rfl (lv_at hl 0 rfl) ?_
      refine mVb (pc := 20) (x := x_13) (g := g_13) [] hF (kX9_readsJoin x_13 g_13 h) (cwX9_X9_readsJoin hts ⟨Nat.le_of_ble_eq_true rfl, Nat.le_of_ble_eq_true rfl⟩) hP hD hS rfl rfl hl.1 (Nat.le_of_ble_eq_true rfl) dX9_reads_20 ⟨Nat.le_refl _, Nat.le_refl _⟩ (fun r_20 x_20 g_20 H locs hb_20 h hP hD hS => ?_)
      refine lv_if_eq (pc := 23) (tgt := 65) hx hb dX9_reads_23 (by decide) (fun c_23 => ?_) (fun c_23 => ?_)
      · have h := h.1 c_23
        exact J65 x_20 g_20 h _ _ _ hP hD hS (lv_sub hl [0] rfl)
      · have h := h.2 c_23
        refine lv_aload_n (pc := 26) hx hb dX9_reads_26 rfl (lv_at hl 0 rfl) ?_
        refine mVb (pc := 27) (x := x_20) (g := g_20) [] hF (kX9_readsWindows x_20 g_20 h) (cwX9_X9_readsWindows hts ⟨Nat.le_of_ble_eq_true rfl, Nat.le_of_ble_eq_true rfl⟩) hP hD hS rfl rfl hl.1 (Nat.le_of_ble_eq_true rfl) dX9_reads_27 ⟨Nat.le_refl _, Nat.le_refl _⟩ (fun r_27 x_27 g_27 H locs hb_27 h hP hD hS => ?_)
        refine lv_if_eq (pc := 30) (tgt := 65) hx hb dX9_reads_30 (by decide) (fun c_30 => ?_) (fun c_30 => ?_)
        · have h := h.1 c_30
          exact J65 x_27 g_27 h _ _ _ hP hD hS (lv_sub hl [0] rfl)
        · have h := h.2 c_30
          refine lv_aload_n (pc := 33) hx hb dX9_reads_33 rfl (lv_at hl 0 rfl) ?_
          refine mVbp (pc := 34) (x := x_27) (g := g_27) [] hF (kX9_isAtEnd x_27 g_27 h) (cwX9_X9_isAtEnd hts ⟨Nat.le_of_ble_eq_true rfl, Nat.le_of_ble_eq_true rfl⟩) hP hD hS rfl rfl hl.1 (Nat.le_of_ble_eq_true rfl) dX9_reads_34 ⟨Nat.le_refl _, Nat.le_refl _⟩ (fun r_34 H locs hb_34 h hP hD hS => ?_)
          refine lv_if_ne (pc := 37) (tgt := 47) hx hb dX9_reads_37 (by decide) (fun c_37 => ?_) (fun c_37 => ?_)
          · have h := h.2 c_37
            exact J47 x_27 g_27 h _ _ _ hP hD hS (lv_sub hl [0] rfl)
          · have h := h.1 c_37
            refine lv_aload_n (pc := 40) hx hb dX9_reads_40 rfl (lv_at hl 0 rfl) ?_
            refine mVb (pc := 41) (x := x_27) (g := g_27) [] hF (kX9_blanks x_27 g_27 h) (cwX9_X9_blanks hts ⟨Nat.le_of_ble_eq_true rfl, Nat.le_of_ble_eq_true rfl⟩) hP hD hS rfl rfl hl.1 (Nat.le_of_ble_eq_true rfl) dX9_reads_41 ⟨Nat.le_refl _, Nat.le_refl _⟩ (fun r_41 x_41 g_41 H locs hb_41 h hP hD hS => ?_)
            refine lv_if_eq (pc := 44) (tgt := 65) hx hb dX9_reads_44 (by decide) (fun c_44 => ?_) (fun c_44 => ?_)
            · have h := h.1 c_44
              exact J65 x_41 g_41 h _ _ _ hP hD hS (lv_sub hl [0] rfl)
            · have h := h.2 c_44
              exact J47 x_41 g_41 h _ _ _ hP hD hS (lv_sub hl [0] rfl)

def wX9_fault (x : Nat → Int32) (g : Nat → Nat → Int32) (Φ : Int32 → (Nat → Int32) → (Nat → Nat → Int32) → Prop) : Prop := (wX9_reads (va_up x 44 0) g (fun r_6 x_6 g_6 => (Φ r_6 x_6 g_6)))
set_option maxRecDepth 100000 in
set_option maxHeartbeats 4000000 in
theorem kX9_fault {l : Launch} {D : va_G} {E : va_W} {o : Nat} {ad : Nat → Nat} {cI cZ : ClassId} {sz : Nat} (x0 : Nat → Int32) (g0 : Nat → Nat → Int32) {Φ : Int32 → (Nat → Int32) → (Nat → Nat → Int32) → Prop} (h : wX9_fault x0 g0 Φ) : Met l yX9_fault (zws yX9_fault cX9_fault 1 (some .int)) { frames := 4, cells := 0, slots := 0, locals := 94 } (zPc D (mT cI cZ) zX0 (mW E o ad cI cZ (x0, g0)) [.ref o] sz) (zQi D (mT cI cZ) (mW E o ad cI cZ) (fun r u => Φ r u.1 u.2) (mW E o ad cI cZ (x0, g0)) sz) 0 0 (va_A (mW E o ad cI cZ (x0, g0)) sz) := by
  refine zMet (by decide) (Nat.le_of_ble_eq_true rfl) ?_
  intro p e s m args below meth c A hx hb hr hml hown hts hlocks hsz hAe hA hS hP hK hD hX ls hl
  subst hsz
  have hF : zFx p s m args c cX9_fault RX9 A D (mT cI cZ) zX0 1 := ⟨hx, hb, hml, hown, hts, hA, hK, zX0_cl, hX⟩
  have hl : lv_has ls 1 [(0, .ref o)] := hl
  unfold wX9_fault at h
  refine lv_aload_n (pc := 0) hx hb dX9_fault_0 rfl (lv_at hl 0 rfl) ?_
  refine lv_iconst (pc := 1) (v := 0) hx hb dX9_fault_1 (by decide) ?_
  refine mP_44 (pc := 2) hF hP hD hS dX9_fault_2 (fun H locs hP hD hS => ?_)
  refine lv_aload_n (pc := 5) hx hb dX9_fault_5 rfl (lv_at hl 0 rfl) ?_
  refine mVi (pc := 6) (x := (va_up x0 44 0)) (g := g0) [] hF (kX9_reads (va_up x0 44 0) g0 h) (cwX9_X9_reads hts ⟨Nat.le_of_ble_eq_true rfl, Nat.le_of_ble_eq_true rfl⟩) hP hD hS rfl rfl hl.1 (Nat.le_of_ble_eq_true rfl) dX9_fault_6 ⟨Nat.le_refl _, Nat.le_refl _⟩ (fun r_6 x_6 g_6 H locs h hP hD hS => ?_)
  exact zirV (pc := 9) (Wd := mW E o ad cI cZ) (u := (x_6, g_6)) hx hb hr hlocks hAe hK hP hD hS rfl dX9_fault_9 (Nat.le_refl _) (Nat.le_refl _) h

def wX9_isPossible (x : Nat → Int32) (g : Nat → Nat → Int32) (Φ : Int32 → (Nat → Int32) → (Nat → Nat → Int32) → Prop) : Prop := (wX9_reads x g (fun r_1 x_1 g_1 => ((r_1 = (-1) → (vp_in 4 9 ∧ ((((g_1 7) (4 : Int32).toNatClampNeg) = 1 → (vp_in 5 9 ∧ (vp_in 6 9 ∧ (¬ ((g_1 7) (6 : Int32).toNatClampNeg) = 0 ∧ (((((g_1 7) (5 : Int32).toNatClampNeg) - ((g_1 7) (5 : Int32).toNatClampNeg) / ((g_1 7) (6 : Int32).toNatClampNeg) * ((g_1 7) (6 : Int32).toNatClampNeg)) = 0 → (vp_in 5 9 ∧ (vp_in 6 9 ∧ (((4 * ((g_1 7) (6 : Int32).toNatClampNeg)) < ((g_1 7) (5 : Int32).toNatClampNeg) → (Φ 0 x_1 g_1)) ∧ (¬ (4 * ((g_1 7) (6 : Int32).toNatClampNeg)) < ((g_1 7) (5 : Int32).toNatClampNeg) → (Φ 1 x_1 g_1)))))) ∧ (¬ (((g_1 7) (5 : Int32).toNatClampNeg) - ((g_1 7) (5 : Int32).toNatClampNeg) / ((g_1 7) (6 : Int32).toNatClampNeg) * ((g_1 7) (6 : Int32).toNatClampNeg)) = 0 → (Φ 0 x_1 g_1))))))) ∧ (¬ ((g_1 7) (4 : Int32).toNatClampNeg) = 1 → (Φ 1 x_1 g_1))))) ∧ (¬ r_1 = (-1) → (Φ 0 x_1 g_1)))))
set_option maxRecDepth 100000 in
set_option maxHeartbeats 4000000 in
theorem kX9_isPossible {l : Launch} {D : va_G} {E : va_W} {o : Nat} {ad : Nat → Nat} {cI cZ : ClassId} {sz : Nat} (x0 : Nat → Int32) (g0 : Nat → Nat → Int32) {Φ : Int32 → (Nat → Int32) → (Nat → Nat → Int32) → Prop} (h : wX9_isPossible x0 g0 Φ) : Met l yX9_isPossible (zws yX9_isPossible cX9_isPossible 1 (some .boolean)) { frames := 4, cells := 0, slots := 0, locals := 94 } (zPc D (mT cI cZ) zX0 (mW E o ad cI cZ (x0, g0)) [.ref o] sz) (zQi D (mT cI cZ) (mW E o ad cI cZ) (fun r u => (r = 0 ∨ r = 1) ∧ Φ r u.1 u.2) (mW E o ad cI cZ (x0, g0)) sz) 0 0 (va_A (mW E o ad cI cZ (x0, g0)) sz) := by
  refine zMet (by decide) (Nat.le_of_ble_eq_true rfl) ?_
  intro p e s m args below meth c A hx hb hr hml hown hts hlocks hsz hAe hA hS hP hK hD hX ls hl
  subst hsz
  have hF : zFx p s m args c cX9_isPossible RX9 A D (mT cI cZ) zX0 1 := ⟨hx, hb, hml, hown, hts, hA, hK, zX0_cl, hX⟩
  have hl : lv_has ls 1 [(0, .ref o)] := hl
  unfold wX9_isPossible at h
  refine lv_aload_n (pc := 0) hx hb dX9_isPossible_0 rfl (lv_at hl 0 rfl) ?_
  refine mVi (pc := 1) (x := x0) (g := g0) [] hF (kX9_reads x0 g0 h) (cwX9_X9_reads hts ⟨Nat.le_of_ble_eq_true rfl, Nat.le_of_ble_eq_true rfl⟩) hP hD hS rfl rfl hl.1 (Nat.le_of_ble_eq_true rfl) dX9_isPossible_1 ⟨Nat.le_refl _, Nat.le_refl _⟩ (fun r_1 x_1 g_1 H locs h hP hD hS => ?_)
  refine lv_iconst (pc := 4) (v := (-1)) hx hb dX9_isPossible_4 (by decide) ?_
  refine lv_icmp_ne (pc := 5) (tgt := 57) hx hb dX9_isPossible_5 (by decide) (fun c_5 => ?_) (fun c_5 => ?_)
  · have h := h.2 c_5
    refine lv_iconst (pc := 57) (v := 0) hx hb dX9_isPossible_57 (by decide) ?_
    exact zirV (pc := 58) (Wd := mW E o ad cI cZ) (u := (x_1, g_1)) hx hb hr hlocks hAe hK hP hD hS rfl dX9_isPossible_58 (Nat.le_refl _) (Nat.le_refl _) ⟨(Or.inl rfl), h⟩
  · have h := h.1 c_5
    refine lv_aload_n (pc := 8) hx hb dX9_isPossible_8 rfl (lv_at hl 0 rfl) ?_
    refine mG_7 (pc := 9) hF hP dX9_isPossible_9 ?_
    refine lv_iconst (pc := 12) (v := 4) hx hb dX9_isPossible_12 (by decide) ?_
    obtain ⟨hi_13, h⟩ := h
    refine mL_7 (pc := 13) hF hP (f := (g_1 7)) rfl hi_13 dX9_isPossible_13 ?_
    refine lv_iconst (pc := 14) (v := 1) hx hb dX9_isPossible_14 (by decide) ?_
    refine lv_icmp_ne (pc := 15) (tgt := 53) hx hb dX9_isPossible_15 (by decide) (fun c_15 => ?_) (fun c_15 => ?_)
    · have h := h.2 c_15
      refine lv_iconst (pc := 53) (v := 1) hx hb dX9_isPossible_53 (by decide) ?_
      refine lv_goto (pc := 54) (tgt := 58) hx hb dX9_isPossible_54 (by decide) ?_
      exact zirV (pc := 58) (Wd := mW E o ad cI cZ) (u := (x_1, g_1)) hx hb hr hlocks hAe hK hP hD hS rfl dX9_isPossible_58 (Nat.le_refl _) (Nat.le_refl _) ⟨(Or.inr rfl), h⟩
    · have h := h.1 c_15
      refine lv_aload_n (pc := 18) hx hb dX9_isPossible_18 rfl (lv_at hl 0 rfl) ?_
      refine mG_7 (pc := 19) hF hP dX9_isPossible_19 ?_
      refine lv_iconst (pc := 22) (v := 5) hx hb dX9_isPossible_22 (by decide) ?_
      obtain ⟨hi_23, h⟩ := h
      refine mL_7 (pc := 23) hF hP (f := (g_1 7)) rfl hi_23 dX9_isPossible_23 ?_
      refine lv_aload_n (pc := 24) hx hb dX9_isPossible_24 rfl (lv_at hl 0 rfl) ?_
      refine mG_7 (pc := 25) hF hP dX9_isPossible_25 ?_
      refine lv_bipush (pc := 28) (v := 6) hx hb dX9_isPossible_28 (by decide) ?_
      obtain ⟨hi_30, h⟩ := h
      refine mL_7 (pc := 30) hF hP (f := (g_1 7)) rfl hi_30 dX9_isPossible_30 ?_
      obtain ⟨h0_31, h⟩ := h
      refine lv_irem (pc := 31) hx hb dX9_isPossible_31 h0_31 ?_
      refine lv_if_ne (pc := 32) (tgt := 57) hx hb dX9_isPossible_32 (by decide) (fun c_32 => ?_) (fun c_32 => ?_)
      · have h := h.2 c_32
        refine lv_iconst (pc := 57) (v := 0) hx hb dX9_isPossible_57 (by decide) ?_
        exact zirV (pc := 58) (Wd := mW E o ad cI cZ) (u := (x_1, g_1)) hx hb hr hlocks hAe hK hP hD hS rfl dX9_isPossible_58 (Nat.le_refl _) (Nat.le_refl _) ⟨(Or.inl rfl), h⟩
      · have h := h.1 c_32
        refine lv_aload_n (pc := 35) hx hb dX9_isPossible_35 rfl (lv_at hl 0 rfl) ?_
        refine mG_7 (pc := 36) hF hP dX9_isPossible_36 ?_
        refine lv_iconst (pc := 39) (v := 5) hx hb dX9_isPossible_39 (by decide) ?_
        obtain ⟨hi_40, h⟩ := h
        refine mL_7 (pc := 40) hF hP (f := (g_1 7)) rfl hi_40 dX9_isPossible_40 ?_
        refine lv_iconst (pc := 41) (v := 4) hx hb dX9_isPossible_41 (by decide) ?_
        refine lv_aload_n (pc := 42) hx hb dX9_isPossible_42 rfl (lv_at hl 0 rfl) ?_
        refine mG_7 (pc := 43) hF hP dX9_isPossible_43 ?_
        refine lv_bipush (pc := 46) (v := 6) hx hb dX9_isPossible_46 (by decide) ?_
        obtain ⟨hi_48, h⟩ := h
        refine mL_7 (pc := 48) hF hP (f := (g_1 7)) rfl hi_48 dX9_isPossible_48 ?_
        refine lv_imul (pc := 49) hx hb dX9_isPossible_49 ?_
        refine lv_icmp_gt (pc := 50) (tgt := 57) hx hb dX9_isPossible_50 (by decide) (fun c_50 => ?_) (fun c_50 => ?_)
        · have h := h.1 c_50
          refine lv_iconst (pc := 57) (v := 0) hx hb dX9_isPossible_57 (by decide) ?_
          exact zirV (pc := 58) (Wd := mW E o ad cI cZ) (u := (x_1, g_1)) hx hb hr hlocks hAe hK hP hD hS rfl dX9_isPossible_58 (Nat.le_refl _) (Nat.le_refl _) ⟨(Or.inl rfl), h⟩
        · have h := h.2 c_50
          refine lv_iconst (pc := 53) (v := 1) hx hb dX9_isPossible_53 (by decide) ?_
          refine lv_goto (pc := 54) (tgt := 58) hx hb dX9_isPossible_54 (by decide) ?_
          exact zirV (pc := 58) (Wd := mW E o ad cI cZ) (u := (x_1, g_1)) hx hb hr hlocks hAe hK hP hD hS rfl dX9_isPossible_58 (Nat.le_refl _) (Nat.le_refl _) ⟨(Or.inr rfl), h⟩

def wX9_isLikePlan (x : Nat → Int32) (g : Nat → Nat → Int32) (Φ : Int32 → Prop) : Prop := (((x 5) = 0 → (Φ 0)) ∧ (¬ (x 5) = 0 → (vp_in 0 9 ∧ (vp_in 0 9 ∧ ((((g 7) (0 : Int32).toNatClampNeg) = ((g 6) (0 : Int32).toNatClampNeg) → (vp_in 4 9 ∧ (vp_in 4 9 ∧ ((((g 7) (4 : Int32).toNatClampNeg) = ((g 6) (4 : Int32).toNatClampNeg) → (vp_in 5 9 ∧ (vp_in 5 9 ∧ ((((g 7) (5 : Int32).toNatClampNeg) = ((g 6) (5 : Int32).toNatClampNeg) → (vp_in 6 9 ∧ (vp_in 6 9 ∧ ((((g 7) (6 : Int32).toNatClampNeg) = ((g 6) (6 : Int32).toNatClampNeg) → (vp_in 7 9 ∧ (vp_in 7 9 ∧ ((((g 6) (7 : Int32).toNatClampNeg) < ((g 7) (7 : Int32).toNatClampNeg) → (Φ 0)) ∧ (¬ ((g 6) (7 : Int32).toNatClampNeg) < ((g 7) (7 : Int32).toNatClampNeg) → (Φ 1)))))) ∧ (¬ ((g 7) (6 : Int32).toNatClampNeg) = ((g 6) (6 : Int32).toNatClampNeg) → (Φ 0)))))) ∧ (¬ ((g 7) (5 : Int32).toNatClampNeg) = ((g 6) (5 : Int32).toNatClampNeg) → (Φ 0)))))) ∧ (¬ ((g 7) (4 : Int32).toNatClampNeg) = ((g 6) (4 : Int32).toNatClampNeg) → (Φ 0)))))) ∧ (¬ ((g 7) (0 : Int32).toNatClampNeg) = ((g 6) (0 : Int32).toNatClampNeg) → (Φ 0)))))))
set_option maxRecDepth 100000 in
set_option maxHeartbeats 4000000 in
theorem kX9_isLikePlan {l : Launch} {D : va_G} {E : va_W} {o : Nat} {ad : Nat → Nat} {cI cZ : ClassId} {sz : Nat} (x0 : Nat → Int32) (g0 : Nat → Nat → Int32) {Φ : Int32 → Prop} (h : wX9_isLikePlan x0 g0 Φ) : Met l yX9_isLikePlan (zws yX9_isLikePlan cX9_isLikePlan 1 (some .boolean)) { frames := 0, cells := 0, slots := 0, locals := 0 } (zPc D (mT cI cZ) zX0 (mW E o ad cI cZ (x0, g0)) [.ref o] sz) (zQi D (mT cI cZ) (mW E o ad cI cZ) (fun r u => u = (x0, g0) ∧ (r = 0 ∨ r = 1) ∧ Φ r) (mW E o ad cI cZ (x0, g0)) sz) 0 0 (va_A (mW E o ad cI cZ (x0, g0)) sz) := by
  refine zMet (by decide) (Nat.le_of_ble_eq_true rfl) ?_
  intro p e s m args below meth c A hx hb hr hml hown hts hlocks hsz hAe hA hS hP hK hD hX ls hl
  subst hsz
  have hF : zFx p s m args c cX9_isLikePlan RX9 A D (mT cI cZ) zX0 1 := ⟨hx, hb, hml, hown, hts, hA, hK, zX0_cl, hX⟩
  have hl : lv_has ls 1 [(0, .ref o)] := hl
  unfold wX9_isLikePlan at h
  refine lv_aload_n (pc := 0) hx hb dX9_isLikePlan_0 rfl (lv_at hl 0 rfl) ?_
  refine mG_5 (pc := 1) (v := (x0 5)) hF hP rfl dX9_isLikePlan_1 ?_
  refine lv_if_eq (pc := 4) (tgt := 90) hx hb dX9_isLikePlan_4 (by decide) (fun c_4 => ?_) (fun c_4 => ?_)
  · have h := h.1 c_4
    refine lv_iconst (pc := 90) (v := 0) hx hb dX9_isLikePlan_90 (by decide) ?_
    exact zirV (pc := 91) (Wd := mW E o ad cI cZ) (u := (x0, g0)) hx hb hr hlocks hAe hK hP hD hS rfl dX9_isLikePlan_91 (Nat.le_refl _) (Nat.le_refl _) ⟨rfl, (Or.inl rfl), h⟩
  · have h := h.2 c_4
    refine lv_aload_n (pc := 7) hx hb dX9_isLikePlan_7 rfl (lv_at hl 0 rfl) ?_
    refine mG_7 (pc := 8) hF hP dX9_isLikePlan_8 ?_
    refine lv_iconst (pc := 11) (v := 0) hx hb dX9_isLikePlan_11 (by decide) ?_
    obtain ⟨hi_12, h⟩ := h
    refine mL_7 (pc := 12) hF hP (f := (g0 7)) rfl hi_12 dX9_isLikePlan_12 ?_
    refine lv_aload_n (pc := 13) hx hb dX9_isLikePlan_13 rfl (lv_at hl 0 rfl) ?_
    refine mG_6 (pc := 14) hF hP dX9_isLikePlan_14 ?_
    refine lv_iconst (pc := 17) (v := 0) hx hb dX9_isLikePlan_17 (by decide) ?_
    obtain ⟨hi_18, h⟩ := h
    refine mL_6 (pc := 18) hF hP (f := (g0 6)) rfl hi_18 dX9_isLikePlan_18 ?_
    refine lv_icmp_ne (pc := 19) (tgt := 90) hx hb dX9_isLikePlan_19 (by decide) (fun c_19 => ?_) (fun c_19 => ?_)
    · have h := h.2 c_19
      refine lv_iconst (pc := 90) (v := 0) hx hb dX9_isLikePlan_90 (by decide) ?_
      exact zirV (pc := 91) (Wd := mW E o ad cI cZ) (u := (x0, g0)) hx hb hr hlocks hAe hK hP hD hS rfl dX9_isLikePlan_91 (Nat.le_refl _) (Nat.le_refl _) ⟨rfl, (Or.inl rfl), h⟩
    · have h := h.1 c_19
      refine lv_aload_n (pc := 22) hx hb dX9_isLikePlan_22 rfl (lv_at hl 0 rfl) ?_
      refine mG_7 (pc := 23) hF hP dX9_isLikePlan_23 ?_
      refine lv_iconst (pc := 26) (v := 4) hx hb dX9_isLikePlan_26 (by decide) ?_
      obtain ⟨hi_27, h⟩ := h
      refine mL_7 (pc := 27) hF hP (f := (g0 7)) rfl hi_27 dX9_isLikePlan_27 ?_
      refine lv_aload_n (pc := 28) hx hb dX9_isLikePlan_28 rfl (lv_at hl 0 rfl) ?_
      refine mG_6 (pc := 29) hF hP dX9_isLikePlan_29 ?_
      refine lv_iconst (pc := 32) (v := 4) hx hb dX9_isLikePlan_32 (by decide) ?_
      obtain ⟨hi_33, h⟩ := h
      refine mL_6 (pc := 33) hF hP (f := (g0 6)) rfl hi_33 dX9_isLikePlan_33 ?_
      refine lv_icmp_ne (pc := 34) (tgt := 90) hx hb dX9_isLikePlan_34 (by decide) (fun c_34 => ?_) (fun c_34 => ?_)
      · have h := h.2 c_34
        refine lv_iconst (pc := 90) (v := 0) hx hb dX9_isLikePlan_90 (by decide) ?_
        exact zirV (pc := 91) (Wd := mW E o ad cI cZ) (u := (x0, g0)) hx hb hr hlocks hAe hK hP hD hS rfl dX9_isLikePlan_91 (Nat.le_refl _) (Nat.le_refl _) ⟨rfl, (Or.inl rfl), h⟩
      · have h := h.1 c_34
        refine lv_aload_n (pc := 37) hx hb dX9_isLikePlan_37 rfl (lv_at hl 0 rfl) ?_
        refine mG_7 (pc := 38) hF hP dX9_isLikePlan_38 ?_
        refine lv_iconst (pc := 41) (v := 5) hx hb dX9_isLikePlan_41 (by decide) ?_
        obtain ⟨hi_42, h⟩ := h
        refine mL_7 (pc := 42) hF hP (f := (g0 7)) rfl hi_42 dX9_isLikePlan_42 ?_
        refine lv_aload_n (pc := 43) hx hb dX9_isLikePlan_43 rfl (lv_at hl 0 rfl) ?_
        refine mG_6 (pc := 44) hF hP dX9_isLikePlan_44 ?_
        refine lv_iconst (pc := 47) (v := 5) hx hb dX9_isLikePlan_47 (by decide) ?_
        obtain ⟨hi_48, h⟩ := h
        refine mL_6 (pc := 48) hF hP (f := (g0 6)) rfl hi_48 dX9_isLikePlan_48 ?_
        refine lv_icmp_ne (pc := 49) (tgt := 90) hx hb dX9_isLikePlan_49 (by decide) (fun c_49 => ?_) (fun c_49 => ?_)
        · have h := h.2 c_49
          refine lv_iconst (pc := 90) (v := 0) hx hb dX9_isLikePlan_90 (by decide) ?_
          exact zirV (pc := 91) (Wd := mW E o ad cI cZ) (u := (x0, g0)) hx hb hr hlocks hAe hK hP hD hS rfl dX9_isLikePlan_91 (Nat.le_refl _) (Nat.le_refl _) ⟨rfl, (Or.inl rfl), h⟩
        · have h := h.1 c_49
          refine lv_aload_n (pc := 52) hx hb dX9_isLikePlan_52 rfl (lv_at hl 0 rfl) ?_
          refine mG_7 (pc := 53) hF hP dX9_isLikePlan_53 ?_
          refine lv_bipush (pc := 56) (v := 6) hx hb dX9_isLikePlan_56 (by decide) ?_
          obtain ⟨hi_58, h⟩ := h
          refine mL_7 (pc := 58) hF hP (f := (g0 7)) rfl hi_58 dX9_isLikePlan_58 ?_
          refine lv_aload_n (pc := 59) hx hb dX9_isLikePlan_59 rfl (lv_at hl 0 rfl) ?_
          refine mG_6 (pc := 60) hF hP dX9_isLikePlan_60 ?_
          refine lv_bipush (pc := 63) (v := 6) hx hb dX9_isLikePlan_63 (by decide) ?_
          obtain ⟨hi_65, h⟩ := h
          refine mL_6 (pc := 65) hF hP (f := (g0 6)) rfl hi_65 dX9_isLikePlan_65 ?_
          refine lv_icmp_ne (pc := 66) (tgt := 90) hx hb dX9_isLikePlan_66 (by decide) (fun c_66 => ?_) (fun c_66 => ?_)
          · have h := h.2 c_66
            refine lv_iconst (pc := 90) (v := 0) hx hb dX9_isLikePlan_90 (by decide) ?_
            exact zirV (pc := 91) (Wd := mW E o ad cI cZ) (u := (x0, g0)) hx hb hr hlocks hAe hK hP hD hS rfl dX9_isLikePlan_91 (Nat.le_refl _) (Nat.le_refl _) ⟨rfl, (Or.inl rfl), h⟩
          · have h := h.1 c_66
            refine lv_aload_n (pc := 69) hx hb dX9_isLikePlan_69 rfl (lv_at hl 0 rfl) ?_
            refine mG_7 (pc := 70) hF hP dX9_isLikePlan_70 ?_
            refine lv_bipush (pc := 73) (v := 7) hx hb dX9_isLikePlan_73 (by decide) ?_
            obtain ⟨hi_75, h⟩ := h
            refine mL_7 (pc := 75) hF hP (f := (g0 7)) rfl hi_75 dX9_isLikePlan_75 ?_
            refine lv_aload_n (pc := 76) hx hb dX9_isLikePlan_76 rfl (lv_at hl 0 rfl) ?_
            refine mG_6 (pc := 77) hF hP dX9_isLikePlan_77 ?_
            refine lv_bipush (pc := 80) (v := 7) hx hb dX9_isLikePlan_80 (by decide) ?_
            obtain ⟨hi_82, h⟩ := h
            refine mL_6 (pc := 82) hF hP (f := (g0 6)) rfl hi_82 dX9_isLikePlan_82 ?_
            refine lv_icmp_gt (pc := 83) (tgt := 90) hx hb dX9_isLikePlan_83 (by decide) (fun c_83 => ?_) (fun c_83 => ?_)
            · have h := h.1 c_83
              refine lv_iconst (pc := 90) (v := 0) hx hb dX9_isLikePlan_90 (by decide) ?_
              exact zirV (pc := 91) (Wd := mW E o ad cI cZ) (u := (x0, g0)) hx hb hr hlocks hAe hK hP hD hS rfl dX9_isLikePlan_91 (Nat.le_refl _) (Nat.le_refl _) ⟨rfl, (Or.inl rfl), h⟩
            · have h := h.2 c_83
              refine lv_iconst (pc := 86) (v := 1) hx hb dX9_isLikePlan_86 (by decide) ?_
              refine lv_goto (pc := 87) (tgt := 91) hx hb dX9_isLikePlan_87 (by decide) ?_
              exact zirV (pc := 91) (Wd := mW E o ad cI cZ) (u := (x0, g0)) hx hb hr hlocks hAe hK hP hD hS rfl dX9_isLikePlan_91 (Nat.le_refl _) (Nat.le_refl _) ⟨rfl, (Or.inr rfl), h⟩

def lX9_plan_40 (Φ : Int32 → (Nat → Int32) → (Nat → Nat → Int32) → Prop) : Nat → (Nat → Int32) → (Nat → Nat → Int32) → Int32 → Int32 → Prop
  | 0, _, _, _, _ => False
  | n40 + 1, x, g, v1, v3 => ((9 ≤ v3 → ((v1 = 0 → (wX9_begins (va_up (va_up x 5 1) 0 0) g 5 (fun x_80 g_80 => (wX9_begins x_80 g_80 6 (fun x_86 g_86 => (vp_in 6 7 ∧ (Φ ((g_86 28) (6 : Int32).toNatClampNeg) (va_up (va_up x_86 35 0) 37 0) g_86))))))) ∧ (¬ v1 = 0 → (vp_in 6 7 ∧ (Φ ((g 28) (6 : Int32).toNatClampNeg) (va_up (va_up x 5 1) 0 0) g))))) ∧ (¬ 9 ≤ v3 → (vp_in v3 9 ∧ (vp_in v3 9 ∧ (∀ v3_58 : Int32, v3_58 = v3 + 1 → ((lX9_plan_40 Φ n40) x (va_up g 6 (upd (g 6) v3.toNatClampNeg ((g 7) v3.toNatClampNeg))) v1 v3_58))))))
def wX9_plan (x : Nat → Int32) (g : Nat → Nat → Int32) (a1 : Int32) (Φ : Int32 → (Nat → Int32) → (Nat → Nat → Int32) → Prop) : Prop := (wX9_isPossible x g (fun r_1 x_1 g_1 => ((r_1 = 0 → (wX9_can x_1 g_1 1 (fun r_30 x_30 g_30 => ((r_30 = 0 → (Φ 0 x_30 g_30)) ∧ (¬ r_30 = 0 → (∃ n40 : Nat, lX9_plan_40 Φ n40 x_30 g_30 a1 0)))))) ∧ (¬ r_1 = 0 → ((a1 = 0 → (wX9_can x_1 g_1 0 (fun r_30 x_30 g_30 => ((r_30 = 0 → (Φ 0 x_30 g_30)) ∧ (¬ r_30 = 0 → (∃ n40 : Nat, lX9_plan_40 Φ n40 x_30 g_30 a1 0)))))) ∧ (¬ a1 = 0 → (wX9_isLikePlan x_1 g_1 (fun r_19 => ((r_19 = 0 → (wX9_can x_1 g_1 2 (fun r_30 x_30 g_30 => ((r_30 = 0 → (Φ 0 x_30 g_30)) ∧ (¬ r_30 = 0 → (∃ n40 : Nat, lX9_plan_40 Φ n40 x_30 g_30 a1 0)))))) ∧ (¬ r_19 = 0 → (wX9_can x_1 g_1 0 (fun r_30 x_30 g_30 => ((r_30 = 0 → (Φ 0 x_30 g_30)) ∧ (¬ r_30 = 0 → (∃ n40 : Nat, lX9_plan_40 Φ n40 x_30 g_30 a1 0)))))))))))))))
set_option maxRecDepth 100000 in
set_option maxHeartbeats 4000000 in
theorem kX9_plan {l : Launch} {D : va_G} {E : va_W} {o : Nat} {ad : Nat → Nat} {cI cZ : ClassId} {sz : Nat} (x0 : Nat → Int32) (g0 : Nat → Nat → Int32) (a1 : Int32) {Φ : Int32 → (Nat → Int32) → (Nat → Nat → Int32) → Prop} (h : wX9_plan x0 g0 a1 Φ) : Met l yX9_plan (zws yX9_plan cX9_plan 4 (some .int)) { frames := 5, cells := 0, slots := 0, locals := 114 } (zPc D (mT cI cZ) zX0 (mW E o ad cI cZ (x0, g0)) [.ref o, .int a1] sz) (zQi D (mT cI cZ) (mW E o ad cI cZ) (fun r u => Φ r u.1 u.2) (mW E o ad cI cZ (x0, g0)) sz) 0 0 (va_A (mW E o ad cI cZ (x0, g0)) sz) := by
  refine zMet (by decide) (Nat.le_of_ble_eq_true rfl) ?_
  intro p e s m args below meth c A hx hb hr hml hown hts hlocks hsz hAe hA hS hP hK hD hX ls hl
  subst hsz
  have hF : zFx p s m args c cX9_plan RX9 A D (mT cI cZ) zX0 4 := ⟨hx, hb, hml, hown, hts, hA, hK, zX0_cl, hX⟩
  have hl : lv_has ls 4 [(0, .ref o), (1, .int a1)] := hl
  have L40 : ∀ n40 : Nat, ∀ (x : Nat → Int32) (g : Nat → Nat → Int32) (v1 v3 : Int32), lX9_plan_40 Φ n40 x g v1 v3 → ∀ (H : Heap) (locs : List Loc) (ls : Array Slot), va_P D vwCl (mW E o ad cI cZ (x, g)) H → va_D A (mW E o ad cI cZ (x, g)) → va_S A s.heap H locs → lv_has ls 4 [(0, .ref o), (1, .int v1), (3, .int v3)] → W p l e { frames := 5, cells := 0, slots := 0, locals := 114 } s m args below meth c H locs 0 0 (MQ below (zQi D (mT cI cZ) (mW E o ad cI cZ) (fun r u => Φ r u.1 u.2) (mW E o ad cI cZ (x0, g0)) s.heap.size) args s 0 0 (va_A (mW E o ad cI cZ (x0, g0)) s.heap.size)) (F0 m 40 ls []) := by
    intro n40
    induction n40 with
    | zero => intro x g v1 v3 h H locs ls hP hD hS hl; exact h.elim
    | succ n40 ih40 =>
      intro x g v1 v3 h H locs ls hP hD hS hl
      unfold lX9_plan_40 at h
      refine lv_iload_n (pc := 40) hx hb dX9_plan_40 rfl (lv_at hl 2 rfl) ?_
      refine lv_bipush (pc := 41) (v := 9) hx hb dX9_plan_41 (by decide) ?_
      refine lv_icmp_ge (pc := 43) (tgt := 64) hx hb dX9_plan_43 (by decide) (fun c_43 => ?_) (fun c_43 => ?_)
      · have h := h.1 c_43
        refine lv_aload_n (pc := 64) hx hb dX9_plan_64 rfl (lv_at hl 0 rfl) ?_
        refine lv_iconst (pc := 65) (v := 1) hx hb dX9_plan_65 (by decide) ?_
        refine mP_5 (pc := 66) hF hP hD hS rfl rfl dX9_plan_66 (fun H locs hP hD hS => ?_)
        refine lv_aload_n (pc := 69) hx hb dX9_plan_69 rfl (lv_at hl 0 rfl) ?_
        refine lv_iconst (pc := 70) (v := 0) hx hb dX9_plan_70 (by decide) ?_
        refine mP_0 (pc := 71) hF hP hD hS dX9_plan_71 (fun H locs hP hD hS => ?_)
        refine lv_iload_n (pc := 74) hx hb dX9_plan_74 rfl (lv_at hl 1 rfl) ?_
        refine lv_if_ne (pc := 75) (tgt := 99) hx hb dX9_plan_75 (by decide) (fun c_75 => ?_) (fun c_75 => ?_)
        · have h := h.2 c_75
          refine lv_aload_n (pc := 99) hx hb dX9_plan_99 rfl (lv_at hl 0 rfl) ?_
          refine mG_28 (pc := 100) hF hP dX9_plan_100 ?_
          refine lv_bipush (pc := 103) (v := 6) hx hb dX9_plan_103 (by decide) ?_
          obtain ⟨hi_105, h⟩ := h
          refine mL_28 (pc := 105) hF hP (f := (g 28)) rfl hi_105 dX9_plan_105 ?_
          exact zirV (pc := 106) (Wd := mW E o ad cI cZ) (u := ((va_up (va_up x 5 1) 0 0), g)) hx hb hr hlocks hAe hK hP hD hS rfl dX9_plan_106 (Nat.le_refl _) (Nat.le_refl _) h
        · have h := h.1 c_75
          refine lv_aload_n (pc := 78) hx hb dX9_plan_78 rfl (lv_at hl 0 rfl) ?_
          refine lv_iconst (pc := 79) (v := 5) hx hb dX9_plan_79 (by decide) ?_
          refine mVv (pc := 80) (x := (va_up (va_up x 5 1) 0 0)) (g := g) [.int 5] hF (kX9_begins (va_up (va_up x 5 1) 0 0) g 5 h) (cwX9_X9_begins hts ⟨Nat.le_of_ble_eq_true rfl, Nat.le_of_ble_eq_true rfl⟩) hP hD hS rfl rfl hl.1 (Nat.le_of_ble_eq_true rfl) dX9_plan_80 ⟨Nat.le_refl _, Nat.le_refl _⟩ (fun x_80 g_80 H locs h hP hD hS => ?_)
          refine lv_aload_n (pc := 83) hx hb dX9_plan_83 rfl (lv_at hl 0 rfl) ?_
          refine lv_bipush (pc := 84) (v := 6) hx hb dX9_plan_84 (by decide) ?_
          refine mVv (pc := 86) (x := x_80) (g := g_80) [.int 6] hF (kX9_begins x_80 g_80 6 h) (cwX9_X9_begins hts ⟨Nat.le_of_ble_eq_true rfl, Nat.le_of_ble_eq_true rfl⟩) hP hD hS rfl rfl hl.1 (Nat.le_of_ble_eq_true rfl) dX9_plan_86 ⟨Nat.le_refl _, Nat.le_refl _⟩ (fun x_86 g_86 H locs h hP hD hS => ?_)
          refine lv_aload_n (pc := 89) hx hb dX9_plan_89 rfl (lv_at hl 0 rfl) ?_
          refine lv_iconst (pc := 90) (v := 0) hx hb dX9_plan_90 (by decide) ?_
          refine mP_35 (pc := 91) hF hP hD hS dX9_plan_91 (fun H locs hP hD hS => ?_)
          refine lv_aload_n (pc := 94) hx hb dX9_plan_94 rfl (lv_at hl 0 rfl) ?_
          refine lv_iconst (pc := 95) (v := 0) hx hb dX9_plan_95 (by decide) ?_
          refine mP_37 (pc := 96) hF hP hD hS dX9_plan_96 (fun H locs hP hD hS => ?_)
          refine lv_aload_n (pc := 99) hx hb dX9_plan_99 rfl (lv_at hl 0 rfl) ?_
          refine mG_28 (pc := 100) hF hP dX9_plan_100 ?_
          refine lv_bipush (pc := 103) (v := 6) hx hb dX9_plan_103 (by decide) ?_
          obtain ⟨hi_105, h⟩ := h
          refine mL_28 (pc := 105) hF hP (f := (g_86 28)) rfl hi_105 dX9_plan_105 ?_
          exact zirV (pc := 106) (Wd := mW E o ad cI cZ) (u := ((va_up (va_up x_86 35 0) 37 0), g_86)) hx hb hr hlocks hAe hK hP hD hS rfl dX9_plan_106 (Nat.le_refl _) (Nat.le_refl _) h
      · have h := h.2 c_43
        refine lv_aload_n (pc := 46) hx hb dX9_plan_46 rfl (lv_at hl 0 rfl) ?_
        refine mG_6 (pc := 47) hF hP dX9_plan_47 ?_
        refine lv_iload_n (pc := 50) hx hb dX9_plan_50 rfl (lv_at hl 2 rfl) ?_
        refine lv_aload_n (pc := 51) hx hb dX9_plan_51 rfl (lv_at hl 0 rfl) ?_
        refine mG_7 (pc := 52) hF hP dX9_plan_52 ?_
        refine lv_iload_n (pc := 55) hx hb dX9_plan_55 rfl (lv_at hl 2 rfl) ?_
        obtain ⟨hi_56, h⟩ := h
        refine mL_7 (pc := 56) hF hP (f := (g 7)) rfl hi_56 dX9_plan_56 ?_
        obtain ⟨hi_57, h⟩ := h
        refine mP_6 (pc := 57) hF hP hD hS (f := (g 6)) rfl hi_57 dX9_plan_57 (fun H locs hP hD hS => ?_)
        obtain ⟨v3_58, e_v3_58⟩ : ∃ y : Int32, y = v3 + 1 := ⟨_, rfl⟩
        replace h := h v3_58 e_v3_58
        refine lv_iinc (pc := 58) (v := v3_58) (lv' := [(3, .int v3_58), (0, .ref o), (1, .int v1)]) hx hb dX9_plan_58 hl (k := 2) rfl (by rw [e_v3_58]; rfl) (by decide) rfl (fun ls hl => ?_)
        refine lv_goto (pc := 61) (tgt := 40) hx hb dX9_plan_61 (by decide) ?_
        exact ih40 x (va_up g 6 (upd (g 6) v3.toNatClampNeg ((g 7) v3.toNatClampNeg))) v1 v3_58 h _ _ _ hP hD hS (lv_sub hl [1, 2, 0] rfl)
  unfold wX9_plan at h
  refine lv_aload_n (pc := 0) hx hb dX9_plan_0 rfl (lv_at hl 0 rfl) ?_
  refine mVb (pc := 1) (x := x0) (g := g0) [] hF (kX9_isPossible x0 g0 h) (cwX9_X9_isPossible hts ⟨Nat.le_of_ble_eq_true rfl, Nat.le_of_ble_eq_true rfl⟩) hP hD hS rfl rfl hl.1 (Nat.le_of_ble_eq_true rfl) dX9_plan_1 ⟨Nat.le_refl _, Nat.le_refl _⟩ (fun r_1 x_1 g_1 H locs hb_1 h hP hD hS => ?_)
  refine lv_istore_n (pc := 4) (lv' := [(2, .int r_1), (0, .ref o), (1, .int a1)]) hx hb dX9_plan_4 rfl hl (by decide) rfl (fun ls hl => ?_)
  refine lv_aload_n (pc := 5) hx hb dX9_plan_5 rfl (lv_at hl 1 rfl) ?_
  refine lv_iload_n (pc := 6) hx hb dX9_plan_6 rfl (lv_at hl 0 rfl) ?_
  refine lv_if_ne (pc := 7) (tgt := 14) hx hb dX9_plan_7 (by decide) (fun c_7 => ?_) (fun c_7 => ?_)
  · have h := h.2 c_7
    refine lv_iload_n (pc := 14) hx hb dX9_plan_14 rfl (lv_at hl 2 rfl) ?_
    refine lv_if_eq (pc := 15) (tgt := 29) hx hb dX9_plan_15 (by decide) (fun c_15 => ?_) (fun c_15 => ?_)
    · have h := h.1 c_15
      refine lv_iconst (pc := 29) (v := 0) hx hb dX9_plan_29 (by decide) ?_
      refine mVb (pc := 30) (x := x_1) (g := g_1) [.int 0] hF (kX9_can x_1 g_1 0 h) (cwX9_X9_can hts ⟨Nat.le_of_ble_eq_true rfl, Nat.le_of_ble_eq_true rfl⟩) hP hD hS rfl rfl hl.1 (Nat.le_of_ble_eq_true rfl) dX9_plan_30 ⟨Nat.le_refl _, Nat.le_refl _⟩ (fun r_30 x_30 g_30 H locs hb_30 h hP hD hS => ?_)
      refine lv_if_ne (pc := 33) (tgt := 38) hx hb dX9_plan_33 (by decide) (fun c_33 => ?_) (fun c_33 => ?_)
      · have h := h.2 c_33
        refine lv_iconst (pc := 38) (v := 0) hx hb dX9_plan_38 (by decide) ?_
        refine lv_istore_n (pc := 39) (lv' := [(3, .int 0), (2, .int r_1), (0, .ref o), (1, .int a1)]) hx hb dX9_plan_39 rfl hl (by decide) rfl (fun ls hl => ?_)
        obtain ⟨n40, h⟩ := h
        exact L40 n40 x_30 g_30 a1 0 h _ _ _ hP hD hS (lv_sub hl [2, 3, 0] rfl)
      · have h := h.1 c_33
        refine lv_iconst (pc := 36) (v := 0) hx hb dX9_plan_36 (by decide) ?_
        exact zirV (pc := 37) (Wd := mW E o ad cI cZ) (u := (x_30, g_30)) hx hb hr hlocks hAe hK hP hD hS rfl dX9_plan_37 (Nat.le_refl _) (Nat.le_refl _) h
    · have h := h.2 c_15
      refine lv_aload_n (pc := 18) hx hb dX9_plan_18 rfl (lv_at hl 1 rfl) ?_
      refine mVbp (pc := 19) (x := x_1) (g := g_1) [] hF (kX9_isLikePlan x_1 g_1 h) (cwX9_X9_isLikePlan hts ⟨Nat.le_of_ble_eq_true rfl, Nat.le_of_ble_eq_true rfl⟩) hP hD hS rfl rfl hl.1 (Nat.le_of_ble_eq_true rfl) dX9_plan_19 ⟨Nat.le_refl _, Nat.le_refl _⟩ (fun r_19 H locs hb_19 h hP hD hS => ?_)
      refine lv_if_ne (pc := 22) (tgt := 29) hx hb dX9_plan_22 (by decide) (fun c_22 => ?_) (fun c_22 => ?_)
      · have h := h.2 c_22
        refine lv_iconst (pc := 29) (v := 0) hx hb dX9_plan_29 (by decide) ?_
        refine mVb (pc := 30) (x := x_1) (g := g_1) [.int 0] hF (kX9_can x_1 g_1 0 h) (cwX9_X9_can hts ⟨Nat.le_of_ble_eq_true rfl, Nat.le_of_ble_eq_true rfl⟩) hP hD hS rfl rfl hl.1 (Nat.le_of_ble_eq_true rfl) dX9_plan_30 ⟨Nat.le_refl _, Nat.le_refl _⟩ (fun r_30 x_30 g_30 H locs hb_30 h hP hD hS => ?_)
        refine lv_if_ne (pc := 33) (tgt := 38) hx hb dX9_plan_33 (by decide) (fun c_33 => ?_) (fun c_33 => ?_)
        · have h := h.2 c_33
          refine lv_iconst (pc := 38) (v := 0) hx hb dX9_plan_38 (by decide) ?_
          refine lv_istore_n (pc := 39) (lv' := [(3, .int 0), (2, .int r_1), (0, .ref o), (1, .int a1)]) hx hb dX9_plan_39 rfl hl (by decide) rfl (fun ls hl => ?_)
          obtain ⟨n40, h⟩ := h
          exact L40 n40 x_30 g_30 a1 0 h _ _ _ hP hD hS (lv_sub hl [2, 3, 0] rfl)
        · have h := h.1 c_33
          refine lv_iconst (pc := 36) (v := 0) hx hb dX9_plan_36 (by decide) ?_
          exact zirV (pc := 37) (Wd := mW E o ad cI cZ) (u := (x_30, g_30)) hx hb hr hlocks hAe hK hP hD hS rfl dX9_plan_37 (Nat.le_refl _) (Nat.le_refl _) h
      · have h := h.1 c_22
        refine lv_iconst (pc := 25) (v := 2) hx hb dX9_plan_25 (by decide) ?_
        refine lv_goto (pc := 26) (tgt := 30) hx hb dX9_plan_26 (by decide) ?_
        refine mVb (pc := 30) (x := x_1) (g := g_1) [.int 2] hF (kX9_can x_1 g_1 2 h) (cwX9_X9_can hts ⟨Nat.le_of_ble_eq_true rfl, Nat.le_of_ble_eq_true rfl⟩) hP hD hS rfl rfl hl.1 (Nat.le_of_ble_eq_true rfl) dX9_plan_30 ⟨Nat.le_refl _, Nat.le_refl _⟩ (fun r_30 x_30 g_30 H locs hb_30 h hP hD hS => ?_)
        refine lv_if_ne (pc := 33) (tgt := 38) hx hb dX9_plan_33 (by decide) (fun c_33 => ?_) (fun c_33 => ?_)
        · have h := h.2 c_33
          refine lv_iconst (pc := 38) (v := 0) hx hb dX9_plan_38 (by decide) ?_
          refine lv_istore_n (pc := 39) (lv' := [(3, .int 0), (2, .int r_1), (0, .ref o), (1, .int a1)]) hx hb dX9_plan_39 rfl hl (by decide) rfl (fun ls hl => ?_)
          obtain ⟨n40, h⟩ := h
          exact L40 n40 x_30 g_30 a1 0 h _ _ _ hP hD hS (lv_sub hl [2, 3, 0] rfl)
        · have h := h.1 c_33
          refine lv_iconst (pc := 36) (v := 0) hx hb dX9_plan_36 (by decide) ?_
          exact zirV (pc := 37) (Wd := mW E o ad cI cZ) (u := (x_30, g_30)) hx hb hr hlocks hAe hK hP hD hS rfl dX9_plan_37 (Nat.le_refl _) (Nat.le_refl _) h
  · have h := h.1 c_7
    refine lv_iconst (pc := 10) (v := 1) hx hb dX9_plan_10 (by decide) ?_
    refine lv_goto (pc := 11) (tgt := 30) hx hb dX9_plan_11 (by decide) ?_
    refine mVb (pc := 30) (x := x_1) (g := g_1) [.int 1] hF (kX9_can x_1 g_1 1 h) (cwX9_X9_can hts ⟨Nat.le_of_ble_eq_true rfl, Nat.le_of_ble_eq_true rfl⟩) hP hD hS rfl rfl hl.1 (Nat.le_of_ble_eq_true rfl) dX9_plan_30 ⟨Nat.le_refl _, Nat.le_refl _⟩ (fun r_30 x_30 g_30 H locs hb_30 h hP hD hS => ?_)
    refine lv_if_ne (pc := 33) (tgt := 38) hx hb dX9_plan_33 (by decide) (fun c_33 => ?_) (fun c_33 => ?_)
    · have h := h.2 c_33
      refine lv_iconst (pc := 38) (v := 0) hx hb dX9_plan_38 (by decide) ?_
      refine lv_istore_n (pc := 39) (lv' := [(3, .int 0), (2, .int r_1), (0, .ref o), (1, .int a1)]) hx hb dX9_plan_39 rfl hl (by decide) rfl (fun ls hl => ?_)
      obtain ⟨n40, h⟩ := h
      exact L40 n40 x_30 g_30 a1 0 h _ _ _ hP hD hS (lv_sub hl [2, 3, 0] rfl)
    · have h := h.1 c_33
      refine lv_iconst (pc := 36) (v := 0) hx hb dX9_plan_36 (by decide) ?_
      exact zirV (pc := 37) (Wd := mW E o ad cI cZ) (u := (x_30, g_30)) hx hb hr hlocks hAe hK hP hD hS rfl dX9_plan_37 (Nat.le_refl _) (Nat.le_refl _) h

def jX9_event_85 (Φ : Int32 → (Nat → Int32) → (Nat → Nat → Int32) → Prop) (x : Nat → Int32) (g : Nat → Nat → Int32) (v1 v2 v3 v4 s1 : Int32) : Prop := (wX9_can x g s1 (fun r_85 x_85 g_85 => ((r_85 = 0 → (Φ 0 x_85 g_85)) ∧ (¬ r_85 = 0 → (vp_in v1 3 ∧ (∀ v7_105 : Int32, v7_105 = ((300 * v1) + ((g_85 9) v1.toNatClampNeg)) → (vp_in v7_105 900 ∧ (vp_in v7_105 900 ∧ (vp_in v7_105 900 ∧ (vp_in v1 3 ∧ (vp_in v1 3 ∧ (vp_in v1 3 ∧ (Φ ((upd (g_85 9) v1.toNatClampNeg (((g_85 9) v1.toNatClampNeg) + 1)) v1.toNatClampNeg) (va_up x_85 8 ((x_85 8) + 1)) (va_up (va_up (va_up (va_up g_85 10 (upd (g_85 10) v7_105.toNatClampNeg v2)) 11 (upd (g_85 11) v7_105.toNatClampNeg v3)) 12 (upd (g_85 12) v7_105.toNatClampNeg v4)) 9 (upd (g_85 9) v1.toNatClampNeg (((g_85 9) v1.toNatClampNeg) + 1))))))))))))))))
def jX9_event_49 (Φ : Int32 → (Nat → Int32) → (Nat → Nat → Int32) → Prop) (x : Nat → Int32) (g : Nat → Nat → Int32) (v1 v2 v3 v4 v5 s0 : Int32) : Prop := ((v5 = 0 → (jX9_event_85 Φ x g v1 v2 v3 v4 1)) ∧ (¬ v5 = 0 → ((s0 = 0 → (jX9_event_85 Φ x g v1 v2 v3 v4 2)) ∧ (¬ s0 = 0 → (((x 8) = 300 → (jX9_event_85 Φ x g v1 v2 v3 v4 3)) ∧ (¬ (x 8) = 300 → (jX9_event_85 Φ x g v1 v2 v3 v4 0)))))))
def jX9_event_48 (Φ : Int32 → (Nat → Int32) → (Nat → Nat → Int32) → Prop) (x : Nat → Int32) (g : Nat → Nat → Int32) (v1 v2 v3 v4 v5 : Int32) : Prop := (jX9_event_49 Φ x g v1 v2 v3 v4 v5 0)
def jX9_event_19 (Φ : Int32 → (Nat → Int32) → (Nat → Nat → Int32) → Prop) (x : Nat → Int32) (g : Nat → Nat → Int32) (v1 v2 v3 v4 s0 : Int32) : Prop := (wX9_isIn v3 0 999 (fun r_26 => ((r_26 = 0 → (jX9_event_48 Φ x g v1 v2 v3 v4 s0)) ∧ (¬ r_26 = 0 → (wX9_isIn v4 (-99) 99 (fun r_38 => ((r_38 = 0 → (jX9_event_48 Φ x g v1 v2 v3 v4 s0)) ∧ (¬ r_38 = 0 → (jX9_event_49 Φ x g v1 v2 v3 v4 s0 1)))))))))
def jX9_event_18 (Φ : Int32 → (Nat → Int32) → (Nat → Nat → Int32) → Prop) (x : Nat → Int32) (g : Nat → Nat → Int32) (v1 v2 v3 v4 : Int32) : Prop := (jX9_event_19 Φ x g v1 v2 v3 v4 0)
def wX9_event (x : Nat → Int32) (g : Nat → Nat → Int32) (a1 a2 a3 a4 : Int32) (Φ : Int32 → (Nat → Int32) → (Nat → Nat → Int32) → Prop) : Prop := (wX9_isPartition a1 (fun r_1 => ((r_1 = 0 → (jX9_event_18 Φ x g a1 a2 a3 a4)) ∧ (¬ r_1 = 0 → (wX9_isKey a2 (fun r_8 => ((r_8 = 0 → (jX9_event_18 Φ x g a1 a2 a3 a4)) ∧ (¬ r_8 = 0 → (jX9_event_19 Φ x g a1 a2 a3 a4 1)))))))))
set_option maxRecDepth 100000 in
set_option maxHeartbeats 4000000 in
theorem kX9_event {l : Launch} {D : va_G} {E : va_W} {o : Nat} {ad : Nat → Nat} {cI cZ : ClassId} {sz : Nat} (x0 : Nat → Int32) (g0 : Nat → Nat → Int32) (a1 a2 a3 a4 : Int32) {Φ : Int32 → (Nat → Int32) → (Nat → Nat → Int32) → Prop} (h : wX9_event x0 g0 a1 a2 a3 a4 Φ) : Met l yX9_event (zws yX9_event cX9_event 8 (some .int)) { frames := 2, cells := 0, slots := 0, locals := 42 } (zPc D (mT cI cZ) zX0 (mW E o ad cI cZ (x0, g0)) [.ref o, .int a1, .int a2, .int a3, .int a4] sz) (zQi D (mT cI cZ) (mW E o ad cI cZ) (fun r u => Φ r u.1 u.2) (mW E o ad cI cZ (x0, g0)) sz) 0 0 (va_A (mW E o ad cI cZ (x0, g0)) sz) := by
  refine zMet (by decide) (Nat.le_of_ble_eq_true rfl) ?_
  intro p e s m args below meth c A hx hb hr hml hown hts hlocks hsz hAe hA hS hP hK hD hX ls hl
  subst hsz
  have hF : zFx p s m args c cX9_event RX9 A D (mT cI cZ) zX0 8 := ⟨hx, hb, hml, hown, hts, hA, hK, zX0_cl, hX⟩
  have hl : lv_has ls 8 [(0, .ref o), (1, .int a1), (2, .int a2), (3, .int a3), (4, .int a4)] := hl
  have J85 : ∀ (x : Nat → Int32) (g : Nat → Nat → Int32) (v1 v2 v3 v4 s1 : Int32), jX9_event_85 Φ x g v1 v2 v3 v4 s1 → ∀ (H : Heap) (locs : List Loc) (ls : Array Slot), va_P D vwCl (mW E o ad cI cZ (x, g)) H → va_D A (mW E o ad cI cZ (x, g)) → va_S A s.heap H locs → lv_has ls 8 [(0, .ref o), (1, .int v1), (2, .int v2), (3, .int v3), (4, .int v4)] → W p l e { frames := 2, cells := 0, slots := 0, locals := 42 } s m args below meth c H locs 0 0 (MQ below (zQi D (mT cI cZ) (mW E o ad cI cZ) (fun r u => Φ r u.1 u.2) (mW E o ad cI cZ (x0, g0)) s.heap.size) args s 0 0 (va_A (mW E o ad cI cZ (x0, g0)) s.heap.size)) (F0 m 85 ls [.int s1, .ref o]) := by
    intro x g v1 v2 v3 v4 s1 h H locs ls hP hD hS hl
    unfold jX9_event_85 at h
    refine mVb (pc := 85) (x := x) (g := g) [.int s1] hF (kX9_can x g s1 h) (cwX9_X9_can hts ⟨Nat.le_of_ble_eq_true rfl, Nat.le_of_ble_eq_true rfl⟩) hP hD hS rfl rfl hl.1 (Nat.le_of_ble_eq_true rfl) dX9_event_85 ⟨Nat.le_refl _, Nat.le_refl _⟩ (fun r_85 x_85 g_85 H locs hb_85 h hP hD hS => ?_)
    refine lv_if_ne (pc := 88) (tgt := 93) hx hb dX9_event_88 (by decide) (fun c_88 => ?_) (fun c_88 => ?_)
    · have h := h.2 c_88
      refine lv_sipush (pc := 93) (v := 300) hx hb dX9_event_93 (by decide) ?_
      refine lv_iload_n (pc := 96) hx hb dX9_event_96 rfl (lv_at hl 1 rfl) ?_
      refine lv_imul (pc := 97) hx hb dX9_event_97 ?_
      refine lv_aload_n (pc := 98) hx hb dX9_event_98 rfl (lv_at hl 0 rfl) ?_
      refine mG_9 (pc := 99) hF hP dX9_event_99 ?_
      refine lv_iload_n (pc := 102) hx hb dX9_event_102 rfl (lv_at hl 1 rfl) ?_
      obtain ⟨hi_103, h⟩ := h
      refine mL_9 (pc := 103) hF hP (f := (g_85 9)) rfl hi_103 dX9_event_103 ?_
      refine lv_iadd (pc := 104) hx hb dX9_event_104 ?_
      refine lv_topi (fun v7_105 e_v7_105 => ?_)
      replace h := h v7_105 e_v7_105
      refine lv_istore (pc := 105) (lv' := [(7, .int v7_105), (0, .ref o), (1, .int v1), (2, .int v2), (3, .int v3), (4, .int v4)]) hx hb dX9_event_105 hl (by decide) rfl (fun ls hl => ?_)
      refine lv_aload_n (pc := 107) hx hb dX9_event_107 rfl (lv_at hl 1 rfl) ?_
      refine mG_10 (pc := 108) hF hP dX9_event_108 ?_
      refine lv_iload (pc := 111) hx hb dX9_event_111 (lv_at hl 0 rfl) ?_
      refine lv_iload_n (pc := 113) hx hb dX9_event_113 rfl (lv_at hl 3 rfl) ?_
      obtain ⟨hi_114, h⟩ := h
      refine mP_10 (pc := 114) hF hP hD hS (f := (g_85 10)) rfl hi_114 dX9_event_114 (fun H locs hP hD hS => ?_)
      refine lv_aload_n (pc := 115) hx hb dX9_event_115 rfl (lv_at hl 1 rfl) ?_
      refine mG_11 (pc := 116) hF hP dX9_event_116 ?_
      refine lv_iload (pc := 119) hx hb dX9_event_119 (lv_at hl 0 rfl) ?_
      refine lv_iload_n (pc := 121) hx hb dX9_event_121 rfl (lv_at hl 4 rfl) ?_
      obtain ⟨hi_122, h⟩ := h
      refine mP_11 (pc := 122) hF hP hD hS (f := (g_85 11)) rfl hi_122 dX9_event_122 (fun H locs hP hD hS => ?_)
      refine lv_aload_n (pc := 123) hx hb dX9_event_123 rfl (lv_at hl 1 rfl) ?_
      refine mG_12 (pc := 124) hF hP dX9_event_124 ?_
      refine lv_iload (pc := 127) hx hb dX9_event_127 (lv_at hl 0 rfl) ?_
      refine lv_iload (pc := 129) hx hb dX9_event_129 (lv_at hl 5 rfl) ?_
      obtain ⟨hi_131, h⟩ := h
      refine mP_12 (pc := 131) hF hP hD hS (f := (g_85 12)) rfl hi_131 dX9_event_131 (fun H locs hP hD hS => ?_)
      refine lv_aload_n (pc := 132) hx hb dX9_event_132 rfl (lv_at hl 1 rfl) ?_
      refine mG_9 (pc := 133) hF hP dX9_event_133 ?_
      refine lv_iload_n (pc := 136) hx hb dX9_event_136 rfl (lv_at hl 2 rfl) ?_
      refine lv_dup2_11 (pc := 137) hx hb dX9_event_137 rfl rfl ?_
      obtain ⟨hi_138, h⟩ := h
      refine mL_9 (pc := 138) hF hP (f := (g_85 9)) rfl hi_138 dX9_event_138 ?_
      refine lv_iconst (pc := 139) (v := 1) hx hb dX9_event_139 (by decide) ?_
      refine lv_iadd (pc := 140) hx hb dX9_event_140 ?_
      obtain ⟨hi_141, h⟩ := h
      refine mP_9 (pc := 141) hF hP hD hS (f := (g_85 9)) rfl hi_141 dX9_event_141 (fun H locs hP hD hS => ?_)
      refine lv_aload_n (pc := 142) hx hb dX9_event_142 rfl (lv_at hl 1 rfl) ?_
      refine lv_dup (pc := 143) hx hb dX9_event_143 rfl ?_
      refine mG_8 (pc := 144) (v := (x_85 8)) hF hP rfl dX9_event_144 ?_
      refine lv_iconst (pc := 147) (v := 1) hx hb dX9_event_147 (by decide) ?_
      refine lv_iadd (pc := 148) hx hb dX9_event_148 ?_
      refine mP_8 (pc := 149) hF hP hD hS dX9_event_149 (fun H locs hP hD hS => ?_)
      refine lv_aload_n (pc := 152) hx hb dX9_event_152 rfl (lv_at hl 1 rfl) ?_
      refine mG_9 (pc := 153) hF hP dX9_event_153 ?_
      refine lv_iload_n (pc := 156) hx hb dX9_event_156 rfl (lv_at hl 2 rfl) ?_
      obtain ⟨hi_157, h⟩ := h
      refine mL_9 (pc := 157) hF hP (f := (upd (g_85 9) v1.toNatClampNeg (((g_85 9) v1.toNatClampNeg) + 1))) rfl hi_157 dX9_event_157 ?_
      exact zirV (pc := 158) (Wd := mW E o ad cI cZ) (u := ((va_up x_85 8 ((x_85 8) + 1)), (va_up (va_up (va_up (va_up g_85 10 (upd (g_85 10) v7_105.toNatClampNeg v2)) 11 (upd (g_85 11) v7_105.toNatClampNeg v3)) 12 (upd (g_85 12) v7_105.toNatClampNeg v4)) 9 (upd (g_85 9) v1.toNatClampNeg (((g_85 9) v1.toNatClampNeg) + 1))))) hx hb hr hlocks hAe hK hP hD hS rfl dX9_event_158 (Nat.le_refl _) (Nat.le_refl _) h
    · have h := h.1 c_88
      refine lv_iconst (pc := 91) (v := 0) hx hb dX9_event_91 (by decide) ?_
      exact zirV (pc := 92) (Wd := mW E o ad cI cZ) (u := (x_85, g_85)) hx hb hr hlocks hAe hK hP hD hS rfl dX9_event_92 (Nat.le_refl _) (Nat.le_refl _) h
  have J49 : ∀ (x : Nat → Int32) (g : Nat → Nat → Int32) (v1 v2 v3 v4 v5 s0 : Int32), jX9_event_49 Φ x g v1 v2 v3 v4 v5 s0 → ∀ (H : Heap) (locs : List Loc) (ls : Array Slot), va_P D vwCl (mW E o ad cI cZ (x, g)) H → va_D A (mW E o ad cI cZ (x, g)) → va_S A s.heap H locs → lv_has ls 8 [(0, .ref o), (1, .int v1), (2, .int v2), (3, .int v3), (4, .int v4), (5, .int v5)] → W p l e { frames := 2, cells := 0, slots := 0, locals := 42 } s m args below meth c H locs 0 0 (MQ below (zQi D (mT cI cZ) (mW E o ad cI cZ) (fun r u => Φ r u.1 u.2) (mW E o ad cI cZ (x0, g0)) s.heap.size) args s 0 0 (va_A (mW E o ad cI cZ (x0, g0)) s.heap.size)) (F0 m 49 ls [.int s0]) := by
    intro x g v1 v2 v3 v4 v5 s0 h H locs ls hP hD hS hl
    unfold jX9_event_49 at h
    refine lv_istore (pc := 49) (lv' := [(6, .int s0), (0, .ref o), (1, .int v1), (2, .int v2), (3, .int v3), (4, .int v4), (5, .int v5)]) hx hb dX9_event_49 hl (by decide) rfl (fun ls hl => ?_)
    refine lv_aload_n (pc := 51) hx hb dX9_event_51 rfl (lv_at hl 1 rfl) ?_
    refine lv_iload (pc := 52) hx hb dX9_event_52 (lv_at hl 6 rfl) ?_
    refine lv_if_ne (pc := 54) (tgt := 61) hx hb dX9_event_54 (by decide) (fun c_54 => ?_) (fun c_54 => ?_)
    · have h := h.2 c_54
      refine lv_iload (pc := 61) hx hb dX9_event_61 (lv_at hl 0 rfl) ?_
      refine lv_if_ne (pc := 63) (tgt := 70) hx hb dX9_event_63 (by decide) (fun c_63 => ?_) (fun c_63 => ?_)
      · have h := h.2 c_63
        refine lv_aload_n (pc := 70) hx hb dX9_event_70 rfl (lv_at hl 1 rfl) ?_
        refine mG_8 (pc := 71) (v := (x 8)) hF hP rfl dX9_event_71 ?_
        refine lv_sipush (pc := 74) (v := 300) hx hb dX9_event_74 (by decide) ?_
        refine lv_icmp_ne (pc := 77) (tgt := 84) hx hb dX9_event_77 (by decide) (fun c_77 => ?_) (fun c_77 => ?_)
        · have h := h.2 c_77
          refine lv_iconst (pc := 84) (v := 0) hx hb dX9_event_84 (by decide) ?_
          exact J85 x g v1 v2 v3 v4 0 h _ _ _ hP hD hS (lv_sub hl [1, 2, 3, 4, 5] rfl)
        · have h := h.1 c_77
          refine lv_iconst (pc := 80) (v := 3) hx hb dX9_event_80 (by decide) ?_
          refine lv_goto (pc := 81) (tgt := 85) hx hb dX9_event_81 (by decide) ?_
          exact J85 x g v1 v2 v3 v4 3 h _ _ _ hP hD hS (lv_sub hl [1, 2, 3, 4, 5] rfl)
      · have h := h.1 c_63
        refine lv_iconst (pc := 66) (v := 2) hx hb dX9_event_66 (by decide) ?_
        refine lv_goto (pc := 67) (tgt := 85) hx hb dX9_event_67 (by decide) ?_
        exact J85 x g v1 v2 v3 v4 2 h _ _ _ hP hD hS (lv_sub hl [1, 2, 3, 4, 5] rfl)
    · have h := h.1 c_54
      refine lv_iconst (pc := 57) (v := 1) hx hb dX9_event_57 (by decide) ?_
      refine lv_goto (pc := 58) (tgt := 85) hx hb dX9_event_58 (by decide) ?_
      exact J85 x g v1 v2 v3 v4 1 h _ _ _ hP hD hS (lv_sub hl [1, 2, 3, 4, 5] rfl)
  have J48 : ∀ (x : Nat → Int32) (g : Nat → Nat → Int32) (v1 v2 v3 v4 v5 : Int32), jX9_event_48 Φ x g v1 v2 v3 v4 v5 → ∀ (H : Heap) (locs : List Loc) (ls : Array Slot), va_P D vwCl (mW E o ad cI cZ (x, g)) H → va_D A (mW E o ad cI cZ (x, g)) → va_S A s.heap H locs → lv_has ls 8 [(0, .ref o), (1, .int v1), (2, .int v2), (3, .int v3), (4, .int v4), (5, .int v5)] → W p l e { frames := 2, cells := 0, slots := 0, locals := 42 } s m args below meth c H locs 0 0 (MQ below (zQi D (mT cI cZ) (mW E o ad cI cZ) (fun r u => Φ r u.1 u.2) (mW E o ad cI cZ (x0, g0)) s.heap.size) args s 0 0 (va_A (mW E o ad cI cZ (x0, g0)) s.heap.size)) (F0 m 48 ls []) := by
    intro x g v1 v2 v3 v4 v5 h H locs ls hP hD hS hl
    unfold jX9_event_48 at h
    refine lv_iconst (pc := 48) (v := 0) hx hb dX9_event_48 (by decide) ?_
    exact J49 x g v1 v2 v3 v4 v5 0 h _ _ _ hP hD hS (lv_sub hl [0, 1, 2, 3, 4, 5] rfl)
  have J19 : ∀ (x : Nat → Int32) (g : Nat → Nat → Int32) (v1 v2 v3 v4 s0 : Int32), jX9_event_19 Φ x g v1 v2 v3 v4 s0 → ∀ (H : Heap) (locs : List Loc) (ls : Array Slot), va_P D vwCl (mW E o ad cI cZ (x, g)) H → va_D A (mW E o ad cI cZ (x, g)) → va_S A s.heap H locs → lv_has ls 8 [(0, .ref o), (1, .int v1), (2, .int v2), (3, .int v3), (4, .int v4)] → W p l e { frames := 2, cells := 0, slots := 0, locals := 42 } s m args below meth c H locs 0 0 (MQ below (zQi D (mT cI cZ) (mW E o ad cI cZ) (fun r u => Φ r u.1 u.2) (mW E o ad cI cZ (x0, g0)) s.heap.size) args s 0 0 (va_A (mW E o ad cI cZ (x0, g0)) s.heap.size)) (F0 m 19 ls [.int s0]) := by
    intro x g v1 v2 v3 v4 s0 h H locs ls hP hD hS hl
    unfold jX9_event_19 at h
    refine lv_istore (pc := 19) (lv' := [(5, .int s0), (0, .ref o), (1, .int v1), (2, .int v2), (3, .int v3), (4, .int v4)]) hx hb dX9_event_19 hl (by decide) rfl (fun ls hl => ?_)
    refine lv_iload_n (pc := 21) hx hb dX9_event_21 rfl (lv_at hl 4 rfl) ?_
    refine lv_iconst (pc := 22) (v := 0) hx hb dX9_event_22 (by decide) ?_
    refine lv_sipush (pc := 23) (v := 999) hx hb dX9_event_23 (by decide) ?_
    refine mSbp (pc := 26) (x := x) (g := g) [.int v3, .int 0, .int 999] hF (kX9_isIn x g v3 0 999 h) (cwX9_X9_isIn hts ⟨Nat.le_of_ble_eq_true rfl, Nat.le_of_ble_eq_true rfl⟩) hP hD hS rfl rfl hl.1 (Nat.le_of_ble_eq_true rfl) dX9_event_26 ⟨Nat.le_refl _, Nat.le_refl _⟩ (fun r_26 H locs hb_26 h hP hD hS => ?_)
    refine lv_if_eq (pc := 29) (tgt := 48) hx hb dX9_event_29 (by decide) (fun c_29 => ?_) (fun c_29 => ?_)
    · have h := h.1 c_29
      exact J48 x g v1 v2 v3 v4 s0 h _ _ _ hP hD hS (lv_sub hl [1, 2, 3, 4, 5, 0] rfl)
    · have h := h.2 c_29
      refine lv_iload (pc := 32) hx hb dX9_event_32 (lv_at hl 5 rfl) ?_
      refine lv_bipush (pc := 34) (v := (-99)) hx hb dX9_event_34 (by decide) ?_
      refine lv_bipush (pc := 36) (v := 99) hx hb dX9_event_36 (by decide) ?_
      refine mSbp (pc := 38) (x := x) (g := g) [.int v4, .int (-99), .int 99] hF (kX9_isIn x g v4 (-99) 99 h) (cwX9_X9_isIn hts ⟨Nat.le_of_ble_eq_true rfl, Nat.le_of_ble_eq_true rfl⟩) hP hD hS rfl rfl hl.1 (Nat.le_of_ble_eq_true rfl) dX9_event_38 ⟨Nat.le_refl _, Nat.le_refl _⟩ (fun r_38 H locs hb_38 h hP hD hS => ?_)
      refine lv_if_eq (pc := 41) (tgt := 48) hx hb dX9_event_41 (by decide) (fun c_41 => ?_) (fun c_41 => ?_)
      · have h := h.1 c_41
        exact J48 x g v1 v2 v3 v4 s0 h _ _ _ hP hD hS (lv_sub hl [1, 2, 3, 4, 5, 0] rfl)
      · have h := h.2 c_41
        refine lv_iconst (pc := 44) (v := 1) hx hb dX9_event_44 (by decide) ?_
        refine lv_goto (pc := 45) (tgt := 49) hx hb dX9_event_45 (by decide) ?_
        exact J49 x g v1 v2 v3 v4 s0 1 h _ _ _ hP hD hS (lv_sub hl [1, 2, 3, 4, 5, 0] rfl)
  have J18 : ∀ (x : Nat → Int32) (g : Nat → Nat → Int32) (v1 v2 v3 v4 : Int32), jX9_event_18 Φ x g v1 v2 v3 v4 → ∀ (H : Heap) (locs : List Loc) (ls : Array Slot), va_P D vwCl (mW E o ad cI cZ (x, g)) H → va_D A (mW E o ad cI cZ (x, g)) → va_S A s.heap H locs → lv_has ls 8 [(0, .ref o), (1, .int v1), (2, .int v2), (3, .int v3), (4, .int v4)] → W p l e { frames := 2, cells := 0, slots := 0, locals := 42 } s m args below meth c H locs 0 0 (MQ below (zQi D (mT cI cZ) (mW E o ad cI cZ) (fun r u => Φ r u.1 u.2) (mW E o ad cI cZ (x0, g0)) s.heap.size) args s 0 0 (va_A (mW E o ad cI cZ (x0, g0)) s.heap.size)) (F0 m 18 ls []) := by
    intro x g v1 v2 v3 v4 h H locs ls hP hD hS hl
    unfold jX9_event_18 at h
    refine lv_iconst (pc := 18) (v := 0) hx hb dX9_event_18 (by decide) ?_
    exact J19 x g v1 v2 v3 v4 0 h _ _ _ hP hD hS (lv_sub hl [0, 1, 2, 3, 4] rfl)
  unfold wX9_event at h
  refine lv_iload_n (pc := 0) hx hb dX9_event_0 rfl (lv_at hl 1 rfl) ?_
  refine mSbp (pc := 1) (x := x0) (g := g0) [.int a1] hF (kX9_isPartition x0 g0 a1 h) (cwX9_X9_isPartition hts ⟨Nat.le_of_ble_eq_true rfl, Nat.le_of_ble_eq_true rfl⟩) hP hD hS rfl rfl hl.1 (Nat.le_of_ble_eq_true rfl) dX9_event_1 ⟨Nat.le_refl _, Nat.le_refl _⟩ (fun r_1 H locs hb_1 h hP hD hS => ?_)
  refine lv_if_eq (pc := 4) (tgt := 18) hx hb dX9_event_4 (by decide) (fun c_4 => ?_) (fun c_4 => ?_)
  · have h := h.1 c_4
    exact J18 x0 g0 a1 a2 a3 a4 h _ _ _ hP hD hS (lv_sub hl [0, 1, 2, 3, 4] rfl)
  · have h := h.2 c_4
    refine lv_iload_n (pc := 7) hx hb dX9_event_7 rfl (lv_at hl 2 rfl) ?_
    refine mSbp (pc := 8) (x := x0) (g := g0) [.int a2] hF (kX9_isKey x0 g0 a2 h) (cwX9_X9_isKey hts ⟨Nat.le_of_ble_eq_true rfl, Nat.le_of_ble_eq_true rfl⟩) hP hD hS rfl rfl hl.1 (Nat.le_of_ble_eq_true rfl) dX9_event_8 ⟨Nat.le_refl _, Nat.le_refl _⟩ (fun r_8 H locs hb_8 h hP hD hS => ?_)
    refine lv_if_eq (pc := 11) (tgt := 18) hx hb dX9_event_11 (by decide) (fun c_11 => ?_) (fun c_11 => ?_)
    · have h := h.1 c_11
      exact J18 x0 g0 a1 a2 a3 a4 h _ _ _ hP hD hS (lv_sub hl [0, 1, 2, 3, 4] rfl)
    · have h := h.2 c_11
      refine lv_iconst (pc := 14) (v := 1) hx hb dX9_event_14 (by decide) ?_
      refine lv_goto (pc := 15) (tgt := 19) hx hb dX9_event_15 (by decide) ?_
      exact J19 x0 g0 a1 a2 a3 a4 1 h _ _ _ hP hD hS (lv_sub hl [0, 1, 2, 3, 4] rfl)

def jX9_bound_27 (Φ : Int32 → (Nat → Int32) → (Nat → Nat → Int32) → Prop) (x : Nat → Int32) (g : Nat → Nat → Int32) (v1 v2 s1 : Int32) : Prop := (wX9_can x g s1 (fun r_27 x_27 g_27 => ((r_27 = 0 → (Φ 0 x_27 g_27)) ∧ (¬ r_27 = 0 → (vp_in v1 3 ∧ (∀ v3_41 : Int32, v3_41 = ((g_27 17) v1.toNatClampNeg) → (vp_in v1 3 ∧ (Φ v3_41 x_27 (va_up g_27 17 (upd (g_27 17) v1.toNatClampNeg v2))))))))))
def wX9_bound (x : Nat → Int32) (g : Nat → Nat → Int32) (a1 a2 : Int32) (Φ : Int32 → (Nat → Int32) → (Nat → Nat → Int32) → Prop) : Prop := (wX9_isPartition a1 (fun r_2 => ((r_2 = 0 → (jX9_bound_27 Φ x g a1 a2 1)) ∧ (¬ r_2 = 0 → (wX9_isIn a2 0 99 (fun r_16 => ((r_16 = 0 → (jX9_bound_27 Φ x g a1 a2 2)) ∧ (¬ r_16 = 0 → (jX9_bound_27 Φ x g a1 a2 0)))))))))
set_option maxRecDepth 100000 in
set_option maxHeartbeats 4000000 in
theorem kX9_bound {l : Launch} {D : va_G} {E : va_W} {o : Nat} {ad : Nat → Nat} {cI cZ : ClassId} {sz : Nat} (x0 : Nat → Int32) (g0 : Nat → Nat → Int32) (a1 a2 : Int32) {Φ : Int32 → (Nat → Int32) → (Nat → Nat → Int32) → Prop} (h : wX9_bound x0 g0 a1 a2 Φ) : Met l yX9_bound (zws yX9_bound cX9_bound 4 (some .int)) { frames := 2, cells := 0, slots := 0, locals := 42 } (zPc D (mT cI cZ) zX0 (mW E o ad cI cZ (x0, g0)) [.ref o, .int a1, .int a2] sz) (zQi D (mT cI cZ) (mW E o ad cI cZ) (fun r u => Φ r u.1 u.2) (mW E o ad cI cZ (x0, g0)) sz) 0 0 (va_A (mW E o ad cI cZ (x0, g0)) sz) := by
  refine zMet (by decide) (Nat.le_of_ble_eq_true rfl) ?_
  intro p e s m args below meth c A hx hb hr hml hown hts hlocks hsz hAe hA hS hP hK hD hX ls hl
  subst hsz
  have hF : zFx p s m args c cX9_bound RX9 A D (mT cI cZ) zX0 4 := ⟨hx, hb, hml, hown, hts, hA, hK, zX0_cl, hX⟩
  have hl : lv_has ls 4 [(0, .ref o), (1, .int a1), (2, .int a2)] := hl
  have J27 : ∀ (x : Nat → Int32) (g : Nat → Nat → Int32) (v1 v2 s1 : Int32), jX9_bound_27 Φ x g v1 v2 s1 → ∀ (H : Heap) (locs : List Loc) (ls : Array Slot), va_P D vwCl (mW E o ad cI cZ (x, g)) H → va_D A (mW E o ad cI cZ (x, g)) → va_S A s.heap H locs → lv_has ls 4 [(0, .ref o), (1, .int v1), (2, .int v2)] → W p l e { frames := 2, cells := 0, slots := 0, locals := 42 } s m args below meth c H locs 0 0 (MQ below (zQi D (mT cI cZ) (mW E o ad cI cZ) (fun r u => Φ r u.1 u.2) (mW E o ad cI cZ (x0, g0)) s.heap.size) args s 0 0 (va_A (mW E o ad cI cZ (x0, g0)) s.heap.size)) (F0 m 27 ls [.int s1, .ref o]) := by
    intro x g v1 v2 s1 h H locs ls hP hD hS hl
    unfold jX9_bound_27 at h
    refine mVb (pc := 27) (x := x) (g := g) [.int s1] hF (kX9_can x g s1 h) (cwX9_X9_can hts ⟨Nat.le_of_ble_eq_true rfl, Nat.le_of_ble_eq_true rfl⟩) hP hD hS rfl rfl hl.1 (Nat.le_of_ble_eq_true rfl) dX9_bound_27 ⟨Nat.le_refl _, Nat.le_refl _⟩ (fun r_27 x_27 g_27 H locs hb_27 h hP hD hS => ?_)
    refine lv_if_ne (pc := 30) (tgt := 35) hx hb dX9_bound_30 (by decide) (fun c_30 => ?_) (fun c_30 => ?_)
    · have h := h.2 c_30
      refine lv_aload_n (pc := 35) hx hb dX9_bound_35 rfl (lv_at hl 0 rfl) ?_
      refine mG_17 (pc := 36) hF hP dX9_bound_36 ?_
      refine lv_iload_n (pc := 39) hx hb dX9_bound_39 rfl (lv_at hl 1 rfl) ?_
      obtain ⟨hi_40, h⟩ := h
      refine mL_17 (pc := 40) hF hP (f := (g_27 17)) rfl hi_40 dX9_bound_40 ?_
      refine lv_topi (fun v3_41 e_v3_41 => ?_)
      replace h := h v3_41 e_v3_41
      refine lv_istore_n (pc := 41) (lv' := [(3, .int v3_41), (0, .ref o), (1, .int v1), (2, .int v2)]) hx hb dX9_bound_41 rfl hl (by decide) rfl (fun ls hl => ?_)
      refine lv_aload_n (pc := 42) hx hb dX9_bound_42 rfl (lv_at hl 1 rfl) ?_
      refine mG_17 (pc := 43) hF hP dX9_bound_43 ?_
      refine lv_iload_n (pc := 46) hx hb dX9_bound_46 rfl (lv_at hl 2 rfl) ?_
      refine lv_iload_n (pc := 47) hx hb dX9_bound_47 rfl (lv_at hl 3 rfl) ?_
      obtain ⟨hi_48, h⟩ := h
      refine mP_17 (pc := 48) hF hP hD hS (f := (g_27 17)) rfl hi_48 dX9_bound_48 (fun H locs hP hD hS => ?_)
      refine lv_iload_n (pc := 49) hx hb dX9_bound_49 rfl (lv_at hl 0 rfl) ?_
      exact zirV (pc := 50) (Wd := mW E o ad cI cZ) (u := (x_27, (va_up g_27 17 (upd (g_27 17) v1.toNatClampNeg v2)))) hx hb hr hlocks hAe hK hP hD hS rfl dX9_bound_50 (Nat.le_refl _) (Nat.le_refl _) h
    · have h := h.1 c_30
      refine lv_iconst (pc := 33) (v := 0) hx hb dX9_bound_33 (by decide) ?_
      exact zirV (pc := 34) (Wd := mW E o ad cI cZ) (u := (x_27, g_27)) hx hb hr hlocks hAe hK hP hD hS rfl dX9_bound_34 (Nat.le_refl _) (Nat.le_refl _) h
  unfold wX9_bound at h
  refine lv_aload_n (pc := 0) hx hb dX9_bound_0 rfl (lv_at hl 0 rfl) ?_
  refine lv_iload_n (pc := 1) hx hb dX9_bound_1 rfl (lv_at hl 1 rfl) ?_
  refine mSbp (pc := 2) (x := x0) (g := g0) [.int a1] hF (kX9_isPartition x0 g0 a1 h) (cwX9_X9_isPartition hts ⟨Nat.le_of_ble_eq_true rfl, Nat.le_of_ble_eq_true rfl⟩) hP hD hS rfl rfl hl.1 (Nat.le_of_ble_eq_true rfl) dX9_bound_2 ⟨Nat.le_refl _, Nat.le_refl _⟩ (fun r_2 H locs hb_2 h hP hD hS => ?_)
  refine lv_if_ne (pc := 5) (tgt := 12) hx hb dX9_bound_5 (by decide) (fun c_5 => ?_) (fun c_5 => ?_)
  · have h := h.2 c_5
    refine lv_iload_n (pc := 12) hx hb dX9_bound_12 rfl (lv_at hl 2 rfl) ?_
    refine lv_iconst (pc := 13) (v := 0) hx hb dX9_bound_13 (by decide) ?_
    refine lv_bipush (pc := 14) (v := 99) hx hb dX9_bound_14 (by decide) ?_
    refine mSbp (pc := 16) (x := x0) (g := g0) [.int a2, .int 0, .int 99] hF (kX9_isIn x0 g0 a2 0 99 h) (cwX9_X9_isIn hts ⟨Nat.le_of_ble_eq_true rfl, Nat.le_of_ble_eq_true rfl⟩) hP hD hS rfl rfl hl.1 (Nat.le_of_ble_eq_true rfl) dX9_bound_16 ⟨Nat.le_refl _, Nat.le_refl _⟩ (fun r_16 H locs hb_16 h hP hD hS => ?_)
    refine lv_if_eq (pc := 19) (tgt := 26) hx hb dX9_bound_19 (by decide) (fun c_19 => ?_) (fun c_19 => ?_)
    · have h := h.1 c_19
      refine lv_iconst (pc := 26) (v := 2) hx hb dX9_bound_26 (by decide) ?_
      exact J27 x0 g0 a1 a2 2 h _ _ _ hP hD hS (lv_sub hl [0, 1, 2] rfl)
    · have h := h.2 c_19
      refine lv_iconst (pc := 22) (v := 0) hx hb dX9_bound_22 (by decide) ?_
      refine lv_goto (pc := 23) (tgt := 27) hx hb dX9_bound_23 (by decide) ?_
      exact J27 x0 g0 a1 a2 0 h _ _ _ hP hD hS (lv_sub hl [0, 1, 2] rfl)
  · have h := h.1 c_5
    refine lv_iconst (pc := 8) (v := 1) hx hb dX9_bound_8 (by decide) ?_
    refine lv_goto (pc := 9) (tgt := 27) hx hb dX9_bound_9 (by decide) ?_
    exact J27 x0 g0 a1 a2 1 h _ _ _ hP hD hS (lv_sub hl [0, 1, 2] rfl)

def wX9_placeOf (a0 : Int32) (Φ : Int32 → Prop) : Prop := (Φ (7200 + a0))
set_option maxRecDepth 100000 in
set_option maxHeartbeats 4000000 in
theorem kX9_placeOf {l : Launch} {D : va_G} {E : va_W} {o : Nat} {ad : Nat → Nat} {cI cZ : ClassId} {sz : Nat} (x0 : Nat → Int32) (g0 : Nat → Nat → Int32) (a0 : Int32) {Φ : Int32 → Prop} (h : wX9_placeOf a0 Φ) : Met l yX9_placeOf (zws yX9_placeOf cX9_placeOf 1 (some .int)) { frames := 0, cells := 0, slots := 0, locals := 0 } (zPc D (mT cI cZ) zX0 (mW E o ad cI cZ (x0, g0)) [.int a0] sz) (zQi D (mT cI cZ) (mW E o ad cI cZ) (fun r u => u = (x0, g0) ∧ Φ r) (mW E o ad cI cZ (x0, g0)) sz) 0 0 (va_A (mW E o ad cI cZ (x0, g0)) sz) := by
  refine zMet (by decide) (Nat.le_of_ble_eq_true rfl) ?_
  intro p e s m args below meth c A hx hb hr hml hown hts hlocks hsz hAe hA hS hP hK hD hX ls hl
  subst hsz
  have hF : zFx p s m args c cX9_placeOf RX9 A D (mT cI cZ) zX0 1 := ⟨hx, hb, hml, hown, hts, hA, hK, zX0_cl, hX⟩
  have hl : lv_has ls 1 [(0, .int a0)] := hl
  unfold wX9_placeOf at h
  refine lv_sipush (pc := 0) (v := 7200) hx hb dX9_placeOf_0 (by decide) ?_
  refine lv_iload_n (pc := 3) hx hb dX9_placeOf_3 rfl (lv_at hl 0 rfl) ?_
  refine lv_iadd (pc := 4) hx hb dX9_placeOf_4 ?_
  exact zirV (pc := 5) (Wd := mW E o ad cI cZ) (u := (x0, g0)) hx hb hr hlocks hAe hK hP hD hS rfl dX9_placeOf_5 (Nat.le_refl _) (Nat.le_refl _) ⟨rfl, h⟩

def jX9_nextToTell_137 (W7 : (Nat → Int32) → (Nat → Nat → Int32) → Int32 → Int32 → Prop) (Φ : Int32 → Prop) (x : Nat → Int32) (g : Nat → Nat → Int32) (v1 v2 v3 s0 : Int32) : Prop := ((v3 = 0 → (∀ v2_154 : Int32, v2_154 = v2 + 1 → (W7 x g v1 v2_154))) ∧ (¬ v3 = 0 → ((s0 = 0 → (∀ v2_154 : Int32, v2_154 = v2 + 1 → (W7 x g v1 v2_154))) ∧ (¬ s0 = 0 → (∀ v2_154 : Int32, v2_154 = v2 + 1 → (W7 x g v2 v2_154))))))
def jX9_nextToTell_136 (W7 : (Nat → Int32) → (Nat → Nat → Int32) → Int32 → Int32 → Prop) (Φ : Int32 → Prop) (x : Nat → Int32) (g : Nat → Nat → Int32) (v1 v2 v3 : Int32) : Prop := (jX9_nextToTell_137 W7 Φ x g v1 v2 v3 0)
def jX9_nextToTell_132 (W7 : (Nat → Int32) → (Nat → Nat → Int32) → Int32 → Int32 → Prop) (Φ : Int32 → Prop) (x : Nat → Int32) (g : Nat → Nat → Int32) (v1 v2 v3 : Int32) : Prop := (jX9_nextToTell_137 W7 Φ x g v1 v2 v3 1)
def jX9_nextToTell_51 (W7 : (Nat → Int32) → (Nat → Nat → Int32) → Int32 → Int32 → Prop) (Φ : Int32 → Prop) (x : Nat → Int32) (g : Nat → Nat → Int32) (v1 v2 s0 : Int32) : Prop := ((v1 = (-1) → (jX9_nextToTell_132 W7 Φ x g v1 v2 s0)) ∧ (¬ v1 = (-1) → (vp_in v2 8400 ∧ (vp_in v1 8400 ∧ ((((g 31) v2.toNatClampNeg) < ((g 31) v1.toNatClampNeg) → (jX9_nextToTell_132 W7 Φ x g v1 v2 s0)) ∧ (¬ ((g 31) v2.toNatClampNeg) < ((g 31) v1.toNatClampNeg) → (vp_in v2 8400 ∧ (vp_in v1 8400 ∧ ((((g 31) v2.toNatClampNeg) = ((g 31) v1.toNatClampNeg) → (vp_in v2 8400 ∧ (vp_in v1 8400 ∧ ((((g 30) v2.toNatClampNeg) < ((g 30) v1.toNatClampNeg) → (jX9_nextToTell_132 W7 Φ x g v1 v2 s0)) ∧ (¬ ((g 30) v2.toNatClampNeg) < ((g 30) v1.toNatClampNeg) → (vp_in v2 8400 ∧ (vp_in v1 8400 ∧ ((((g 30) v2.toNatClampNeg) = ((g 30) v1.toNatClampNeg) → (vp_in v2 8400 ∧ (vp_in v1 8400 ∧ ((((g 29) v1.toNatClampNeg) ≤ ((g 29) v2.toNatClampNeg) → (jX9_nextToTell_136 W7 Φ x g v1 v2 s0)) ∧ (¬ ((g 29) v1.toNatClampNeg) ≤ ((g 29) v2.toNatClampNeg) → (jX9_nextToTell_132 W7 Φ x g v1 v2 s0)))))) ∧ (¬ ((g 30) v2.toNatClampNeg) = ((g 30) v1.toNatClampNeg) → (jX9_nextToTell_136 W7 Φ x g v1 v2 s0)))))))))) ∧ (¬ ((g 31) v2.toNatClampNeg) = ((g 31) v1.toNatClampNeg) → (jX9_nextToTell_136 W7 Φ x g v1 v2 s0)))))))))))
def jX9_nextToTell_50 (W7 : (Nat → Int32) → (Nat → Nat → Int32) → Int32 → Int32 → Prop) (Φ : Int32 → Prop) (x : Nat → Int32) (g : Nat → Nat → Int32) (v1 v2 : Int32) : Prop := (jX9_nextToTell_51 W7 Φ x g v1 v2 0)
def lX9_nextToTell_7 (Φ : Int32 → Prop) : Nat → (Nat → Int32) → (Nat → Nat → Int32) → Int32 → Int32 → Prop
  | 0, _, _, _, _ => False
  | n7 + 1, x, g, v1, v2 => (vp_in 6 7 ∧ (wX9_placeOf ((g 28) (6 : Int32).toNatClampNeg) (fun r_15 => ((r_15 ≤ v2 → (Φ v1)) ∧ (¬ r_15 ≤ v2 → (vp_in v2 8400 ∧ ((((g 33) v2.toNatClampNeg) = 0 → (vp_in v2 8400 ∧ (vp_in 6 7 ∧ ((((g 25) (6 : Int32).toNatClampNeg) < ((g 31) v2.toNatClampNeg) → (jX9_nextToTell_50 (lX9_nextToTell_7 Φ n7) Φ x g v1 v2)) ∧ (¬ ((g 25) (6 : Int32).toNatClampNeg) < ((g 31) v2.toNatClampNeg) → (jX9_nextToTell_51 (lX9_nextToTell_7 Φ n7) Φ x g v1 v2 1)))))) ∧ (¬ ((g 33) v2.toNatClampNeg) = 0 → (jX9_nextToTell_50 (lX9_nextToTell_7 Φ n7) Φ x g v1 v2)))))))))
def wX9_nextToTell (x : Nat → Int32) (g : Nat → Nat → Int32) (Φ : Int32 → Prop) : Prop := (wX9_placeOf 0 (fun r_3 => (∃ n7 : Nat, lX9_nextToTell_7 Φ n7 x g (-1) r_3)))
set_option maxRecDepth 100000 in
set_option maxHeartbeats 4000000 in
theorem kX9_nextToTell {l : Launch} {D : va_G} {E : va_W} {o : Nat} {ad : Nat → Nat} {cI cZ : ClassId} {sz : Nat} (x0 : Nat → Int32) (g0 : Nat → Nat → Int32) {Φ : Int32 → Prop} (h : wX9_nextToTell x0 g0 Φ) : Met l yX9_nextToTell (zws yX9_nextToTell cX9_nextToTell 5 (some .int)) { frames := 1, cells := 0, slots := 0, locals := 20 } (zPc D (mT cI cZ) zX0 (mW E o ad cI cZ (x0, g0)) [.ref o] sz) (zQi D (mT cI cZ) (mW E o ad cI cZ) (fun r u => u = (x0, g0) ∧ Φ r) (mW E o ad cI cZ (x0, g0)) sz) 0 0 (va_A (mW E o ad cI cZ (x0, g0)) sz) := by
  refine zMet (by decide) (Nat.le_of_ble_eq_true rfl) ?_
  intro p e s m args below meth c A hx hb hr hml hown hts hlocks hsz hAe hA hS hP hK hD hX ls hl
  subst hsz
  have hF : zFx p s m args c cX9_nextToTell RX9 A D (mT cI cZ) zX0 5 := ⟨hx, hb, hml, hown, hts, hA, hK, zX0_cl, hX⟩
  have hl : lv_has ls 5 [(0, .ref o)] := hl
  have L7 : ∀ n7 : Nat, ∀ (v1 v2 : Int32), lX9_nextToTell_7 Φ n7 x0 g0 v1 v2 → ∀ (H : Heap) (locs : List Loc) (ls : Array Slot), va_P D vwCl (mW E o ad cI cZ (x0, g0)) H → va_D A (mW E o ad cI cZ (x0, g0)) → va_S A s.heap H locs → lv_has ls 5 [(0, .ref o), (1, .int v1), (2, .int v2)] → W p l e { frames := 1, cells := 0, slots := 0, locals := 20 } s m args below meth c H locs 0 0 (MQ below (zQi D (mT cI cZ) (mW E o ad cI cZ) (fun r u => u = (x0, g0) ∧ Φ r) (mW E o ad cI cZ (x0, g0)) s.heap.size) args s 0 0 (va_A (mW E o ad cI cZ (x0, g0)) s.heap.size)) (F0 m 7 ls []) := by
    intro n7
    induction n7 with
    | zero => intro v1 v2 h H locs ls hP hD hS hl; exact h.elim
    | succ n7 ih7 =>
      have J137 : ∀ (v1 v2 v3 s0 : Int32), jX9_nextToTell_137 (lX9_nextToTell_7 Φ n7) Φ x0 g0 v1 v2 v3 s0 → ∀ (H : Heap) (locs : List Loc) (ls : Array Slot), va_P D vwCl (mW E o ad cI cZ (x0, g0)) H → va_D A (mW E o ad cI cZ (x0, g0)) → va_S A s.heap H locs → lv_has ls 5 [(0, .ref o), (1, .int v1), (2, .int v2), (3, .int v3)] → W p l e { frames := 1, cells := 0, slots := 0, locals := 20 } s m args below meth c H locs 0 0 (MQ below (zQi D (mT cI cZ) (mW E o ad cI cZ) (fun r u => u = (x0, g0) ∧ Φ r) (mW E o ad cI cZ (x0, g0)) s.heap.size) args s 0 0 (va_A (mW E o ad cI cZ (x0, g0)) s.heap.size)) (F0 m 137 ls [.int s0]) := by
        intro v1 v2 v3 s0 h H locs ls hP hD hS hl
        unfold jX9_nextToTell_137 at h
        refine lv_istore (pc := 137) (lv' := [(4, .int s0), (0, .ref o), (1, .int v1), (2, .int v2), (3, .int v3)]) hx hb dX9_nextToTell_137 hl (by decide) rfl (fun ls hl => ?_)
        refine lv_iload_n (pc := 139) hx hb dX9_nextToTell_139 rfl (lv_at hl 4 rfl) ?_
        refine lv_if_eq (pc := 140) (tgt := 152) hx hb dX9_nextToTell_140 (by decide) (fun c_140 => ?_) (fun c_140 => ?_)
        · have h := h.1 c_140
          refine lv_iload_n (pc := 152) hx hb dX9_nextToTell_152 rfl (lv_at hl 2 rfl) ?_
          refine lv_istore_n (pc := 153) (lv' := [(1, .int v1), (4, .int s0), (0, .ref o), (2, .int v2), (3, .int v3)]) hx hb dX9_nextToTell_153 rfl hl (by decide) rfl (fun ls hl => ?_)
          obtain ⟨v2_154, e_v2_154⟩ : ∃ y : Int32, y = v2 + 1 := ⟨_, rfl⟩
          replace h := h v2_154 e_v2_154
          refine lv_iinc (pc := 154) (v := v2_154) (lv' := [(2, .int v2_154), (1, .int v1), (4, .int s0), (0, .ref o), (3, .int v3)]) hx hb dX9_nextToTell_154 hl (k := 3) rfl (by rw [e_v2_154]; rfl) (by decide) rfl (fun ls hl => ?_)
          refine lv_goto (pc := 157) (tgt := 7) hx hb dX9_nextToTell_157 (by decide) ?_
          exact ih7 v1 v2_154 h _ _ _ hP hD hS (lv_sub hl [3, 1, 0] rfl)
        · have h := h.2 c_140
          refine lv_iload (pc := 143) hx hb dX9_nextToTell_143 (lv_at hl 0 rfl) ?_
          refine lv_if_eq (pc := 145) (tgt := 152) hx hb dX9_nextToTell_145 (by decide) (fun c_145 => ?_) (fun c_145 => ?_)
          · have h := h.1 c_145
            refine lv_iload_n (pc := 152) hx hb dX9_nextToTell_152 rfl (lv_at hl 2 rfl) ?_
            refine lv_istore_n (pc := 153) (lv' := [(1, .int v1), (4, .int s0), (0, .ref o), (2, .int v2), (3, .int v3)]) hx hb dX9_nextToTell_153 rfl hl (by decide) rfl (fun ls hl => ?_)
            obtain ⟨v2_154, e_v2_154⟩ : ∃ y : Int32, y = v2 + 1 := ⟨_, rfl⟩
            replace h := h v2_154 e_v2_154
            refine lv_iinc (pc := 154) (v := v2_154) (lv' := [(2, .int v2_154), (1, .int v1), (4, .int s0), (0, .ref o), (3, .int v3)]) hx hb dX9_nextToTell_154 hl (k := 3) rfl (by rw [e_v2_154]; rfl) (by decide) rfl (fun ls hl => ?_)
            refine lv_goto (pc := 157) (tgt := 7) hx hb dX9_nextToTell_157 (by decide) ?_
            exact ih7 v1 v2_154 h _ _ _ hP hD hS (lv_sub hl [3, 1, 0] rfl)
          · have h := h.2 c_145
            refine lv_iload_n (pc := 148) hx hb dX9_nextToTell_148 rfl (lv_at hl 3 rfl) ?_
            refine lv_goto (pc := 149) (tgt := 153) hx hb dX9_nextToTell_149 (by decide) ?_
            refine lv_istore_n (pc := 153) (lv' := [(1, .int v2), (4, .int s0), (0, .ref o), (2, .int v2), (3, .int v3)]) hx hb dX9_nextToTell_153 rfl hl (by decide) rfl (fun ls hl => ?_)
            obtain ⟨v2_154, e_v2_154⟩ : ∃ y : Int32, y = v2 + 1 := ⟨_, rfl⟩
            replace h := h v2_154 e_v2_154
            refine lv_iinc (pc := 154) (v := v2_154) (lv' := [(2, .int v2_154), (1, .int v2), (4, .int s0), (0, .ref o), (3, .int v3)]) hx hb dX9_nextToTell_154 hl (k := 3) rfl (by rw [e_v2_154]; rfl) (by decide) rfl (fun ls hl => ?_)
            refine lv_goto (pc := 157) (tgt := 7) hx hb dX9_nextToTell_157 (by decide) ?_
            exact ih7 v2 v2_154 h _ _ _ hP hD hS (lv_sub hl [3, 1, 0] rfl)
      have J136 : ∀ (v1 v2 v3 : Int32), jX9_nextToTell_136 (lX9_nextToTell_7 Φ n7) Φ x0 g0 v1 v2 v3 → ∀ (H : Heap) (locs : List Loc) (ls : Array Slot), va_P D vwCl (mW E o ad cI cZ (x0, g0)) H → va_D A (mW E o ad cI cZ (x0, g0)) → va_S A s.heap H locs → lv_has ls 5 [(0, .ref o), (1, .int v1), (2, .int v2), (3, .int v3)] → W p l e { frames := 1, cells := 0, slots := 0, locals := 20 } s m args below meth c H locs 0 0 (MQ below (zQi D (mT cI cZ) (mW E o ad cI cZ) (fun r u => u = (x0, g0) ∧ Φ r) (mW E o ad cI cZ (x0, g0)) s.heap.size) args s 0 0 (va_A (mW E o ad cI cZ (x0, g0)) s.heap.size)) (F0 m 136 ls []) := by
        intro v1 v2 v3 h H locs ls hP hD hS hl
        unfold jX9_nextToTell_136 at h
        refine lv_iconst (pc := 136) (v := 0) hx hb dX9_nextToTell_136 (by decide) ?_
        exact J137 v1 v2 v3 0 h _ _ _ hP hD hS (lv_sub hl [0, 1, 2, 3] rfl)
      have J132 : ∀ (v1 v2 v3 : Int32), jX9_nextToTell_132 (lX9_nextToTell_7 Φ n7) Φ x0 g0 v1 v2 v3 → ∀ (H : Heap) (locs : List Loc) (ls : Array Slot), va_P D vwCl (mW E o ad cI cZ (x0, g0)) H → va_D A (mW E o ad cI cZ (x0, g0)) → va_S A s.heap H locs → lv_has ls 5 [(0, .ref o), (1, .int v1), (2, .int v2), (3, .int v3)] → W p l e { frames := 1, cells := 0, slots := 0, locals := 20 } s m args below meth c H locs 0 0 (MQ below (zQi D (mT cI cZ) (mW E o ad cI cZ) (fun r u => u = (x0, g0) ∧ Φ r) (mW E o ad cI cZ (x0, g0)) s.heap.size) args s 0 0 (va_A (mW E o ad cI cZ (x0, g0)) s.heap.size)) (F0 m 132 ls []) := by
        intro v1 v2 v3 h H locs ls hP hD hS hl
        unfold jX9_nextToTell_132 at h
        refine lv_iconst (pc := 132) (v := 1) hx hb dX9_nextToTell_132 (by decide) ?_
        refine lv_goto (pc := 133) (tgt := 137) hx hb dX9_nextToTell_133 (by decide) ?_
        exact J137 v1 v2 v3 1 h _ _ _ hP hD hS (lv_sub hl [0, 1, 2, 3] rfl)
      have J51 : ∀ (v1 v2 s0 : Int32), jX9_nextToTell_51 (lX9_nextToTell_7 Φ n7) Φ x0 g0 v1 v2 s0 → ∀ (H : Heap) (locs : List Loc) (ls : Array Slot), va_P D vwCl (mW E o ad cI cZ (x0, g0)) H → va_D A (mW E o ad cI cZ (x0, g0)) → va_S A s.heap H locs → lv_has ls 5 [(0, .ref o), (1, .int v1), (2, .int v2)] → W p l e { frames := 1, cells := 0, slots := 0, locals := 20 } s m args below meth c H locs 0 0 (MQ below (zQi D (mT cI cZ) (mW E o ad cI cZ) (fun r u => u = (x0, g0) ∧ Φ r) (mW E o ad cI cZ (x0, g0)) s.heap.size) args s 0 0 (va_A (mW E o ad cI cZ (x0, g0)) s.heap.size)) (F0 m 51 ls [.int s0]) := by
        intro v1 v2 s0 h H locs ls hP hD hS hl
        unfold jX9_nextToTell_51 at h
        refine lv_istore_n (pc := 51) (lv' := [(3, .int s0), (0, .ref o), (1, .int v1), (2, .int v2)]) hx hb dX9_nextToTell_51 rfl hl (by decide) rfl (fun ls hl => ?_)
        refine lv_iload_n (pc := 52) hx hb dX9_nextToTell_52 rfl (lv_at hl 2 rfl) ?_
        refine lv_iconst (pc := 53) (v := (-1)) hx hb dX9_nextToTell_53 (by decide) ?_
        refine lv_icmp_eq (pc := 54) (tgt := 132) hx hb dX9_nextToTell_54 (by decide) (fun c_54 => ?_) (fun c_54 => ?_)
        · have h := h.1 c_54
          exact J132 v1 v2 s0 h _ _ _ hP hD hS (lv_sub hl [1, 2, 3, 0] rfl)
        · have h := h.2 c_54
          refine lv_aload_n (pc := 57) hx hb dX9_nextToTell_57 rfl (lv_at hl 1 rfl) ?_
          refine mG_31 (pc := 58) hF hP dX9_nextToTell_58 ?_
          refine lv_iload_n (pc := 61) hx hb dX9_nextToTell_61 rfl (lv_at hl 3 rfl) ?_
          obtain ⟨hi_62, h⟩ := h
          refine mL_31 (pc := 62) hF hP (f := (g0 31)) rfl hi_62 dX9_nextToTell_62 ?_
          refine lv_aload_n (pc := 63) hx hb dX9_nextToTell_63 rfl (lv_at hl 1 rfl) ?_
          refine mG_31 (pc := 64) hF hP dX9_nextToTell_64 ?_
          refine lv_iload_n (pc := 67) hx hb dX9_nextToTell_67 rfl (lv_at hl 2 rfl) ?_
          obtain ⟨hi_68, h⟩ := h
          refine mL_31 (pc := 68) hF hP (f := (g0 31)) rfl hi_68 dX9_nextToTell_68 ?_
          refine lv_icmp_lt (pc := 69) (tgt := 132) hx hb dX9_nextToTell_69 (by decide) (fun c_69 => ?_) (fun c_69 => ?_)
          · have h := h.1 c_69
            exact J132 v1 v2 s0 h _ _ _ hP hD hS (lv_sub hl [1, 2, 3, 0] rfl)
          · have h := h.2 c_69
            refine lv_aload_n (pc := 72) hx hb dX9_nextToTell_72 rfl (lv_at hl 1 rfl) ?_
            refine mG_31 (pc := 73) hF hP dX9_nextToTell_73 ?_
            refine lv_iload_n (pc := 76) hx hb dX9_nextToTell_76 rfl (lv_at hl 3 rfl) ?_
            obtain ⟨hi_77, h⟩ := h
            refine mL_31 (pc := 77) hF hP (f := (g0 31)) rfl hi_77 dX9_nextToTell_77 ?_
            refine lv_aload_n (pc := 78) hx hb dX9_nextToTell_78 rfl (lv_at hl 1 rfl) ?_
            refine mG_31 (pc := 79) hF hP dX9_nextToTell_79 ?_
            refine lv_iload_n (pc := 82) hx hb dX9_nextToTell_82 rfl (lv_at hl 2 rfl) ?_
            obtain ⟨hi_83, h⟩ := h
            refine mL_31 (pc := 83) hF hP (f := (g0 31)) rfl hi_83 dX9_nextToTell_83 ?_
            refine lv_icmp_ne (pc := 84) (tgt := 136) hx hb dX9_nextToTell_84 (by decide) (fun c_84 => ?_) (fun c_84 => ?_)
            · have h := h.2 c_84
              exact J136 v1 v2 s0 h _ _ _ hP hD hS (lv_sub hl [1, 2, 3, 0] rfl)
            · have h := h.1 c_84
              refine lv_aload_n (pc := 87) hx hb dX9_nextToTell_87 rfl (lv_at hl 1 rfl) ?_
              refine mG_30 (pc := 88) hF hP dX9_nextToTell_88 ?_
              refine lv_iload_n (pc := 91) hx hb dX9_nextToTell_91 rfl (lv_at hl 3 rfl) ?_
              obtain ⟨hi_92, h⟩ := h
              refine mL_30 (pc := 92) hF hP (f := (g0 30)) rfl hi_92 dX9_nextToTell_92 ?_
              refine lv_aload_n (pc := 93) hx hb dX9_nextToTell_93 rfl (lv_at hl 1 rfl) ?_
              refine mG_30 (pc := 94) hF hP dX9_nextToTell_94 ?_
              refine lv_iload_n (pc := 97) hx hb dX9_nextToTell_97 rfl (lv_at hl 2 rfl) ?_
              obtain ⟨hi_98, h⟩ := h
              refine mL_30 (pc := 98) hF hP (f := (g0 30)) rfl hi_98 dX9_nextToTell_98 ?_
              refine lv_icmp_lt (pc := 99) (tgt := 132) hx hb dX9_nextToTell_99 (by decide) (fun c_99 => ?_) (fun c_99 => ?_)
              · have h := h.1 c_99
                exact J132 v1 v2 s0 h _ _ _ hP hD hS (lv_sub hl [1, 2, 3, 0] rfl)
              · have h := h.2 c_99
                refine lv_aload_n (pc := 102) hx hb dX9_nextToTell_102 rfl (lv_at hl 1 rfl) ?_
                refine mG_30 (pc := 103) hF hP dX9_nextToTell_103 ?_
                refine lv_iload_n (pc := 106) hx hb dX9_nextToTell_106 rfl (lv_at hl 3 rfl) ?_
                obtain ⟨hi_107, h⟩ := h
                refine mL_30 (pc := 107) hF hP (f := (g0 30)) rfl hi_107 dX9_nextToTell_107 ?_
                refine lv_aload_n (pc := 108) hx hb dX9_nextToTell_108 rfl (lv_at hl 1 rfl) ?_
                refine mG_30 (pc := 109) hF hP dX9_nextToTell_109 ?_
                refine lv_iload_n (pc := 112) hx hb dX9_nextToTell_112 rfl (lv_at hl 2 rfl) ?_
                obtain ⟨hi_113, h⟩ := h
                refine mL_30 (pc := 113) hF hP (f := (g0 30)) rfl hi_113 dX9_nextToTell_113 ?_
                refine lv_icmp_ne (pc := 114) (tgt := 136) hx hb dX9_nextToTell_114 (by decide) (fun c_114 => ?_) (fun c_114 => ?_)
                · have h := h.2 c_114
                  exact J136 v1 v2 s0 h _ _ _ hP hD hS (lv_sub hl [1, 2, 3, 0] rfl)
                · have h := h.1 c_114
                  refine lv_aload_n (pc := 117) hx hb dX9_nextToTell_117 rfl (lv_at hl 1 rfl) ?_
                  refine mG_29 (pc := 118) hF hP dX9_nextToTell_118 ?_
                  refine lv_iload_n (pc := 121) hx hb dX9_nextToTell_121 rfl (lv_at hl 3 rfl) ?_
                  obtain ⟨hi_122, h⟩ := h
                  refine mL_29 (pc := 122) hF hP (f := (g0 29)) rfl hi_122 dX9_nextToTell_122 ?_
                  refine lv_aload_n (pc := 123) hx hb dX9_nextToTell_123 rfl (lv_at hl 1 rfl) ?_
                  refine mG_29 (pc := 124) hF hP dX9_nextToTell_124 ?_
                  refine lv_iload_n (pc := 127) hx hb dX9_nextToTell_127 rfl (lv_at hl 2 rfl) ?_
                  obtain ⟨hi_128, h⟩ := h
                  refine mL_29 (pc := 128) hF hP (f := (g0 29)) rfl hi_128 dX9_nextToTell_128 ?_
                  refine lv_icmp_ge (pc := 129) (tgt := 136) hx hb dX9_nextToTell_129 (by decide) (fun c_129 => ?_) (fun c_129 => ?_)
                  · have h := h.1 c_129
                    exact J136 v1 v2 s0 h _ _ _ hP hD hS (lv_sub hl [1, 2, 3, 0] rfl)
                  · have h := h.2 c_129
                    exact J132 v1 v2 s0 h _ _ _ hP hD hS (lv_sub hl [1, 2, 3, 0] rfl)
      have J50 : ∀ (v1 v2 : Int32), jX9_nextToTell_50 (lX9_nextToTell_7 Φ n7) Φ x0 g0 v1 v2 → ∀ (H : Heap) (locs : List Loc) (ls : Array Slot), va_P D vwCl (mW E o ad cI cZ (x0, g0)) H → va_D A (mW E o ad cI cZ (x0, g0)) → va_S A s.heap H locs → lv_has ls 5 [(0, .ref o), (1, .int v1), (2, .int v2)] → W p l e { frames := 1, cells := 0, slots := 0, locals := 20 } s m args below meth c H locs 0 0 (MQ below (zQi D (mT cI cZ) (mW E o ad cI cZ) (fun r u => u = (x0, g0) ∧ Φ r) (mW E o ad cI cZ (x0, g0)) s.heap.size) args s 0 0 (va_A (mW E o ad cI cZ (x0, g0)) s.heap.size)) (F0 m 50 ls []) := by
        intro v1 v2 h H locs ls hP hD hS hl
        unfold jX9_nextToTell_50 at h
        refine lv_iconst (pc := 50) (v := 0) hx hb dX9_nextToTell_50 (by decide) ?_
        exact J51 v1 v2 0 h _ _ _ hP hD hS (lv_sub hl [0, 1, 2] rfl)
      intro v1 v2 h H locs ls hP hD hS hl
      unfold lX9_nextToTell_7 at h
      refine lv_iload_n (pc := 7) hx hb dX9_nextToTell_7 rfl (lv_at hl 2 rfl) ?_
      refine lv_aload_n (pc := 8) hx hb dX9_nextToTell_8 rfl (lv_at hl 0 rfl) ?_
      refine mG_28 (pc := 9) hF hP dX9_nextToTell_9 ?_
      refine lv_bipush (pc := 12) (v := 6) hx hb dX9_nextToTell_12 (by decide) ?_
      obtain ⟨hi_14, h⟩ := h
      refine mL_28 (pc := 14) hF hP (f := (g0 28)) rfl hi_14 dX9_nextToTell_14 ?_
      refine mSip (pc := 15) (x := x0) (g := g0) [.int ((g0 28) (6 : Int32).toNatClampNeg)] hF (kX9_placeOf x0 g0 ((g0 28) (6 : Int32).toNatClampNeg) h) (cwX9_X9_placeOf hts ⟨Nat.le_of_ble_eq_true rfl, Nat.le_of_ble_eq_true rfl⟩) hP hD hS rfl rfl hl.1 (Nat.le_of_ble_eq_true rfl) dX9_nextToTell_15 ⟨Nat.le_refl _, Nat.le_refl _⟩ (fun r_15 H locs h hP hD hS => ?_)
      refine lv_icmp_ge (pc := 18) (tgt := 160) hx hb dX9_nextToTell_18 (by decide) (fun c_18 => ?_) (fun c_18 => ?_)
      · have h := h.1 c_18
        refine lv_iload_n (pc := 160) hx hb dX9_nextToTell_160 rfl (lv_at hl 1 rfl) ?_
        exact zirV (pc := 161) (Wd := mW E o ad cI cZ) (u := (x0, g0)) hx hb hr hlocks hAe hK hP hD hS rfl dX9_nextToTell_161 (Nat.le_refl _) (Nat.le_refl _) ⟨rfl, h⟩
      · have h := h.2 c_18
        refine lv_aload_n (pc := 21) hx hb dX9_nextToTell_21 rfl (lv_at hl 0 rfl) ?_
        refine mG_33 (pc := 22) hF hP dX9_nextToTell_22 ?_
        refine lv_iload_n (pc := 25) hx hb dX9_nextToTell_25 rfl (lv_at hl 2 rfl) ?_
        obtain ⟨hi_26, h⟩ := h
        refine mL_33 (pc := 26) hF hP (f := (g0 33)) rfl hi_26 dX9_nextToTell_26 ?_
        refine lv_if_ne (pc := 27) (tgt := 50) hx hb dX9_nextToTell_27 (by decide) (fun c_27 => ?_) (fun c_27 => ?_)
        · have h := h.2 c_27
          exact J50 v1 v2 h _ _ _ hP hD hS (lv_sub hl [0, 1, 2] rfl)
        · have h := h.1 c_27
          refine lv_aload_n (pc := 30) hx hb dX9_nextToTell_30 rfl (lv_at hl 0 rfl) ?_
          refine mG_31 (pc := 31) hF hP dX9_nextToTell_31 ?_
          refine lv_iload_n (pc := 34) hx hb dX9_nextToTell_34 rfl (lv_at hl 2 rfl) ?_
          obtain ⟨hi_35, h⟩ := h
          refine mL_31 (pc := 35) hF hP (f := (g0 31)) rfl hi_35 dX9_nextToTell_35 ?_
          refine lv_aload_n (pc := 36) hx hb dX9_nextToTell_36 rfl (lv_at hl 0 rfl) ?_
          refine mG_25 (pc := 37) hF hP dX9_nextToTell_37 ?_
          refine lv_bipush (pc := 40) (v := 6) hx hb dX9_nextToTell_40 (by decide) ?_
          obtain ⟨hi_42, h⟩ := h
          refine mL_25 (pc := 42) hF hP (f := (g0 25)) rfl hi_42 dX9_nextToTell_42 ?_
          refine lv_icmp_gt (pc := 43) (tgt := 50) hx hb dX9_nextToTell_43 (by decide) (fun c_43 => ?_) (fun c_43 => ?_)
          · have h := h.1 c_43
            exact J50 v1 v2 h _ _ _ hP hD hS (lv_sub hl [0, 1, 2] rfl)
          · have h := h.2 c_43
            refine lv_iconst (pc := 46) (v := 1) hx hb dX9_nextToTell_46 (by decide) ?_
            refine lv_goto (pc := 47) (tgt := 51) hx hb dX9_nextToTell_47 (by decide) ?_
            exact J51 v1 v2 1 h _ _ _ hP hD hS (lv_sub hl [0, 1, 2] rfl)
  unfold wX9_nextToTell at h
  refine lv_iconst (pc := 0) (v := (-1)) hx hb dX9_nextToTell_0 (by decide) ?_
  refine lv_istore_n (pc := 1) (lv' := [(1, .int (-1)), (0, .ref o)]) hx hb dX9_nextToTell_1 rfl hl (by decide) rfl (fun ls hl => ?_)
  refine lv_iconst (pc := 2) (v := 0) hx hb dX9_nextToTell_2 (by decide) ?_
  refine mSip (pc := 3) (x := x0) (g := g0) [.int 0] hF (kX9_placeOf x0 g0 0 h) (cwX9_X9_placeOf hts ⟨Nat.le_of_ble_eq_true rfl, Nat.le_of_ble_eq_true rfl⟩) hP hD hS rfl rfl hl.1 (Nat.le_of_ble_eq_true rfl) dX9_nextToTell_3 ⟨Nat.le_refl _, Nat.le_refl _⟩ (fun r_3 H locs h hP hD hS => ?_)
  refine lv_istore_n (pc := 6) (lv' := [(2, .int r_3), (1, .int (-1)), (0, .ref o)]) hx hb dX9_nextToTell_6 rfl hl (by decide) rfl (fun ls hl => ?_)
  obtain ⟨n7, h⟩ := h
  exact L7 n7 (-1) r_3 h _ _ _ hP hD hS (lv_sub hl [2, 1, 0] rfl)

def wX9_puts (x : Nat → Int32) (g : Nat → Nat → Int32) (a1 a2 a3 : Int32) (Φ : (Nat → Int32) → (Nat → Nat → Int32) → Prop) : Prop := (vp_in 6 7 ∧ (∀ v4_7 : Int32, v4_7 = ((g 27) (6 : Int32).toNatClampNeg) → (vp_in a1 8400 ∧ (vp_in v4_7 8000 ∧ (vp_in a1 8400 ∧ (vp_in v4_7 8000 ∧ (vp_in a1 8400 ∧ (vp_in v4_7 8000 ∧ (vp_in v4_7 8000 ∧ (vp_in v4_7 8000 ∧ (vp_in 6 7 ∧ (vp_in 6 7 ∧ (Φ x (va_up (va_up (va_up (va_up (va_up (va_up g 38 (upd (g 38) v4_7.toNatClampNeg ((g 29) a1.toNatClampNeg))) 39 (upd (g 39) v4_7.toNatClampNeg ((g 30) a1.toNatClampNeg))) 40 (upd (g 40) v4_7.toNatClampNeg ((g 31) a1.toNatClampNeg))) 41 (upd (g 41) v4_7.toNatClampNeg a2)) 42 (upd (g 42) v4_7.toNatClampNeg a3)) 27 (upd (g 27) (6 : Int32).toNatClampNeg (((g 27) (6 : Int32).toNatClampNeg) + 1))))))))))))))))
set_option maxRecDepth 100000 in
set_option maxHeartbeats 4000000 in
theorem kX9_puts {l : Launch} {D : va_G} {E : va_W} {o : Nat} {ad : Nat → Nat} {cI cZ : ClassId} {sz : Nat} (x0 : Nat → Int32) (g0 : Nat → Nat → Int32) (a1 a2 a3 : Int32) {Φ : (Nat → Int32) → (Nat → Nat → Int32) → Prop} (h : wX9_puts x0 g0 a1 a2 a3 Φ) : Met l yX9_puts (zws yX9_puts cX9_puts 5 none) { frames := 0, cells := 0, slots := 0, locals := 0 } (zPc D (mT cI cZ) zX0 (mW E o ad cI cZ (x0, g0)) [.ref o, .int a1, .int a2, .int a3] sz) (zQv D (mT cI cZ) (mW E o ad cI cZ) (fun u => Φ u.1 u.2) (mW E o ad cI cZ (x0, g0)) sz) 0 0 (va_A (mW E o ad cI cZ (x0, g0)) sz) := by
  refine zMet (by decide) (Nat.le_of_ble_eq_true rfl) ?_
  intro p e s m args below meth c A hx hb hr hml hown hts hlocks hsz hAe hA hS hP hK hD hX ls hl
  subst hsz
  have hF : zFx p s m args c cX9_puts RX9 A D (mT cI cZ) zX0 5 := ⟨hx, hb, hml, hown, hts, hA, hK, zX0_cl, hX⟩
  have hl : lv_has ls 5 [(0, .ref o), (1, .int a1), (2, .int a2), (3, .int a3)] := hl
  unfold wX9_puts at h
  refine lv_aload_n (pc := 0) hx hb dX9_puts_0 rfl (lv_at hl 0 rfl) ?_
  refine mG_27 (pc := 1) hF hP dX9_puts_1 ?_
  refine lv_bipush (pc := 4) (v := 6) hx hb dX9_puts_4 (by decide) ?_
  obtain ⟨hi_6, h⟩ := h
  refine mL_27 (pc := 6) hF hP (f := (g0 27)) rfl hi_6 dX9_puts_6 ?_
  refine lv_topi (fun v4_7 e_v4_7 => ?_)
  replace h := h v4_7 e_v4_7
  refine lv_istore (pc := 7) (lv' := [(4, .int v4_7), (0, .ref o), (1, .int a1), (2, .int a2), (3, .int a3)]) hx hb dX9_puts_7 hl (by decide) rfl (fun ls hl => ?_)
  refine lv_aload_n (pc := 9) hx hb dX9_puts_9 rfl (lv_at hl 1 rfl) ?_
  refine mG_38 (pc := 10) hF hP dX9_puts_10 ?_
  refine lv_iload (pc := 13) hx hb dX9_puts_13 (lv_at hl 0 rfl) ?_
  refine lv_aload_n (pc := 15) hx hb dX9_puts_15 rfl (lv_at hl 1 rfl) ?_
  refine mG_29 (pc := 16) hF hP dX9_puts_16 ?_
  refine lv_iload_n (pc := 19) hx hb dX9_puts_19 rfl (lv_at hl 2 rfl) ?_
  obtain ⟨hi_20, h⟩ := h
  refine mL_29 (pc := 20) hF hP (f := (g0 29)) rfl hi_20 dX9_puts_20 ?_
  obtain ⟨hi_21, h⟩ := h
  refine mP_38 (pc := 21) hF hP hD hS (f := (g0 38)) rfl hi_21 dX9_puts_21 (fun H locs hP hD hS => ?_)
  refine lv_aload_n (pc := 22) hx hb dX9_puts_22 rfl (lv_at hl 1 rfl) ?_
  refine mG_39 (pc := 23) hF hP dX9_puts_23 ?_
  refine lv_iload (pc := 26) hx hb dX9_puts_26 (lv_at hl 0 rfl) ?_
  refine lv_aload_n (pc := 28) hx hb dX9_puts_28 rfl (lv_at hl 1 rfl) ?_
  refine mG_30 (pc := 29) hF hP dX9_puts_29 ?_
  refine lv_iload_n (pc := 32) hx hb dX9_puts_32 rfl (lv_at hl 2 rfl) ?_
  obtain ⟨hi_33, h⟩ := h
  refine mL_30 (pc := 33) hF hP (f := (g0 30)) rfl hi_33 dX9_puts_33 ?_
  obtain ⟨hi_34, h⟩ := h
  refine mP_39 (pc := 34) hF hP hD hS (f := (g0 39)) rfl hi_34 dX9_puts_34 (fun H locs hP hD hS => ?_)
  refine lv_aload_n (pc := 35) hx hb dX9_puts_35 rfl (lv_at hl 1 rfl) ?_
  refine mG_40 (pc := 36) hF hP dX9_puts_36 ?_
  refine lv_iload (pc := 39) hx hb dX9_puts_39 (lv_at hl 0 rfl) ?_
  refine lv_aload_n (pc := 41) hx hb dX9_puts_41 rfl (lv_at hl 1 rfl) ?_
  refine mG_31 (pc := 42) hF hP dX9_puts_42 ?_
  refine lv_iload_n (pc := 45) hx hb dX9_puts_45 rfl (lv_at hl 2 rfl) ?_
  obtain ⟨hi_46, h⟩ := h
  refine mL_31 (pc := 46) hF hP (f := (g0 31)) rfl hi_46 dX9_puts_46 ?_
  obtain ⟨hi_47, h⟩ := h
  refine mP_40 (pc := 47) hF hP hD hS (f := (g0 40)) rfl hi_47 dX9_puts_47 (fun H locs hP hD hS => ?_)
  refine lv_aload_n (pc := 48) hx hb dX9_puts_48 rfl (lv_at hl 1 rfl) ?_
  refine mG_41 (pc := 49) hF hP dX9_puts_49 ?_
  refine lv_iload (pc := 52) hx hb dX9_puts_52 (lv_at hl 0 rfl) ?_
  refine lv_iload_n (pc := 54) hx hb dX9_puts_54 rfl (lv_at hl 3 rfl) ?_
  obtain ⟨hi_55, h⟩ := h
  refine mP_41 (pc := 55) hF hP hD hS (f := (g0 41)) rfl hi_55 dX9_puts_55 (fun H locs hP hD hS => ?_)
  refine lv_aload_n (pc := 56) hx hb dX9_puts_56 rfl (lv_at hl 1 rfl) ?_
  refine mG_42 (pc := 57) hF hP dX9_puts_57 ?_
  refine lv_iload (pc := 60) hx hb dX9_puts_60 (lv_at hl 0 rfl) ?_
  refine lv_iload_n (pc := 62) hx hb dX9_puts_62 rfl (lv_at hl 4 rfl) ?_
  obtain ⟨hi_63, h⟩ := h
  refine mP_42 (pc := 63) hF hP hD hS (f := (g0 42)) rfl hi_63 dX9_puts_63 (fun H locs hP hD hS => ?_)
  refine lv_aload_n (pc := 64) hx hb dX9_puts_64 rfl (lv_at hl 1 rfl) ?_
  refine mG_27 (pc := 65) hF hP dX9_puts_65 ?_
  refine lv_bipush (pc := 68) (v := 6) hx hb dX9_puts_68 (by decide) ?_
  refine lv_dup2_11 (pc := 70) hx hb dX9_puts_70 rfl rfl ?_
  obtain ⟨hi_71, h⟩ := h
  refine mL_27 (pc := 71) hF hP (f := (g0 27)) rfl hi_71 dX9_puts_71 ?_
  refine lv_iconst (pc := 72) (v := 1) hx hb dX9_puts_72 (by decide) ?_
  refine lv_iadd (pc := 73) hx hb dX9_puts_73 ?_
  obtain ⟨hi_74, h⟩ := h
  refine mP_27 (pc := 74) hF hP hD hS (f := (g0 27)) rfl hi_74 dX9_puts_74 (fun H locs hP hD hS => ?_)
  exact zvr (pc := 75) (Wd := mW E o ad cI cZ) (u := (x0, (va_up (va_up (va_up (va_up (va_up (va_up g0 38 (upd (g0 38) v4_7.toNatClampNeg ((g0 29) a1.toNatClampNeg))) 39 (upd (g0 39) v4_7.toNatClampNeg ((g0 30) a1.toNatClampNeg))) 40 (upd (g0 40) v4_7.toNatClampNeg ((g0 31) a1.toNatClampNeg))) 41 (upd (g0 41) v4_7.toNatClampNeg a2)) 42 (upd (g0 42) v4_7.toNatClampNeg a3)) 27 (upd (g0 27) (6 : Int32).toNatClampNeg (((g0 27) (6 : Int32).toNatClampNeg) + 1))))) hx hb hr hlocks hAe hK hP hD hS dX9_puts_75 (Nat.le_refl _) (Nat.le_refl _) h

def jX9_tells_96 (Φ : (Nat → Int32) → (Nat → Nat → Int32) → Prop) (x : Nat → Int32) (g : Nat → Nat → Int32) (v1 v2 : Int32) : Prop := (vp_in v1 8400 ∧ (vp_in v1 8400 ∧ (Φ x (va_up (va_up g 33 (upd (g 33) v1.toNatClampNeg (vp_nar .boolean 1))) 34 (upd (g 34) v1.toNatClampNeg v2)))))
def jX9_tells_89 (Φ : (Nat → Int32) → (Nat → Nat → Int32) → Prop) (x : Nat → Int32) (g : Nat → Nat → Int32) (v1 v2 : Int32) : Prop := (wX9_puts x g v1 v2 1 (fun x_93 g_93 => (jX9_tells_96 Φ x_93 g_93 v1 v2)))
def jX9_tells_60 (Φ : (Nat → Int32) → (Nat → Nat → Int32) → Prop) (x : Nat → Int32) (g : Nat → Nat → Int32) (v1 v2 s1 s2 s3 : Int32) : Prop := (wX9_puts x g s1 (s2 - s3) 1 (fun x_62 g_62 => (jX9_tells_96 Φ x_62 g_62 v1 v2)))
def wX9_tells (x : Nat → Int32) (g : Nat → Nat → Int32) (a1 : Int32) (Φ : (Nat → Int32) → (Nat → Nat → Int32) → Prop) : Prop := (vp_in a1 8400 ∧ (∀ v2_6 : Int32, v2_6 = ((g 32) a1.toNatClampNeg) → (vp_in 8 9 ∧ ((((g 6) (8 : Int32).toNatClampNeg) = 0 → (wX9_puts x g a1 v2_6 0 (fun x_21 g_21 => (jX9_tells_96 Φ x_21 g_21 a1 v2_6)))) ∧ (¬ ((g 6) (8 : Int32).toNatClampNeg) = 0 → (vp_in 8 9 ∧ ((((g 6) (8 : Int32).toNatClampNeg) = 1 → (vp_in a1 8400 ∧ ((((g 33) a1.toNatClampNeg) = 0 → (jX9_tells_60 Φ x g a1 v2_6 a1 v2_6 0)) ∧ (¬ ((g 33) a1.toNatClampNeg) = 0 → (vp_in a1 8400 ∧ (jX9_tells_60 Φ x g a1 v2_6 a1 v2_6 ((g 34) a1.toNatClampNeg))))))) ∧ (¬ ((g 6) (8 : Int32).toNatClampNeg) = 1 → (vp_in a1 8400 ∧ ((((g 33) a1.toNatClampNeg) = 0 → (jX9_tells_89 Φ x g a1 v2_6)) ∧ (¬ ((g 33) a1.toNatClampNeg) = 0 → (vp_in a1 8400 ∧ (wX9_puts x g a1 ((g 34) a1.toNatClampNeg) 2 (fun x_86 g_86 => (jX9_tells_89 Φ x_86 g_86 a1 v2_6)))))))))))))))
set_option maxRecDepth 100000 in
set_option maxHeartbeats 4000000 in
theorem kX9_tells {l : Launch} {D : va_G} {E : va_W} {o : Nat} {ad : Nat → Nat} {cI cZ : ClassId} {sz : Nat} (x0 : Nat → Int32) (g0 : Nat → Nat → Int32) (a1 : Int32) {Φ : (Nat → Int32) → (Nat → Nat → Int32) → Prop} (h : wX9_tells x0 g0 a1 Φ) : Met l yX9_tells (zws yX9_tells cX9_tells 3 none) { frames := 1, cells := 0, slots := 0, locals := 24 } (zPc D (mT cI cZ) zX0 (mW E o ad cI cZ (x0, g0)) [.ref o, .int a1] sz) (zQv D (mT cI cZ) (mW E o ad cI cZ) (fun u => Φ u.1 u.2) (mW E o ad cI cZ (x0, g0)) sz) 0 0 (va_A (mW E o ad cI cZ (x0, g0)) sz) := by
  refine zMet (by decide) (Nat.le_of_ble_eq_true rfl) ?_
  intro p e s m args below meth c A hx hb hr hml hown hts hlocks hsz hAe hA hS hP hK hD hX ls hl
  subst hsz
  have hF : zFx p s m args c cX9_tells RX9 A D (mT cI cZ) zX0 3 := ⟨hx, hb, hml, hown, hts, hA, hK, zX0_cl, hX⟩
  have hl : lv_has ls 3 [(0, .ref o), (1, .int a1)] := hl
  have J96 : ∀ (x : Nat → Int32) (g : Nat → Nat → Int32) (v1 v2 : Int32), jX9_tells_96 Φ x g v1 v2 → ∀ (H : Heap) (locs : List Loc) (ls : Array Slot), va_P D vwCl (mW E o ad cI cZ (x, g)) H → va_D A (mW E o ad cI cZ (x, g)) → va_S A s.heap H locs → lv_has ls 3 [(0, .ref o), (1, .int v1), (2, .int v2)] → W p l e { frames := 1, cells := 0, slots := 0, locals := 24 } s m args below meth c H locs 0 0 (MQ below (zQv D (mT cI cZ) (mW E o ad cI cZ) (fun u => Φ u.1 u.2) (mW E o ad cI cZ (x0, g0)) s.heap.size) args s 0 0 (va_A (mW E o ad cI cZ (x0, g0)) s.heap.size)) (F0 m 96 ls []) := by
    intro x g v1 v2 h H locs ls hP hD hS hl
    unfold jX9_tells_96 at h
    refine lv_aload_n (pc := 96) hx hb dX9_tells_96 rfl (lv_at hl 0 rfl) ?_
    refine mG_33 (pc := 97) hF hP dX9_tells_97 ?_
    refine lv_iload_n (pc := 100) hx hb dX9_tells_100 rfl (lv_at hl 1 rfl) ?_
    refine lv_iconst (pc := 101) (v := 1) hx hb dX9_tells_101 (by decide) ?_
    obtain ⟨hi_102, h⟩ := h
    refine mP_33 (pc := 102) hF hP hD hS (f := (g 33)) rfl hi_102 dX9_tells_102 (fun H locs hP hD hS => ?_)
    refine lv_aload_n (pc := 103) hx hb dX9_tells_103 rfl (lv_at hl 0 rfl) ?_
    refine mG_34 (pc := 104) hF hP dX9_tells_104 ?_
    refine lv_iload_n (pc := 107) hx hb dX9_tells_107 rfl (lv_at hl 1 rfl) ?_
    refine lv_iload_n (pc := 108) hx hb dX9_tells_108 rfl (lv_at hl 2 rfl) ?_
    obtain ⟨hi_109, h⟩ := h
    refine mP_34 (pc := 109) hF hP hD hS (f := (g 34)) rfl hi_109 dX9_tells_109 (fun H locs hP hD hS => ?_)
    exact zvr (pc := 110) (Wd := mW E o ad cI cZ) (u := (x, (va_up (va_up g 33 (upd (g 33) v1.toNatClampNeg (vp_nar .boolean 1))) 34 (upd (g 34) v1.toNatClampNeg v2)))) hx hb hr hlocks hAe hK hP hD hS dX9_tells_110 (Nat.le_refl _) (Nat.le_refl _) h
  have J89 : ∀ (x : Nat → Int32) (g : Nat → Nat → Int32) (v1 v2 : Int32), jX9_tells_89 Φ x g v1 v2 → ∀ (H : Heap) (locs : List Loc) (ls : Array Slot), va_P D vwCl (mW E o ad cI cZ (x, g)) H → va_D A (mW E o ad cI cZ (x, g)) → va_S A s.heap H locs → lv_has ls 3 [(0, .ref o), (1, .int v1), (2, .int v2)] → W p l e { frames := 1, cells := 0, slots := 0, locals := 24 } s m args below meth c H locs 0 0 (MQ below (zQv D (mT cI cZ) (mW E o ad cI cZ) (fun u => Φ u.1 u.2) (mW E o ad cI cZ (x0, g0)) s.heap.size) args s 0 0 (va_A (mW E o ad cI cZ (x0, g0)) s.heap.size)) (F0 m 89 ls []) := by
    intro x g v1 v2 h H locs ls hP hD hS hl
    unfold jX9_tells_89 at h
    refine lv_aload_n (pc := 89) hx hb dX9_tells_89 rfl (lv_at hl 0 rfl) ?_
    refine lv_iload_n (pc := 90) hx hb dX9_tells_90 rfl (lv_at hl 1 rfl) ?_
    refine lv_iload_n (pc := 91) hx hb dX9_tells_91 rfl (lv_at hl 2 rfl) ?_
    refine lv_iconst (pc := 92) (v := 1) hx hb dX9_tells_92 (by decide) ?_
    refine mVv (pc := 93) (x := x) (g := g) [.int v1, .int v2, .int 1] hF (kX9_puts x g v1 v2 1 h) (cwX9_X9_puts hts ⟨Nat.le_of_ble_eq_true rfl, Nat.le_of_ble_eq_true rfl⟩) hP hD hS rfl rfl hl.1 (Nat.le_of_ble_eq_true rfl) dX9_tells_93 ⟨Nat.le_refl _, Nat.le_refl _⟩ (fun x_93 g_93 H locs h hP hD hS => ?_)
    exact J96 x_93 g_93 v1 v2 h _ _ _ hP hD hS (lv_sub hl [0, 1, 2] rfl)
  have J60 : ∀ (x : Nat → Int32) (g : Nat → Nat → Int32) (v1 v2 s1 s2 s3 : Int32), jX9_tells_60 Φ x g v1 v2 s1 s2 s3 → ∀ (H : Heap) (locs : List Loc) (ls : Array Slot), va_P D vwCl (mW E o ad cI cZ (x, g)) H → va_D A (mW E o ad cI cZ (x, g)) → va_S A s.heap H locs → lv_has ls 3 [(0, .ref o), (1, .int v1), (2, .int v2)] → W p l e { frames := 1, cells := 0, slots := 0, locals := 24 } s m args below meth c H locs 0 0 (MQ below (zQv D (mT cI cZ) (mW E o ad cI cZ) (fun u => Φ u.1 u.2) (mW E o ad cI cZ (x0, g0)) s.heap.size) args s 0 0 (va_A (mW E o ad cI cZ (x0, g0)) s.heap.size)) (F0 m 60 ls [.int s3, .int s2, .int s1, .ref o]) := by
    intro x g v1 v2 s1 s2 s3 h H locs ls hP hD hS hl
    unfold jX9_tells_60 at h
    refine lv_isub (pc := 60) hx hb dX9_tells_60 ?_
    refine lv_iconst (pc := 61) (v := 1) hx hb dX9_tells_61 (by decide) ?_
    refine mVv (pc := 62) (x := x) (g := g) [.int s1, .int (s2 - s3), .int 1] hF (kX9_puts x g s1 (s2 - s3) 1 h) (cwX9_X9_puts hts ⟨Nat.le_of_ble_eq_true rfl, Nat.le_of_ble_eq_true rfl⟩) hP hD hS rfl rfl hl.1 (Nat.le_of_ble_eq_true rfl) dX9_tells_62 ⟨Nat.le_refl _, Nat.le_refl _⟩ (fun x_62 g_62 H locs h hP hD hS => ?_)
    refine lv_goto (pc := 65) (tgt := 96) hx hb dX9_tells_65 (by decide) ?_
    exact J96 x_62 g_62 v1 v2 h _ _ _ hP hD hS (lv_sub hl [0, 1, 2] rfl)
  unfold wX9_tells at h
  refine lv_aload_n (pc := 0) hx hb dX9_tells_0 rfl (lv_at hl 0 rfl) ?_
  refine mG_32 (pc := 1) hF hP dX9_tells_1 ?_
  refine lv_iload_n (pc := 4) hx hb dX9_tells_4 rfl (lv_at hl 1 rfl) ?_
  obtain ⟨hi_5, h⟩ := h
  refine mL_32 (pc := 5) hF hP (f := (g0 32)) rfl hi_5 dX9_tells_5 ?_
  refine lv_topi (fun v2_6 e_v2_6 => ?_)
  replace h := h v2_6 e_v2_6
  refine lv_istore_n (pc := 6) (lv' := [(2, .int v2_6), (0, .ref o), (1, .int a1)]) hx hb dX9_tells_6 rfl hl (by decide) rfl (fun ls hl => ?_)
  refine lv_aload_n (pc := 7) hx hb dX9_tells_7 rfl (lv_at hl 1 rfl) ?_
  refine mG_6 (pc := 8) hF hP dX9_tells_8 ?_
  refine lv_bipush (pc := 11) (v := 8) hx hb dX9_tells_11 (by decide) ?_
  obtain ⟨hi_13, h⟩ := h
  refine mL_6 (pc := 13) hF hP (f := (g0 6)) rfl hi_13 dX9_tells_13 ?_
  refine lv_if_ne (pc := 14) (tgt := 27) hx hb dX9_tells_14 (by decide) (fun c_14 => ?_) (fun c_14 => ?_)
  · have h := h.2 c_14
    refine lv_aload_n (pc := 27) hx hb dX9_tells_27 rfl (lv_at hl 1 rfl) ?_
    refine mG_6 (pc := 28) hF hP dX9_tells_28 ?_
    refine lv_bipush (pc := 31) (v := 8) hx hb dX9_tells_31 (by decide) ?_
    obtain ⟨hi_33, h⟩ := h
    refine mL_6 (pc := 33) hF hP (f := (g0 6)) rfl hi_33 dX9_tells_33 ?_
    refine lv_iconst (pc := 34) (v := 1) hx hb dX9_tells_34 (by decide) ?_
    refine lv_icmp_ne (pc := 35) (tgt := 68) hx hb dX9_tells_35 (by decide) (fun c_35 => ?_) (fun c_35 => ?_)
    · have h := h.2 c_35
      refine lv_aload_n (pc := 68) hx hb dX9_tells_68 rfl (lv_at hl 1 rfl) ?_
      refine mG_33 (pc := 69) hF hP dX9_tells_69 ?_
      refine lv_iload_n (pc := 72) hx hb dX9_tells_72 rfl (lv_at hl 2 rfl) ?_
      obtain ⟨hi_73, h⟩ := h
      refine mL_33 (pc := 73) hF hP (f := (g0 33)) rfl hi_73 dX9_tells_73 ?_
      refine lv_if_eq (pc := 74) (tgt := 89) hx hb dX9_tells_74 (by decide) (fun c_74 => ?_) (fun c_74 => ?_)
      · have h := h.1 c_74
        exact J89 x0 g0 a1 v2_6 h _ _ _ hP hD hS (lv_sub hl [1, 2, 0] rfl)
      · have h := h.2 c_74
        refine lv_aload_n (pc := 77) hx hb dX9_tells_77 rfl (lv_at hl 1 rfl) ?_
        refine lv_iload_n (pc := 78) hx hb dX9_tells_78 rfl (lv_at hl 2 rfl) ?_
        refine lv_aload_n (pc := 79) hx hb dX9_tells_79 rfl (lv_at hl 1 rfl) ?_
        refine mG_34 (pc := 80) hF hP dX9_tells_80 ?_
        refine lv_iload_n (pc := 83) hx hb dX9_tells_83 rfl (lv_at hl 2 rfl) ?_
        obtain ⟨hi_84, h⟩ := h
        refine mL_34 (pc := 84) hF hP (f := (g0 34)) rfl hi_84 dX9_tells_84 ?_
        refine lv_iconst (pc := 85) (v := 2) hx hb dX9_tells_85 (by decide) ?_
        refine mVv (pc := 86) (x := x0) (g := g0) [.int a1, .int ((g0 34) a1.toNatClampNeg), .int 2] hF (kX9_puts x0 g0 a1 ((g0 34) a1.toNatClampNeg) 2 h) (cwX9_X9_puts hts ⟨Nat.le_of_ble_eq_true rfl, Nat.le_of_ble_eq_true rfl⟩) hP hD hS rfl rfl hl.1 (Nat.le_of_ble_eq_true rfl) dX9_tells_86 ⟨Nat.le_refl _, Nat.le_refl _⟩ (fun x_86 g_86 H locs h hP hD hS => ?_)
        exact J89 x_86 g_86 a1 v2_6 h _ _ _ hP hD hS (lv_sub hl [1, 2, 0] rfl)
    · have h := h.1 c_35
      refine lv_aload_n (pc := 38) hx hb dX9_tells_38 rfl (lv_at hl 1 rfl) ?_
      refine lv_iload_n (pc := 39) hx hb dX9_tells_39 rfl (lv_at hl 2 rfl) ?_
      refine lv_iload_n (pc := 40) hx hb dX9_tells_40 rfl (lv_at hl 0 rfl) ?_
      refine lv_aload_n (pc := 41) hx hb dX9_tells_41 rfl (lv_at hl 1 rfl) ?_
      refine mG_33 (pc := 42) hF hP dX9_tells_42 ?_
      refine lv_iload_n (pc := 45) hx hb dX9_tells_45 rfl (lv_at hl 2 rfl) ?_
      obtain ⟨hi_46, h⟩ := h
      refine mL_33 (pc := 46) hF hP (f := (g0 33)) rfl hi_46 dX9_tells_46 ?_
      refine lv_if_eq (pc := 47) (tgt := 59) hx hb dX9_tells_47 (by decide) (fun c_47 => ?_) (fun c_47 => ?_)
      · have h := h.1 c_47
        refine lv_iconst (pc := 59) (v := 0) hx hb dX9_tells_59 (by decide) ?_
        exact J60 x0 g0 a1 v2_6 a1 v2_6 0 h _ _ _ hP hD hS (lv_sub hl [1, 2, 0] rfl)
      · have h := h.2 c_47
        refine lv_aload_n (pc := 50) hx hb dX9_tells_50 rfl (lv_at hl 1 rfl) ?_
        refine mG_34 (pc := 51) hF hP dX9_tells_51 ?_
        refine lv_iload_n (pc := 54) hx hb dX9_tells_54 rfl (lv_at hl 2 rfl) ?_
        obtain ⟨hi_55, h⟩ := h
        refine mL_34 (pc := 55) hF hP (f := (g0 34)) rfl hi_55 dX9_tells_55 ?_
        refine lv_goto (pc := 56) (tgt := 60) hx hb dX9_tells_56 (by decide) ?_
        exact J60 x0 g0 a1 v2_6 a1 v2_6 ((g0 34) a1.toNatClampNeg) h _ _ _ hP hD hS (lv_sub hl [1, 2, 0] rfl)
  · have h := h.1 c_14
    refine lv_aload_n (pc := 17) hx hb dX9_tells_17 rfl (lv_at hl 1 rfl) ?_
    refine lv_iload_n (pc := 18) hx hb dX9_tells_18 rfl (lv_at hl 2 rfl) ?_
    refine lv_iload_n (pc := 19) hx hb dX9_tells_19 rfl (lv_at hl 0 rfl) ?_
    refine lv_iconst (pc := 20) (v := 0) hx hb dX9_tells_20 (by decide) ?_
    refine mVv (pc := 21) (x := x0) (g := g0) [.int a1, .int v2_6, .int 0] hF (kX9_puts x0 g0 a1 v2_6 0 h) (cwX9_X9_puts hts ⟨Nat.le_of_ble_eq_true rfl, Nat.le_of_ble_eq_true rfl⟩) hP hD hS rfl rfl hl.1 (Nat.le_of_ble_eq_true rfl) dX9_tells_21 ⟨Nat.le_refl _, Nat.le_refl _⟩ (fun x_21 g_21 H locs h hP hD hS => ?_)
    refine lv_goto (pc := 24) (tgt := 96) hx hb dX9_tells_24 (by decide) ?_
    exact J96 x_21 g_21 a1 v2_6 h _ _ _ hP hD hS (lv_sub hl [1, 2, 0] rfl)

def wX9_isOver (x : Nat → Int32) (g : Nat → Nat → Int32) (a1 : Int32) (Φ : Int32 → Prop) : Prop := (vp_in 7 9 ∧ (vp_in 6 7 ∧ ((((g 25) (6 : Int32).toNatClampNeg) < (a1 + ((g 6) (7 : Int32).toNatClampNeg)) → (Φ 0)) ∧ (¬ ((g 25) (6 : Int32).toNatClampNeg) < (a1 + ((g 6) (7 : Int32).toNatClampNeg)) → (Φ 1)))))
set_option maxRecDepth 100000 in
set_option maxHeartbeats 4000000 in
theorem kX9_isOver {l : Launch} {D : va_G} {E : va_W} {o : Nat} {ad : Nat → Nat} {cI cZ : ClassId} {sz : Nat} (x0 : Nat → Int32) (g0 : Nat → Nat → Int32) (a1 : Int32) {Φ : Int32 → Prop} (h : wX9_isOver x0 g0 a1 Φ) : Met l yX9_isOver (zws yX9_isOver cX9_isOver 2 (some .boolean)) { frames := 0, cells := 0, slots := 0, locals := 0 } (zPc D (mT cI cZ) zX0 (mW E o ad cI cZ (x0, g0)) [.ref o, .int a1] sz) (zQi D (mT cI cZ) (mW E o ad cI cZ) (fun r u => u = (x0, g0) ∧ (r = 0 ∨ r = 1) ∧ Φ r) (mW E o ad cI cZ (x0, g0)) sz) 0 0 (va_A (mW E o ad cI cZ (x0, g0)) sz) := by
  refine zMet (by decide) (Nat.le_of_ble_eq_true rfl) ?_
  intro p e s m args below meth c A hx hb hr hml hown hts hlocks hsz hAe hA hS hP hK hD hX ls hl
  subst hsz
  have hF : zFx p s m args c cX9_isOver RX9 A D (mT cI cZ) zX0 2 := ⟨hx, hb, hml, hown, hts, hA, hK, zX0_cl, hX⟩
  have hl : lv_has ls 2 [(0, .ref o), (1, .int a1)] := hl
  unfold wX9_isOver at h
  refine lv_iload_n (pc := 0) hx hb dX9_isOver_0 rfl (lv_at hl 1 rfl) ?_
  refine lv_aload_n (pc := 1) hx hb dX9_isOver_1 rfl (lv_at hl 0 rfl) ?_
  refine mG_6 (pc := 2) hF hP dX9_isOver_2 ?_
  refine lv_bipush (pc := 5) (v := 7) hx hb dX9_isOver_5 (by decide) ?_
  obtain ⟨hi_7, h⟩ := h
  refine mL_6 (pc := 7) hF hP (f := (g0 6)) rfl hi_7 dX9_isOver_7 ?_
  refine lv_iadd (pc := 8) hx hb dX9_isOver_8 ?_
  refine lv_aload_n (pc := 9) hx hb dX9_isOver_9 rfl (lv_at hl 0 rfl) ?_
  refine mG_25 (pc := 10) hF hP dX9_isOver_10 ?_
  refine lv_bipush (pc := 13) (v := 6) hx hb dX9_isOver_13 (by decide) ?_
  obtain ⟨hi_15, h⟩ := h
  refine mL_25 (pc := 15) hF hP (f := (g0 25)) rfl hi_15 dX9_isOver_15 ?_
  refine lv_icmp_gt (pc := 16) (tgt := 23) hx hb dX9_isOver_16 (by decide) (fun c_16 => ?_) (fun c_16 => ?_)
  · have h := h.1 c_16
    refine lv_iconst (pc := 23) (v := 0) hx hb dX9_isOver_23 (by decide) ?_
    exact zirV (pc := 24) (Wd := mW E o ad cI cZ) (u := (x0, g0)) hx hb hr hlocks hAe hK hP hD hS rfl dX9_isOver_24 (Nat.le_refl _) (Nat.le_refl _) ⟨rfl, (Or.inl rfl), h⟩
  · have h := h.2 c_16
    refine lv_iconst (pc := 19) (v := 1) hx hb dX9_isOver_19 (by decide) ?_
    refine lv_goto (pc := 20) (tgt := 24) hx hb dX9_isOver_20 (by decide) ?_
    exact zirV (pc := 24) (Wd := mW E o ad cI cZ) (u := (x0, g0)) hx hb hr hlocks hAe hK hP hD hS rfl dX9_isOver_24 (Nat.le_refl _) (Nat.le_refl _) ⟨rfl, (Or.inr rfl), h⟩

def wX9_copiesWindow (x : Nat → Int32) (g : Nat → Nat → Int32) (a1 a2 : Int32) (Φ : (Nat → Int32) → (Nat → Nat → Int32) → Prop) : Prop := (vp_in a1 8400 ∧ (vp_in a2 8400 ∧ (vp_in a1 8400 ∧ (vp_in a2 8400 ∧ (vp_in a1 8400 ∧ (vp_in a2 8400 ∧ (vp_in a1 8400 ∧ (vp_in a2 8400 ∧ (vp_in a1 8400 ∧ (vp_in a2 8400 ∧ (vp_in a1 8400 ∧ (vp_in a2 8400 ∧ (Φ x (va_up (va_up (va_up (va_up (va_up (va_up g 29 (upd (g 29) a2.toNatClampNeg ((g 29) a1.toNatClampNeg))) 30 (upd (g 30) a2.toNatClampNeg ((g 30) a1.toNatClampNeg))) 31 (upd (g 31) a2.toNatClampNeg ((g 31) a1.toNatClampNeg))) 32 (upd (g 32) a2.toNatClampNeg ((g 32) a1.toNatClampNeg))) 33 (upd (g 33) a2.toNatClampNeg (vp_nar .boolean ((g 33) a1.toNatClampNeg)))) 34 (upd (g 34) a2.toNatClampNeg ((g 34) a1.toNatClampNeg))))))))))))))))
set_option maxRecDepth 100000 in
set_option maxHeartbeats 4000000 in
theorem kX9_copiesWindow {l : Launch} {D : va_G} {E : va_W} {o : Nat} {ad : Nat → Nat} {cI cZ : ClassId} {sz : Nat} (x0 : Nat → Int32) (g0 : Nat → Nat → Int32) (a1 a2 : Int32) {Φ : (Nat → Int32) → (Nat → Nat → Int32) → Prop} (h : wX9_copiesWindow x0 g0 a1 a2 Φ) : Met l yX9_copiesWindow (zws yX9_copiesWindow cX9_copiesWindow 3 none) { frames := 0, cells := 0, slots := 0, locals := 0 } (zPc D (mT cI cZ) zX0 (mW E o ad cI cZ (x0, g0)) [.ref o, .int a1, .int a2] sz) (zQv D (mT cI cZ) (mW E o ad cI cZ) (fun u => Φ u.1 u.2) (mW E o ad cI cZ (x0, g0)) sz) 0 0 (va_A (mW E o ad cI cZ (x0, g0)) sz) := by
  refine zMet (by decide) (Nat.le_of_ble_eq_true rfl) ?_
  intro p e s m args below meth c A hx hb hr hml hown hts hlocks hsz hAe hA hS hP hK hD hX ls hl
  subst hsz
  have hF : zFx p s m args c cX9_copiesWindow RX9 A D (mT cI cZ) zX0 3 := ⟨hx, hb, hml, hown, hts, hA, hK, zX0_cl, hX⟩
  have hl : lv_has ls 3 [(0, .ref o), (1, .int a1), (2, .int a2)] := hl
  unfold wX9_copiesWindow at h
  refine lv_aload_n (pc := 0) hx hb dX9_copiesWindow_0 rfl (lv_at hl 0 rfl) ?_
  refine mG_29 (pc := 1) hF hP dX9_copiesWindow_1 ?_
  refine lv_iload_n (pc := 4) hx hb dX9_copiesWindow_4 rfl (lv_at hl 2 rfl) ?_
  refine lv_aload_n (pc := 5) hx hb dX9_copiesWindow_5 rfl (lv_at hl 0 rfl) ?_
  refine mG_29 (pc := 6) hF hP dX9_copiesWindow_6 ?_
  refine lv_iload_n (pc := 9) hx hb dX9_copiesWindow_9 rfl (lv_at hl 1 rfl) ?_
  obtain ⟨hi_10, h⟩ := h
  refine mL_29 (pc := 10) hF hP (f := (g0 29)) rfl hi_10 dX9_copiesWindow_10 ?_
  obtain ⟨hi_11, h⟩ := h
  refine mP_29 (pc := 11) hF hP hD hS (f := (g0 29)) rfl hi_11 dX9_copiesWindow_11 (fun H locs hP hD hS => ?_)
  refine lv_aload_n (pc := 12) hx hb dX9_copiesWindow_12 rfl (lv_at hl 0 rfl) ?_
  refine mG_30 (pc := 13) hF hP dX9_copiesWindow_13 ?_
  refine lv_iload_n (pc := 16) hx hb dX9_copiesWindow_16 rfl (lv_at hl 2 rfl) ?_
  refine lv_aload_n (pc := 17) hx hb dX9_copiesWindow_17 rfl (lv_at hl 0 rfl) ?_
  refine mG_30 (pc := 18) hF hP dX9_copiesWindow_18 ?_
  refine lv_iload_n (pc := 21) hx hb dX9_copiesWindow_21 rfl (lv_at hl 1 rfl) ?_
  obtain ⟨hi_22, h⟩ := h
  refine mL_30 (pc := 22) hF hP (f := (g0 30)) rfl hi_22 dX9_copiesWindow_22 ?_
  obtain ⟨hi_23, h⟩ := h
  refine mP_30 (pc := 23) hF hP hD hS (f := (g0 30)) rfl hi_23 dX9_copiesWindow_23 (fun H locs hP hD hS => ?_)
  refine lv_aload_n (pc := 24) hx hb dX9_copiesWindow_24 rfl (lv_at hl 0 rfl) ?_
  refine mG_31 (pc := 25) hF hP dX9_copiesWindow_25 ?_
  refine lv_iload_n (pc := 28) hx hb dX9_copiesWindow_28 rfl (lv_at hl 2 rfl) ?_
  refine lv_aload_n (pc := 29) hx hb dX9_copiesWindow_29 rfl (lv_at hl 0 rfl) ?_
  refine mG_31 (pc := 30) hF hP dX9_copiesWindow_30 ?_
  refine lv_iload_n (pc := 33) hx hb dX9_copiesWindow_33 rfl (lv_at hl 1 rfl) ?_
  obtain ⟨hi_34, h⟩ := h
  refine mL_31 (pc := 34) hF hP (f := (g0 31)) rfl hi_34 dX9_copiesWindow_34 ?_
  obtain ⟨hi_35, h⟩ := h
  refine mP_31 (pc := 35) hF hP hD hS (f := (g0 31)) rfl hi_35 dX9_copiesWindow_35 (fun H locs hP hD hS => ?_)
  refine lv_aload_n (pc := 36) hx hb dX9_copiesWindow_36 rfl (lv_at hl 0 rfl) ?_
  refine mG_32 (pc := 37) hF hP dX9_copiesWindow_37 ?_
  refine lv_iload_n (pc := 40) hx hb dX9_copiesWindow_40 rfl (lv_at hl 2 rfl) ?_
  refine lv_aload_n (pc := 41) hx hb dX9_copiesWindow_41 rfl (lv_at hl 0 rfl) ?_
  refine mG_32 (pc := 42) hF hP dX9_copiesWindow_42 ?_
  refine lv_iload_n (pc := 45) hx hb dX9_copiesWindow_45 rfl (lv_at hl 1 rfl) ?_
  obtain ⟨hi_46, h⟩ := h
  refine mL_32 (pc := 46) hF hP (f := (g0 32)) rfl hi_46 dX9_copiesWindow_46 ?_
  obtain ⟨hi_47, h⟩ := h
  refine mP_32 (pc := 47) hF hP hD hS (f := (g0 32)) rfl hi_47 dX9_copiesWindow_47 (fun H locs hP hD hS => ?_)
  refine lv_aload_n (pc := 48) hx hb dX9_copiesWindow_48 rfl (lv_at hl 0 rfl) ?_
  refine mG_33 (pc := 49) hF hP dX9_copiesWindow_49 ?_
  refine lv_iload_n (pc := 52) hx hb dX9_copiesWindow_52 rfl (lv_at hl 2 rfl) ?_
  refine lv_aload_n (pc := 53) hx hb dX9_copiesWindow_53 rfl (lv_at hl 0 rfl) ?_
  refine mG_33 (pc := 54) hF hP dX9_copiesWindow_54 ?_
  refine lv_iload_n (pc := 57) hx hb dX9_copiesWindow_57 rfl (lv_at hl 1 rfl) ?_
  obtain ⟨hi_58, h⟩ := h
  refine mL_33 (pc := 58) hF hP (f := (g0 33)) rfl hi_58 dX9_copiesWindow_58 ?_
  obtain ⟨hi_59, h⟩ := h
  refine mP_33 (pc := 59) hF hP hD hS (f := (g0 33)) rfl hi_59 dX9_copiesWindow_59 (fun H locs hP hD hS => ?_)
  refine lv_aload_n (pc := 60) hx hb dX9_copiesWindow_60 rfl (lv_at hl 0 rfl) ?_
  refine mG_34 (pc := 61) hF hP dX9_copiesWindow_61 ?_
  refine lv_iload_n (pc := 64) hx hb dX9_copiesWindow_64 rfl (lv_at hl 2 rfl) ?_
  refine lv_aload_n (pc := 65) hx hb dX9_copiesWindow_65 rfl (lv_at hl 0 rfl) ?_
  refine mG_34 (pc := 66) hF hP dX9_copiesWindow_66 ?_
  refine lv_iload_n (pc := 69) hx hb dX9_copiesWindow_69 rfl (lv_at hl 1 rfl) ?_
  obtain ⟨hi_70, h⟩ := h
  refine mL_34 (pc := 70) hF hP (f := (g0 34)) rfl hi_70 dX9_copiesWindow_70 ?_
  obtain ⟨hi_71, h⟩ := h
  refine mP_34 (pc := 71) hF hP hD hS (f := (g0 34)) rfl hi_71 dX9_copiesWindow_71 (fun H locs hP hD hS => ?_)
  exact zvr (pc := 72) (Wd := mW E o ad cI cZ) (u := (x0, (va_up (va_up (va_up (va_up (va_up (va_up g0 29 (upd (g0 29) a2.toNatClampNeg ((g0 29) a1.toNatClampNeg))) 30 (upd (g0 30) a2.toNatClampNeg ((g0 30) a1.toNatClampNeg))) 31 (upd (g0 31) a2.toNatClampNeg ((g0 31) a1.toNatClampNeg))) 32 (upd (g0 32) a2.toNatClampNeg ((g0 32) a1.toNatClampNeg))) 33 (upd (g0 33) a2.toNatClampNeg (vp_nar .boolean ((g0 33) a1.toNatClampNeg)))) 34 (upd (g0 34) a2.toNatClampNeg ((g0 34) a1.toNatClampNeg))))) hx hb hr hlocks hAe hK hP hD hS dX9_copiesWindow_72 (Nat.le_refl _) (Nat.le_refl _) h
