def jL_areTotals_138 (W24 : (Nat → Nat → Int32) → (Nat → Nat → Nat) → (Nat → Nat → Nat → Int32) → (Nat → Int32) → (Nat → Int32) → Int32 → Int32 → Int32 → Int32 → Nat → Nat → Prop) (Φ : Int32 → (Nat → Nat → Int32) → (Nat → Nat → Nat) → (Nat → Nat → Nat → Int32) → (Nat → Int32) → (Nat → Int32) → Prop) (x : Nat → Nat → Int32) (y : Nat → Nat → Nat) (g : Nat → Nat → Nat → Int32) (qf cf : Nat → Int32) (v3 : Int32) (v5 : Int32) (v6 : Int32) (v7 : Int32) (bc bs : Nat) : Prop := (∃ kc_144 ks_144 bc_144 bs_144 : Nat, kc_144 + bc_144 ≤ bc ∧ ks_144 + bs_144 ≤ bs ∧ (wL_asks x y g qf cf 6 v7 (-1) kc_144 ks_144 (fun r_144 x_144 y_144 g_144 qf_144 cf_144 => ((r_144 = 0 → (∀ v6_157 : Int32, v6_157 = v6 + 1 → (W24 x_144 y_144 g_144 qf_144 cf_144 v3 1 v5 v6_157 bc_144 bs_144))) ∧ (¬ r_144 = 0 → (∀ v6_157 : Int32, v6_157 = v6 + 1 → (W24 x_144 y_144 g_144 qf_144 cf_144 v3 0 v5 v6_157 bc_144 bs_144)))))))
def jL_areTotals_89 (W24 : (Nat → Nat → Int32) → (Nat → Nat → Nat) → (Nat → Nat → Nat → Int32) → (Nat → Int32) → (Nat → Int32) → Int32 → Int32 → Int32 → Int32 → Nat → Nat → Prop) (Φ : Int32 → (Nat → Nat → Int32) → (Nat → Nat → Nat) → (Nat → Nat → Nat → Int32) → (Nat → Int32) → (Nat → Int32) → Prop) (x : Nat → Nat → Int32) (y : Nat → Nat → Nat) (g : Nat → Nat → Nat → Int32) (qf cf : Nat → Int32) (v3 : Int32) (v5 : Int32) (v6 : Int32) (v9 : Int32) (bc bs : Nat) : Prop := ((v9 = (-70008) → (∀ v6_157 : Int32, v6_157 = v6 + 1 → (W24 x y g qf cf v3 1 v5 v6_157 bc bs))) ∧ (¬ v9 = (-70008) → (∀ v6_157 : Int32, v6_157 = v6 + 1 → (W24 x y g qf cf v3 0 v5 v6_157 bc bs))))
def lL_areTotals_24 (Φ : Int32 → (Nat → Nat → Int32) → (Nat → Nat → Nat) → (Nat → Nat → Nat → Int32) → (Nat → Int32) → (Nat → Int32) → Prop) : Nat → (Nat → Nat → Int32) → (Nat → Nat → Nat) → (Nat → Nat → Nat → Int32) → (Nat → Int32) → (Nat → Int32) → Int32 → Int32 → Int32 → Int32 → Nat → Nat → Prop
  | 0, _, _, _, _, _, _, _, _, _, _, _ => False
  | n24 + 1, x, y, g, qf, cf, v3, v4, v5, v6, bc, bs => ((8 ≤ v6 → ((v4 = 0 ∨ v4 = 1) ∧ (Φ v4 x y g qf cf))) ∧ (¬ 8 ≤ v6 → ((v4 = 0 → ((v4 = 0 ∨ v4 = 1) ∧ (Φ v4 x y g qf cf))) ∧ (¬ v4 = 0 → (∀ v7_43 : Int32, v7_43 = ((v3 + v6) - (v3 + v6) / 8 * 8) → (∀ v8_61 : Int32, v8_61 = ((((v3 / 8) - (v3 / 8) / 8 * 8) * v5) + (v6 * v5)) → (∃ kc_70 ks_70 bc_70 bs_70 : Nat, kc_70 + bc_70 ≤ bc ∧ ks_70 + bs_70 ≤ bs ∧ (wL_asks x y g qf cf 6 v7_43 v8_61 kc_70 ks_70 (fun r_70 x_70 y_70 g_70 qf_70 cf_70 => (((qf_70 1) = 2 → (jL_areTotals_89 (lL_areTotals_24 Φ n24) Φ x_70 y_70 g_70 qf_70 cf_70 v3 v5 v6 r_70 bc_70 bs_70)) ∧ (¬ (qf_70 1) = 2 → (((cf_70 6) = 0 → (jL_areTotals_89 (lL_areTotals_24 Φ n24) Φ x_70 y_70 g_70 qf_70 cf_70 v3 v5 v6 r_70 bc_70 bs_70)) ∧ (¬ (cf_70 6) = 0 → (∃ kc_111 ks_111 bc_111 bs_111 : Nat, kc_111 + bc_111 ≤ bc_70 ∧ ks_111 + bs_111 ≤ bs_70 ∧ (wX8_total x_70 y_70 g_70 v7_43 v8_61 kc_111 ks_111 (fun r_111 => ((r_70 = r_111 → ((v5 = 1 → (jL_areTotals_138 (lL_areTotals_24 Φ n24) Φ x_70 y_70 g_70 qf_70 cf_70 v3 v5 v6 v7_43 bc_111 bs_111)) ∧ (¬ v5 = 1 → (∃ kc_132 ks_132 bc_132 bs_132 : Nat, kc_132 + bc_132 ≤ bc_111 ∧ ks_132 + bs_132 ≤ bs_111 ∧ (wL_asks x_70 y_70 g_70 qf_70 cf_70 6 v7_43 (v8_61 + 1) kc_132 ks_132 (fun r_132 x_132 y_132 g_132 qf_132 cf_132 => ((r_132 = 0 → (jL_areTotals_138 (lL_areTotals_24 Φ n24) Φ x_132 y_132 g_132 qf_132 cf_132 v3 v5 v6 v7_43 bc_132 bs_132)) ∧ (¬ r_132 = 0 → (∀ v6_157 : Int32, v6_157 = v6 + 1 → ((lL_areTotals_24 Φ n24) x_132 y_132 g_132 qf_132 cf_132 v3 0 v5 v6_157 bc_132 bs_132)))))))))) ∧ (¬ r_70 = r_111 → (∀ v6_157 : Int32, v6_157 = v6 + 1 → ((lL_areTotals_24 Φ n24) x_70 y_70 g_70 qf_70 cf_70 v3 0 v5 v6_157 bc_111 bs_111))))) (fun _ _ _ _ => False))))))))))))))))
def wL_areTotals (x : Nat → Nat → Int32) (y : Nat → Nat → Nat) (g : Nat → Nat → Nat → Int32) (qf cf : Nat → Int32) (a3 : Int32) (bc bs : Nat) (Φ : Int32 → (Nat → Nat → Int32) → (Nat → Nat → Nat) → (Nat → Nat → Nat → Int32) → (Nat → Int32) → (Nat → Int32) → Prop) : Prop := (((qf 1) = 1 → (∀ v5_19 : Int32, v5_19 = (qf 3) → (∃ n24 : Nat, lL_areTotals_24 Φ n24 x y g qf cf a3 1 v5_19 0 bc bs))) ∧ (¬ (qf 1) = 1 → (∀ v5_19 : Int32, v5_19 = (qf 2) → (∃ n24 : Nat, lL_areTotals_24 Φ n24 x y g qf cf a3 1 v5_19 0 bc bs))))
set_option maxRecDepth 100000 in
set_option maxHeartbeats 4000000 in
theorem kL_areTotals {l : Launch} {D : va_G} {E : va_W} {qa ca : Nat} {ad : Nat → Nat → Nat} {wd sk : Nat → Nat} {cI cB cP cT : ClassId} {sz : Nat} (x0 : Nat → Nat → Int32) (y0 : Nat → Nat → Nat) (g0 : Nat → Nat → Nat → Int32) (qf0 cf0 : Nat → Int32) (a3 : Int32) (BC BS : Nat) {Φ : Int32 → (Nat → Nat → Int32) → (Nat → Nat → Nat) → (Nat → Nat → Nat → Int32) → (Nat → Int32) → (Nat → Int32) → Prop} (hlf : l.stackTraces = false) (h : wL_areTotals x0 y0 g0 qf0 cf0 a3 BC BS Φ) : Met l yL_areTotals (zws yL_areTotals cL_areTotals 10 (some .boolean)) { frames := 9, cells := BC, slots := BS, locals := 259 } (zPc D (cTy cI cB cP cT) (lX wd sk) (cW (LE qa ca cI qf0 cf0 E) ad wd cI cB cP cT (x0, y0, g0)) [.ref (ad 0 0), .ref qa, .ref ca, .int a3] sz) (zQi D (cTy cI cB cP cT) (WL E qa ca ad wd cI cB cP cT) (fun r u => Φ r u.1.1 u.1.2.1 u.1.2.2 u.2.1 u.2.2) (cW (LE qa ca cI qf0 cf0 E) ad wd cI cB cP cT (x0, y0, g0)) sz) BC BS (va_A (cW (LE qa ca cI qf0 cf0 E) ad wd cI cB cP cT (x0, y0, g0)) sz) := by
  refine zMet (by decide) (Nat.le_of_ble_eq_true rfl) ?_
  intro p e s m args below meth c A hx hb hr hml hown hts hlocks hsz hAe hA hS hP hK hD hX ls hl
  subst hsz
  have hF : zFx p s m args c cL_areTotals RL A D (cTy cI cB cP cT) (lX wd sk) 10 := ⟨hx, hb, hml, hown, hts, hA, hK, lX_cl wd sk, hX⟩
  have hFc : zFx p s m args c cL_areTotals RL A D (cTy cI cB cP cT) (cX wd sk) 10 := ⟨hx, hb, hml, hown, hts, hA, hK, cX_cl wd sk, hX.1⟩
  have hl : lv_has ls 10 [(0, .ref (ad 0 0)), (1, .ref qa), (2, .ref ca), (3, .int a3)] := hl
  have hB : 0 + BC ≤ BC ∧ 0 + BS ≤ BS := ⟨by omega, by omega⟩
  have L24 : ∀ n24 : Nat, ∀ (x : Nat → Nat → Int32) (y : Nat → Nat → Nat) (g : Nat → Nat → Nat → Int32) (qf cf : Nat → Int32) (v3 : Int32) (v4 : Int32) (v5 : Int32) (v6 : Int32) (bc bs : Nat), lL_areTotals_24 Φ n24 x y g qf cf v3 v4 v5 v6 bc bs → ∀ (cells slots : Nat), (cells + bc ≤ BC ∧ slots + bs ≤ BS) → ∀ (H : Heap) (locs : List Loc) (ls : Array Slot), va_P D vwCl (cW (LE qa ca cI qf cf E) ad wd cI cB cP cT (x, y, g)) H → va_D A (cW (LE qa ca cI qf cf E) ad wd cI cB cP cT (x, y, g)) → va_S A s.heap H locs → lv_has ls 10 [(0, .ref (ad 0 0)), (1, .ref qa), (2, .ref ca), (3, .int v3), (4, .int v4), (5, .int v5), (6, .int v6)] → W p l e { frames := 9, cells := BC, slots := BS, locals := 259 } s m args below meth c H locs cells slots (MQ below (zQi D (cTy cI cB cP cT) (WL E qa ca ad wd cI cB cP cT) (fun r u => Φ r u.1.1 u.1.2.1 u.1.2.2 u.2.1 u.2.2) (cW (LE qa ca cI qf0 cf0 E) ad wd cI cB cP cT (x0, y0, g0)) s.heap.size) args s BC BS (va_A (cW (LE qa ca cI qf0 cf0 E) ad wd cI cB cP cT (x0, y0, g0)) s.heap.size)) (F0 m 24 ls []) := by
    intro n24
    induction n24 with
    | zero => intro x y g qf cf v3 v4 v5 v6 bc bs h cells slots hB H locs ls hP hD hS hl; exact h.elim
    | succ n24 ih24 =>
      have J138 : ∀ (x : Nat → Nat → Int32) (y : Nat → Nat → Nat) (g : Nat → Nat → Nat → Int32) (qf cf : Nat → Int32) (v3 : Int32) (v5 : Int32) (v6 : Int32) (v7 : Int32) (bc bs : Nat), jL_areTotals_138 (lL_areTotals_24 Φ n24) Φ x y g qf cf v3 v5 v6 v7 bc bs → ∀ (cells slots : Nat), (cells + bc ≤ BC ∧ slots + bs ≤ BS) → ∀ (H : Heap) (locs : List Loc) (ls : Array Slot), va_P D vwCl (cW (LE qa ca cI qf cf E) ad wd cI cB cP cT (x, y, g)) H → va_D A (cW (LE qa ca cI qf cf E) ad wd cI cB cP cT (x, y, g)) → va_S A s.heap H locs → lv_has ls 10 [(0, .ref (ad 0 0)), (1, .ref qa), (2, .ref ca), (3, .int v3), (5, .int v5), (6, .int v6), (7, .int v7)] → W p l e { frames := 9, cells := BC, slots := BS, locals := 259 } s m args below meth c H locs cells slots (MQ below (zQi D (cTy cI cB cP cT) (WL E qa ca ad wd cI cB cP cT) (fun r u => Φ r u.1.1 u.1.2.1 u.1.2.2 u.2.1 u.2.2) (cW (LE qa ca cI qf0 cf0 E) ad wd cI cB cP cT (x0, y0, g0)) s.heap.size) args s BC BS (va_A (cW (LE qa ca cI qf0 cf0 E) ad wd cI cB cP cT (x0, y0, g0)) s.heap.size)) (F0 m 138 ls []) := by
        intro x y g qf cf v3 v5 v6 v7 bc bs h cells slots hB H locs ls hP hD hS hl
        unfold jL_areTotals_138 at h
        refine lv_aload_n (pc := 138) hx hb dL_areTotals_138 rfl (lv_at hl 0 rfl) ?_
        refine lv_bipush (pc := 139) (v := 6) hx hb dL_areTotals_139 (by decide) ?_
        refine lv_iload (pc := 141) hx hb dL_areTotals_141 (lv_at hl 6 rfl) ?_
        refine lv_iconst (pc := 143) (v := (-1)) hx hb dL_areTotals_143 (by decide) ?_
        obtain ⟨kc_144, ks_144, bc_144, bs_144, ec_144, es_144, h⟩ := h
        refine lJi (pc := 144) (L := []) (wc := WL E qa ca ad wd cI cB cP cT ((x, y, g), qf, cf)) (Wd := (WL E qa ca ad wd cI cB cP cT)) hA hP hD hS (lS (L := []) [.ref (ad 0 0), .int 6, .int v7, .int (-1)] hF (kL_asks x y g qf cf 6 v7 (-1) kc_144 ks_144 hlf h) (cwL_L_asks hts ⟨Nat.le_of_ble_eq_true rfl, Nat.le_of_ble_eq_true rfl⟩) hP hD hS rfl rfl hl.1 (Nat.le_of_ble_eq_true rfl) dL_areTotals_144 ⟨by show _ ≤ BC; (try dsimp only); omega, by show _ ≤ BS; (try dsimp only); omega⟩) (fun r_144 u H locs h hP hD hS => ?_)
        obtain ⟨⟨x_144, y_144, g_144⟩, qf_144, cf_144⟩ := u
        have hP : va_P D vwCl (cW (LE qa ca cI qf_144 cf_144 E) ad wd cI cB cP cT (x_144, y_144, g_144)) H := hP
        have hD : va_D A (cW (LE qa ca cI qf_144 cf_144 E) ad wd cI cB cP cT (x_144, y_144, g_144)) := hD
        have hB : (cells + kc_144) + bc_144 ≤ BC ∧ (slots + ks_144) + bs_144 ≤ BS := ⟨by omega, by omega⟩
        refine lv_if_ne (pc := 147) (tgt := 154) hx hb dL_areTotals_147 (by decide) (fun c_147 => ?_) (fun c_147 => ?_)
        · have h := h.2 c_147
          refine lv_iconst (pc := 154) (v := 0) hx hb dL_areTotals_154 (by decide) ?_
          refine lv_istore (pc := 155) (lv' := [(4, .int 0), (0, .ref (ad 0 0)), (1, .ref qa), (2, .ref ca), (3, .int v3), (5, .int v5), (6, .int v6), (7, .int v7)]) hx hb dL_areTotals_155 hl (by decide) rfl (fun ls hl => ?_)
          obtain ⟨v6_157, e_v6_157⟩ : ∃ y : Int32, y = v6 + 1 := ⟨_, rfl⟩
          replace h := h v6_157 e_v6_157
          refine lv_iinc (pc := 157) (v := v6_157) (lv' := [(6, .int v6_157), (4, .int 0), (0, .ref (ad 0 0)), (1, .ref qa), (2, .ref ca), (3, .int v3), (5, .int v5), (7, .int v7)]) hx hb dL_areTotals_157 hl (k := 6) rfl (by rw [e_v6_157]; rfl) (by decide) rfl (fun ls hl => ?_)
          refine lv_goto (pc := 160) (tgt := 24) hx hb dL_areTotals_160 (by decide) ?_
          exact ih24 x_144 y_144 g_144 qf_144 cf_144 v3 0 v5 v6_157 bc_144 bs_144 h _ _ hB _ _ _ hP hD hS (lv_sub hl [2, 3, 4, 5, 1, 6, 0] rfl)
        · have h := h.1 c_147
          refine lv_iconst (pc := 150) (v := 1) hx hb dL_areTotals_150 (by decide) ?_
          refine lv_goto (pc := 151) (tgt := 155) hx hb dL_areTotals_151 (by decide) ?_
          refine lv_istore (pc := 155) (lv' := [(4, .int 1), (0, .ref (ad 0 0)), (1, .ref qa), (2, .ref ca), (3, .int v3), (5, .int v5), (6, .int v6), (7, .int v7)]) hx hb dL_areTotals_155 hl (by decide) rfl (fun ls hl => ?_)
          obtain ⟨v6_157, e_v6_157⟩ : ∃ y : Int32, y = v6 + 1 := ⟨_, rfl⟩
          replace h := h v6_157 e_v6_157
          refine lv_iinc (pc := 157) (v := v6_157) (lv' := [(6, .int v6_157), (4, .int 1), (0, .ref (ad 0 0)), (1, .ref qa), (2, .ref ca), (3, .int v3), (5, .int v5), (7, .int v7)]) hx hb dL_areTotals_157 hl (k := 6) rfl (by rw [e_v6_157]; rfl) (by decide) rfl (fun ls hl => ?_)
          refine lv_goto (pc := 160) (tgt := 24) hx hb dL_areTotals_160 (by decide) ?_
          exact ih24 x_144 y_144 g_144 qf_144 cf_144 v3 1 v5 v6_157 bc_144 bs_144 h _ _ hB _ _ _ hP hD hS (lv_sub hl [2, 3, 4, 5, 1, 6, 0] rfl)
      have J89 : ∀ (x : Nat → Nat → Int32) (y : Nat → Nat → Nat) (g : Nat → Nat → Nat → Int32) (qf cf : Nat → Int32) (v3 : Int32) (v5 : Int32) (v6 : Int32) (v9 : Int32) (bc bs : Nat), jL_areTotals_89 (lL_areTotals_24 Φ n24) Φ x y g qf cf v3 v5 v6 v9 bc bs → ∀ (cells slots : Nat), (cells + bc ≤ BC ∧ slots + bs ≤ BS) → ∀ (H : Heap) (locs : List Loc) (ls : Array Slot), va_P D vwCl (cW (LE qa ca cI qf cf E) ad wd cI cB cP cT (x, y, g)) H → va_D A (cW (LE qa ca cI qf cf E) ad wd cI cB cP cT (x, y, g)) → va_S A s.heap H locs → lv_has ls 10 [(0, .ref (ad 0 0)), (1, .ref qa), (2, .ref ca), (3, .int v3), (5, .int v5), (6, .int v6), (9, .int v9)] → W p l e { frames := 9, cells := BC, slots := BS, locals := 259 } s m args below meth c H locs cells slots (MQ below (zQi D (cTy cI cB cP cT) (WL E qa ca ad wd cI cB cP cT) (fun r u => Φ r u.1.1 u.1.2.1 u.1.2.2 u.2.1 u.2.2) (cW (LE qa ca cI qf0 cf0 E) ad wd cI cB cP cT (x0, y0, g0)) s.heap.size) args s BC BS (va_A (cW (LE qa ca cI qf0 cf0 E) ad wd cI cB cP cT (x0, y0, g0)) s.heap.size)) (F0 m 89 ls []) := by
        intro x y g qf cf v3 v5 v6 v9 bc bs h cells slots hB H locs ls hP hD hS hl
        unfold jL_areTotals_89 at h
        refine lv_iload (pc := 89) hx hb dL_areTotals_89 (lv_at hl 6 rfl) ?_
        refine lv_ldc (pc := 91) (v := (-70008)) hx hb hown (hts _ lK_47) dL_areTotals_91 ?_
        refine lv_icmp_ne (pc := 93) (tgt := 100) hx hb dL_areTotals_93 (by decide) (fun c_93 => ?_) (fun c_93 => ?_)
        · have h := h.2 c_93
          refine lv_iconst (pc := 100) (v := 0) hx hb dL_areTotals_100 (by decide) ?_
          refine lv_goto (pc := 101) (tgt := 155) hx hb dL_areTotals_101 (by decide) ?_
          refine lv_istore (pc := 155) (lv' := [(4, .int 0), (0, .ref (ad 0 0)), (1, .ref qa), (2, .ref ca), (3, .int v3), (5, .int v5), (6, .int v6), (9, .int v9)]) hx hb dL_areTotals_155 hl (by decide) rfl (fun ls hl => ?_)
          obtain ⟨v6_157, e_v6_157⟩ : ∃ y : Int32, y = v6 + 1 := ⟨_, rfl⟩
          replace h := h v6_157 e_v6_157
          refine lv_iinc (pc := 157) (v := v6_157) (lv' := [(6, .int v6_157), (4, .int 0), (0, .ref (ad 0 0)), (1, .ref qa), (2, .ref ca), (3, .int v3), (5, .int v5), (9, .int v9)]) hx hb dL_areTotals_157 hl (k := 6) rfl (by rw [e_v6_157]; rfl) (by decide) rfl (fun ls hl => ?_)
          refine lv_goto (pc := 160) (tgt := 24) hx hb dL_areTotals_160 (by decide) ?_
          exact ih24 x y g qf cf v3 0 v5 v6_157 bc bs h _ _ hB _ _ _ hP hD hS (lv_sub hl [2, 3, 4, 5, 1, 6, 0] rfl)
        · have h := h.1 c_93
          refine lv_iconst (pc := 96) (v := 1) hx hb dL_areTotals_96 (by decide) ?_
          refine lv_goto (pc := 97) (tgt := 155) hx hb dL_areTotals_97 (by decide) ?_
          refine lv_istore (pc := 155) (lv' := [(4, .int 1), (0, .ref (ad 0 0)), (1, .ref qa), (2, .ref ca), (3, .int v3), (5, .int v5), (6, .int v6), (9, .int v9)]) hx hb dL_areTotals_155 hl (by decide) rfl (fun ls hl => ?_)
          obtain ⟨v6_157, e_v6_157⟩ : ∃ y : Int32, y = v6 + 1 := ⟨_, rfl⟩
          replace h := h v6_157 e_v6_157
          refine lv_iinc (pc := 157) (v := v6_157) (lv' := [(6, .int v6_157), (4, .int 1), (0, .ref (ad 0 0)), (1, .ref qa), (2, .ref ca), (3, .int v3), (5, .int v5), (9, .int v9)]) hx hb dL_areTotals_157 hl (k := 6) rfl (by rw [e_v6_157]; rfl) (by decide) rfl (fun ls hl => ?_)
          refine lv_goto (pc := 160) (tgt := 24) hx hb dL_areTotals_160 (by decide) ?_
          exact ih24 x y g qf cf v3 1 v5 v6_157 bc bs h _ _ hB _ _ _ hP hD hS (lv_sub hl [2, 3, 4, 5, 1, 6, 0] rfl)
      intro x y g qf cf v3 v4 v5 v6 bc bs h cells slots hB H locs ls hP hD hS hl
      unfold lL_areTotals_24 at h
      refine lv_iload (pc := 24) hx hb dL_areTotals_24 (lv_at hl 6 rfl) ?_
      refine lv_bipush (pc := 26) (v := 8) hx hb dL_areTotals_26 (by decide) ?_
      refine lv_icmp_ge (pc := 28) (tgt := 163) hx hb dL_areTotals_28 (by decide) (fun c_28 => ?_) (fun c_28 => ?_)
      · have h := h.1 c_28
        refine lv_iload (pc := 163) hx hb dL_areTotals_163 (lv_at hl 4 rfl) ?_
        obtain ⟨hz_165, h⟩ := h
        exact zirV (pc := 165) (Wd := WL E qa ca ad wd cI cB cP cT) (u := ((x, y, g), qf, cf)) hx hb hr hlocks hAe hK hP hD hS (znB hz_165) dL_areTotals_165 (by (try dsimp only); omega) (by (try dsimp only); omega) h
      · have h := h.2 c_28
        refine lv_iload (pc := 31) hx hb dL_areTotals_31 (lv_at hl 4 rfl) ?_
        refine lv_if_eq (pc := 33) (tgt := 163) hx hb dL_areTotals_33 (by decide) (fun c_33 => ?_) (fun c_33 => ?_)
        · have h := h.1 c_33
          refine lv_iload (pc := 163) hx hb dL_areTotals_163 (lv_at hl 4 rfl) ?_
          obtain ⟨hz_165, h⟩ := h
          exact zirV (pc := 165) (Wd := WL E qa ca ad wd cI cB cP cT) (u := ((x, y, g), qf, cf)) hx hb hr hlocks hAe hK hP hD hS (znB hz_165) dL_areTotals_165 (by (try dsimp only); omega) (by (try dsimp only); omega) h
        · have h := h.2 c_33
          refine lv_iload_n (pc := 36) hx hb dL_areTotals_36 rfl (lv_at hl 3 rfl) ?_
          refine lv_iload (pc := 37) hx hb dL_areTotals_37 (lv_at hl 6 rfl) ?_
          refine lv_iadd (pc := 39) hx hb dL_areTotals_39 ?_
          refine lv_bipush (pc := 40) (v := 8) hx hb dL_areTotals_40 (by decide) ?_
          refine lv_irem (pc := 42) hx hb dL_areTotals_42 (by decide) ?_
          refine lv_topi (fun v7_43 e_v7_43 => ?_)
          replace h := h v7_43 e_v7_43
          refine lv_istore (pc := 43) (lv' := [(7, .int v7_43), (0, .ref (ad 0 0)), (1, .ref qa), (2, .ref ca), (3, .int v3), (4, .int v4), (5, .int v5), (6, .int v6)]) hx hb dL_areTotals_43 hl (by decide) rfl (fun ls hl => ?_)
          refine lv_iload_n (pc := 45) hx hb dL_areTotals_45 rfl (lv_at hl 4 rfl) ?_
          refine lv_bipush (pc := 46) (v := 8) hx hb dL_areTotals_46 (by decide) ?_
          refine lv_idiv (pc := 48) hx hb dL_areTotals_48 (by decide) ?_
          refine lv_bipush (pc := 49) (v := 8) hx hb dL_areTotals_49 (by decide) ?_
          refine lv_irem (pc := 51) hx hb dL_areTotals_51 (by decide) ?_
          refine lv_iload (pc := 52) hx hb dL_areTotals_52 (lv_at hl 6 rfl) ?_
          refine lv_imul (pc := 54) hx hb dL_areTotals_54 ?_
          refine lv_iload (pc := 55) hx hb dL_areTotals_55 (lv_at hl 7 rfl) ?_
          refine lv_iload (pc := 57) hx hb dL_areTotals_57 (lv_at hl 6 rfl) ?_
          refine lv_imul (pc := 59) hx hb dL_areTotals_59 ?_
          refine lv_iadd (pc := 60) hx hb dL_areTotals_60 ?_
          refine lv_topi (fun v8_61 e_v8_61 => ?_)
          replace h := h v8_61 e_v8_61
          refine lv_istore (pc := 61) (lv' := [(8, .int v8_61), (7, .int v7_43), (0, .ref (ad 0 0)), (1, .ref qa), (2, .ref ca), (3, .int v3), (4, .int v4), (5, .int v5), (6, .int v6)]) hx hb dL_areTotals_61 hl (by decide) rfl (fun ls hl => ?_)
          refine lv_aload_n (pc := 63) hx hb dL_areTotals_63 rfl (lv_at hl 2 rfl) ?_
          refine lv_bipush (pc := 64) (v := 6) hx hb dL_areTotals_64 (by decide) ?_
          refine lv_iload (pc := 66) hx hb dL_areTotals_66 (lv_at hl 1 rfl) ?_
          refine lv_iload (pc := 68) hx hb dL_areTotals_68 (lv_at hl 0 rfl) ?_
          obtain ⟨kc_70, ks_70, bc_70, bs_70, ec_70, es_70, h⟩ := h
          refine lJi (pc := 70) (L := []) (wc := WL E qa ca ad wd cI cB cP cT ((x, y, g), qf, cf)) (Wd := (WL E qa ca ad wd cI cB cP cT)) hA hP hD hS (lS (L := []) [.ref (ad 0 0), .int 6, .int v7_43, .int v8_61] hF (kL_asks x y g qf cf 6 v7_43 v8_61 kc_70 ks_70 hlf h) (cwL_L_asks hts ⟨Nat.le_of_ble_eq_true rfl, Nat.le_of_ble_eq_true rfl⟩) hP hD hS rfl rfl hl.1 (Nat.le_of_ble_eq_true rfl) dL_areTotals_70 ⟨by show _ ≤ BC; (try dsimp only); omega, by show _ ≤ BS; (try dsimp only); omega⟩) (fun r_70 u H locs h hP hD hS => ?_)
          obtain ⟨⟨x_70, y_70, g_70⟩, qf_70, cf_70⟩ := u
          have hP : va_P D vwCl (cW (LE qa ca cI qf_70 cf_70 E) ad wd cI cB cP cT (x_70, y_70, g_70)) H := hP
          have hD : va_D A (cW (LE qa ca cI qf_70 cf_70 E) ad wd cI cB cP cT (x_70, y_70, g_70)) := hD
          have hB : (cells + kc_70) + bc_70 ≤ BC ∧ (slots + ks_70) + bs_70 ≤ BS := ⟨by omega, by omega⟩
          refine lv_istore (pc := 73) (lv' := [(9, .int r_70), (8, .int v8_61), (7, .int v7_43), (0, .ref (ad 0 0)), (1, .ref qa), (2, .ref ca), (3, .int v3), (4, .int v4), (5, .int v5), (6, .int v6)]) hx hb dL_areTotals_73 hl (by decide) rfl (fun ls hl => ?_)
          refine lv_aload_n (pc := 75) hx hb dL_areTotals_75 rfl (lv_at hl 4 rfl) ?_
          refine lv_iconst (pc := 76) (v := 1) hx hb dL_areTotals_76 (by decide) ?_
          refine lq_get (pc := 77) (v := (qf_70 1)) hF hP rfl (vp_in_iff.mpr (by decide)) dL_areTotals_77 ?_
          refine lv_iconst (pc := 78) (v := 2) hx hb dL_areTotals_78 (by decide) ?_
          refine lv_icmp_eq (pc := 79) (tgt := 89) hx hb dL_areTotals_79 (by decide) (fun c_79 => ?_) (fun c_79 => ?_)
          · have h := h.1 c_79
            exact J89 x_70 y_70 g_70 qf_70 cf_70 v3 v5 v6 r_70 bc_70 bs_70 h _ _ hB _ _ _ hP hD hS (lv_sub hl [3, 4, 5, 6, 8, 9, 0] rfl)
          · have h := h.2 c_79
            refine lv_aload_n (pc := 82) hx hb dL_areTotals_82 rfl (lv_at hl 5 rfl) ?_
            refine lv_bipush (pc := 83) (v := 6) hx hb dL_areTotals_83 (by decide) ?_
            refine lc_get (pc := 85) (v := (cf_70 6)) hF hP rfl (vp_in_iff.mpr (by decide)) dL_areTotals_85 ?_
            refine lv_if_ne (pc := 86) (tgt := 104) hx hb dL_areTotals_86 (by decide) (fun c_86 => ?_) (fun c_86 => ?_)
            · have h := h.2 c_86
              refine lv_iload (pc := 104) hx hb dL_areTotals_104 (lv_at hl 0 rfl) ?_
              refine lv_aload_n (pc := 106) hx hb dL_areTotals_106 rfl (lv_at hl 3 rfl) ?_
              refine lv_iload (pc := 107) hx hb dL_areTotals_107 (lv_at hl 2 rfl) ?_
              refine lv_iload (pc := 109) hx hb dL_areTotals_109 (lv_at hl 1 rfl) ?_
              obtain ⟨kc_111, ks_111, bc_111, bs_111, ec_111, es_111, h⟩ := h
              refine lCallp (pc := 111) (E := LE qa ca cI qf_70 cf_70 E) (x := x_70) (y := y_70) (g := g_70) [.int v7_43, .int v8_61] hFc (kX8_total x_70 y_70 g_70 v7_43 v8_61 kc_111 ks_111 hlf h) (cwL_X8_total hts ⟨Nat.le_of_ble_eq_true rfl, Nat.le_of_ble_eq_true rfl⟩) (lRo hFc hP) hP hD hS rfl rfl hl.1 (Nat.le_of_ble_eq_true rfl) dL_areTotals_111 ⟨by show _ ≤ BC; (try dsimp only); omega, by show _ ≤ BS; (try dsimp only); omega⟩ (fun E2 ce q9 x1 y1 g1 H locs h hP hD hS hce hcv hcl => h.elim) (fun r_111 H locs h hP hD hS => ?_)
              have hB : ((cells + kc_70) + kc_111) + bc_111 ≤ BC ∧ ((slots + ks_70) + ks_111) + bs_111 ≤ BS := ⟨by omega, by omega⟩
              refine lv_icmp_ne (pc := 114) (tgt := 154) hx hb dL_areTotals_114 (by decide) (fun c_114 => ?_) (fun c_114 => ?_)
              · have h := h.2 c_114
                refine lv_iconst (pc := 154) (v := 0) hx hb dL_areTotals_154 (by decide) ?_
                refine lv_istore (pc := 155) (lv' := [(4, .int 0), (9, .int r_70), (8, .int v8_61), (7, .int v7_43), (0, .ref (ad 0 0)), (1, .ref qa), (2, .ref ca), (3, .int v3), (5, .int v5), (6, .int v6)]) hx hb dL_areTotals_155 hl (by decide) rfl (fun ls hl => ?_)
                obtain ⟨v6_157, e_v6_157⟩ : ∃ y : Int32, y = v6 + 1 := ⟨_, rfl⟩
                replace h := h v6_157 e_v6_157
                refine lv_iinc (pc := 157) (v := v6_157) (lv' := [(6, .int v6_157), (4, .int 0), (9, .int r_70), (8, .int v8_61), (7, .int v7_43), (0, .ref (ad 0 0)), (1, .ref qa), (2, .ref ca), (3, .int v3), (5, .int v5)]) hx hb dL_areTotals_157 hl (k := 9) rfl (by rw [e_v6_157]; rfl) (by decide) rfl (fun ls hl => ?_)
                refine lv_goto (pc := 160) (tgt := 24) hx hb dL_areTotals_160 (by decide) ?_
                exact ih24 x_70 y_70 g_70 qf_70 cf_70 v3 0 v5 v6_157 bc_111 bs_111 h _ _ hB _ _ _ hP hD hS (lv_sub hl [5, 6, 7, 8, 1, 9, 0] rfl)
              · have h := h.1 c_114
                refine lv_iload (pc := 117) hx hb dL_areTotals_117 (lv_at hl 8 rfl) ?_
                refine lv_iconst (pc := 119) (v := 1) hx hb dL_areTotals_119 (by decide) ?_
                refine lv_icmp_eq (pc := 120) (tgt := 138) hx hb dL_areTotals_120 (by decide) (fun c_120 => ?_) (fun c_120 => ?_)
                · have h := h.1 c_120
                  exact J138 x_70 y_70 g_70 qf_70 cf_70 v3 v5 v6 v7_43 bc_111 bs_111 h _ _ hB _ _ _ hP hD hS (lv_sub hl [3, 4, 5, 6, 8, 9, 2] rfl)
                · have h := h.2 c_120
                  refine lv_aload_n (pc := 123) hx hb dL_areTotals_123 rfl (lv_at hl 3 rfl) ?_
                  refine lv_bipush (pc := 124) (v := 6) hx hb dL_areTotals_124 (by decide) ?_
                  refine lv_iload (pc := 126) hx hb dL_areTotals_126 (lv_at hl 2 rfl) ?_
                  refine lv_iload (pc := 128) hx hb dL_areTotals_128 (lv_at hl 1 rfl) ?_
                  refine lv_iconst (pc := 130) (v := 1) hx hb dL_areTotals_130 (by decide) ?_
                  refine lv_iadd (pc := 131) hx hb dL_areTotals_131 ?_
                  obtain ⟨kc_132, ks_132, bc_132, bs_132, ec_132, es_132, h⟩ := h
                  refine lJi (pc := 132) (L := []) (wc := WL E qa ca ad wd cI cB cP cT ((x_70, y_70, g_70), qf_70, cf_70)) (Wd := (WL E qa ca ad wd cI cB cP cT)) hA hP hD hS (lS (L := []) [.ref (ad 0 0), .int 6, .int v7_43, .int (v8_61 + 1)] hF (kL_asks x_70 y_70 g_70 qf_70 cf_70 6 v7_43 (v8_61 + 1) kc_132 ks_132 hlf h) (cwL_L_asks hts ⟨Nat.le_of_ble_eq_true rfl, Nat.le_of_ble_eq_true rfl⟩) hP hD hS rfl rfl hl.1 (Nat.le_of_ble_eq_true rfl) dL_areTotals_132 ⟨by show _ ≤ BC; (try dsimp only); omega, by show _ ≤ BS; (try dsimp only); omega⟩) (fun r_132 u H locs h hP hD hS => ?_)
                  obtain ⟨⟨x_132, y_132, g_132⟩, qf_132, cf_132⟩ := u
                  have hP : va_P D vwCl (cW (LE qa ca cI qf_132 cf_132 E) ad wd cI cB cP cT (x_132, y_132, g_132)) H := hP
                  have hD : va_D A (cW (LE qa ca cI qf_132 cf_132 E) ad wd cI cB cP cT (x_132, y_132, g_132)) := hD
                  have hB : (((cells + kc_70) + kc_111) + kc_132) + bc_132 ≤ BC ∧ (((slots + ks_70) + ks_111) + ks_132) + bs_132 ≤ BS := ⟨by omega, by omega⟩
                  refine lv_if_ne (pc := 135) (tgt := 154) hx hb dL_areTotals_135 (by decide) (fun c_135 => ?_) (fun c_135 => ?_)
                  · have h := h.2 c_135
                    refine lv_iconst (pc := 154) (v := 0) hx hb dL_areTotals_154 (by decide) ?_
                    refine lv_istore (pc := 155) (lv' := [(4, .int 0), (9, .int r_70), (8, .int v8_61), (7, .int v7_43), (0, .ref (ad 0 0)), (1, .ref qa), (2, .ref ca), (3, .int v3), (5, .int v5), (6, .int v6)]) hx hb dL_areTotals_155 hl (by decide) rfl (fun ls hl => ?_)
                    obtain ⟨v6_157, e_v6_157⟩ : ∃ y : Int32, y = v6 + 1 := ⟨_, rfl⟩
                    replace h := h v6_157 e_v6_157
                    refine lv_iinc (pc := 157) (v := v6_157) (lv' := [(6, .int v6_157), (4, .int 0), (9, .int r_70), (8, .int v8_61), (7, .int v7_43), (0, .ref (ad 0 0)), (1, .ref qa), (2, .ref ca), (3, .int v3), (5, .int v5)]) hx hb dL_areTotals_157 hl (k := 9) rfl (by rw [e_v6_157]; rfl) (by decide) rfl (fun ls hl => ?_)
                    refine lv_goto (pc := 160) (tgt := 24) hx hb dL_areTotals_160 (by decide) ?_
                    exact ih24 x_132 y_132 g_132 qf_132 cf_132 v3 0 v5 v6_157 bc_132 bs_132 h _ _ hB _ _ _ hP hD hS (lv_sub hl [5, 6, 7, 8, 1, 9, 0] rfl)
                  · have h := h.1 c_135
                    exact J138 x_132 y_132 g_132 qf_132 cf_132 v3 v5 v6 v7_43 bc_132 bs_132 h _ _ hB _ _ _ hP hD hS (lv_sub hl [3, 4, 5, 6, 8, 9, 2] rfl)
            · have h := h.1 c_86
              exact J89 x_70 y_70 g_70 qf_70 cf_70 v3 v5 v6 r_70 bc_70 bs_70 h _ _ hB _ _ _ hP hD hS (lv_sub hl [3, 4, 5, 6, 8, 9, 0] rfl)
  unfold wL_areTotals at h
  refine lv_iconst (pc := 0) (v := 1) hx hb dL_areTotals_0 (by decide) ?_
  refine lv_istore (pc := 1) (lv' := [(4, .int 1), (0, .ref (ad 0 0)), (1, .ref qa), (2, .ref ca), (3, .int a3)]) hx hb dL_areTotals_1 hl (by decide) rfl (fun ls hl => ?_)
  refine lv_aload_n (pc := 3) hx hb dL_areTotals_3 rfl (lv_at hl 2 rfl) ?_
  refine lv_iconst (pc := 4) (v := 1) hx hb dL_areTotals_4 (by decide) ?_
  refine lq_get (pc := 5) (v := (qf0 1)) hF hP rfl (vp_in_iff.mpr (by decide)) dL_areTotals_5 ?_
  refine lv_iconst (pc := 6) (v := 1) hx hb dL_areTotals_6 (by decide) ?_
  refine lv_icmp_ne (pc := 7) (tgt := 16) hx hb dL_areTotals_7 (by decide) (fun c_7 => ?_) (fun c_7 => ?_)
  · have h := h.2 c_7
    refine lv_aload_n (pc := 16) hx hb dL_areTotals_16 rfl (lv_at hl 2 rfl) ?_
    refine lv_iconst (pc := 17) (v := 2) hx hb dL_areTotals_17 (by decide) ?_
    refine lq_get (pc := 18) (v := (qf0 2)) hF hP rfl (vp_in_iff.mpr (by decide)) dL_areTotals_18 ?_
    refine lv_topi (fun v5_19 e_v5_19 => ?_)
    replace h := h v5_19 e_v5_19
    refine lv_istore (pc := 19) (lv' := [(5, .int v5_19), (4, .int 1), (0, .ref (ad 0 0)), (1, .ref qa), (2, .ref ca), (3, .int a3)]) hx hb dL_areTotals_19 hl (by decide) rfl (fun ls hl => ?_)
    refine lv_iconst (pc := 21) (v := 0) hx hb dL_areTotals_21 (by decide) ?_
    refine lv_istore (pc := 22) (lv' := [(6, .int 0), (5, .int v5_19), (4, .int 1), (0, .ref (ad 0 0)), (1, .ref qa), (2, .ref ca), (3, .int a3)]) hx hb dL_areTotals_22 hl (by decide) rfl (fun ls hl => ?_)
    obtain ⟨n24, h⟩ := h
    exact L24 n24 x0 y0 g0 qf0 cf0 a3 1 v5_19 0 BC BS h _ _ hB _ _ _ hP hD hS (lv_sub hl [3, 4, 5, 6, 2, 1, 0] rfl)
  · have h := h.1 c_7
    refine lv_aload_n (pc := 10) hx hb dL_areTotals_10 rfl (lv_at hl 2 rfl) ?_
    refine lv_iconst (pc := 11) (v := 3) hx hb dL_areTotals_11 (by decide) ?_
    refine lq_get (pc := 12) (v := (qf0 3)) hF hP rfl (vp_in_iff.mpr (by decide)) dL_areTotals_12 ?_
    refine lv_goto (pc := 13) (tgt := 19) hx hb dL_areTotals_13 (by decide) ?_
    refine lv_topi (fun v5_19 e_v5_19 => ?_)
    replace h := h v5_19 e_v5_19
    refine lv_istore (pc := 19) (lv' := [(5, .int v5_19), (4, .int 1), (0, .ref (ad 0 0)), (1, .ref qa), (2, .ref ca), (3, .int a3)]) hx hb dL_areTotals_19 hl (by decide) rfl (fun ls hl => ?_)
    refine lv_iconst (pc := 21) (v := 0) hx hb dL_areTotals_21 (by decide) ?_
    refine lv_istore (pc := 22) (lv' := [(6, .int 0), (5, .int v5_19), (4, .int 1), (0, .ref (ad 0 0)), (1, .ref qa), (2, .ref ca), (3, .int a3)]) hx hb dL_areTotals_22 hl (by decide) rfl (fun ls hl => ?_)
    obtain ⟨n24, h⟩ := h
    exact L24 n24 x0 y0 g0 qf0 cf0 a3 1 v5_19 0 BC BS h _ _ hB _ _ _ hP hD hS (lv_sub hl [3, 4, 5, 6, 2, 1, 0] rfl)

def jL_areResults_105 (W47 : (Nat → Nat → Int32) → (Nat → Nat → Nat) → (Nat → Nat → Nat → Int32) → (Nat → Int32) → (Nat → Int32) → Int32 → Int32 → Int32 → Nat → Nat → Prop) (Φ : Int32 → (Nat → Nat → Int32) → (Nat → Nat → Nat) → (Nat → Nat → Nat → Int32) → (Nat → Int32) → (Nat → Int32) → Prop) (x : Nat → Nat → Int32) (y : Nat → Nat → Nat) (g : Nat → Nat → Nat → Int32) (qf cf : Nat → Int32) (v4 : Int32) (v6 : Int32) (v7 : Int32) (bc bs : Nat) : Prop := (∃ kc_109 ks_109 bc_109 bs_109 : Nat, kc_109 + bc_109 ≤ bc ∧ ks_109 + bs_109 ≤ bs ∧ (wX8_result x y g v6 0 kc_109 ks_109 (fun r_109 => ((8 ≤ r_109 → (∀ v6_147 : Int32, v6_147 = v6 + 1 → (W47 x y g qf cf v4 0 v6_147 bc_109 bs_109))) ∧ (¬ 8 ≤ r_109 → ((v7 = 2 → (∀ v6_147 : Int32, v6_147 = v6 + 1 → (W47 x y g qf cf v4 1 v6_147 bc_109 bs_109))) ∧ (¬ v7 = 2 → ((2 ≤ (qf 5) → ((v7 = 1 → (∀ v6_147 : Int32, v6_147 = v6 + 1 → (W47 x y g qf cf v4 1 v6_147 bc_109 bs_109))) ∧ (¬ v7 = 1 → (∀ v6_147 : Int32, v6_147 = v6 + 1 → (W47 x y g qf cf v4 0 v6_147 bc_109 bs_109))))) ∧ (¬ 2 ≤ (qf 5) → ((v7 = 0 → (∀ v6_147 : Int32, v6_147 = v6 + 1 → (W47 x y g qf cf v4 1 v6_147 bc_109 bs_109))) ∧ (¬ v7 = 0 → (∀ v6_147 : Int32, v6_147 = v6 + 1 → (W47 x y g qf cf v4 0 v6_147 bc_109 bs_109))))))))))) (fun _ _ _ _ => False)))
def lL_areResults_47 (Φ : Int32 → (Nat → Nat → Int32) → (Nat → Nat → Nat) → (Nat → Nat → Nat → Int32) → (Nat → Int32) → (Nat → Int32) → Prop) : Nat → (Nat → Nat → Int32) → (Nat → Nat → Nat) → (Nat → Nat → Nat → Int32) → (Nat → Int32) → (Nat → Int32) → Int32 → Int32 → Int32 → Nat → Nat → Prop
  | 0, _, _, _, _, _, _, _, _, _, _ => False
  | n47 + 1, x, y, g, qf, cf, v4, v5, v6, bc, bs => ((v4 ≤ v6 → ((v5 = 0 ∨ v5 = 1) ∧ (Φ v5 x y g qf cf))) ∧ (¬ v4 ≤ v6 → ((v5 = 0 → ((v5 = 0 ∨ v5 = 1) ∧ (Φ v5 x y g qf cf))) ∧ (¬ v5 = 0 → (∃ kc_63 ks_63 bc_63 bs_63 : Nat, kc_63 + bc_63 ≤ bc ∧ ks_63 + bs_63 ≤ bs ∧ (wX8_result x y g v6 4 kc_63 ks_63 (fun r_63 => (∃ kc_72 ks_72 bc_72 bs_72 : Nat, kc_72 + bc_72 ≤ bc_63 ∧ ks_72 + bs_72 ≤ bs_63 ∧ (wX8_result x y g v6 2 kc_72 ks_72 (fun r_72 => (∃ kc_79 ks_79 bc_79 bs_79 : Nat, kc_79 + bc_79 ≤ bc_72 ∧ ks_79 + bs_79 ≤ bs_72 ∧ (wX8_result x y g v6 1 kc_79 ks_79 (fun r_79 => ((r_72 ≤ r_79 → (∀ v6_147 : Int32, v6_147 = v6 + 1 → ((lL_areResults_47 Φ n47) x y g qf cf v4 0 v6_147 bc_79 bs_79))) ∧ (¬ r_72 ≤ r_79 → (∃ kc_89 ks_89 bc_89 bs_89 : Nat, kc_89 + bc_89 ≤ bc_79 ∧ ks_89 + bs_89 ≤ bs_79 ∧ (wX8_result x y g v6 2 kc_89 ks_89 (fun r_89 => (wX8_watermark x y g (fun r_93 => ((r_89 ≤ r_93 → (jL_areResults_105 (lL_areResults_47 Φ n47) Φ x y g qf cf v4 v6 r_63 bc_89 bs_89)) ∧ (¬ r_89 ≤ r_93 → ((r_63 = 2 → (jL_areResults_105 (lL_areResults_47 Φ n47) Φ x y g qf cf v4 v6 r_63 bc_89 bs_89)) ∧ (¬ r_63 = 2 → (∀ v6_147 : Int32, v6_147 = v6 + 1 → ((lL_areResults_47 Φ n47) x y g qf cf v4 0 v6_147 bc_89 bs_89))))))))) (fun _ _ _ _ => False)))))) (fun _ _ _ _ => False)))) (fun _ _ _ _ => False)))) (fun _ _ _ _ => False)))))))
def wL_areResults (x : Nat → Nat → Int32) (y : Nat → Nat → Nat) (g : Nat → Nat → Nat → Int32) (qf cf : Nat → Int32) (a3 : Int32) (bc bs : Nat) (Φ : Int32 → (Nat → Nat → Int32) → (Nat → Nat → Nat) → (Nat → Nat → Nat → Int32) → (Nat → Int32) → (Nat → Int32) → Prop) : Prop := (wX8_results x y g (fun r_1 => (wX8_committed x y g (fun r_7 => ((r_7 = (cf 4) → ((r_1 < (cf 4) → (∃ n47 : Nat, lL_areResults_47 Φ n47 x y g qf cf r_1 0 a3 bc bs)) ∧ (¬ r_1 < (cf 4) → (∃ kc_29 ks_29 bc_29 bs_29 : Nat, kc_29 + bc_29 ≤ bc ∧ ks_29 + bs_29 ≤ bs ∧ (wL_asks x y g qf cf 5 r_1 0 kc_29 ks_29 (fun r_29 x_29 y_29 g_29 qf_29 cf_29 => ((r_29 = (-70007) → (∃ n47 : Nat, lL_areResults_47 Φ n47 x_29 y_29 g_29 qf_29 cf_29 r_1 1 a3 bc_29 bs_29)) ∧ (¬ r_29 = (-70007) → (∃ n47 : Nat, lL_areResults_47 Φ n47 x_29 y_29 g_29 qf_29 cf_29 r_1 0 a3 bc_29 bs_29))))))))) ∧ (¬ r_7 = (cf 4) → (∃ n47 : Nat, lL_areResults_47 Φ n47 x y g qf cf r_1 0 a3 bc bs)))))))
set_option maxRecDepth 100000 in
set_option maxHeartbeats 4000000 in
theorem kL_areResults {l : Launch} {D : va_G} {E : va_W} {qa ca : Nat} {ad : Nat → Nat → Nat} {wd sk : Nat → Nat} {cI cB cP cT : ClassId} {sz : Nat} (x0 : Nat → Nat → Int32) (y0 : Nat → Nat → Nat) (g0 : Nat → Nat → Nat → Int32) (qf0 cf0 : Nat → Int32) (a3 : Int32) (BC BS : Nat) {Φ : Int32 → (Nat → Nat → Int32) → (Nat → Nat → Nat) → (Nat → Nat → Nat → Int32) → (Nat → Int32) → (Nat → Int32) → Prop} (hlf : l.stackTraces = false) (h : wL_areResults x0 y0 g0 qf0 cf0 a3 BC BS Φ) : Met l yL_areResults (zws yL_areResults cL_areResults 8 (some .boolean)) { frames := 9, cells := BC, slots := BS, locals := 259 } (zPc D (cTy cI cB cP cT) (lX wd sk) (cW (LE qa ca cI qf0 cf0 E) ad wd cI cB cP cT (x0, y0, g0)) [.ref (ad 0 0), .ref qa, .ref ca, .int a3] sz) (zQi D (cTy cI cB cP cT) (WL E qa ca ad wd cI cB cP cT) (fun r u => Φ r u.1.1 u.1.2.1 u.1.2.2 u.2.1 u.2.2) (cW (LE qa ca cI qf0 cf0 E) ad wd cI cB cP cT (x0, y0, g0)) sz) BC BS (va_A (cW (LE qa ca cI qf0 cf0 E) ad wd cI cB cP cT (x0, y0, g0)) sz) := by
  refine zMet (by decide) (Nat.le_of_ble_eq_true rfl) ?_
  intro p e s m args below meth c A hx hb hr hml hown hts hlocks hsz hAe hA hS hP hK hD hX ls hl
  subst hsz
  have hF : zFx p s m args c cL_areResults RL A D (cTy cI cB cP cT) (lX wd sk) 8 := ⟨hx, hb, hml, hown, hts, hA, hK, lX_cl wd sk, hX⟩
  have hFc : zFx p s m args c cL_areResults RL A D (cTy cI cB cP cT) (cX wd sk) 8 := ⟨hx, hb, hml, hown, hts, hA, hK, cX_cl wd sk, hX.1⟩
  have hl : lv_has ls 8 [(0, .ref (ad 0 0)), (1, .ref qa), (2, .ref ca), (3, .int a3)] := hl
  have hB : 0 + BC ≤ BC ∧ 0 + BS ≤ BS := ⟨by omega, by omega⟩
  have L47 : ∀ n47 : Nat, ∀ (x : Nat → Nat → Int32) (y : Nat → Nat → Nat) (g : Nat → Nat → Nat → Int32) (qf cf : Nat → Int32) (v4 : Int32) (v5 : Int32) (v6 : Int32) (bc bs : Nat), lL_areResults_47 Φ n47 x y g qf cf v4 v5 v6 bc bs → ∀ (cells slots : Nat), (cells + bc ≤ BC ∧ slots + bs ≤ BS) → ∀ (H : Heap) (locs : List Loc) (ls : Array Slot), va_P D vwCl (cW (LE qa ca cI qf cf E) ad wd cI cB cP cT (x, y, g)) H → va_D A (cW (LE qa ca cI qf cf E) ad wd cI cB cP cT (x, y, g)) → va_S A s.heap H locs → lv_has ls 8 [(0, .ref (ad 0 0)), (1, .ref qa), (4, .int v4), (5, .int v5), (6, .int v6)] → W p l e { frames := 9, cells := BC, slots := BS, locals := 259 } s m args below meth c H locs cells slots (MQ below (zQi D (cTy cI cB cP cT) (WL E qa ca ad wd cI cB cP cT) (fun r u => Φ r u.1.1 u.1.2.1 u.1.2.2 u.2.1 u.2.2) (cW (LE qa ca cI qf0 cf0 E) ad wd cI cB cP cT (x0, y0, g0)) s.heap.size) args s BC BS (va_A (cW (LE qa ca cI qf0 cf0 E) ad wd cI cB cP cT (x0, y0, g0)) s.heap.size)) (F0 m 47 ls []) := by
    intro n47
    induction n47 with
    | zero => intro x y g qf cf v4 v5 v6 bc bs h cells slots hB H locs ls hP hD hS hl; exact h.elim
    | succ n47 ih47 =>
      have J105 : ∀ (x : Nat → Nat → Int32) (y : Nat → Nat → Nat) (g : Nat → Nat → Nat → Int32) (qf cf : Nat → Int32) (v4 : Int32) (v6 : Int32) (v7 : Int32) (bc bs : Nat), jL_areResults_105 (lL_areResults_47 Φ n47) Φ x y g qf cf v4 v6 v7 bc bs → ∀ (cells slots : Nat), (cells + bc ≤ BC ∧ slots + bs ≤ BS) → ∀ (H : Heap) (locs : List Loc) (ls : Array Slot), va_P D vwCl (cW (LE qa ca cI qf cf E) ad wd cI cB cP cT (x, y, g)) H → va_D A (cW (LE qa ca cI qf cf E) ad wd cI cB cP cT (x, y, g)) → va_S A s.heap H locs → lv_has ls 8 [(0, .ref (ad 0 0)), (1, .ref qa), (4, .int v4), (6, .int v6), (7, .int v7)] → W p l e { frames := 9, cells := BC, slots := BS, locals := 259 } s m args below meth c H locs cells slots (MQ below (zQi D (cTy cI cB cP cT) (WL E qa ca ad wd cI cB cP cT) (fun r u => Φ r u.1.1 u.1.2.1 u.1.2.2 u.2.1 u.2.2) (cW (LE qa ca cI qf0 cf0 E) ad wd cI cB cP cT (x0, y0, g0)) s.heap.size) args s BC BS (va_A (cW (LE qa ca cI qf0 cf0 E) ad wd cI cB cP cT (x0, y0, g0)) s.heap.size)) (F0 m 105 ls []) := by
        intro x y g qf cf v4 v6 v7 bc bs h cells slots hB H locs ls hP hD hS hl
        unfold jL_areResults_105 at h
        refine lv_aload_n (pc := 105) hx hb dL_areResults_105 rfl (lv_at hl 0 rfl) ?_
        refine lv_iload (pc := 106) hx hb dL_areResults_106 (lv_at hl 3 rfl) ?_
        refine lv_iconst (pc := 108) (v := 0) hx hb dL_areResults_108 (by decide) ?_
        obtain ⟨kc_109, ks_109, bc_109, bs_109, ec_109, es_109, h⟩ := h
        refine lCallp (pc := 109) (E := LE qa ca cI qf cf E) (x := x) (y := y) (g := g) [.int v6, .int 0] hFc (kX8_result x y g v6 0 kc_109 ks_109 hlf h) (cwL_X8_result hts ⟨Nat.le_of_ble_eq_true rfl, Nat.le_of_ble_eq_true rfl⟩) (lRo hFc hP) hP hD hS rfl rfl hl.1 (Nat.le_of_ble_eq_true rfl) dL_areResults_109 ⟨by show _ ≤ BC; (try dsimp only); omega, by show _ ≤ BS; (try dsimp only); omega⟩ (fun E2 ce q9 x1 y1 g1 H locs h hP hD hS hce hcv hcl => h.elim) (fun r_109 H locs h hP hD hS => ?_)
        have hB : (cells + kc_109) + bc_109 ≤ BC ∧ (slots + ks_109) + bs_109 ≤ BS := ⟨by omega, by omega⟩
        refine lv_bipush (pc := 112) (v := 8) hx hb dL_areResults_112 (by decide) ?_
        refine lv_icmp_ge (pc := 114) (tgt := 144) hx hb dL_areResults_114 (by decide) (fun c_114 => ?_) (fun c_114 => ?_)
        · have h := h.1 c_114
          refine lv_iconst (pc := 144) (v := 0) hx hb dL_areResults_144 (by decide) ?_
          refine lv_istore (pc := 145) (lv' := [(5, .int 0), (0, .ref (ad 0 0)), (1, .ref qa), (4, .int v4), (6, .int v6), (7, .int v7)]) hx hb dL_areResults_145 hl (by decide) rfl (fun ls hl => ?_)
          obtain ⟨v6_147, e_v6_147⟩ : ∃ y : Int32, y = v6 + 1 := ⟨_, rfl⟩
          replace h := h v6_147 e_v6_147
          refine lv_iinc (pc := 147) (v := v6_147) (lv' := [(6, .int v6_147), (5, .int 0), (0, .ref (ad 0 0)), (1, .ref qa), (4, .int v4), (7, .int v7)]) hx hb dL_areResults_147 hl (k := 4) rfl (by rw [e_v6_147]; rfl) (by decide) rfl (fun ls hl => ?_)
          refine lv_goto (pc := 150) (tgt := 47) hx hb dL_areResults_150 (by decide) ?_
          exact ih47 x y g qf cf v4 0 v6_147 bc_109 bs_109 h _ _ hB _ _ _ hP hD hS (lv_sub hl [2, 3, 4, 1, 0] rfl)
        · have h := h.2 c_114
          refine lv_iload (pc := 117) hx hb dL_areResults_117 (lv_at hl 4 rfl) ?_
          refine lv_iconst (pc := 119) (v := 2) hx hb dL_areResults_119 (by decide) ?_
          refine lv_icmp_eq (pc := 120) (tgt := 140) hx hb dL_areResults_120 (by decide) (fun c_120 => ?_) (fun c_120 => ?_)
          · have h := h.1 c_120
            refine lv_iconst (pc := 140) (v := 1) hx hb dL_areResults_140 (by decide) ?_
            refine lv_goto (pc := 141) (tgt := 145) hx hb dL_areResults_141 (by decide) ?_
            refine lv_istore (pc := 145) (lv' := [(5, .int 1), (0, .ref (ad 0 0)), (1, .ref qa), (4, .int v4), (6, .int v6), (7, .int v7)]) hx hb dL_areResults_145 hl (by decide) rfl (fun ls hl => ?_)
            obtain ⟨v6_147, e_v6_147⟩ : ∃ y : Int32, y = v6 + 1 := ⟨_, rfl⟩
            replace h := h v6_147 e_v6_147
            refine lv_iinc (pc := 147) (v := v6_147) (lv' := [(6, .int v6_147), (5, .int 1), (0, .ref (ad 0 0)), (1, .ref qa), (4, .int v4), (7, .int v7)]) hx hb dL_areResults_147 hl (k := 4) rfl (by rw [e_v6_147]; rfl) (by decide) rfl (fun ls hl => ?_)
            refine lv_goto (pc := 150) (tgt := 47) hx hb dL_areResults_150 (by decide) ?_
            exact ih47 x y g qf cf v4 1 v6_147 bc_109 bs_109 h _ _ hB _ _ _ hP hD hS (lv_sub hl [2, 3, 4, 1, 0] rfl)
          · have h := h.2 c_120
            refine lv_iload (pc := 123) hx hb dL_areResults_123 (lv_at hl 4 rfl) ?_
            refine lv_aload_n (pc := 125) hx hb dL_areResults_125 rfl (lv_at hl 1 rfl) ?_
            refine lv_iconst (pc := 126) (v := 5) hx hb dL_areResults_126 (by decide) ?_
            refine lq_get (pc := 127) (v := (qf 5)) hF hP rfl (vp_in_iff.mpr (by decide)) dL_areResults_127 ?_
            refine lv_iconst (pc := 128) (v := 2) hx hb dL_areResults_128 (by decide) ?_
            refine lv_icmp_ge (pc := 129) (tgt := 136) hx hb dL_areResults_129 (by decide) (fun c_129 => ?_) (fun c_129 => ?_)
            · have h := h.1 c_129
              refine lv_iconst (pc := 136) (v := 1) hx hb dL_areResults_136 (by decide) ?_
              refine lv_icmp_ne (pc := 137) (tgt := 144) hx hb dL_areResults_137 (by decide) (fun c_137 => ?_) (fun c_137 => ?_)
              · have h := h.2 c_137
                refine lv_iconst (pc := 144) (v := 0) hx hb dL_areResults_144 (by decide) ?_
                refine lv_istore (pc := 145) (lv' := [(5, .int 0), (0, .ref (ad 0 0)), (1, .ref qa), (4, .int v4), (6, .int v6), (7, .int v7)]) hx hb dL_areResults_145 hl (by decide) rfl (fun ls hl => ?_)
                obtain ⟨v6_147, e_v6_147⟩ : ∃ y : Int32, y = v6 + 1 := ⟨_, rfl⟩
                replace h := h v6_147 e_v6_147
                refine lv_iinc (pc := 147) (v := v6_147) (lv' := [(6, .int v6_147), (5, .int 0), (0, .ref (ad 0 0)), (1, .ref qa), (4, .int v4), (7, .int v7)]) hx hb dL_areResults_147 hl (k := 4) rfl (by rw [e_v6_147]; rfl) (by decide) rfl (fun ls hl => ?_)
                refine lv_goto (pc := 150) (tgt := 47) hx hb dL_areResults_150 (by decide) ?_
                exact ih47 x y g qf cf v4 0 v6_147 bc_109 bs_109 h _ _ hB _ _ _ hP hD hS (lv_sub hl [2, 3, 4, 1, 0] rfl)
              · have h := h.1 c_137
                refine lv_iconst (pc := 140) (v := 1) hx hb dL_areResults_140 (by decide) ?_
                refine lv_goto (pc := 141) (tgt := 145) hx hb dL_areResults_141 (by decide) ?_
                refine lv_istore (pc := 145) (lv' := [(5, .int 1), (0, .ref (ad 0 0)), (1, .ref qa), (4, .int v4), (6, .int v6), (7, .int v7)]) hx hb dL_areResults_145 hl (by decide) rfl (fun ls hl => ?_)
                obtain ⟨v6_147, e_v6_147⟩ : ∃ y : Int32, y = v6 + 1 := ⟨_, rfl⟩
                replace h := h v6_147 e_v6_147
                refine lv_iinc (pc := 147) (v := v6_147) (lv' := [(6, .int v6_147), (5, .int 1), (0, .ref (ad 0 0)), (1, .ref qa), (4, .int v4), (7, .int v7)]) hx hb dL_areResults_147 hl (k := 4) rfl (by rw [e_v6_147]; rfl) (by decide) rfl (fun ls hl => ?_)
                refine lv_goto (pc := 150) (tgt := 47) hx hb dL_areResults_150 (by decide) ?_
                exact ih47 x y g qf cf v4 1 v6_147 bc_109 bs_109 h _ _ hB _ _ _ hP hD hS (lv_sub hl [2, 3, 4, 1, 0] rfl)
            · have h := h.2 c_129
              refine lv_iconst (pc := 132) (v := 0) hx hb dL_areResults_132 (by decide) ?_
              refine lv_goto (pc := 133) (tgt := 137) hx hb dL_areResults_133 (by decide) ?_
              refine lv_icmp_ne (pc := 137) (tgt := 144) hx hb dL_areResults_137 (by decide) (fun c_137 => ?_) (fun c_137 => ?_)
              · have h := h.2 c_137
                refine lv_iconst (pc := 144) (v := 0) hx hb dL_areResults_144 (by decide) ?_
                refine lv_istore (pc := 145) (lv' := [(5, .int 0), (0, .ref (ad 0 0)), (1, .ref qa), (4, .int v4), (6, .int v6), (7, .int v7)]) hx hb dL_areResults_145 hl (by decide) rfl (fun ls hl => ?_)
                obtain ⟨v6_147, e_v6_147⟩ : ∃ y : Int32, y = v6 + 1 := ⟨_, rfl⟩
                replace h := h v6_147 e_v6_147
                refine lv_iinc (pc := 147) (v := v6_147) (lv' := [(6, .int v6_147), (5, .int 0), (0, .ref (ad 0 0)), (1, .ref qa), (4, .int v4), (7, .int v7)]) hx hb dL_areResults_147 hl (k := 4) rfl (by rw [e_v6_147]; rfl) (by decide) rfl (fun ls hl => ?_)
                refine lv_goto (pc := 150) (tgt := 47) hx hb dL_areResults_150 (by decide) ?_
                exact ih47 x y g qf cf v4 0 v6_147 bc_109 bs_109 h _ _ hB _ _ _ hP hD hS (lv_sub hl [2, 3, 4, 1, 0] rfl)
              · have h := h.1 c_137
                refine lv_iconst (pc := 140) (v := 1) hx hb dL_areResults_140 (by decide) ?_
                refine lv_goto (pc := 141) (tgt := 145) hx hb dL_areResults_141 (by decide) ?_
                refine lv_istore (pc := 145) (lv' := [(5, .int 1), (0, .ref (ad 0 0)), (1, .ref qa), (4, .int v4), (6, .int v6), (7, .int v7)]) hx hb dL_areResults_145 hl (by decide) rfl (fun ls hl => ?_)
                obtain ⟨v6_147, e_v6_147⟩ : ∃ y : Int32, y = v6 + 1 := ⟨_, rfl⟩
                replace h := h v6_147 e_v6_147
                refine lv_iinc (pc := 147) (v := v6_147) (lv' := [(6, .int v6_147), (5, .int 1), (0, .ref (ad 0 0)), (1, .ref qa), (4, .int v4), (7, .int v7)]) hx hb dL_areResults_147 hl (k := 4) rfl (by rw [e_v6_147]; rfl) (by decide) rfl (fun ls hl => ?_)
                refine lv_goto (pc := 150) (tgt := 47) hx hb dL_areResults_150 (by decide) ?_
                exact ih47 x y g qf cf v4 1 v6_147 bc_109 bs_109 h _ _ hB _ _ _ hP hD hS (lv_sub hl [2, 3, 4, 1, 0] rfl)
      intro x y g qf cf v4 v5 v6 bc bs h cells slots hB H locs ls hP hD hS hl
      unfold lL_areResults_47 at h
      refine lv_iload (pc := 47) hx hb dL_areResults_47 (lv_at hl 4 rfl) ?_
      refine lv_iload (pc := 49) hx hb dL_areResults_49 (lv_at hl 2 rfl) ?_
      refine lv_icmp_ge (pc := 51) (tgt := 153) hx hb dL_areResults_51 (by decide) (fun c_51 => ?_) (fun c_51 => ?_)
      · have h := h.1 c_51
        refine lv_iload (pc := 153) hx hb dL_areResults_153 (lv_at hl 3 rfl) ?_
        obtain ⟨hz_155, h⟩ := h
        exact zirV (pc := 155) (Wd := WL E qa ca ad wd cI cB cP cT) (u := ((x, y, g), qf, cf)) hx hb hr hlocks hAe hK hP hD hS (znB hz_155) dL_areResults_155 (by (try dsimp only); omega) (by (try dsimp only); omega) h
      · have h := h.2 c_51
        refine lv_iload (pc := 54) hx hb dL_areResults_54 (lv_at hl 3 rfl) ?_
        refine lv_if_eq (pc := 56) (tgt := 153) hx hb dL_areResults_56 (by decide) (fun c_56 => ?_) (fun c_56 => ?_)
        · have h := h.1 c_56
          refine lv_iload (pc := 153) hx hb dL_areResults_153 (lv_at hl 3 rfl) ?_
          obtain ⟨hz_155, h⟩ := h
          exact zirV (pc := 155) (Wd := WL E qa ca ad wd cI cB cP cT) (u := ((x, y, g), qf, cf)) hx hb hr hlocks hAe hK hP hD hS (znB hz_155) dL_areResults_155 (by (try dsimp only); omega) (by (try dsimp only); omega) h
        · have h := h.2 c_56
          refine lv_aload_n (pc := 59) hx hb dL_areResults_59 rfl (lv_at hl 0 rfl) ?_
          refine lv_iload (pc := 60) hx hb dL_areResults_60 (lv_at hl 4 rfl) ?_
          refine lv_iconst (pc := 62) (v := 4) hx hb dL_areResults_62 (by decide) ?_
          obtain ⟨kc_63, ks_63, bc_63, bs_63, ec_63, es_63, h⟩ := h
          refine lCallp (pc := 63) (E := LE qa ca cI qf cf E) (x := x) (y := y) (g := g) [.int v6, .int 4] hFc (kX8_result x y g v6 4 kc_63 ks_63 hlf h) (cwL_X8_result hts ⟨Nat.le_of_ble_eq_true rfl, Nat.le_of_ble_eq_true rfl⟩) (lRo hFc hP) hP hD hS rfl rfl hl.1 (Nat.le_of_ble_eq_true rfl) dL_areResults_63 ⟨by show _ ≤ BC; (try dsimp only); omega, by show _ ≤ BS; (try dsimp only); omega⟩ (fun E2 ce q9 x1 y1 g1 H locs h hP hD hS hce hcv hcl => h.elim) (fun r_63 H locs h hP hD hS => ?_)
          have hB : (cells + kc_63) + bc_63 ≤ BC ∧ (slots + ks_63) + bs_63 ≤ BS := ⟨by omega, by omega⟩
          refine lv_istore (pc := 66) (lv' := [(7, .int r_63), (0, .ref (ad 0 0)), (1, .ref qa), (4, .int v4), (5, .int v5), (6, .int v6)]) hx hb dL_areResults_66 hl (by decide) rfl (fun ls hl => ?_)
          refine lv_aload_n (pc := 68) hx hb dL_areResults_68 rfl (lv_at hl 1 rfl) ?_
          refine lv_iload (pc := 69) hx hb dL_areResults_69 (lv_at hl 5 rfl) ?_
          refine lv_iconst (pc := 71) (v := 2) hx hb dL_areResults_71 (by decide) ?_
          obtain ⟨kc_72, ks_72, bc_72, bs_72, ec_72, es_72, h⟩ := h
          refine lCallp (pc := 72) (E := LE qa ca cI qf cf E) (x := x) (y := y) (g := g) [.int v6, .int 2] hFc (kX8_result x y g v6 2 kc_72 ks_72 hlf h) (cwL_X8_result hts ⟨Nat.le_of_ble_eq_true rfl, Nat.le_of_ble_eq_true rfl⟩) (lRo hFc hP) hP hD hS rfl rfl hl.1 (Nat.le_of_ble_eq_true rfl) dL_areResults_72 ⟨by show _ ≤ BC; (try dsimp only); omega, by show _ ≤ BS; (try dsimp only); omega⟩ (fun E2 ce q9 x1 y1 g1 H locs h hP hD hS hce hcv hcl => h.elim) (fun r_72 H locs h hP hD hS => ?_)
          have hB : ((cells + kc_63) + kc_72) + bc_72 ≤ BC ∧ ((slots + ks_63) + ks_72) + bs_72 ≤ BS := ⟨by omega, by omega⟩
          refine lv_aload_n (pc := 75) hx hb dL_areResults_75 rfl (lv_at hl 1 rfl) ?_
          refine lv_iload (pc := 76) hx hb dL_areResults_76 (lv_at hl 5 rfl) ?_
          refine lv_iconst (pc := 78) (v := 1) hx hb dL_areResults_78 (by decide) ?_
          obtain ⟨kc_79, ks_79, bc_79, bs_79, ec_79, es_79, h⟩ := h
          refine lCallp (pc := 79) (E := LE qa ca cI qf cf E) (x := x) (y := y) (g := g) [.int v6, .int 1] hFc (kX8_result x y g v6 1 kc_79 ks_79 hlf h) (cwL_X8_result hts ⟨Nat.le_of_ble_eq_true rfl, Nat.le_of_ble_eq_true rfl⟩) (lRo hFc hP) hP hD hS rfl rfl hl.1 (Nat.le_of_ble_eq_true rfl) dL_areResults_79 ⟨by show _ ≤ BC; (try dsimp only); omega, by show _ ≤ BS; (try dsimp only); omega⟩ (fun E2 ce q9 x1 y1 g1 H locs h hP hD hS hce hcv hcl => h.elim) (fun r_79 H locs h hP hD hS => ?_)
          have hB : (((cells + kc_63) + kc_72) + kc_79) + bc_79 ≤ BC ∧ (((slots + ks_63) + ks_72) + ks_79) + bs_79 ≤ BS := ⟨by omega, by omega⟩
          refine lv_icmp_le (pc := 82) (tgt := 144) hx hb dL_areResults_82 (by decide) (fun c_82 => ?_) (fun c_82 => ?_)
          · have h := h.1 c_82
            refine lv_iconst (pc := 144) (v := 0) hx hb dL_areResults_144 (by decide) ?_
            refine lv_istore (pc := 145) (lv' := [(5, .int 0), (7, .int r_63), (0, .ref (ad 0 0)), (1, .ref qa), (4, .int v4), (6, .int v6)]) hx hb dL_areResults_145 hl (by decide) rfl (fun ls hl => ?_)
            obtain ⟨v6_147, e_v6_147⟩ : ∃ y : Int32, y = v6 + 1 := ⟨_, rfl⟩
            replace h := h v6_147 e_v6_147
            refine lv_iinc (pc := 147) (v := v6_147) (lv' := [(6, .int v6_147), (5, .int 0), (7, .int r_63), (0, .ref (ad 0 0)), (1, .ref qa), (4, .int v4)]) hx hb dL_areResults_147 hl (k := 5) rfl (by rw [e_v6_147]; rfl) (by decide) rfl (fun ls hl => ?_)
            refine lv_goto (pc := 150) (tgt := 47) hx hb dL_areResults_150 (by decide) ?_
            exact ih47 x y g qf cf v4 0 v6_147 bc_79 bs_79 h _ _ hB _ _ _ hP hD hS (lv_sub hl [3, 4, 5, 1, 0] rfl)
          · have h := h.2 c_82
            refine lv_aload_n (pc := 85) hx hb dL_areResults_85 rfl (lv_at hl 1 rfl) ?_
            refine lv_iload (pc := 86) hx hb dL_areResults_86 (lv_at hl 5 rfl) ?_
            refine lv_iconst (pc := 88) (v := 2) hx hb dL_areResults_88 (by decide) ?_
            obtain ⟨kc_89, ks_89, bc_89, bs_89, ec_89, es_89, h⟩ := h
            refine lCallp (pc := 89) (E := LE qa ca cI qf cf E) (x := x) (y := y) (g := g) [.int v6, .int 2] hFc (kX8_result x y g v6 2 kc_89 ks_89 hlf h) (cwL_X8_result hts ⟨Nat.le_of_ble_eq_true rfl, Nat.le_of_ble_eq_true rfl⟩) (lRo hFc hP) hP hD hS rfl rfl hl.1 (Nat.le_of_ble_eq_true rfl) dL_areResults_89 ⟨by show _ ≤ BC; (try dsimp only); omega, by show _ ≤ BS; (try dsimp only); omega⟩ (fun E2 ce q9 x1 y1 g1 H locs h hP hD hS hce hcv hcl => h.elim) (fun r_89 H locs h hP hD hS => ?_)
            have hB : ((((cells + kc_63) + kc_72) + kc_79) + kc_89) + bc_89 ≤ BC ∧ ((((slots + ks_63) + ks_72) + ks_79) + ks_89) + bs_89 ≤ BS := ⟨by omega, by omega⟩
            refine lv_aload_n (pc := 92) hx hb dL_areResults_92 rfl (lv_at hl 1 rfl) ?_
            refine cVip (pc := 93) (E := LE qa ca cI qf cf E) (x := x) (y := y) (g := g) [] hFc (kX8_watermark x y g h) (cwL_X8_watermark hts ⟨Nat.le_of_ble_eq_true rfl, Nat.le_of_ble_eq_true rfl⟩) rfl (cA_S ..) hP hD hS rfl rfl hl.1 (Nat.le_of_ble_eq_true rfl) dL_areResults_93 ⟨by show _ ≤ BC; (try dsimp only); omega, by show _ ≤ BS; (try dsimp only); omega⟩ (fun r_93 H locs h hP hD hS => ?_)
            refine lv_icmp_le (pc := 96) (tgt := 105) hx hb dL_areResults_96 (by decide) (fun c_96 => ?_) (fun c_96 => ?_)
            · have h := h.1 c_96
              exact J105 x y g qf cf v4 v6 r_63 bc_89 bs_89 h _ _ hB _ _ _ hP hD hS (lv_sub hl [1, 2, 3, 5, 0] rfl)
            · have h := h.2 c_96
              refine lv_iload (pc := 99) hx hb dL_areResults_99 (lv_at hl 0 rfl) ?_
              refine lv_iconst (pc := 101) (v := 2) hx hb dL_areResults_101 (by decide) ?_
              refine lv_icmp_ne (pc := 102) (tgt := 144) hx hb dL_areResults_102 (by decide) (fun c_102 => ?_) (fun c_102 => ?_)
              · have h := h.2 c_102
                refine lv_iconst (pc := 144) (v := 0) hx hb dL_areResults_144 (by decide) ?_
                refine lv_istore (pc := 145) (lv' := [(5, .int 0), (7, .int r_63), (0, .ref (ad 0 0)), (1, .ref qa), (4, .int v4), (6, .int v6)]) hx hb dL_areResults_145 hl (by decide) rfl (fun ls hl => ?_)
                obtain ⟨v6_147, e_v6_147⟩ : ∃ y : Int32, y = v6 + 1 := ⟨_, rfl⟩
                replace h := h v6_147 e_v6_147
                refine lv_iinc (pc := 147) (v := v6_147) (lv' := [(6, .int v6_147), (5, .int 0), (7, .int r_63), (0, .ref (ad 0 0)), (1, .ref qa), (4, .int v4)]) hx hb dL_areResults_147 hl (k := 5) rfl (by rw [e_v6_147]; rfl) (by decide) rfl (fun ls hl => ?_)
                refine lv_goto (pc := 150) (tgt := 47) hx hb dL_areResults_150 (by decide) ?_
                exact ih47 x y g qf cf v4 0 v6_147 bc_89 bs_89 h _ _ hB _ _ _ hP hD hS (lv_sub hl [3, 4, 5, 1, 0] rfl)
              · have h := h.1 c_102
                exact J105 x y g qf cf v4 v6 r_63 bc_89 bs_89 h _ _ hB _ _ _ hP hD hS (lv_sub hl [1, 2, 3, 5, 0] rfl)
  unfold wL_areResults at h
  refine lv_aload_n (pc := 0) hx hb dL_areResults_0 rfl (lv_at hl 0 rfl) ?_
  refine cVip (pc := 1) (E := LE qa ca cI qf0 cf0 E) (x := x0) (y := y0) (g := g0) [] hFc (kX8_results x0 y0 g0 h) (cwL_X8_results hts ⟨Nat.le_of_ble_eq_true rfl, Nat.le_of_ble_eq_true rfl⟩) rfl (cA_S ..) hP hD hS rfl rfl hl.1 (Nat.le_of_ble_eq_true rfl) dL_areResults_1 ⟨by show _ ≤ BC; (try dsimp only); omega, by show _ ≤ BS; (try dsimp only); omega⟩ (fun r_1 H locs h hP hD hS => ?_)
  refine lv_istore (pc := 4) (lv' := [(4, .int r_1), (0, .ref (ad 0 0)), (1, .ref qa), (2, .ref ca), (3, .int a3)]) hx hb dL_areResults_4 hl (by decide) rfl (fun ls hl => ?_)
  refine lv_aload_n (pc := 6) hx hb dL_areResults_6 rfl (lv_at hl 1 rfl) ?_
  refine cVip (pc := 7) (E := LE qa ca cI qf0 cf0 E) (x := x0) (y := y0) (g := g0) [] hFc (kX8_committed x0 y0 g0 h) (cwL_X8_committed hts ⟨Nat.le_of_ble_eq_true rfl, Nat.le_of_ble_eq_true rfl⟩) rfl (cA_S ..) hP hD hS rfl rfl hl.1 (Nat.le_of_ble_eq_true rfl) dL_areResults_7 ⟨by show _ ≤ BC; (try dsimp only); omega, by show _ ≤ BS; (try dsimp only); omega⟩ (fun r_7 H locs h hP hD hS => ?_)
  refine lv_aload_n (pc := 10) hx hb dL_areResults_10 rfl (lv_at hl 3 rfl) ?_
  refine lv_iconst (pc := 11) (v := 4) hx hb dL_areResults_11 (by decide) ?_
  refine lc_get (pc := 12) (v := (cf0 4)) hF hP rfl (vp_in_iff.mpr (by decide)) dL_areResults_12 ?_
  refine lv_icmp_ne (pc := 13) (tgt := 41) hx hb dL_areResults_13 (by decide) (fun c_13 => ?_) (fun c_13 => ?_)
  · have h := h.2 c_13
    refine lv_iconst (pc := 41) (v := 0) hx hb dL_areResults_41 (by decide) ?_
    refine lv_istore (pc := 42) (lv' := [(5, .int 0), (4, .int r_1), (0, .ref (ad 0 0)), (1, .ref qa), (2, .ref ca), (3, .int a3)]) hx hb dL_areResults_42 hl (by decide) rfl (fun ls hl => ?_)
    refine lv_iload_n (pc := 44) hx hb dL_areResults_44 rfl (lv_at hl 5 rfl) ?_
    refine lv_istore (pc := 45) (lv' := [(6, .int a3), (5, .int 0), (4, .int r_1), (0, .ref (ad 0 0)), (1, .ref qa), (2, .ref ca), (3, .int a3)]) hx hb dL_areResults_45 hl (by decide) rfl (fun ls hl => ?_)
    obtain ⟨n47, h⟩ := h
    exact L47 n47 x0 y0 g0 qf0 cf0 r_1 0 a3 BC BS h _ _ hB _ _ _ hP hD hS (lv_sub hl [3, 4, 2, 1, 0] rfl)
  · have h := h.1 c_13
    refine lv_iload (pc := 16) hx hb dL_areResults_16 (lv_at hl 0 rfl) ?_
    refine lv_aload_n (pc := 18) hx hb dL_areResults_18 rfl (lv_at hl 3 rfl) ?_
    refine lv_iconst (pc := 19) (v := 4) hx hb dL_areResults_19 (by decide) ?_
    refine lc_get (pc := 20) (v := (cf0 4)) hF hP rfl (vp_in_iff.mpr (by decide)) dL_areResults_20 ?_
    refine lv_icmp_lt (pc := 21) (tgt := 41) hx hb dL_areResults_21 (by decide) (fun c_21 => ?_) (fun c_21 => ?_)
    · have h := h.1 c_21
      refine lv_iconst (pc := 41) (v := 0) hx hb dL_areResults_41 (by decide) ?_
      refine lv_istore (pc := 42) (lv' := [(5, .int 0), (4, .int r_1), (0, .ref (ad 0 0)), (1, .ref qa), (2, .ref ca), (3, .int a3)]) hx hb dL_areResults_42 hl (by decide) rfl (fun ls hl => ?_)
      refine lv_iload_n (pc := 44) hx hb dL_areResults_44 rfl (lv_at hl 5 rfl) ?_
      refine lv_istore (pc := 45) (lv' := [(6, .int a3), (5, .int 0), (4, .int r_1), (0, .ref (ad 0 0)), (1, .ref qa), (2, .ref ca), (3, .int a3)]) hx hb dL_areResults_45 hl (by decide) rfl (fun ls hl => ?_)
      obtain ⟨n47, h⟩ := h
      exact L47 n47 x0 y0 g0 qf0 cf0 r_1 0 a3 BC BS h _ _ hB _ _ _ hP hD hS (lv_sub hl [3, 4, 2, 1, 0] rfl)
    · have h := h.2 c_21
      refine lv_aload_n (pc := 24) hx hb dL_areResults_24 rfl (lv_at hl 1 rfl) ?_
      refine lv_iconst (pc := 25) (v := 5) hx hb dL_areResults_25 (by decide) ?_
      refine lv_iload (pc := 26) hx hb dL_areResults_26 (lv_at hl 0 rfl) ?_
      refine lv_iconst (pc := 28) (v := 0) hx hb dL_areResults_28 (by decide) ?_
      obtain ⟨kc_29, ks_29, bc_29, bs_29, ec_29, es_29, h⟩ := h
      refine lJi (pc := 29) (L := []) (wc := WL E qa ca ad wd cI cB cP cT ((x0, y0, g0), qf0, cf0)) (Wd := (WL E qa ca ad wd cI cB cP cT)) hA hP hD hS (lS (L := []) [.ref (ad 0 0), .int 5, .int r_1, .int 0] hF (kL_asks x0 y0 g0 qf0 cf0 5 r_1 0 kc_29 ks_29 hlf h) (cwL_L_asks hts ⟨Nat.le_of_ble_eq_true rfl, Nat.le_of_ble_eq_true rfl⟩) hP hD hS rfl rfl hl.1 (Nat.le_of_ble_eq_true rfl) dL_areResults_29 ⟨by show _ ≤ BC; (try dsimp only); omega, by show _ ≤ BS; (try dsimp only); omega⟩) (fun r_29 u H locs h hP hD hS => ?_)
      obtain ⟨⟨x_29, y_29, g_29⟩, qf_29, cf_29⟩ := u
      have hP : va_P D vwCl (cW (LE qa ca cI qf_29 cf_29 E) ad wd cI cB cP cT (x_29, y_29, g_29)) H := hP
      have hD : va_D A (cW (LE qa ca cI qf_29 cf_29 E) ad wd cI cB cP cT (x_29, y_29, g_29)) := hD
      have hB : (((0 + 0) + 0) + kc_29) + bc_29 ≤ BC ∧ (((0 + 0) + 0) + ks_29) + bs_29 ≤ BS := ⟨by omega, by omega⟩
      refine lv_ldc (pc := 32) (v := (-70007)) hx hb hown (hts _ lK_44) dL_areResults_32 ?_
      refine lv_icmp_ne (pc := 34) (tgt := 41) hx hb dL_areResults_34 (by decide) (fun c_34 => ?_) (fun c_34 => ?_)
      · have h := h.2 c_34
        refine lv_iconst (pc := 41) (v := 0) hx hb dL_areResults_41 (by decide) ?_
        refine lv_istore (pc := 42) (lv' := [(5, .int 0), (4, .int r_1), (0, .ref (ad 0 0)), (1, .ref qa), (2, .ref ca), (3, .int a3)]) hx hb dL_areResults_42 hl (by decide) rfl (fun ls hl => ?_)
        refine lv_iload_n (pc := 44) hx hb dL_areResults_44 rfl (lv_at hl 5 rfl) ?_
        refine lv_istore (pc := 45) (lv' := [(6, .int a3), (5, .int 0), (4, .int r_1), (0, .ref (ad 0 0)), (1, .ref qa), (2, .ref ca), (3, .int a3)]) hx hb dL_areResults_45 hl (by decide) rfl (fun ls hl => ?_)
        obtain ⟨n47, h⟩ := h
        exact L47 n47 x_29 y_29 g_29 qf_29 cf_29 r_1 0 a3 bc_29 bs_29 h _ _ hB _ _ _ hP hD hS (lv_sub hl [3, 4, 2, 1, 0] rfl)
      · have h := h.1 c_34
        refine lv_iconst (pc := 37) (v := 1) hx hb dL_areResults_37 (by decide) ?_
        refine lv_goto (pc := 38) (tgt := 42) hx hb dL_areResults_38 (by decide) ?_
        refine lv_istore (pc := 42) (lv' := [(5, .int 1), (4, .int r_1), (0, .ref (ad 0 0)), (1, .ref qa), (2, .ref ca), (3, .int a3)]) hx hb dL_areResults_42 hl (by decide) rfl (fun ls hl => ?_)
        refine lv_iload_n (pc := 44) hx hb dL_areResults_44 rfl (lv_at hl 5 rfl) ?_
        refine lv_istore (pc := 45) (lv' := [(6, .int a3), (5, .int 1), (4, .int r_1), (0, .ref (ad 0 0)), (1, .ref qa), (2, .ref ca), (3, .int a3)]) hx hb dL_areResults_45 hl (by decide) rfl (fun ls hl => ?_)
        obtain ⟨n47, h⟩ := h
        exact L47 n47 x_29 y_29 g_29 qf_29 cf_29 r_1 1 a3 bc_29 bs_29 h _ _ hB _ _ _ hP hD hS (lv_sub hl [3, 4, 2, 1, 0] rfl)

def jL_begins_354 (Φ : Int32 → (Nat → Nat → Int32) → (Nat → Nat → Nat) → (Nat → Nat → Nat → Int32) → (Nat → Int32) → (Nat → Int32) → Prop) (x : Nat → Nat → Int32) (y : Nat → Nat → Nat) (g : Nat → Nat → Nat → Int32) (qf cf wf : Nat → Int32) (bc bs : Nat) : Prop := (∀ cf_362 : Nat → Int32, cf_362 = (upd cf 6 1) → (Φ 0 x y g qf cf_362))
def jL_begins_268 (Φ : Int32 → (Nat → Nat → Int32) → (Nat → Nat → Nat) → (Nat → Nat → Nat → Int32) → (Nat → Int32) → (Nat → Int32) → Prop) (x : Nat → Nat → Int32) (y : Nat → Nat → Nat) (g : Nat → Nat → Nat → Int32) (qf cf wf : Nat → Int32) (v7 : Int32) (s0 : Int32) (bc bs : Nat) : Prop := ((v7 = 0 → (∀ cf_279 : Nat → Int32, cf_279 = (upd cf 3 0) → (∀ cf_284 : Nat → Int32, cf_284 = (upd cf_279 4 0) → (∀ cf_289 : Nat → Int32, cf_289 = (upd cf_284 5 0) → (∀ cf_295 : Nat → Int32, cf_295 = (upd cf_289 8 (-1)) → ((s0 = 0 → (jL_begins_354 Φ x y g qf cf_295 wf bc bs)) ∧ (¬ s0 = 0 → (wX8_results x y g (fun r_302 => ((r_302 = 0 → (wX8_watermark x y g (fun r_309 => ((r_309 = (-1) → (wX8_tooLate x y g (fun r_317 => ((r_317 = 0 → (∃ kc_325 ks_325 bc_325 bs_325 : Nat, kc_325 + bc_325 ≤ bc ∧ ks_325 + bs_325 ≤ bs ∧ (wX8_read x y g 0 kc_325 ks_325 (fun r_325 => (∃ kc_330 ks_330 bc_330 bs_330 : Nat, kc_330 + bc_330 ≤ bc_325 ∧ ks_330 + bs_330 ≤ bs_325 ∧ (wX8_read x y g 1 kc_330 ks_330 (fun r_330 => (∃ kc_336 ks_336 bc_336 bs_336 : Nat, kc_336 + bc_336 ≤ bc_330 ∧ ks_336 + bs_336 ≤ bs_330 ∧ (wX8_read x y g 2 kc_336 ks_336 (fun r_336 => ((((r_325 + r_330) + r_336) = 0 → (wX8_doubtful x y g (fun r_344 => ((r_344 = 0 → (∀ cf_362 : Nat → Int32, cf_362 = (upd cf_295 6 1) → (Φ 1 x y g qf cf_362))) ∧ (¬ r_344 = 0 → (jL_begins_354 Φ x y g qf cf_295 wf bc_336 bs_336)))))) ∧ (¬ ((r_325 + r_330) + r_336) = 0 → (jL_begins_354 Φ x y g qf cf_295 wf bc_336 bs_336)))) (fun _ _ _ _ => False)))) (fun _ _ _ _ => False)))) (fun _ _ _ _ => False)))) ∧ (¬ r_317 = 0 → (jL_begins_354 Φ x y g qf cf_295 wf bc bs)))))) ∧ (¬ r_309 = (-1) → (jL_begins_354 Φ x y g qf cf_295 wf bc bs)))))) ∧ (¬ r_302 = 0 → (jL_begins_354 Φ x y g qf cf_295 wf bc bs)))))))))))) ∧ (¬ v7 = 0 → (∀ cf_362 : Nat → Int32, cf_362 = (upd cf 6 1) → ((s0 = 0 ∨ s0 = 1) ∧ (Φ s0 x y g qf cf_362)))))
def jL_begins_267 (Φ : Int32 → (Nat → Nat → Int32) → (Nat → Nat → Nat) → (Nat → Nat → Nat → Int32) → (Nat → Int32) → (Nat → Int32) → Prop) (x : Nat → Nat → Int32) (y : Nat → Nat → Nat) (g : Nat → Nat → Nat → Int32) (qf cf wf : Nat → Int32) (v7 : Int32) (bc bs : Nat) : Prop := (jL_begins_268 Φ x y g qf cf wf v7 0 bc bs)
def jL_begins_244 (Φ : Int32 → (Nat → Nat → Int32) → (Nat → Nat → Nat) → (Nat → Nat → Nat → Int32) → (Nat → Int32) → (Nat → Int32) → Prop) (x : Nat → Nat → Int32) (y : Nat → Nat → Nat) (g : Nat → Nat → Nat → Int32) (qf cf wf : Nat → Int32) (v7 : Int32) (v11 : Int32) (s0 : Int32) (s1 : Int32) (bc bs : Nat) : Prop := ((s0 = s1 → (wX8_windows x y g (fun r_248 => ((r_248 = v11 → (∃ kc_257 ks_257 bc_257 bs_257 : Nat, kc_257 + bc_257 ≤ bc ∧ ks_257 + bs_257 ≤ bs ∧ (wX8_wipe x y g kc_257 ks_257 (fun r_257 x_257 y_257 g_257 => ((r_257 = 0 → (jL_begins_268 Φ x_257 y_257 g_257 qf cf wf v7 1 bc_257 bs_257)) ∧ (¬ r_257 = 0 → (jL_begins_267 Φ x_257 y_257 g_257 qf cf wf v7 bc_257 bs_257))))))) ∧ (¬ r_248 = v11 → (jL_begins_267 Φ x y g qf cf wf v7 bc bs)))))) ∧ (¬ s0 = s1 → (jL_begins_267 Φ x y g qf cf wf v7 bc bs)))
def jL_begins_226 (Φ : Int32 → (Nat → Nat → Int32) → (Nat → Nat → Nat) → (Nat → Nat → Nat → Int32) → (Nat → Int32) → (Nat → Int32) → Prop) (x : Nat → Nat → Int32) (y : Nat → Nat → Nat) (g : Nat → Nat → Nat → Int32) (qf cf wf : Nat → Int32) (v7 : Int32) (v8 : Int32) (v10 : Int32) (v11 : Int32) (bc bs : Nat) : Prop := ((v10 = 0 → (jL_begins_267 Φ x y g qf cf wf v7 bc bs)) ∧ (¬ v10 = 0 → ((v7 = 0 → (jL_begins_244 Φ x y g qf cf wf v7 v11 v11 0 bc bs)) ∧ (¬ v7 = 0 → (jL_begins_244 Φ x y g qf cf wf v7 v11 v11 v8 bc bs)))))
def jL_begins_210 (Φ : Int32 → (Nat → Nat → Int32) → (Nat → Nat → Nat) → (Nat → Nat → Nat → Int32) → (Nat → Int32) → (Nat → Int32) → Prop) (x : Nat → Nat → Int32) (y : Nat → Nat → Nat) (g : Nat → Nat → Nat → Int32) (qf cf wf : Nat → Int32) (s0 : Int32) (s1 : Int32) (bc bs : Nat) : Prop := ((s0 = s1 → (∃ kc_214 ks_214 bc_214 bs_214 : Nat, kc_214 + bc_214 ≤ bc ∧ ks_214 + bs_214 ≤ bs ∧ (wX8_wipe x y g kc_214 ks_214 (fun r_214 x_214 y_214 g_214 => ((r_214 ≤ 0 → (Φ 0 x_214 y_214 g_214 qf cf)) ∧ (¬ r_214 ≤ 0 → (Φ 1 x_214 y_214 g_214 qf cf))))))) ∧ (¬ s0 = s1 → (Φ 0 x y g qf cf)))
def lL_begins_169 (Φ : Int32 → (Nat → Nat → Int32) → (Nat → Nat → Nat) → (Nat → Nat → Nat → Int32) → (Nat → Int32) → (Nat → Int32) → Prop) : Nat → (Nat → Nat → Int32) → (Nat → Nat → Nat) → (Nat → Nat → Nat → Int32) → (Nat → Int32) → (Nat → Int32) → (Nat → Int32) → Int32 → Int32 → Int32 → Int32 → Nat → Nat → Prop
  | 0, _, _, _, _, _, _, _, _, _, _, _, _ => False
  | n169 + 1, x, y, g, qf, cf, wf, v6, v10, v11, v12, bc, bs => ((7 ≤ v12 → ((v10 = 0 → (Φ 0 x y g qf cf)) ∧ (¬ v10 = 0 → ((v6 = 0 → (jL_begins_210 Φ x y g qf cf wf v11 (-70009) bc bs)) ∧ (¬ v6 = 0 → (jL_begins_210 Φ x y g qf cf wf v11 (-70008) bc bs)))))) ∧ (¬ 7 ≤ v12 → (vp_in v12 7 ∧ (vp_in v12 7 ∧ (∀ qf_184 : Nat → Int32, qf_184 = (upd qf v12.toNatClampNeg (wf v12.toNatClampNeg)) → (∀ v12_185 : Int32, v12_185 = v12 + 1 → ((lL_begins_169 Φ n169) x y g qf_184 cf wf v6 v10 v11 v12_185 bc bs)))))))
def jL_begins_141 (Φ : Int32 → (Nat → Nat → Int32) → (Nat → Nat → Nat) → (Nat → Nat → Nat → Int32) → (Nat → Int32) → (Nat → Int32) → Prop) (x : Nat → Nat → Int32) (y : Nat → Nat → Nat) (g : Nat → Nat → Nat → Int32) (qf cf wf : Nat → Int32) (v6 : Int32) (v7 : Int32) (v8 : Int32) (v9 : Int32) (s0 : Int32) (bc bs : Nat) : Prop := (∃ kc_146 ks_146 bc_146 bs_146 : Nat, kc_146 + bc_146 ≤ bc ∧ ks_146 + bs_146 ≤ bs ∧ (wL_plans x y g qf cf v7 kc_146 ks_146 (fun r_146 x_146 y_146 g_146 qf_146 cf_146 => ((v6 = 0 → (∃ n169 : Nat, lL_begins_169 Φ n169 x_146 y_146 g_146 qf_146 cf_146 wf v6 s0 r_146 0 bc_146 bs_146)) ∧ (¬ v6 = 0 → ((v7 = 0 → (jL_begins_226 Φ x_146 y_146 g_146 qf_146 cf_146 wf v7 v8 s0 r_146 bc_146 bs_146)) ∧ (¬ v7 = 0 → ((v9 = 0 → (∃ n169 : Nat, lL_begins_169 Φ n169 x_146 y_146 g_146 qf_146 cf_146 wf v6 s0 r_146 0 bc_146 bs_146)) ∧ (¬ v9 = 0 → (jL_begins_226 Φ x_146 y_146 g_146 qf_146 cf_146 wf v7 v8 s0 r_146 bc_146 bs_146))))))))))
def jL_begins_126 (Φ : Int32 → (Nat → Nat → Int32) → (Nat → Nat → Nat) → (Nat → Nat → Nat → Int32) → (Nat → Int32) → (Nat → Int32) → Prop) (x : Nat → Nat → Int32) (y : Nat → Nat → Nat) (g : Nat → Nat → Nat → Int32) (qf cf wf : Nat → Int32) (v6 : Int32) (v7 : Int32) (v8 : Int32) (s0 : Int32) (bc bs : Nat) : Prop := (∃ kc_129 ks_129 bc_129 bs_129 : Nat, kc_129 + bc_129 ≤ bc ∧ ks_129 + bs_129 ≤ bs ∧ (wX8_fault x y g kc_129 ks_129 (fun r_129 x_129 y_129 g_129 => ((r_129 = (-1) → (jL_begins_141 Φ x_129 y_129 g_129 qf cf wf v6 v7 v8 s0 1 bc_129 bs_129)) ∧ (¬ r_129 = (-1) → (jL_begins_141 Φ x_129 y_129 g_129 qf cf wf v6 v7 v8 s0 0 bc_129 bs_129))))))
def jL_begins_125 (Φ : Int32 → (Nat → Nat → Int32) → (Nat → Nat → Nat) → (Nat → Nat → Nat → Int32) → (Nat → Int32) → (Nat → Int32) → Prop) (x : Nat → Nat → Int32) (y : Nat → Nat → Nat) (g : Nat → Nat → Nat → Int32) (qf cf wf : Nat → Int32) (v6 : Int32) (v7 : Int32) (v8 : Int32) (bc bs : Nat) : Prop := (jL_begins_126 Φ x y g qf cf wf v6 v7 v8 0 bc bs)
def jL_begins_54 (Φ : Int32 → (Nat → Nat → Int32) → (Nat → Nat → Nat) → (Nat → Nat → Nat → Int32) → (Nat → Int32) → (Nat → Int32) → Prop) (x : Nat → Nat → Int32) (y : Nat → Nat → Nat) (g : Nat → Nat → Nat → Int32) (qf cf wf : Nat → Int32) (v6 : Int32) (s0 : Int32) (bc bs : Nat) : Prop := (wX8_windows x y g (fun r_57 => (((cf 6) = 1 → (((qf 0) = (wf 0) → (((qf 1) = (wf 1) → (((qf 2) = (wf 2) → (((qf 3) = (wf 3) → (((wf 4) < (qf 4) → (jL_begins_125 Φ x y g qf cf wf v6 s0 r_57 bc bs)) ∧ (¬ (wf 4) < (qf 4) → (jL_begins_126 Φ x y g qf cf wf v6 s0 r_57 1 bc bs)))) ∧ (¬ (qf 3) = (wf 3) → (jL_begins_125 Φ x y g qf cf wf v6 s0 r_57 bc bs)))) ∧ (¬ (qf 2) = (wf 2) → (jL_begins_125 Φ x y g qf cf wf v6 s0 r_57 bc bs)))) ∧ (¬ (qf 1) = (wf 1) → (jL_begins_125 Φ x y g qf cf wf v6 s0 r_57 bc bs)))) ∧ (¬ (qf 0) = (wf 0) → (jL_begins_125 Φ x y g qf cf wf v6 s0 r_57 bc bs)))) ∧ (¬ (cf 6) = 1 → (jL_begins_125 Φ x y g qf cf wf v6 s0 r_57 bc bs)))))
def lL_begins_9 (Φ : Int32 → (Nat → Nat → Int32) → (Nat → Nat → Nat) → (Nat → Nat → Nat → Int32) → (Nat → Int32) → (Nat → Int32) → Prop) : Nat → (Nat → Nat → Int32) → (Nat → Nat → Nat) → (Nat → Nat → Nat → Int32) → (Nat → Int32) → (Nat → Int32) → (Nat → Int32) → Int32 → Int32 → Int32 → Nat → Nat → Prop
  | 0, _, _, _, _, _, _, _, _, _, _, _ => False
  | n9 + 1, x, y, g, qf, cf, wf, v1, v2, v6, bc, bs => ((7 ≤ v6 → (∃ kc_35 ks_35 bc_35 bs_35 : Nat, kc_35 + bc_35 ≤ bc ∧ ks_35 + bs_35 ≤ bs ∧ (wL_queries x y g qf cf v1 v2 kc_35 ks_35 (fun r_35 x_35 y_35 g_35 qf_35 cf_35 => ((((v1 / 43200) - (v1 / 43200) / 3 * 3) = 0 → (jL_begins_54 Φ x_35 y_35 g_35 qf_35 cf_35 wf r_35 1 bc_35 bs_35)) ∧ (¬ ((v1 / 43200) - (v1 / 43200) / 3 * 3) = 0 → (jL_begins_54 Φ x_35 y_35 g_35 qf_35 cf_35 wf r_35 0 bc_35 bs_35))))))) ∧ (¬ 7 ≤ v6 → (vp_in v6 7 ∧ (vp_in v6 7 ∧ (∀ wf_24 : Nat → Int32, wf_24 = (upd wf v6.toNatClampNeg (qf v6.toNatClampNeg)) → (∀ v6_25 : Int32, v6_25 = v6 + 1 → ((lL_begins_9 Φ n9) x y g qf cf wf_24 v1 v2 v6_25 bc bs)))))))
def wL_begins (x : Nat → Nat → Int32) (y : Nat → Nat → Nat) (g : Nat → Nat → Nat → Int32) (qf cf : Nat → Int32) (a1 : Int32) (a2 : Int32) (bc bs : Nat) (Φ : Int32 → (Nat → Nat → Int32) → (Nat → Nat → Nat) → (Nat → Nat → Nat → Int32) → (Nat → Int32) → (Nat → Int32) → Prop) : Prop := (∃ bc_2 bs_2 : Nat, 1 + bc_2 ≤ bc ∧ 7 + bs_2 ≤ bs ∧ (∃ n9 : Nat, lL_begins_9 Φ n9 x y g qf cf (fun _ => 0) a1 a2 0 bc_2 bs_2))
set_option maxRecDepth 100000 in
set_option maxHeartbeats 4000000 in
theorem kL_begins {l : Launch} {D : va_G} {E : va_W} {qa ca : Nat} {ad : Nat → Nat → Nat} {wd sk : Nat → Nat} {cI cB cP cT : ClassId} {sz : Nat} (x0 : Nat → Nat → Int32) (y0 : Nat → Nat → Nat) (g0 : Nat → Nat → Nat → Int32) (qf0 cf0 : Nat → Int32) (a1 : Int32) (a2 : Int32) (BC BS : Nat) {Φ : Int32 → (Nat → Nat → Int32) → (Nat → Nat → Nat) → (Nat → Nat → Nat → Int32) → (Nat → Int32) → (Nat → Int32) → Prop} (hlf : l.stackTraces = false) (h : wL_begins x0 y0 g0 qf0 cf0 a1 a2 BC BS Φ) : Met l yL_begins (zws yL_begins cL_begins 13 (some .boolean)) { frames := 10, cells := BC, slots := BS, locals := 267 } (zPc D (cTy cI cB cP cT) (lX wd sk) (cW (LE qa ca cI qf0 cf0 E) ad wd cI cB cP cT (x0, y0, g0)) [.ref (ad 0 0), .int a1, .int a2, .ref qa, .ref ca] sz) (zQi D (cTy cI cB cP cT) (WL E qa ca ad wd cI cB cP cT) (fun r u => Φ r u.1.1 u.1.2.1 u.1.2.2 u.2.1 u.2.2) (cW (LE qa ca cI qf0 cf0 E) ad wd cI cB cP cT (x0, y0, g0)) sz) BC BS (va_A (cW (LE qa ca cI qf0 cf0 E) ad wd cI cB cP cT (x0, y0, g0)) sz) := by
  refine zMet (by decide) (Nat.le_of_ble_eq_true rfl) ?_
  intro p e s m args below meth c A hx hb hr hml hown hts hlocks hsz hAe hA hS hP hK hD hX ls hl
  subst hsz
  have hF : zFx p s m args c cL_begins RL A D (cTy cI cB cP cT) (lX wd sk) 13 := ⟨hx, hb, hml, hown, hts, hA, hK, lX_cl wd sk, hX⟩
  have hFc : zFx p s m args c cL_begins RL A D (cTy cI cB cP cT) (cX wd sk) 13 := ⟨hx, hb, hml, hown, hts, hA, hK, cX_cl wd sk, hX.1⟩
  have hl : lv_has ls 13 [(0, .ref (ad 0 0)), (1, .int a1), (2, .int a2), (3, .ref qa), (4, .ref ca)] := hl
  have hB : 0 + BC ≤ BC ∧ 0 + BS ≤ BS := ⟨by omega, by omega⟩
  have J354 : ∀ (x : Nat → Nat → Int32) (y : Nat → Nat → Nat) (g : Nat → Nat → Nat → Int32) (qf cf wf : Nat → Int32) (bc bs : Nat), jL_begins_354 Φ x y g qf cf wf bc bs → ∀ wq : Nat, ∀ (cells slots : Nat), (cells + bc ≤ BC ∧ slots + bs ≤ BS) → ∀ (H : Heap) (locs : List Loc) (ls : Array Slot), va_P D vwCl (cW (LE qa ca cI qf cf (WE E wq cI wf)) ad wd cI cB cP cT (x, y, g)) H → va_D A (cW (LE qa ca cI qf cf (WE E wq cI wf)) ad wd cI cB cP cT (x, y, g)) → va_S A s.heap H locs → lv_has ls 13 [(4, .ref ca)] → W p l e { frames := 10, cells := BC, slots := BS, locals := 267 } s m args below meth c H locs cells slots (MQ below (zQi D (cTy cI cB cP cT) (WL E qa ca ad wd cI cB cP cT) (fun r u => Φ r u.1.1 u.1.2.1 u.1.2.2 u.2.1 u.2.2) (cW (LE qa ca cI qf0 cf0 E) ad wd cI cB cP cT (x0, y0, g0)) s.heap.size) args s BC BS (va_A (cW (LE qa ca cI qf0 cf0 E) ad wd cI cB cP cT (x0, y0, g0)) s.heap.size)) (F0 m 354 ls []) := by
    intro x y g qf cf wf  bc bs h wq cells slots hB H locs ls hP hD hS hl
    unfold jL_begins_354 at h
    refine lv_iconst (pc := 354) (v := 0) hx hb dL_begins_354 (by decide) ?_
    refine lv_istore (pc := 355) (lv' := [(10, .int 0), (4, .ref ca)]) hx hb dL_begins_355 hl (by decide) rfl (fun ls hl => ?_)
    refine lv_aload (pc := 357) hx hb dL_begins_357 (lv_at hl 1 rfl) ?_
    refine lv_bipush (pc := 359) (v := 6) hx hb dL_begins_359 (by decide) ?_
    refine lv_iconst (pc := 361) (v := 1) hx hb dL_begins_361 (by decide) ?_
    obtain ⟨cf_362, e_cf_362⟩ : ∃ z : Nat → Int32, z = (upd cf 6 1) := ⟨_, rfl⟩
    replace h := h cf_362 e_cf_362
    refine lc_set (pc := 362) (v := 1) (f := cf_362) hF hP hD hS e_cf_362.symm (vp_in_iff.mpr (by decide)) dL_begins_362 (fun H locs hP hD hS => ?_)
    refine lv_iload (pc := 363) hx hb dL_begins_363 (lv_at hl 0 rfl) ?_
    have hP := lE_dropP hP
    have hD := lE_dropD hD
    exact zirV (pc := 365) (Wd := WL E qa ca ad wd cI cB cP cT) (u := ((x, y, g), qf, cf_362)) hx hb hr hlocks hAe hK hP hD hS rfl dL_begins_365 (by (try dsimp only); omega) (by (try dsimp only); omega) h
  have J268 : ∀ (x : Nat → Nat → Int32) (y : Nat → Nat → Nat) (g : Nat → Nat → Nat → Int32) (qf cf wf : Nat → Int32) (v7 : Int32) (s0 : Int32) (bc bs : Nat), jL_begins_268 Φ x y g qf cf wf v7 s0 bc bs → ∀ wq : Nat, ∀ (cells slots : Nat), (cells + bc ≤ BC ∧ slots + bs ≤ BS) → ∀ (H : Heap) (locs : List Loc) (ls : Array Slot), va_P D vwCl (cW (LE qa ca cI qf cf (WE E wq cI wf)) ad wd cI cB cP cT (x, y, g)) H → va_D A (cW (LE qa ca cI qf cf (WE E wq cI wf)) ad wd cI cB cP cT (x, y, g)) → va_S A s.heap H locs → lv_has ls 13 [(0, .ref (ad 0 0)), (4, .ref ca), (7, .int v7)] → W p l e { frames := 10, cells := BC, slots := BS, locals := 267 } s m args below meth c H locs cells slots (MQ below (zQi D (cTy cI cB cP cT) (WL E qa ca ad wd cI cB cP cT) (fun r u => Φ r u.1.1 u.1.2.1 u.1.2.2 u.2.1 u.2.2) (cW (LE qa ca cI qf0 cf0 E) ad wd cI cB cP cT (x0, y0, g0)) s.heap.size) args s BC BS (va_A (cW (LE qa ca cI qf0 cf0 E) ad wd cI cB cP cT (x0, y0, g0)) s.heap.size)) (F0 m 268 ls [.int s0]) := by
    intro x y g qf cf wf v7 s0 bc bs h wq cells slots hB H locs ls hP hD hS hl
    unfold jL_begins_268 at h
    refine lv_istore (pc := 268) (lv' := [(10, .int s0), (0, .ref (ad 0 0)), (4, .ref ca), (7, .int v7)]) hx hb dL_begins_268 hl (by decide) rfl (fun ls hl => ?_)
    refine lv_iload (pc := 270) hx hb dL_begins_270 (lv_at hl 3 rfl) ?_
    refine lv_if_ne (pc := 272) (tgt := 357) hx hb dL_begins_272 (by decide) (fun c_272 => ?_) (fun c_272 => ?_)
    · have h := h.2 c_272
      refine lv_aload (pc := 357) hx hb dL_begins_357 (lv_at hl 2 rfl) ?_
      refine lv_bipush (pc := 359) (v := 6) hx hb dL_begins_359 (by decide) ?_
      refine lv_iconst (pc := 361) (v := 1) hx hb dL_begins_361 (by decide) ?_
      obtain ⟨cf_362, e_cf_362⟩ : ∃ z : Nat → Int32, z = (upd cf 6 1) := ⟨_, rfl⟩
      replace h := h cf_362 e_cf_362
      refine lc_set (pc := 362) (v := 1) (f := cf_362) hF hP hD hS e_cf_362.symm (vp_in_iff.mpr (by decide)) dL_begins_362 (fun H locs hP hD hS => ?_)
      refine lv_iload (pc := 363) hx hb dL_begins_363 (lv_at hl 0 rfl) ?_
      obtain ⟨hz_365, h⟩ := h
      have hP := lE_dropP hP
      have hD := lE_dropD hD
      exact zirV (pc := 365) (Wd := WL E qa ca ad wd cI cB cP cT) (u := ((x, y, g), qf, cf_362)) hx hb hr hlocks hAe hK hP hD hS (znB hz_365) dL_begins_365 (by (try dsimp only); omega) (by (try dsimp only); omega) h
    · have h := h.1 c_272
      refine lv_aload (pc := 275) hx hb dL_begins_275 (lv_at hl 2 rfl) ?_
      refine lv_iconst (pc := 277) (v := 3) hx hb dL_begins_277 (by decide) ?_
      refine lv_iconst (pc := 278) (v := 0) hx hb dL_begins_278 (by decide) ?_
      obtain ⟨cf_279, e_cf_279⟩ : ∃ z : Nat → Int32, z = (upd cf 3 0) := ⟨_, rfl⟩
      replace h := h cf_279 e_cf_279
      refine lc_set (pc := 279) (v := 0) (f := cf_279) hF hP hD hS e_cf_279.symm (vp_in_iff.mpr (by decide)) dL_begins_279 (fun H locs hP hD hS => ?_)
      refine lv_aload (pc := 280) hx hb dL_begins_280 (lv_at hl 2 rfl) ?_
      refine lv_iconst (pc := 282) (v := 4) hx hb dL_begins_282 (by decide) ?_
      refine lv_iconst (pc := 283) (v := 0) hx hb dL_begins_283 (by decide) ?_
      obtain ⟨cf_284, e_cf_284⟩ : ∃ z : Nat → Int32, z = (upd cf_279 4 0) := ⟨_, rfl⟩
      replace h := h cf_284 e_cf_284
      refine lc_set (pc := 284) (v := 0) (f := cf_284) hF hP hD hS e_cf_284.symm (vp_in_iff.mpr (by decide)) dL_begins_284 (fun H locs hP hD hS => ?_)
      refine lv_aload (pc := 285) hx hb dL_begins_285 (lv_at hl 2 rfl) ?_
      refine lv_iconst (pc := 287) (v := 5) hx hb dL_begins_287 (by decide) ?_
      refine lv_iconst (pc := 288) (v := 0) hx hb dL_begins_288 (by decide) ?_
      obtain ⟨cf_289, e_cf_289⟩ : ∃ z : Nat → Int32, z = (upd cf_284 5 0) := ⟨_, rfl⟩
      replace h := h cf_289 e_cf_289
      refine lc_set (pc := 289) (v := 0) (f := cf_289) hF hP hD hS e_cf_289.symm (vp_in_iff.mpr (by decide)) dL_begins_289 (fun H locs hP hD hS => ?_)
      refine lv_aload (pc := 290) hx hb dL_begins_290 (lv_at hl 2 rfl) ?_
      refine lv_bipush (pc := 292) (v := 8) hx hb dL_begins_292 (by decide) ?_
      refine lv_iconst (pc := 294) (v := (-1)) hx hb dL_begins_294 (by decide) ?_
      obtain ⟨cf_295, e_cf_295⟩ : ∃ z : Nat → Int32, z = (upd cf_289 8 (-1)) := ⟨_, rfl⟩
      replace h := h cf_295 e_cf_295
      refine lc_set (pc := 295) (v := (-1)) (f := cf_295) hF hP hD hS e_cf_295.symm (vp_in_iff.mpr (by decide)) dL_begins_295 (fun H locs hP hD hS => ?_)
      refine lv_iload (pc := 296) hx hb dL_begins_296 (lv_at hl 0 rfl) ?_
      refine lv_if_eq (pc := 298) (tgt := 354) hx hb dL_begins_298 (by decide) (fun c_298 => ?_) (fun c_298 => ?_)
      · have h := h.1 c_298
        exact J354 x y g qf cf_295 wf bc bs h wq _ _ hB _ _ _ hP hD hS (lv_sub hl [2] rfl)
      · have h := h.2 c_298
        refine lv_aload_n (pc := 301) hx hb dL_begins_301 rfl (lv_at hl 1 rfl) ?_
        refine cVip (pc := 302) (E := LE qa ca cI qf cf_295 (WE E wq cI wf)) (x := x) (y := y) (g := g) [] hFc (kX8_results x y g h) (cwL_X8_results hts ⟨Nat.le_of_ble_eq_true rfl, Nat.le_of_ble_eq_true rfl⟩) rfl (cA_S ..) hP hD hS rfl rfl hl.1 (Nat.le_of_ble_eq_true rfl) dL_begins_302 ⟨by show _ ≤ BC; (try dsimp only); omega, by show _ ≤ BS; (try dsimp only); omega⟩ (fun r_302 H locs h hP hD hS => ?_)
        refine lv_if_ne (pc := 305) (tgt := 354) hx hb dL_begins_305 (by decide) (fun c_305 => ?_) (fun c_305 => ?_)
        · have h := h.2 c_305
          exact J354 x y g qf cf_295 wf bc bs h wq _ _ hB _ _ _ hP hD hS (lv_sub hl [2] rfl)
        · have h := h.1 c_305
          refine lv_aload_n (pc := 308) hx hb dL_begins_308 rfl (lv_at hl 1 rfl) ?_
          refine cVip (pc := 309) (E := LE qa ca cI qf cf_295 (WE E wq cI wf)) (x := x) (y := y) (g := g) [] hFc (kX8_watermark x y g h) (cwL_X8_watermark hts ⟨Nat.le_of_ble_eq_true rfl, Nat.le_of_ble_eq_true rfl⟩) rfl (cA_S ..) hP hD hS rfl rfl hl.1 (Nat.le_of_ble_eq_true rfl) dL_begins_309 ⟨by show _ ≤ BC; (try dsimp only); omega, by show _ ≤ BS; (try dsimp only); omega⟩ (fun r_309 H locs h hP hD hS => ?_)
          refine lv_iconst (pc := 312) (v := (-1)) hx hb dL_begins_312 (by decide) ?_
          refine lv_icmp_ne (pc := 313) (tgt := 354) hx hb dL_begins_313 (by decide) (fun c_313 => ?_) (fun c_313 => ?_)
          · have h := h.2 c_313
            exact J354 x y g qf cf_295 wf bc bs h wq _ _ hB _ _ _ hP hD hS (lv_sub hl [2] rfl)
          · have h := h.1 c_313
            refine lv_aload_n (pc := 316) hx hb dL_begins_316 rfl (lv_at hl 1 rfl) ?_
            refine cVip (pc := 317) (E := LE qa ca cI qf cf_295 (WE E wq cI wf)) (x := x) (y := y) (g := g) [] hFc (kX8_tooLate x y g h) (cwL_X8_tooLate hts ⟨Nat.le_of_ble_eq_true rfl, Nat.le_of_ble_eq_true rfl⟩) rfl (cA_S ..) hP hD hS rfl rfl hl.1 (Nat.le_of_ble_eq_true rfl) dL_begins_317 ⟨by show _ ≤ BC; (try dsimp only); omega, by show _ ≤ BS; (try dsimp only); omega⟩ (fun r_317 H locs h hP hD hS => ?_)
            refine lv_if_ne (pc := 320) (tgt := 354) hx hb dL_begins_320 (by decide) (fun c_320 => ?_) (fun c_320 => ?_)
            · have h := h.2 c_320
              exact J354 x y g qf cf_295 wf bc bs h wq _ _ hB _ _ _ hP hD hS (lv_sub hl [2] rfl)
            · have h := h.1 c_320
              refine lv_aload_n (pc := 323) hx hb dL_begins_323 rfl (lv_at hl 1 rfl) ?_
              refine lv_iconst (pc := 324) (v := 0) hx hb dL_begins_324 (by decide) ?_
              obtain ⟨kc_325, ks_325, bc_325, bs_325, ec_325, es_325, h⟩ := h
              refine lCallp (pc := 325) (E := LE qa ca cI qf cf_295 (WE E wq cI wf)) (x := x) (y := y) (g := g) [.int 0] hFc (kX8_read x y g 0 kc_325 ks_325 hlf h) (cwL_X8_read hts ⟨Nat.le_of_ble_eq_true rfl, Nat.le_of_ble_eq_true rfl⟩) (lRo hFc hP) hP hD hS rfl rfl hl.1 (Nat.le_of_ble_eq_true rfl) dL_begins_325 ⟨by show _ ≤ BC; (try dsimp only); omega, by show _ ≤ BS; (try dsimp only); omega⟩ (fun E2 ce q9 x1 y1 g1 H locs h hP hD hS hce hcv hcl => h.elim) (fun r_325 H locs h hP hD hS => ?_)
              have hB : ((((cells + 0) + 0) + 0) + kc_325) + bc_325 ≤ BC ∧ ((((slots + 0) + 0) + 0) + ks_325) + bs_325 ≤ BS := ⟨by omega, by omega⟩
              refine lv_aload_n (pc := 328) hx hb dL_begins_328 rfl (lv_at hl 1 rfl) ?_
              refine lv_iconst (pc := 329) (v := 1) hx hb dL_begins_329 (by decide) ?_
              obtain ⟨kc_330, ks_330, bc_330, bs_330, ec_330, es_330, h⟩ := h
              refine lCallp (pc := 330) (E := LE qa ca cI qf cf_295 (WE E wq cI wf)) (x := x) (y := y) (g := g) [.int 1] hFc (kX8_read x y g 1 kc_330 ks_330 hlf h) (cwL_X8_read hts ⟨Nat.le_of_ble_eq_true rfl, Nat.le_of_ble_eq_true rfl⟩) (lRo hFc hP) hP hD hS rfl rfl hl.1 (Nat.le_of_ble_eq_true rfl) dL_begins_330 ⟨by show _ ≤ BC; (try dsimp only); omega, by show _ ≤ BS; (try dsimp only); omega⟩ (fun E2 ce q9 x1 y1 g1 H locs h hP hD hS hce hcv hcl => h.elim) (fun r_330 H locs h hP hD hS => ?_)
              have hB : (((((cells + 0) + 0) + 0) + kc_325) + kc_330) + bc_330 ≤ BC ∧ (((((slots + 0) + 0) + 0) + ks_325) + ks_330) + bs_330 ≤ BS := ⟨by omega, by omega⟩
              refine lv_iadd (pc := 333) hx hb dL_begins_333 ?_
              refine lv_aload_n (pc := 334) hx hb dL_begins_334 rfl (lv_at hl 1 rfl) ?_
              refine lv_iconst (pc := 335) (v := 2) hx hb dL_begins_335 (by decide) ?_
              obtain ⟨kc_336, ks_336, bc_336, bs_336, ec_336, es_336, h⟩ := h
              refine lCallp (pc := 336) (E := LE qa ca cI qf cf_295 (WE E wq cI wf)) (x := x) (y := y) (g := g) [.int 2] hFc (kX8_read x y g 2 kc_336 ks_336 hlf h) (cwL_X8_read hts ⟨Nat.le_of_ble_eq_true rfl, Nat.le_of_ble_eq_true rfl⟩) (lRo hFc hP) hP hD hS rfl rfl hl.1 (Nat.le_of_ble_eq_true rfl) dL_begins_336 ⟨by show _ ≤ BC; (try dsimp only); omega, by show _ ≤ BS; (try dsimp only); omega⟩ (fun E2 ce q9 x1 y1 g1 H locs h hP hD hS hce hcv hcl => h.elim) (fun r_336 H locs h hP hD hS => ?_)
              have hB : ((((((cells + 0) + 0) + 0) + kc_325) + kc_330) + kc_336) + bc_336 ≤ BC ∧ ((((((slots + 0) + 0) + 0) + ks_325) + ks_330) + ks_336) + bs_336 ≤ BS := ⟨by omega, by omega⟩
              refine lv_iadd (pc := 339) hx hb dL_begins_339 ?_
              refine lv_if_ne (pc := 340) (tgt := 354) hx hb dL_begins_340 (by decide) (fun c_340 => ?_) (fun c_340 => ?_)
              · have h := h.2 c_340
                exact J354 x y g qf cf_295 wf bc_336 bs_336 h wq _ _ hB _ _ _ hP hD hS (lv_sub hl [2] rfl)
              · have h := h.1 c_340
                refine lv_aload_n (pc := 343) hx hb dL_begins_343 rfl (lv_at hl 1 rfl) ?_
                refine cVip (pc := 344) (E := LE qa ca cI qf cf_295 (WE E wq cI wf)) (x := x) (y := y) (g := g) [] hFc (kX8_doubtful x y g h) (cwL_X8_doubtful hts ⟨Nat.le_of_ble_eq_true rfl, Nat.le_of_ble_eq_true rfl⟩) rfl (cA_S ..) hP hD hS rfl rfl hl.1 (Nat.le_of_ble_eq_true rfl) dL_begins_344 ⟨by show _ ≤ BC; (try dsimp only); omega, by show _ ≤ BS; (try dsimp only); omega⟩ (fun r_344 H locs h hP hD hS => ?_)
                refine lv_if_ne (pc := 347) (tgt := 354) hx hb dL_begins_347 (by decide) (fun c_347 => ?_) (fun c_347 => ?_)
                · have h := h.2 c_347
                  exact J354 x y g qf cf_295 wf bc_336 bs_336 h wq _ _ hB _ _ _ hP hD hS (lv_sub hl [2] rfl)
                · have h := h.1 c_347
                  refine lv_iconst (pc := 350) (v := 1) hx hb dL_begins_350 (by decide) ?_
                  refine lv_goto (pc := 351) (tgt := 355) hx hb dL_begins_351 (by decide) ?_
                  refine lv_istore (pc := 355) (lv' := [(10, .int 1), (0, .ref (ad 0 0)), (4, .ref ca), (7, .int v7)]) hx hb dL_begins_355 hl (by decide) rfl (fun ls hl => ?_)
                  refine lv_aload (pc := 357) hx hb dL_begins_357 (lv_at hl 2 rfl) ?_
                  refine lv_bipush (pc := 359) (v := 6) hx hb dL_begins_359 (by decide) ?_
                  refine lv_iconst (pc := 361) (v := 1) hx hb dL_begins_361 (by decide) ?_
                  obtain ⟨cf_362, e_cf_362⟩ : ∃ z : Nat → Int32, z = (upd cf_295 6 1) := ⟨_, rfl⟩
                  replace h := h cf_362 e_cf_362
                  refine lc_set (pc := 362) (v := 1) (f := cf_362) hF hP hD hS e_cf_362.symm (vp_in_iff.mpr (by decide)) dL_begins_362 (fun H locs hP hD hS => ?_)
                  refine lv_iload (pc := 363) hx hb dL_begins_363 (lv_at hl 0 rfl) ?_
                  have hP := lE_dropP hP
                  have hD := lE_dropD hD
                  exact zirV (pc := 365) (Wd := WL E qa ca ad wd cI cB cP cT) (u := ((x, y, g), qf, cf_362)) hx hb hr hlocks hAe hK hP hD hS rfl dL_begins_365 (by (try dsimp only); omega) (by (try dsimp only); omega) h
  have J267 : ∀ (x : Nat → Nat → Int32) (y : Nat → Nat → Nat) (g : Nat → Nat → Nat → Int32) (qf cf wf : Nat → Int32) (v7 : Int32) (bc bs : Nat), jL_begins_267 Φ x y g qf cf wf v7 bc bs → ∀ wq : Nat, ∀ (cells slots : Nat), (cells + bc ≤ BC ∧ slots + bs ≤ BS) → ∀ (H : Heap) (locs : List Loc) (ls : Array Slot), va_P D vwCl (cW (LE qa ca cI qf cf (WE E wq cI wf)) ad wd cI cB cP cT (x, y, g)) H → va_D A (cW (LE qa ca cI qf cf (WE E wq cI wf)) ad wd cI cB cP cT (x, y, g)) → va_S A s.heap H locs → lv_has ls 13 [(0, .ref (ad 0 0)), (4, .ref ca), (7, .int v7)] → W p l e { frames := 10, cells := BC, slots := BS, locals := 267 } s m args below meth c H locs cells slots (MQ below (zQi D (cTy cI cB cP cT) (WL E qa ca ad wd cI cB cP cT) (fun r u => Φ r u.1.1 u.1.2.1 u.1.2.2 u.2.1 u.2.2) (cW (LE qa ca cI qf0 cf0 E) ad wd cI cB cP cT (x0, y0, g0)) s.heap.size) args s BC BS (va_A (cW (LE qa ca cI qf0 cf0 E) ad wd cI cB cP cT (x0, y0, g0)) s.heap.size)) (F0 m 267 ls []) := by
    intro x y g qf cf wf v7 bc bs h wq cells slots hB H locs ls hP hD hS hl
    unfold jL_begins_267 at h
    refine lv_iconst (pc := 267) (v := 0) hx hb dL_begins_267 (by decide) ?_
    exact J268 x y g qf cf wf v7 0 bc bs h wq _ _ hB _ _ _ hP hD hS (lv_sub hl [0, 1, 2] rfl)
  have J244 : ∀ (x : Nat → Nat → Int32) (y : Nat → Nat → Nat) (g : Nat → Nat → Nat → Int32) (qf cf wf : Nat → Int32) (v7 : Int32) (v11 : Int32) (s0 : Int32) (s1 : Int32) (bc bs : Nat), jL_begins_244 Φ x y g qf cf wf v7 v11 s0 s1 bc bs → ∀ wq : Nat, ∀ (cells slots : Nat), (cells + bc ≤ BC ∧ slots + bs ≤ BS) → ∀ (H : Heap) (locs : List Loc) (ls : Array Slot), va_P D vwCl (cW (LE qa ca cI qf cf (WE E wq cI wf)) ad wd cI cB cP cT (x, y, g)) H → va_D A (cW (LE qa ca cI qf cf (WE E wq cI wf)) ad wd cI cB cP cT (x, y, g)) → va_S A s.heap H locs → lv_has ls 13 [(0, .ref (ad 0 0)), (4, .ref ca), (7, .int v7), (11, .int v11)] → W p l e { frames := 10, cells := BC, slots := BS, locals := 267 } s m args below meth c H locs cells slots (MQ below (zQi D (cTy cI cB cP cT) (WL E qa ca ad wd cI cB cP cT) (fun r u => Φ r u.1.1 u.1.2.1 u.1.2.2 u.2.1 u.2.2) (cW (LE qa ca cI qf0 cf0 E) ad wd cI cB cP cT (x0, y0, g0)) s.heap.size) args s BC BS (va_A (cW (LE qa ca cI qf0 cf0 E) ad wd cI cB cP cT (x0, y0, g0)) s.heap.size)) (F0 m 244 ls [.int s1, .int s0]) := by
    intro x y g qf cf wf v7 v11 s0 s1 bc bs h wq cells slots hB H locs ls hP hD hS hl
    unfold jL_begins_244 at h
    refine lv_icmp_ne (pc := 244) (tgt := 267) hx hb dL_begins_244 (by decide) (fun c_244 => ?_) (fun c_244 => ?_)
    · have h := h.2 c_244
      exact J267 x y g qf cf wf v7 bc bs h wq _ _ hB _ _ _ hP hD hS (lv_sub hl [0, 1, 2] rfl)
    · have h := h.1 c_244
      refine lv_aload_n (pc := 247) hx hb dL_begins_247 rfl (lv_at hl 0 rfl) ?_
      refine cVip (pc := 248) (E := LE qa ca cI qf cf (WE E wq cI wf)) (x := x) (y := y) (g := g) [] hFc (kX8_windows x y g h) (cwL_X8_windows hts ⟨Nat.le_of_ble_eq_true rfl, Nat.le_of_ble_eq_true rfl⟩) rfl (cA_S ..) hP hD hS rfl rfl hl.1 (Nat.le_of_ble_eq_true rfl) dL_begins_248 ⟨by show _ ≤ BC; (try dsimp only); omega, by show _ ≤ BS; (try dsimp only); omega⟩ (fun r_248 H locs h hP hD hS => ?_)
      refine lv_iload (pc := 251) hx hb dL_begins_251 (lv_at hl 3 rfl) ?_
      refine lv_icmp_ne (pc := 253) (tgt := 267) hx hb dL_begins_253 (by decide) (fun c_253 => ?_) (fun c_253 => ?_)
      · have h := h.2 c_253
        exact J267 x y g qf cf wf v7 bc bs h wq _ _ hB _ _ _ hP hD hS (lv_sub hl [0, 1, 2] rfl)
      · have h := h.1 c_253
        refine lv_aload_n (pc := 256) hx hb dL_begins_256 rfl (lv_at hl 0 rfl) ?_
        obtain ⟨kc_257, ks_257, bc_257, bs_257, ec_257, es_257, h⟩ := h
        refine cVi (pc := 257) (E := LE qa ca cI qf cf (WE E wq cI wf)) (x := x) (y := y) (g := g) [] hFc (kX8_wipe x y g kc_257 ks_257 h) (cwL_X8_wipe hts ⟨Nat.le_of_ble_eq_true rfl, Nat.le_of_ble_eq_true rfl⟩) rfl (cA_S ..) hP hD hS rfl rfl hl.1 (Nat.le_of_ble_eq_true rfl) dL_begins_257 ⟨by show _ ≤ BC; (try dsimp only); omega, by show _ ≤ BS; (try dsimp only); omega⟩ (fun r_257 x_257 y_257 g_257 H locs h hP hD hS => ?_)
        have hB : ((cells + 0) + kc_257) + bc_257 ≤ BC ∧ ((slots + 0) + ks_257) + bs_257 ≤ BS := ⟨by omega, by omega⟩
        refine lv_if_ne (pc := 260) (tgt := 267) hx hb dL_begins_260 (by decide) (fun c_260 => ?_) (fun c_260 => ?_)
        · have h := h.2 c_260
          exact J267 x_257 y_257 g_257 qf cf wf v7 bc_257 bs_257 h wq _ _ hB _ _ _ hP hD hS (lv_sub hl [0, 1, 2] rfl)
        · have h := h.1 c_260
          refine lv_iconst (pc := 263) (v := 1) hx hb dL_begins_263 (by decide) ?_
          refine lv_goto (pc := 264) (tgt := 268) hx hb dL_begins_264 (by decide) ?_
          exact J268 x_257 y_257 g_257 qf cf wf v7 1 bc_257 bs_257 h wq _ _ hB _ _ _ hP hD hS (lv_sub hl [0, 1, 2] rfl)
  have J226 : ∀ (x : Nat → Nat → Int32) (y : Nat → Nat → Nat) (g : Nat → Nat → Nat → Int32) (qf cf wf : Nat → Int32) (v7 : Int32) (v8 : Int32) (v10 : Int32) (v11 : Int32) (bc bs : Nat), jL_begins_226 Φ x y g qf cf wf v7 v8 v10 v11 bc bs → ∀ wq : Nat, ∀ (cells slots : Nat), (cells + bc ≤ BC ∧ slots + bs ≤ BS) → ∀ (H : Heap) (locs : List Loc) (ls : Array Slot), va_P D vwCl (cW (LE qa ca cI qf cf (WE E wq cI wf)) ad wd cI cB cP cT (x, y, g)) H → va_D A (cW (LE qa ca cI qf cf (WE E wq cI wf)) ad wd cI cB cP cT (x, y, g)) → va_S A s.heap H locs → lv_has ls 13 [(0, .ref (ad 0 0)), (4, .ref ca), (7, .int v7), (8, .int v8), (10, .int v10), (11, .int v11)] → W p l e { frames := 10, cells := BC, slots := BS, locals := 267 } s m args below meth c H locs cells slots (MQ below (zQi D (cTy cI cB cP cT) (WL E qa ca ad wd cI cB cP cT) (fun r u => Φ r u.1.1 u.1.2.1 u.1.2.2 u.2.1 u.2.2) (cW (LE qa ca cI qf0 cf0 E) ad wd cI cB cP cT (x0, y0, g0)) s.heap.size) args s BC BS (va_A (cW (LE qa ca cI qf0 cf0 E) ad wd cI cB cP cT (x0, y0, g0)) s.heap.size)) (F0 m 226 ls []) := by
    intro x y g qf cf wf v7 v8 v10 v11 bc bs h wq cells slots hB H locs ls hP hD hS hl
    unfold jL_begins_226 at h
    refine lv_iload (pc := 226) hx hb dL_begins_226 (lv_at hl 4 rfl) ?_
    refine lv_if_eq (pc := 228) (tgt := 267) hx hb dL_begins_228 (by decide) (fun c_228 => ?_) (fun c_228 => ?_)
    · have h := h.1 c_228
      exact J267 x y g qf cf wf v7 bc bs h wq _ _ hB _ _ _ hP hD hS (lv_sub hl [0, 1, 2] rfl)
    · have h := h.2 c_228
      refine lv_iload (pc := 231) hx hb dL_begins_231 (lv_at hl 5 rfl) ?_
      refine lv_iload (pc := 233) hx hb dL_begins_233 (lv_at hl 2 rfl) ?_
      refine lv_if_eq (pc := 235) (tgt := 243) hx hb dL_begins_235 (by decide) (fun c_235 => ?_) (fun c_235 => ?_)
      · have h := h.1 c_235
        refine lv_iconst (pc := 243) (v := 0) hx hb dL_begins_243 (by decide) ?_
        exact J244 x y g qf cf wf v7 v11 v11 0 bc bs h wq _ _ hB _ _ _ hP hD hS (lv_sub hl [0, 1, 2, 5] rfl)
      · have h := h.2 c_235
        refine lv_iload (pc := 238) hx hb dL_begins_238 (lv_at hl 3 rfl) ?_
        refine lv_goto (pc := 240) (tgt := 244) hx hb dL_begins_240 (by decide) ?_
        exact J244 x y g qf cf wf v7 v11 v11 v8 bc bs h wq _ _ hB _ _ _ hP hD hS (lv_sub hl [0, 1, 2, 5] rfl)
  have J210 : ∀ (x : Nat → Nat → Int32) (y : Nat → Nat → Nat) (g : Nat → Nat → Nat → Int32) (qf cf wf : Nat → Int32) (s0 : Int32) (s1 : Int32) (bc bs : Nat), jL_begins_210 Φ x y g qf cf wf s0 s1 bc bs → ∀ wq : Nat, ∀ (cells slots : Nat), (cells + bc ≤ BC ∧ slots + bs ≤ BS) → ∀ (H : Heap) (locs : List Loc) (ls : Array Slot), va_P D vwCl (cW (LE qa ca cI qf cf (WE E wq cI wf)) ad wd cI cB cP cT (x, y, g)) H → va_D A (cW (LE qa ca cI qf cf (WE E wq cI wf)) ad wd cI cB cP cT (x, y, g)) → va_S A s.heap H locs → lv_has ls 13 [(0, .ref (ad 0 0))] → W p l e { frames := 10, cells := BC, slots := BS, locals := 267 } s m args below meth c H locs cells slots (MQ below (zQi D (cTy cI cB cP cT) (WL E qa ca ad wd cI cB cP cT) (fun r u => Φ r u.1.1 u.1.2.1 u.1.2.2 u.2.1 u.2.2) (cW (LE qa ca cI qf0 cf0 E) ad wd cI cB cP cT (x0, y0, g0)) s.heap.size) args s BC BS (va_A (cW (LE qa ca cI qf0 cf0 E) ad wd cI cB cP cT (x0, y0, g0)) s.heap.size)) (F0 m 210 ls [.int s1, .int s0]) := by
    intro x y g qf cf wf s0 s1 bc bs h wq cells slots hB H locs ls hP hD hS hl
    unfold jL_begins_210 at h
    refine lv_icmp_ne (pc := 210) (tgt := 224) hx hb dL_begins_210 (by decide) (fun c_210 => ?_) (fun c_210 => ?_)
    · have h := h.2 c_210
      refine lv_iconst (pc := 224) (v := 0) hx hb dL_begins_224 (by decide) ?_
      have hP := lE_dropP hP
      have hD := lE_dropD hD
      exact zirV (pc := 225) (Wd := WL E qa ca ad wd cI cB cP cT) (u := ((x, y, g), qf, cf)) hx hb hr hlocks hAe hK hP hD hS rfl dL_begins_225 (by (try dsimp only); omega) (by (try dsimp only); omega) h
    · have h := h.1 c_210
      refine lv_aload_n (pc := 213) hx hb dL_begins_213 rfl (lv_at hl 0 rfl) ?_
      obtain ⟨kc_214, ks_214, bc_214, bs_214, ec_214, es_214, h⟩ := h
      refine cVi (pc := 214) (E := LE qa ca cI qf cf (WE E wq cI wf)) (x := x) (y := y) (g := g) [] hFc (kX8_wipe x y g kc_214 ks_214 h) (cwL_X8_wipe hts ⟨Nat.le_of_ble_eq_true rfl, Nat.le_of_ble_eq_true rfl⟩) rfl (cA_S ..) hP hD hS rfl rfl hl.1 (Nat.le_of_ble_eq_true rfl) dL_begins_214 ⟨by show _ ≤ BC; (try dsimp only); omega, by show _ ≤ BS; (try dsimp only); omega⟩ (fun r_214 x_214 y_214 g_214 H locs h hP hD hS => ?_)
      have hB : (cells + kc_214) + bc_214 ≤ BC ∧ (slots + ks_214) + bs_214 ≤ BS := ⟨by omega, by omega⟩
      refine lv_if_le (pc := 217) (tgt := 224) hx hb dL_begins_217 (by decide) (fun c_217 => ?_) (fun c_217 => ?_)
      · have h := h.1 c_217
        refine lv_iconst (pc := 224) (v := 0) hx hb dL_begins_224 (by decide) ?_
        have hP := lE_dropP hP
        have hD := lE_dropD hD
        exact zirV (pc := 225) (Wd := WL E qa ca ad wd cI cB cP cT) (u := ((x_214, y_214, g_214), qf, cf)) hx hb hr hlocks hAe hK hP hD hS rfl dL_begins_225 (by (try dsimp only); omega) (by (try dsimp only); omega) h
      · have h := h.2 c_217
        refine lv_iconst (pc := 220) (v := 1) hx hb dL_begins_220 (by decide) ?_
        refine lv_goto (pc := 221) (tgt := 225) hx hb dL_begins_221 (by decide) ?_
        have hP := lE_dropP hP
        have hD := lE_dropD hD
        exact zirV (pc := 225) (Wd := WL E qa ca ad wd cI cB cP cT) (u := ((x_214, y_214, g_214), qf, cf)) hx hb hr hlocks hAe hK hP hD hS rfl dL_begins_225 (by (try dsimp only); omega) (by (try dsimp only); omega) h
  have L169 : ∀ n169 : Nat, ∀ (x : Nat → Nat → Int32) (y : Nat → Nat → Nat) (g : Nat → Nat → Nat → Int32) (qf cf wf : Nat → Int32) (v6 : Int32) (v10 : Int32) (v11 : Int32) (v12 : Int32) (bc bs : Nat), lL_begins_169 Φ n169 x y g qf cf wf v6 v10 v11 v12 bc bs → ∀ wq : Nat, ∀ (cells slots : Nat), (cells + bc ≤ BC ∧ slots + bs ≤ BS) → ∀ (H : Heap) (locs : List Loc) (ls : Array Slot), va_P D vwCl (cW (LE qa ca cI qf cf (WE E wq cI wf)) ad wd cI cB cP cT (x, y, g)) H → va_D A (cW (LE qa ca cI qf cf (WE E wq cI wf)) ad wd cI cB cP cT (x, y, g)) → va_S A s.heap H locs → lv_has ls 13 [(0, .ref (ad 0 0)), (3, .ref qa), (5, .ref wq), (6, .int v6), (10, .int v10), (11, .int v11), (12, .int v12)] → W p l e { frames := 10, cells := BC, slots := BS, locals := 267 } s m args below meth c H locs cells slots (MQ below (zQi D (cTy cI cB cP cT) (WL E qa ca ad wd cI cB cP cT) (fun r u => Φ r u.1.1 u.1.2.1 u.1.2.2 u.2.1 u.2.2) (cW (LE qa ca cI qf0 cf0 E) ad wd cI cB cP cT (x0, y0, g0)) s.heap.size) args s BC BS (va_A (cW (LE qa ca cI qf0 cf0 E) ad wd cI cB cP cT (x0, y0, g0)) s.heap.size)) (F0 m 169 ls []) := by
    intro n169
    induction n169 with
    | zero => intro x y g qf cf wf v6 v10 v11 v12 bc bs h wq cells slots hB H locs ls hP hD hS hl; exact h.elim
    | succ n169 ih169 =>
      intro x y g qf cf wf v6 v10 v11 v12 bc bs h wq cells slots hB H locs ls hP hD hS hl
      unfold lL_begins_169 at h
      refine lv_iload (pc := 169) hx hb dL_begins_169 (lv_at hl 6 rfl) ?_
      refine lv_bipush (pc := 171) (v := 7) hx hb dL_begins_171 (by decide) ?_
      refine lv_icmp_ge (pc := 173) (tgt := 191) hx hb dL_begins_173 (by decide) (fun c_173 => ?_) (fun c_173 => ?_)
      · have h := h.1 c_173
        refine lv_iload (pc := 191) hx hb dL_begins_191 (lv_at hl 4 rfl) ?_
        refine lv_if_eq (pc := 193) (tgt := 224) hx hb dL_begins_193 (by decide) (fun c_193 => ?_) (fun c_193 => ?_)
        · have h := h.1 c_193
          refine lv_iconst (pc := 224) (v := 0) hx hb dL_begins_224 (by decide) ?_
          have hP := lE_dropP hP
          have hD := lE_dropD hD
          exact zirV (pc := 225) (Wd := WL E qa ca ad wd cI cB cP cT) (u := ((x, y, g), qf, cf)) hx hb hr hlocks hAe hK hP hD hS rfl dL_begins_225 (by (try dsimp only); omega) (by (try dsimp only); omega) h
        · have h := h.2 c_193
          refine lv_iload (pc := 196) hx hb dL_begins_196 (lv_at hl 5 rfl) ?_
          refine lv_iload (pc := 198) hx hb dL_begins_198 (lv_at hl 3 rfl) ?_
          refine lv_if_eq (pc := 200) (tgt := 208) hx hb dL_begins_200 (by decide) (fun c_200 => ?_) (fun c_200 => ?_)
          · have h := h.1 c_200
            refine lv_ldc (pc := 208) (v := (-70009)) hx hb hown (hts _ lK_54) dL_begins_208 ?_
            exact J210 x y g qf cf wf v11 (-70009) bc bs h wq _ _ hB _ _ _ hP hD hS (lv_sub hl [0] rfl)
          · have h := h.2 c_200
            refine lv_ldc (pc := 203) (v := (-70008)) hx hb hown (hts _ lK_47) dL_begins_203 ?_
            refine lv_goto (pc := 205) (tgt := 210) hx hb dL_begins_205 (by decide) ?_
            exact J210 x y g qf cf wf v11 (-70008) bc bs h wq _ _ hB _ _ _ hP hD hS (lv_sub hl [0] rfl)
      · have h := h.2 c_173
        refine lv_aload_n (pc := 176) hx hb dL_begins_176 rfl (lv_at hl 1 rfl) ?_
        refine lv_iload (pc := 177) hx hb dL_begins_177 (lv_at hl 6 rfl) ?_
        refine lv_aload (pc := 179) hx hb dL_begins_179 (lv_at hl 2 rfl) ?_
        refine lv_iload (pc := 181) hx hb dL_begins_181 (lv_at hl 6 rfl) ?_
        obtain ⟨hi_183, h⟩ := h
        refine lw_get (pc := 183) (v := (wf v12.toNatClampNeg)) hF hP rfl hi_183 dL_begins_183 ?_
        obtain ⟨hi_184, h⟩ := h
        obtain ⟨qf_184, e_qf_184⟩ : ∃ z : Nat → Int32, z = (upd qf v12.toNatClampNeg (wf v12.toNatClampNeg)) := ⟨_, rfl⟩
        replace h := h qf_184 e_qf_184
        refine lq_set (pc := 184) (v := (wf v12.toNatClampNeg)) (f := qf_184) hF hP hD hS e_qf_184.symm hi_184 dL_begins_184 (fun H locs hP hD hS => ?_)
        obtain ⟨v12_185, e_v12_185⟩ : ∃ y : Int32, y = v12 + 1 := ⟨_, rfl⟩
        replace h := h v12_185 e_v12_185
        refine lv_iinc (pc := 185) (v := v12_185) (lv' := [(12, .int v12_185), (0, .ref (ad 0 0)), (3, .ref qa), (5, .ref wq), (6, .int v6), (10, .int v10), (11, .int v11)]) hx hb dL_begins_185 hl (k := 6) rfl (by rw [e_v12_185]; rfl) (by decide) rfl (fun ls hl => ?_)
        refine lv_goto (pc := 188) (tgt := 169) hx hb dL_begins_188 (by decide) ?_
        exact ih169 x y g qf_184 cf wf v6 v10 v11 v12_185 bc bs h wq _ _ hB _ _ _ hP hD hS (lv_sub hl [1, 2, 3, 4, 5, 6, 0] rfl)
  have J141 : ∀ (x : Nat → Nat → Int32) (y : Nat → Nat → Nat) (g : Nat → Nat → Nat → Int32) (qf cf wf : Nat → Int32) (v6 : Int32) (v7 : Int32) (v8 : Int32) (v9 : Int32) (s0 : Int32) (bc bs : Nat), jL_begins_141 Φ x y g qf cf wf v6 v7 v8 v9 s0 bc bs → ∀ wq : Nat, ∀ (cells slots : Nat), (cells + bc ≤ BC ∧ slots + bs ≤ BS) → ∀ (H : Heap) (locs : List Loc) (ls : Array Slot), va_P D vwCl (cW (LE qa ca cI qf cf (WE E wq cI wf)) ad wd cI cB cP cT (x, y, g)) H → va_D A (cW (LE qa ca cI qf cf (WE E wq cI wf)) ad wd cI cB cP cT (x, y, g)) → va_S A s.heap H locs → lv_has ls 13 [(0, .ref (ad 0 0)), (3, .ref qa), (4, .ref ca), (5, .ref wq), (6, .int v6), (7, .int v7), (8, .int v8), (9, .int v9)] → W p l e { frames := 10, cells := BC, slots := BS, locals := 267 } s m args below meth c H locs cells slots (MQ below (zQi D (cTy cI cB cP cT) (WL E qa ca ad wd cI cB cP cT) (fun r u => Φ r u.1.1 u.1.2.1 u.1.2.2 u.2.1 u.2.2) (cW (LE qa ca cI qf0 cf0 E) ad wd cI cB cP cT (x0, y0, g0)) s.heap.size) args s BC BS (va_A (cW (LE qa ca cI qf0 cf0 E) ad wd cI cB cP cT (x0, y0, g0)) s.heap.size)) (F0 m 141 ls [.int s0]) := by
    intro x y g qf cf wf v6 v7 v8 v9 s0 bc bs h wq cells slots hB H locs ls hP hD hS hl
    unfold jL_begins_141 at h
    refine lv_istore (pc := 141) (lv' := [(10, .int s0), (0, .ref (ad 0 0)), (3, .ref qa), (4, .ref ca), (5, .ref wq), (6, .int v6), (7, .int v7), (8, .int v8), (9, .int v9)]) hx hb dL_begins_141 hl (by decide) rfl (fun ls hl => ?_)
    refine lv_aload_n (pc := 143) hx hb dL_begins_143 rfl (lv_at hl 1 rfl) ?_
    refine lv_iload (pc := 144) hx hb dL_begins_144 (lv_at hl 6 rfl) ?_
    obtain ⟨kc_146, ks_146, bc_146, bs_146, ec_146, es_146, h⟩ := h
    refine lJi (pc := 146) (L := []) (wc := WL (WE E wq cI wf) qa ca ad wd cI cB cP cT ((x, y, g), qf, cf)) (Wd := (WL (WE E wq cI wf) qa ca ad wd cI cB cP cT)) hA hP hD hS (lS (L := []) [.ref (ad 0 0), .int v7] hF (kL_plans x y g qf cf v7 kc_146 ks_146 hlf h) (cwL_L_plans hts ⟨Nat.le_of_ble_eq_true rfl, Nat.le_of_ble_eq_true rfl⟩) hP hD hS rfl rfl hl.1 (Nat.le_of_ble_eq_true rfl) dL_begins_146 ⟨by show _ ≤ BC; (try dsimp only); omega, by show _ ≤ BS; (try dsimp only); omega⟩) (fun r_146 u H locs h hP hD hS => ?_)
    obtain ⟨⟨x_146, y_146, g_146⟩, qf_146, cf_146⟩ := u
    have hP : va_P D vwCl (cW (LE qa ca cI qf_146 cf_146 (WE E wq cI wf)) ad wd cI cB cP cT (x_146, y_146, g_146)) H := hP
    have hD : va_D A (cW (LE qa ca cI qf_146 cf_146 (WE E wq cI wf)) ad wd cI cB cP cT (x_146, y_146, g_146)) := hD
    have hB : (cells + kc_146) + bc_146 ≤ BC ∧ (slots + ks_146) + bs_146 ≤ BS := ⟨by omega, by omega⟩
    refine lv_istore (pc := 149) (lv' := [(11, .int r_146), (10, .int s0), (0, .ref (ad 0 0)), (3, .ref qa), (4, .ref ca), (5, .ref wq), (6, .int v6), (7, .int v7), (8, .int v8), (9, .int v9)]) hx hb dL_begins_149 hl (by decide) rfl (fun ls hl => ?_)
    refine lv_iload (pc := 151) hx hb dL_begins_151 (lv_at hl 6 rfl) ?_
    refine lv_if_eq (pc := 153) (tgt := 166) hx hb dL_begins_153 (by decide) (fun c_153 => ?_) (fun c_153 => ?_)
    · have h := h.1 c_153
      refine lv_iconst (pc := 166) (v := 0) hx hb dL_begins_166 (by decide) ?_
      refine lv_istore (pc := 167) (lv' := [(12, .int 0), (11, .int r_146), (10, .int s0), (0, .ref (ad 0 0)), (3, .ref qa), (4, .ref ca), (5, .ref wq), (6, .int v6), (7, .int v7), (8, .int v8), (9, .int v9)]) hx hb dL_begins_167 hl (by decide) rfl (fun ls hl => ?_)
      obtain ⟨n169, h⟩ := h
      exact L169 n169 x_146 y_146 g_146 qf_146 cf_146 wf v6 s0 r_146 0 bc_146 bs_146 h wq _ _ hB _ _ _ hP hD hS (lv_sub hl [3, 4, 6, 7, 2, 1, 0] rfl)
    · have h := h.2 c_153
      refine lv_iload (pc := 156) hx hb dL_begins_156 (lv_at hl 7 rfl) ?_
      refine lv_if_eq (pc := 158) (tgt := 226) hx hb dL_begins_158 (by decide) (fun c_158 => ?_) (fun c_158 => ?_)
      · have h := h.1 c_158
        exact J226 x_146 y_146 g_146 qf_146 cf_146 wf v7 v8 s0 r_146 bc_146 bs_146 h wq _ _ hB _ _ _ hP hD hS (lv_sub hl [2, 4, 7, 8, 1, 0] rfl)
      · have h := h.2 c_158
        refine lv_iload (pc := 161) hx hb dL_begins_161 (lv_at hl 9 rfl) ?_
        refine lv_if_ne (pc := 163) (tgt := 226) hx hb dL_begins_163 (by decide) (fun c_163 => ?_) (fun c_163 => ?_)
        · have h := h.2 c_163
          exact J226 x_146 y_146 g_146 qf_146 cf_146 wf v7 v8 s0 r_146 bc_146 bs_146 h wq _ _ hB _ _ _ hP hD hS (lv_sub hl [2, 4, 7, 8, 1, 0] rfl)
        · have h := h.1 c_163
          refine lv_iconst (pc := 166) (v := 0) hx hb dL_begins_166 (by decide) ?_
          refine lv_istore (pc := 167) (lv' := [(12, .int 0), (11, .int r_146), (10, .int s0), (0, .ref (ad 0 0)), (3, .ref qa), (4, .ref ca), (5, .ref wq), (6, .int v6), (7, .int v7), (8, .int v8), (9, .int v9)]) hx hb dL_begins_167 hl (by decide) rfl (fun ls hl => ?_)
          obtain ⟨n169, h⟩ := h
          exact L169 n169 x_146 y_146 g_146 qf_146 cf_146 wf v6 s0 r_146 0 bc_146 bs_146 h wq _ _ hB _ _ _ hP hD hS (lv_sub hl [3, 4, 6, 7, 2, 1, 0] rfl)
  have J126 : ∀ (x : Nat → Nat → Int32) (y : Nat → Nat → Nat) (g : Nat → Nat → Nat → Int32) (qf cf wf : Nat → Int32) (v6 : Int32) (v7 : Int32) (v8 : Int32) (s0 : Int32) (bc bs : Nat), jL_begins_126 Φ x y g qf cf wf v6 v7 v8 s0 bc bs → ∀ wq : Nat, ∀ (cells slots : Nat), (cells + bc ≤ BC ∧ slots + bs ≤ BS) → ∀ (H : Heap) (locs : List Loc) (ls : Array Slot), va_P D vwCl (cW (LE qa ca cI qf cf (WE E wq cI wf)) ad wd cI cB cP cT (x, y, g)) H → va_D A (cW (LE qa ca cI qf cf (WE E wq cI wf)) ad wd cI cB cP cT (x, y, g)) → va_S A s.heap H locs → lv_has ls 13 [(0, .ref (ad 0 0)), (3, .ref qa), (4, .ref ca), (5, .ref wq), (6, .int v6), (7, .int v7), (8, .int v8)] → W p l e { frames := 10, cells := BC, slots := BS, locals := 267 } s m args below meth c H locs cells slots (MQ below (zQi D (cTy cI cB cP cT) (WL E qa ca ad wd cI cB cP cT) (fun r u => Φ r u.1.1 u.1.2.1 u.1.2.2 u.2.1 u.2.2) (cW (LE qa ca cI qf0 cf0 E) ad wd cI cB cP cT (x0, y0, g0)) s.heap.size) args s BC BS (va_A (cW (LE qa ca cI qf0 cf0 E) ad wd cI cB cP cT (x0, y0, g0)) s.heap.size)) (F0 m 126 ls [.int s0]) := by
    intro x y g qf cf wf v6 v7 v8 s0 bc bs h wq cells slots hB H locs ls hP hD hS hl
    unfold jL_begins_126 at h
    refine lv_istore (pc := 126) (lv' := [(9, .int s0), (0, .ref (ad 0 0)), (3, .ref qa), (4, .ref ca), (5, .ref wq), (6, .int v6), (7, .int v7), (8, .int v8)]) hx hb dL_begins_126 hl (by decide) rfl (fun ls hl => ?_)
    refine lv_aload_n (pc := 128) hx hb dL_begins_128 rfl (lv_at hl 1 rfl) ?_
    obtain ⟨kc_129, ks_129, bc_129, bs_129, ec_129, es_129, h⟩ := h
    refine cVi (pc := 129) (E := LE qa ca cI qf cf (WE E wq cI wf)) (x := x) (y := y) (g := g) [] hFc (kX8_fault x y g kc_129 ks_129 h) (cwL_X8_fault hts ⟨Nat.le_of_ble_eq_true rfl, Nat.le_of_ble_eq_true rfl⟩) rfl (cA_S ..) hP hD hS rfl rfl hl.1 (Nat.le_of_ble_eq_true rfl) dL_begins_129 ⟨by show _ ≤ BC; (try dsimp only); omega, by show _ ≤ BS; (try dsimp only); omega⟩ (fun r_129 x_129 y_129 g_129 H locs h hP hD hS => ?_)
    have hB : (cells + kc_129) + bc_129 ≤ BC ∧ (slots + ks_129) + bs_129 ≤ BS := ⟨by omega, by omega⟩
    refine lv_iconst (pc := 132) (v := (-1)) hx hb dL_begins_132 (by decide) ?_
    refine lv_icmp_ne (pc := 133) (tgt := 140) hx hb dL_begins_133 (by decide) (fun c_133 => ?_) (fun c_133 => ?_)
    · have h := h.2 c_133
      refine lv_iconst (pc := 140) (v := 0) hx hb dL_begins_140 (by decide) ?_
      exact J141 x_129 y_129 g_129 qf cf wf v6 v7 v8 s0 0 bc_129 bs_129 h wq _ _ hB _ _ _ hP hD hS (lv_sub hl [1, 2, 3, 4, 5, 6, 7, 0] rfl)
    · have h := h.1 c_133
      refine lv_iconst (pc := 136) (v := 1) hx hb dL_begins_136 (by decide) ?_
      refine lv_goto (pc := 137) (tgt := 141) hx hb dL_begins_137 (by decide) ?_
      exact J141 x_129 y_129 g_129 qf cf wf v6 v7 v8 s0 1 bc_129 bs_129 h wq _ _ hB _ _ _ hP hD hS (lv_sub hl [1, 2, 3, 4, 5, 6, 7, 0] rfl)
  have J125 : ∀ (x : Nat → Nat → Int32) (y : Nat → Nat → Nat) (g : Nat → Nat → Nat → Int32) (qf cf wf : Nat → Int32) (v6 : Int32) (v7 : Int32) (v8 : Int32) (bc bs : Nat), jL_begins_125 Φ x y g qf cf wf v6 v7 v8 bc bs → ∀ wq : Nat, ∀ (cells slots : Nat), (cells + bc ≤ BC ∧ slots + bs ≤ BS) → ∀ (H : Heap) (locs : List Loc) (ls : Array Slot), va_P D vwCl (cW (LE qa ca cI qf cf (WE E wq cI wf)) ad wd cI cB cP cT (x, y, g)) H → va_D A (cW (LE qa ca cI qf cf (WE E wq cI wf)) ad wd cI cB cP cT (x, y, g)) → va_S A s.heap H locs → lv_has ls 13 [(0, .ref (ad 0 0)), (3, .ref qa), (4, .ref ca), (5, .ref wq), (6, .int v6), (7, .int v7), (8, .int v8)] → W p l e { frames := 10, cells := BC, slots := BS, locals := 267 } s m args below meth c H locs cells slots (MQ below (zQi D (cTy cI cB cP cT) (WL E qa ca ad wd cI cB cP cT) (fun r u => Φ r u.1.1 u.1.2.1 u.1.2.2 u.2.1 u.2.2) (cW (LE qa ca cI qf0 cf0 E) ad wd cI cB cP cT (x0, y0, g0)) s.heap.size) args s BC BS (va_A (cW (LE qa ca cI qf0 cf0 E) ad wd cI cB cP cT (x0, y0, g0)) s.heap.size)) (F0 m 125 ls []) := by
    intro x y g qf cf wf v6 v7 v8 bc bs h wq cells slots hB H locs ls hP hD hS hl
    unfold jL_begins_125 at h
    refine lv_iconst (pc := 125) (v := 0) hx hb dL_begins_125 (by decide) ?_
    exact J126 x y g qf cf wf v6 v7 v8 0 bc bs h wq _ _ hB _ _ _ hP hD hS (lv_sub hl [0, 1, 2, 3, 4, 5, 6] rfl)
  have J54 : ∀ (x : Nat → Nat → Int32) (y : Nat → Nat → Nat) (g : Nat → Nat → Nat → Int32) (qf cf wf : Nat → Int32) (v6 : Int32) (s0 : Int32) (bc bs : Nat), jL_begins_54 Φ x y g qf cf wf v6 s0 bc bs → ∀ wq : Nat, ∀ (cells slots : Nat), (cells + bc ≤ BC ∧ slots + bs ≤ BS) → ∀ (H : Heap) (locs : List Loc) (ls : Array Slot), va_P D vwCl (cW (LE qa ca cI qf cf (WE E wq cI wf)) ad wd cI cB cP cT (x, y, g)) H → va_D A (cW (LE qa ca cI qf cf (WE E wq cI wf)) ad wd cI cB cP cT (x, y, g)) → va_S A s.heap H locs → lv_has ls 13 [(0, .ref (ad 0 0)), (3, .ref qa), (4, .ref ca), (5, .ref wq), (6, .int v6)] → W p l e { frames := 10, cells := BC, slots := BS, locals := 267 } s m args below meth c H locs cells slots (MQ below (zQi D (cTy cI cB cP cT) (WL E qa ca ad wd cI cB cP cT) (fun r u => Φ r u.1.1 u.1.2.1 u.1.2.2 u.2.1 u.2.2) (cW (LE qa ca cI qf0 cf0 E) ad wd cI cB cP cT (x0, y0, g0)) s.heap.size) args s BC BS (va_A (cW (LE qa ca cI qf0 cf0 E) ad wd cI cB cP cT (x0, y0, g0)) s.heap.size)) (F0 m 54 ls [.int s0]) := by
    intro x y g qf cf wf v6 s0 bc bs h wq cells slots hB H locs ls hP hD hS hl
    unfold jL_begins_54 at h
    refine lv_istore (pc := 54) (lv' := [(7, .int s0), (0, .ref (ad 0 0)), (3, .ref qa), (4, .ref ca), (5, .ref wq), (6, .int v6)]) hx hb dL_begins_54 hl (by decide) rfl (fun ls hl => ?_)
    refine lv_aload_n (pc := 56) hx hb dL_begins_56 rfl (lv_at hl 1 rfl) ?_
    refine cVip (pc := 57) (E := LE qa ca cI qf cf (WE E wq cI wf)) (x := x) (y := y) (g := g) [] hFc (kX8_windows x y g h) (cwL_X8_windows hts ⟨Nat.le_of_ble_eq_true rfl, Nat.le_of_ble_eq_true rfl⟩) rfl (cA_S ..) hP hD hS rfl rfl hl.1 (Nat.le_of_ble_eq_true rfl) dL_begins_57 ⟨by show _ ≤ BC; (try dsimp only); omega, by show _ ≤ BS; (try dsimp only); omega⟩ (fun r_57 H locs h hP hD hS => ?_)
    refine lv_istore (pc := 60) (lv' := [(8, .int r_57), (7, .int s0), (0, .ref (ad 0 0)), (3, .ref qa), (4, .ref ca), (5, .ref wq), (6, .int v6)]) hx hb dL_begins_60 hl (by decide) rfl (fun ls hl => ?_)
    refine lv_aload (pc := 62) hx hb dL_begins_62 (lv_at hl 4 rfl) ?_
    refine lv_bipush (pc := 64) (v := 6) hx hb dL_begins_64 (by decide) ?_
    refine lc_get (pc := 66) (v := (cf 6)) hF hP rfl (vp_in_iff.mpr (by decide)) dL_begins_66 ?_
    refine lv_iconst (pc := 67) (v := 1) hx hb dL_begins_67 (by decide) ?_
    refine lv_icmp_ne (pc := 68) (tgt := 125) hx hb dL_begins_68 (by decide) (fun c_68 => ?_) (fun c_68 => ?_)
    · have h := h.2 c_68
      exact J125 x y g qf cf wf v6 s0 r_57 bc bs h wq _ _ hB _ _ _ hP hD hS (lv_sub hl [2, 3, 4, 5, 6, 1, 0] rfl)
    · have h := h.1 c_68
      refine lv_aload_n (pc := 71) hx hb dL_begins_71 rfl (lv_at hl 3 rfl) ?_
      refine lv_iconst (pc := 72) (v := 0) hx hb dL_begins_72 (by decide) ?_
      refine lq_get (pc := 73) (v := (qf 0)) hF hP rfl (vp_in_iff.mpr (by decide)) dL_begins_73 ?_
      refine lv_aload (pc := 74) hx hb dL_begins_74 (lv_at hl 5 rfl) ?_
      refine lv_iconst (pc := 76) (v := 0) hx hb dL_begins_76 (by decide) ?_
      refine lw_get (pc := 77) (v := (wf 0)) hF hP rfl (vp_in_iff.mpr (by decide)) dL_begins_77 ?_
      refine lv_icmp_ne (pc := 78) (tgt := 125) hx hb dL_begins_78 (by decide) (fun c_78 => ?_) (fun c_78 => ?_)
      · have h := h.2 c_78
        exact J125 x y g qf cf wf v6 s0 r_57 bc bs h wq _ _ hB _ _ _ hP hD hS (lv_sub hl [2, 3, 4, 5, 6, 1, 0] rfl)
      · have h := h.1 c_78
        refine lv_aload_n (pc := 81) hx hb dL_begins_81 rfl (lv_at hl 3 rfl) ?_
        refine lv_iconst (pc := 82) (v := 1) hx hb dL_begins_82 (by decide) ?_
        refine lq_get (pc := 83) (v := (qf 1)) hF hP rfl (vp_in_iff.mpr (by decide)) dL_begins_83 ?_
        refine lv_aload (pc := 84) hx hb dL_begins_84 (lv_at hl 5 rfl) ?_
        refine lv_iconst (pc := 86) (v := 1) hx hb dL_begins_86 (by decide) ?_
        refine lw_get (pc := 87) (v := (wf 1)) hF hP rfl (vp_in_iff.mpr (by decide)) dL_begins_87 ?_
        refine lv_icmp_ne (pc := 88) (tgt := 125) hx hb dL_begins_88 (by decide) (fun c_88 => ?_) (fun c_88 => ?_)
        · have h := h.2 c_88
          exact J125 x y g qf cf wf v6 s0 r_57 bc bs h wq _ _ hB _ _ _ hP hD hS (lv_sub hl [2, 3, 4, 5, 6, 1, 0] rfl)
        · have h := h.1 c_88
          refine lv_aload_n (pc := 91) hx hb dL_begins_91 rfl (lv_at hl 3 rfl) ?_
          refine lv_iconst (pc := 92) (v := 2) hx hb dL_begins_92 (by decide) ?_
          refine lq_get (pc := 93) (v := (qf 2)) hF hP rfl (vp_in_iff.mpr (by decide)) dL_begins_93 ?_
          refine lv_aload (pc := 94) hx hb dL_begins_94 (lv_at hl 5 rfl) ?_
          refine lv_iconst (pc := 96) (v := 2) hx hb dL_begins_96 (by decide) ?_
          refine lw_get (pc := 97) (v := (wf 2)) hF hP rfl (vp_in_iff.mpr (by decide)) dL_begins_97 ?_
          refine lv_icmp_ne (pc := 98) (tgt := 125) hx hb dL_begins_98 (by decide) (fun c_98 => ?_) (fun c_98 => ?_)
          · have h := h.2 c_98
            exact J125 x y g qf cf wf v6 s0 r_57 bc bs h wq _ _ hB _ _ _ hP hD hS (lv_sub hl [2, 3, 4, 5, 6, 1, 0] rfl)
          · have h := h.1 c_98
            refine lv_aload_n (pc := 101) hx hb dL_begins_101 rfl (lv_at hl 3 rfl) ?_
            refine lv_iconst (pc := 102) (v := 3) hx hb dL_begins_102 (by decide) ?_
            refine lq_get (pc := 103) (v := (qf 3)) hF hP rfl (vp_in_iff.mpr (by decide)) dL_begins_103 ?_
            refine lv_aload (pc := 104) hx hb dL_begins_104 (lv_at hl 5 rfl) ?_
            refine lv_iconst (pc := 106) (v := 3) hx hb dL_begins_106 (by decide) ?_
            refine lw_get (pc := 107) (v := (wf 3)) hF hP rfl (vp_in_iff.mpr (by decide)) dL_begins_107 ?_
            refine lv_icmp_ne (pc := 108) (tgt := 125) hx hb dL_begins_108 (by decide) (fun c_108 => ?_) (fun c_108 => ?_)
            · have h := h.2 c_108
              exact J125 x y g qf cf wf v6 s0 r_57 bc bs h wq _ _ hB _ _ _ hP hD hS (lv_sub hl [2, 3, 4, 5, 6, 1, 0] rfl)
            · have h := h.1 c_108
              refine lv_aload_n (pc := 111) hx hb dL_begins_111 rfl (lv_at hl 3 rfl) ?_
              refine lv_iconst (pc := 112) (v := 4) hx hb dL_begins_112 (by decide) ?_
              refine lq_get (pc := 113) (v := (qf 4)) hF hP rfl (vp_in_iff.mpr (by decide)) dL_begins_113 ?_
              refine lv_aload (pc := 114) hx hb dL_begins_114 (lv_at hl 5 rfl) ?_
              refine lv_iconst (pc := 116) (v := 4) hx hb dL_begins_116 (by decide) ?_
              refine lw_get (pc := 117) (v := (wf 4)) hF hP rfl (vp_in_iff.mpr (by decide)) dL_begins_117 ?_
              refine lv_icmp_gt (pc := 118) (tgt := 125) hx hb dL_begins_118 (by decide) (fun c_118 => ?_) (fun c_118 => ?_)
              · have h := h.1 c_118
                exact J125 x y g qf cf wf v6 s0 r_57 bc bs h wq _ _ hB _ _ _ hP hD hS (lv_sub hl [2, 3, 4, 5, 6, 1, 0] rfl)
              · have h := h.2 c_118
                refine lv_iconst (pc := 121) (v := 1) hx hb dL_begins_121 (by decide) ?_
                refine lv_goto (pc := 122) (tgt := 126) hx hb dL_begins_122 (by decide) ?_
                exact J126 x y g qf cf wf v6 s0 r_57 1 bc bs h wq _ _ hB _ _ _ hP hD hS (lv_sub hl [2, 3, 4, 5, 6, 1, 0] rfl)
  have L9 : ∀ n9 : Nat, ∀ (x : Nat → Nat → Int32) (y : Nat → Nat → Nat) (g : Nat → Nat → Nat → Int32) (qf cf wf : Nat → Int32) (v1 : Int32) (v2 : Int32) (v6 : Int32) (bc bs : Nat), lL_begins_9 Φ n9 x y g qf cf wf v1 v2 v6 bc bs → ∀ wq : Nat, ∀ (cells slots : Nat), (cells + bc ≤ BC ∧ slots + bs ≤ BS) → ∀ (H : Heap) (locs : List Loc) (ls : Array Slot), va_P D vwCl (cW (LE qa ca cI qf cf (WE E wq cI wf)) ad wd cI cB cP cT (x, y, g)) H → va_D A (cW (LE qa ca cI qf cf (WE E wq cI wf)) ad wd cI cB cP cT (x, y, g)) → va_S A s.heap H locs → lv_has ls 13 [(0, .ref (ad 0 0)), (1, .int v1), (2, .int v2), (3, .ref qa), (4, .ref ca), (5, .ref wq), (6, .int v6)] → W p l e { frames := 10, cells := BC, slots := BS, locals := 267 } s m args below meth c H locs cells slots (MQ below (zQi D (cTy cI cB cP cT) (WL E qa ca ad wd cI cB cP cT) (fun r u => Φ r u.1.1 u.1.2.1 u.1.2.2 u.2.1 u.2.2) (cW (LE qa ca cI qf0 cf0 E) ad wd cI cB cP cT (x0, y0, g0)) s.heap.size) args s BC BS (va_A (cW (LE qa ca cI qf0 cf0 E) ad wd cI cB cP cT (x0, y0, g0)) s.heap.size)) (F0 m 9 ls []) := by
    intro n9
    induction n9 with
    | zero => intro x y g qf cf wf v1 v2 v6 bc bs h wq cells slots hB H locs ls hP hD hS hl; exact h.elim
    | succ n9 ih9 =>
      intro x y g qf cf wf v1 v2 v6 bc bs h wq cells slots hB H locs ls hP hD hS hl
      unfold lL_begins_9 at h
      refine lv_iload (pc := 9) hx hb dL_begins_9 (lv_at hl 6 rfl) ?_
      refine lv_bipush (pc := 11) (v := 7) hx hb dL_begins_11 (by decide) ?_
      refine lv_icmp_ge (pc := 13) (tgt := 31) hx hb dL_begins_13 (by decide) (fun c_13 => ?_) (fun c_13 => ?_)
      · have h := h.1 c_13
        refine lv_aload_n (pc := 31) hx hb dL_begins_31 rfl (lv_at hl 0 rfl) ?_
        refine lv_iload_n (pc := 32) hx hb dL_begins_32 rfl (lv_at hl 1 rfl) ?_
        refine lv_iload_n (pc := 33) hx hb dL_begins_33 rfl (lv_at hl 2 rfl) ?_
        refine lv_aload_n (pc := 34) hx hb dL_begins_34 rfl (lv_at hl 3 rfl) ?_
        obtain ⟨kc_35, ks_35, bc_35, bs_35, ec_35, es_35, h⟩ := h
        refine zSi (pc := 35) (Wd := (WL (WE E wq cI wf) qa ca ad wd cI cB cP cT)) (u0 := ((x, y, g), qf, cf)) [.ref (ad 0 0), .int v1, .int v2, .ref qa] hF (kL_queries x y g qf cf v1 v2 kc_35 ks_35 hlf h) (cwL_L_queries hts ⟨Nat.le_of_ble_eq_true rfl, Nat.le_of_ble_eq_true rfl⟩) hP hD hS rfl rfl hl.1 (Nat.le_of_ble_eq_true rfl) dL_begins_35 ⟨by show _ ≤ BC; (try dsimp only); omega, by show _ ≤ BS; (try dsimp only); omega⟩ (fun r_35 u H locs h hP hD hS => ?_)
        obtain ⟨⟨x_35, y_35, g_35⟩, qf_35, cf_35⟩ := u
        have hP : va_P D vwCl (cW (LE qa ca cI qf_35 cf_35 (WE E wq cI wf)) ad wd cI cB cP cT (x_35, y_35, g_35)) H := hP
        have hD : va_D A (cW (LE qa ca cI qf_35 cf_35 (WE E wq cI wf)) ad wd cI cB cP cT (x_35, y_35, g_35)) := hD
        have hB : (cells + kc_35) + bc_35 ≤ BC ∧ (slots + ks_35) + bs_35 ≤ BS := ⟨by omega, by omega⟩
        refine lv_istore (pc := 38) (lv' := [(6, .int r_35), (0, .ref (ad 0 0)), (1, .int v1), (2, .int v2), (3, .ref qa), (4, .ref ca), (5, .ref wq)]) hx hb dL_begins_38 hl (by decide) rfl (fun ls hl => ?_)
        refine lv_iload_n (pc := 40) hx hb dL_begins_40 rfl (lv_at hl 2 rfl) ?_
        refine lv_ldc (pc := 41) (v := 43200) hx hb hown (hts _ lK_92) dL_begins_41 ?_
        refine lv_idiv (pc := 43) hx hb dL_begins_43 (by decide) ?_
        refine lv_iconst (pc := 44) (v := 3) hx hb dL_begins_44 (by decide) ?_
        refine lv_irem (pc := 45) hx hb dL_begins_45 (by decide) ?_
        refine lv_if_ne (pc := 46) (tgt := 53) hx hb dL_begins_46 (by decide) (fun c_46 => ?_) (fun c_46 => ?_)
        · have h := h.2 c_46
          refine lv_iconst (pc := 53) (v := 0) hx hb dL_begins_53 (by decide) ?_
          exact J54 x_35 y_35 g_35 qf_35 cf_35 wf r_35 0 bc_35 bs_35 h wq _ _ hB _ _ _ hP hD hS (lv_sub hl [1, 4, 5, 6, 0] rfl)
        · have h := h.1 c_46
          refine lv_iconst (pc := 49) (v := 1) hx hb dL_begins_49 (by decide) ?_
          refine lv_goto (pc := 50) (tgt := 54) hx hb dL_begins_50 (by decide) ?_
          exact J54 x_35 y_35 g_35 qf_35 cf_35 wf r_35 1 bc_35 bs_35 h wq _ _ hB _ _ _ hP hD hS (lv_sub hl [1, 4, 5, 6, 0] rfl)
      · have h := h.2 c_13
        refine lv_aload (pc := 16) hx hb dL_begins_16 (lv_at hl 5 rfl) ?_
        refine lv_iload (pc := 18) hx hb dL_begins_18 (lv_at hl 6 rfl) ?_
        refine lv_aload_n (pc := 20) hx hb dL_begins_20 rfl (lv_at hl 3 rfl) ?_
        refine lv_iload (pc := 21) hx hb dL_begins_21 (lv_at hl 6 rfl) ?_
        obtain ⟨hi_23, h⟩ := h
        refine lq_get (pc := 23) (v := (qf v6.toNatClampNeg)) hF hP rfl hi_23 dL_begins_23 ?_
        obtain ⟨hi_24, h⟩ := h
        obtain ⟨wf_24, e_wf_24⟩ : ∃ z : Nat → Int32, z = (upd wf v6.toNatClampNeg (qf v6.toNatClampNeg)) := ⟨_, rfl⟩
        replace h := h wf_24 e_wf_24
        refine lw_set (pc := 24) (v := (qf v6.toNatClampNeg)) (f := wf_24) hF hP hD hS e_wf_24.symm hi_24 dL_begins_24 (fun H locs hP hD hS => ?_)
        obtain ⟨v6_25, e_v6_25⟩ : ∃ y : Int32, y = v6 + 1 := ⟨_, rfl⟩
        replace h := h v6_25 e_v6_25
        refine lv_iinc (pc := 25) (v := v6_25) (lv' := [(6, .int v6_25), (0, .ref (ad 0 0)), (1, .int v1), (2, .int v2), (3, .ref qa), (4, .ref ca), (5, .ref wq)]) hx hb dL_begins_25 hl (k := 6) rfl (by rw [e_v6_25]; rfl) (by decide) rfl (fun ls hl => ?_)
        refine lv_goto (pc := 28) (tgt := 9) hx hb dL_begins_28 (by decide) ?_
        exact ih9 x y g qf cf wf_24 v1 v2 v6_25 bc bs h wq _ _ hB _ _ _ hP hD hS (lv_sub hl [1, 2, 3, 4, 5, 6, 0] rfl)
  unfold wL_begins at h
  refine lv_bipush (pc := 0) (v := 7) hx hb dL_begins_0 (by decide) ?_
  obtain ⟨bc_2, bs_2, ec_2, es_2, h⟩ := h
  refine l_newI (pc := 2) (n := 7) (N := 7) hFc hP hD hS rfl (by decide) (by decide) (by show _ ≤ BC; omega) (by show _ ≤ BS; omega) dL_begins_2 (fun wq H hP hD hS => ?_)
  have hP : va_P D vwCl (cW (LE qa ca cI qf0 cf0 (WE E wq cI (fun _ => 0))) ad wd cI cB cP cT (x0, y0, g0)) H := hP
  have hD : va_D A (cW (LE qa ca cI qf0 cf0 (WE E wq cI (fun _ => 0))) ad wd cI cB cP cT (x0, y0, g0)) := hD
  have hB : (0 + 1) + bc_2 ≤ BC ∧ (0 + 7) + bs_2 ≤ BS := ⟨by omega, by omega⟩
  refine lv_astore (pc := 4) (lv' := [(5, .ref wq), (0, .ref (ad 0 0)), (1, .int a1), (2, .int a2), (3, .ref qa), (4, .ref ca)]) hx hb dL_begins_4 hl (by decide) rfl (fun ls hl => ?_)
  refine lv_iconst (pc := 6) (v := 0) hx hb dL_begins_6 (by decide) ?_
  refine lv_istore (pc := 7) (lv' := [(6, .int 0), (5, .ref wq), (0, .ref (ad 0 0)), (1, .int a1), (2, .int a2), (3, .ref qa), (4, .ref ca)]) hx hb dL_begins_7 hl (by decide) rfl (fun ls hl => ?_)
  obtain ⟨n9, h⟩ := h
  exact L9 n9 x0 y0 g0 qf0 cf0 (fun _ => 0) a1 a2 0 bc_2 bs_2 h wq _ _ hB _ _ _ hP hD hS (lv_sub hl [2, 3, 4, 5, 6, 1, 0] rfl)
