set_option maxRecDepth 100000 in
set_option maxHeartbeats 4000000 in
/-- YOUR PART: from the entry, for every script of at most 2560 ints, the law comes to its end with true ('hflags': the launch's flags, for a law that throws: no stack traces) -/
theorem whole_start {p : Program} {e : Env} {s : State} {m : MethodId} {below : List Frame} {meth : Method} {c : Code} (l : Launch) (hflags : l.flags = flags0) {b L : Nat} {xs : Nat → Int32} (hL : L ≤ 2560) (C0 : lw_At p s m meth c b L xs) : W p l e room_1 s m #[Value.ref b] below meth c s.heap [] 0 0 (lw_Z below #[Value.ref b] s) (entryFrame m ([Value.ref b] : List Value).toArray 7) := by
  obtain ⟨hx, hb, hr, hml, hown, htl, hX, hbl, hlocks, hgv⟩ := C0
  have hlf := no_traces hflags
  have hts : ∀ w ∈ wAll, w.before #[Value.ref b] s = true := fun w h => htl w (w_tbl h)
  have hg := flat_of_before _ hgv
  obtain ⟨D, cI, cB, cP, cT, cJ, cZ, hKl, hKm⟩ := kAll_start htl
  obtain ⟨wd, sk, hcX⟩ := cX_start htl hg
  obtain ⟨A, hAe⟩ : ∃ A : Nat → Prop, A = fun q => s.heap.size ≤ q := ⟨_, rfl⟩
  rw [← hAe] at hcX
  have hA : ∀ q : Nat, s.heap.size ≤ q → A q := fun q h => by rw [hAe]; exact h
  have hA0 : ∀ q : Nat, A q → s.heap.size ≤ q := fun q h => by rw [hAe] at h; exact h
  have hbA : ¬ A b := fun h => Nat.not_le.mpr hbl (hA0 b h)
  have hS : va_S A s.heap s.heap [] := va_S.rf
  have hP : va_P D vwCl [] s.heap := fun k q h => by simp at h
  have hD : va_D A [] := ⟨fun i j p q h => by simp at h, fun k q h => by simp at h⟩
  have hKc : va_K D vwCl (cTy cI cB cP cT) s := hKl.sub [0, 1, 2, 3] rfl
  have hFi : zFx p s m #[Value.ref b] c cL_law RL A D (cTy cI cB cP cT) (iX wd sk) 7 := ⟨hx, hb, hml, hown, hts, hA, hKc, iX_cl wd sk, hcX, aoP_start htl, aoT_start htl⟩
  have hFm : zFx p s m #[Value.ref b] c cL_law RL A D (mT cI cZ) zX0 7 := ⟨hx, hb, hml, hown, hts, hA, hKm, zX0_cl, trivial⟩
  have hFl : zFx p s m #[Value.ref b] c cL_law RL A D (lTy cI cB cP cT cJ) (lX wd sk) 7 := ⟨hx, hb, hml, hown, hts, hA, hKl, lX_cl wd sk, hcX, lEx_start hg⟩
  have hl := lv_entry ([.ref b]) (n := 7) (Nat.le_of_ble_eq_true rfl)
  rw [lg_entry_eq]
  generalize (lg_sl ([.ref b]) ++ List.replicate (7 - (lg_sl ([.ref b])).length) Slot.unset).toArray = ls at hl ⊢
  have hl : lv_has ls 7 [(0, .ref b)] := hl
  refine va_new (pc := 0) (ci := 11) (fs := [.null, .null, .null, .int 0, .int 0]) (C := RX8) (T := TX8) (N := 5) hx hb hts uwX8 tyX8 tyX8_ok hown (hts _ ws_cl8) (hts _ ws_ins8) (hts _ inX8) hKc hP hD hS hA rfl (fun j hj => by rcases (show j = 0 ∨ j = 1 ∨ j = 2 ∨ j = 3 ∨ j = 4 by omega) with rfl | rfl | rfl | rfl | rfl <;> rfl) (Nat.le_of_ble_eq_true rfl) (Nat.le_of_ble_eq_true rfl) dL_law_0 (fun o H hP hD hS => ?_)
  have hP : va_P D vwCl ([] ++ [(o, .inr (11, [.null, .null, .null, .int 0, .int 0]))]) H := hP
  have hD : va_D A ([] ++ [(o, .inr (11, [.null, .null, .null, .int 0, .int 0]))]) := hD
  refine W.widen (k := 1) (n := 5) (Nat.le_of_ble_eq_true rfl) (Nat.le_of_ble_eq_true rfl) ?_
  refine lv_dup (pc := 3) hx hb dL_law_3 rfl ?_
  refine w_call (pc := 4) (L := []) (wc := [(o, .inr (11, [.null, .null, .null, .int 0, .int 0]))]) hFi hP hD hS (w_runI (nA := 0) (L := []) [] hFi (kX8_init (l := l) (D := D) (wd := wd) (sk := sk) (cI := cI) (cB := cB) (cP := cP) (cT := cT) o) inX8 ws_ml8 ws_im8 ws_ic8 rfl (by decide +kernel) ⟨Nat.le_of_ble_eq_true rfl, Nat.le_of_ble_eq_true rfl⟩ hP hD hS rfl rfl hl.1 (Nat.le_of_ble_eq_true rfl) dL_law_4 ⟨Nat.le_of_ble_eq_true rfl, Nat.le_of_ble_eq_true rfl⟩) (fun u H locs _ hP hD hS => ?_)
  have hP := s0P hP
  have hD := s0D hD
  obtain ⟨Lc, hLc⟩ : ∃ Lc : va_W, Lc = cW [] (s0ad o u) wd cI cB cP cT (s0x, s0y u, s0g) := ⟨_, rfl⟩
  rw [← hLc] at hP hD
  refine W.widen (k := 56) (n := 731) (Nat.le_of_ble_eq_true rfl) (Nat.le_of_ble_eq_true rfl) ?_
  refine lv_astore_n (pc := 7) (lv' := [(1, .ref o), (0, .ref b)]) hx hb dL_law_7 rfl hl (by decide) rfl (fun ls hl => ?_)
  refine va_new (pc := 8) (ci := 12) (fs := wsv9) (C := RX9) (T := TX9) (N := 45) hx hb hts uwX9 tyX9 tyX9_ok hown (hts _ ws_cl9) (hts _ ws_ins9) (hts _ inX9) hKc hP hD hS hA rfl wsv9_ok (Nat.le_of_ble_eq_true rfl) (Nat.le_of_ble_eq_true rfl) dL_law_8 (fun om H hP hD hS => ?_)
  refine W.widen (k := 57) (n := 776) (Nat.le_of_ble_eq_true rfl) (Nat.le_of_ble_eq_true rfl) ?_
  refine lv_dup (pc := 11) hx hb dL_law_11 rfl ?_
  refine w_call (pc := 12) (L := Lc) (wc := [(om, .inr (12, wsv9))]) hFm hP hD hS (w_runI (nA := 0) (L := Lc) [] hFm (kX9_init (l := l) (D := D) (cI := cI) (cZ := cZ) om (lInv_start u (fun _ => 0) (bc := 600932) (bs := 7195215) (Nat.le_of_ble_eq_true rfl) (Nat.le_of_ble_eq_true rfl))) inX9 ws_ml9 ws_im9 ws_ic9 rfl (by decide +kernel) ⟨Nat.le_of_ble_eq_true rfl, Nat.le_of_ble_eq_true rfl⟩ hP hD hS rfl rfl hl.1 (Nat.le_of_ble_eq_true rfl) dL_law_12 ⟨Nat.le_of_ble_eq_true rfl, Nat.le_of_ble_eq_true rfl⟩) (fun v H locs hw hP hD hS => ?_)
  obtain ⟨adm, xm, gm⟩ := v
  have hw : lInv 0 s0x (s0y u) s0g (fun _ => 0) xm gm 600932 7195215 := hw
  obtain ⟨Mc, hMc⟩ : ∃ Mc : va_W, Mc = mW [] om adm cI cZ (xm, gm) := ⟨_, rfl⟩
  have hP : va_P D vwCl (Lc ++ Mc) H := by rw [hMc]; exact hP
  have hD : va_D A (Lc ++ Mc) := by rw [hMc]; exact hD
  refine W.widen (k := 91) (n := 97818) (Nat.le_of_ble_eq_true rfl) (Nat.le_of_ble_eq_true rfl) ?_
  refine lv_astore_n (pc := 15) (lv' := [(2, .ref om), (1, .ref o), (0, .ref b)]) hx hb dL_law_15 rfl hl (by decide) rfl (fun ls hl => ?_)
  refine lv_iconst (pc := 16) (v := 1) hx hb dL_law_16 (by decide) ?_
  refine va_newa (pc := 17) (atype := .long) (ty := .long) (N' := 1) (a0 := (1, .inr (.inl (fun _ => 0)))) hx hb (htl _ arrJ) rfl hKl hP hD hS hA (fun _ => rfl) (by decide) rfl (by decide) (Nat.le_of_ble_eq_true rfl) (Nat.le_of_ble_eq_true rfl) dL_law_17 (fun qo cA H hK1 hP hD hS => ?_)
  have h0 : s.vm.findClass ("[" ++ (.long : FieldType).toString) = some cJ := (hKl.2 4 _ rfl).2
  have h4 : s.vm.findClass ("[" ++ (.long : FieldType).toString) = some cA := (hK1.2 5 _ rfl).2
  obtain rfl : cJ = cA := Option.some.inj (h0.symm.trans h4)
  have hP := wsswapP hP
  have hD := wsswapD hD
  rw [hLc, cW_end, hMc] at hP hD
  refine W.widen (k := 92) (n := 97819) (Nat.le_of_ble_eq_true rfl) (Nat.le_of_ble_eq_true rfl) ?_
  refine lv_astore_n (pc := 19) (lv' := [(3, .ref qo), (2, .ref om), (1, .ref o), (0, .ref b)]) hx hb dL_law_19 rfl hl (by decide) rfl (fun ls hl => ?_)
  refine lv_iconst (pc := 20) (v := nI 0) hx hb dL_law_20 (by decide) ?_
  refine lv_istore (pc := 21) (lv' := [(4, .int (nI 0)), (3, .ref qo), (2, .ref om), (1, .ref o), (0, .ref b)]) hx hb dL_law_21 hl (by decide) rfl (fun ls hl => ?_)
  have hl := lv_sub hl (l' := [(0, .ref b), (1, .ref (s0ad o u 0 0)), (2, .ref om), (3, .ref qo), (4, .int (nI 0))]) [4, 3, 2, 1, 0] rfl
  exact law_loop (ad := s0ad o u) (wd := wd) (sk := sk) (adm := adm) (qo := qo) (om := om) hlf ⟨hFl, hFm, hX, hbl, hbA⟩ hA0 hr hlocks hL lInv (fun i x y g f xm gm bc bs hi h j _ _ => lInv_step (Nat.le_trans hi hL) h j) (L + 6) 0 (by omega) (by omega) s0x (s0y u) s0g (fun _ => 0) xm gm 600932 7195215 hw 92 97819 H locs ls (Nat.le_of_ble_eq_true rfl) (Nat.le_of_ble_eq_true rfl) hP hD hS hl
