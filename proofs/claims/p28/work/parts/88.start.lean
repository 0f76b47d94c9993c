/-! ===== the law from its entry: three looms ===== -/
theorem cwL_L_loom {R : Room} {s : State} {args : Array Value} {rm : Room} (hts : ∀ w ∈ wAll, w.before args s = true) (hR : rm.frames + 1 ≤ R.frames ∧ 8 + (13 + 11) + rm.locals ≤ R.locals) : CallB R s args RL 161 yL_loom cL_loom 13 (some .boolean) (zws yL_loom cL_loom 13 (some .boolean)) rm rm.cells rm.slots 2 ∧ (Cond.static yL_loom).before args s = true := zCS hts (zin 55 (by decide +kernel) (by decide +kernel)) (zin 56 (by decide +kernel) (by decide +kernel)) (inL) (zin 57 (by decide +kernel) (by decide +kernel)) (by decide +kernel) hR
/-- what is wanted of a loom: from a new object its loop comes to its end with 1 -/
def LoomOK : Prop := ∀ (L : Nat) (xs : Nat → Int32) (at_ : Nat) (u : Nat → Nat), L ≤ 260 → at_ ≤ 660 → ∃ n37 : Nat, lL_loom_37 L xs (fun r _ _ _ _ _ _ _ => r = 1) n37 s0x (s0y u) s0g (fun _ => 0) (upd (upd (fun _ => 0) 7 1) 8 (-1)) (nI at_) 1 0 199000 2429000
theorem no_traces {l : Launch} (h : l.flags = flags0) : l.stackTraces = false := by
  unfold Launch.stackTraces
  rw [h]
  decide +kernel
theorem vaT_of {b L : Nat} {xs : Nat → Int32} {s : State} {A : Nat → Prop} (h : va_X b L xs s s.heap) (hA : ¬ A b) : va_T .int b L (fun j => .int (xs j)) A s s.heap := by
  obtain ⟨scr, h1, h2, h3, h4, h5⟩ := h
  exact ⟨scr, h1, h2, h3, Nat.le_of_eq h4.symm, (congrArg Nat.toInt32 h4), h5, hA⟩
set_option maxRecDepth 100000 in
set_option maxHeartbeats 4000000 in
theorem whole_start0 (hok : LoomOK) {p : Program} {e : Env} {s : State} {m : MethodId} {below : List Frame} {meth : Method} {c : Code} (l : Launch) (hflags : l.flags = flags0) {b L : Nat} {xs : Nat → Int32} (hL : L ≤ 260) (C0 : lw_At p s m meth c b L xs) : W p l e room_1 s m #[Value.ref b] below meth c s.heap [] 0 0 (lw_Z below #[Value.ref b] s) (entryFrame m ([Value.ref b] : List Value).toArray 1) := by
  obtain ⟨hx, hb, hr, hml, hown, htl, hX, hbl, hlocks, hgv⟩ := C0
  have hlf := no_traces hflags
  have hts : ∀ w ∈ wAll, w.before #[Value.ref b] s = true := fun w h => htl w (w_tbl h)
  have hg := flat_of_before _ hgv
  obtain ⟨D, cI, cB, cP, cT, hK⟩ := kAll_start htl
  obtain ⟨wd, sk, hcX⟩ := cX_start htl hg
  obtain ⟨A, hAe⟩ : ∃ A : Nat → Prop, A = fun q => s.heap.size ≤ q := ⟨_, rfl⟩
  rw [← hAe] at hcX
  have hA : ∀ q : Nat, s.heap.size ≤ q → A q := fun q h => by rw [hAe]; exact h
  have hA0 : ∀ q : Nat, A q → s.heap.size ≤ q := fun q h => by rw [hAe] at h; exact h
  have hbA : ¬ A b := fun h => Nat.not_le.mpr hbl (hA0 b h)
  have hS : va_S A s.heap s.heap [] := va_S.rf
  have hP : va_P D vwCl [] s.heap := fun k q h => by simp at h
  have hD : va_D A [] := ⟨fun i j p q h => by simp at h, fun k q h => by simp at h⟩
  have hF : zFx p s m #[Value.ref b] c cL_law RL A D (cTy cI cB cP cT) (nX b L xs wd sk) 1 := ⟨hx, hb, hml, hown, hts, hA, hK, nX_cl b L xs wd sk, ⟨⟨hcX, lEx_start hg⟩, vaT_of hX hbA⟩, hcX, aoP_start htl, aoT_start htl⟩
  have hl := lv_entry ([.ref b]) (n := 1) (Nat.le_of_ble_eq_true rfl)
  rw [lg_entry_eq]
  generalize (lg_sl ([.ref b]) ++ List.replicate (1 - (lg_sl ([.ref b])).length) Slot.unset).toArray = ls at hl ⊢
  have hl : lv_has ls 1 [(0, .ref b)] := hl
  refine lv_aload_n (pc := 0) hx hb dL_law_0 rfl (lv_at hl 0 rfl) ?_
  refine lv_iconst (pc := 1) (v := 0) hx hb dL_law_1 (by decide) ?_
  refine zSi (pc := 2) (Wd := fun _ : Unit => []) (u0 := ()) [.ref b, .int 0] hF (kL_loom 0 199000 2429000 199100 2430000 hlf (Nat.le_of_ble_eq_true rfl) (Nat.le_of_ble_eq_true rfl) (fun u => hok L xs 0 u hL (by decide))) (cwL_L_loom hts ⟨Nat.le_of_ble_eq_true rfl, Nat.le_of_ble_eq_true rfl⟩) hP hD hS rfl rfl hl.1 (Nat.le_of_ble_eq_true rfl) dL_law_2 ⟨Nat.le_of_ble_eq_true rfl, Nat.le_of_ble_eq_true rfl⟩ (fun r u H locs h hP hD hS => ?_)
  obtain rfl : r = 1 := h
  refine W.widen (k := 199100) (n := 2430000) (Nat.le_of_ble_eq_true rfl) (Nat.le_of_ble_eq_true rfl) ?_
  refine lv_if_eq (pc := 5) (tgt := 32) hx hb dL_law_5 (by decide) (fun c9 => absurd c9 (by decide)) (fun _ => ?_)
  refine lv_aload_n (pc := 8) hx hb dL_law_8 rfl (lv_at hl 0 rfl) ?_
  refine lv_sipush (pc := 9) (v := 330) hx hb dL_law_9 (by decide) ?_
  refine zSi (pc := 12) (Wd := fun _ : Unit => []) (u0 := ()) [.ref b, .int 330] hF (kL_loom 330 199000 2429000 199100 2430000 hlf (Nat.le_of_ble_eq_true rfl) (Nat.le_of_ble_eq_true rfl) (fun u => hok L xs 330 u hL (by decide))) (cwL_L_loom hts ⟨Nat.le_of_ble_eq_true rfl, Nat.le_of_ble_eq_true rfl⟩) hP hD hS rfl rfl hl.1 (Nat.le_of_ble_eq_true rfl) dL_law_12 ⟨Nat.le_of_ble_eq_true rfl, Nat.le_of_ble_eq_true rfl⟩ (fun r u H locs h hP hD hS => ?_)
  obtain rfl : r = 1 := h
  refine W.widen (k := 398200) (n := 4860000) (Nat.le_of_ble_eq_true rfl) (Nat.le_of_ble_eq_true rfl) ?_
  refine lv_if_eq (pc := 15) (tgt := 32) hx hb dL_law_15 (by decide) (fun c9 => absurd c9 (by decide)) (fun _ => ?_)
  refine lv_aload_n (pc := 18) hx hb dL_law_18 rfl (lv_at hl 0 rfl) ?_
  refine lv_sipush (pc := 19) (v := 660) hx hb dL_law_19 (by decide) ?_
  refine zSi (pc := 22) (Wd := fun _ : Unit => []) (u0 := ()) [.ref b, .int 660] hF (kL_loom 660 199000 2429000 199100 2430000 hlf (Nat.le_of_ble_eq_true rfl) (Nat.le_of_ble_eq_true rfl) (fun u => hok L xs 660 u hL (by decide))) (cwL_L_loom hts ⟨Nat.le_of_ble_eq_true rfl, Nat.le_of_ble_eq_true rfl⟩) hP hD hS rfl rfl hl.1 (Nat.le_of_ble_eq_true rfl) dL_law_22 ⟨Nat.le_of_ble_eq_true rfl, Nat.le_of_ble_eq_true rfl⟩ (fun r u H locs h hP hD hS => ?_)
  obtain rfl : r = 1 := h
  refine W.widen (k := 597300) (n := 7290000) (Nat.le_of_ble_eq_true rfl) (Nat.le_of_ble_eq_true rfl) ?_
  refine lv_if_eq (pc := 25) (tgt := 32) hx hb dL_law_25 (by decide) (fun c9 => absurd c9 (by decide)) (fun _ => ?_)
  refine lv_iconst (pc := 28) (v := 1) hx hb dL_law_28 (by decide) ?_
  refine lv_goto (pc := 29) (tgt := 33) hx hb dL_law_29 (by decide) ?_
  refine va_forget (fun q hq => hA0 _ (hS.2.2 q hq)) ?_
  refine W.widen (k := 600104) (n := 7301313) (Nat.le_of_ble_eq_true rfl) (Nat.le_of_ble_eq_true rfl) ?_
  exact lw_ret hx hb hr hlocks dL_law_33
