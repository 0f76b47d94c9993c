def nX (b L : Nat) (xs : Nat → Int32) (wd sk : Nat → Nat) : (Nat → Prop) → State → Heap → Prop := fun A U H => sX b L xs wd sk A U H ∧ iX wd sk A U H
theorem nX_cl (b L : Nat) (xs : Nat → Int32) (wd sk : Nat → Nat) : zCl (nX b L xs wd sk) := ⟨fun A u U H hW h => ⟨(sX_cl b L xs wd sk).1 A u U H hW h.1, (iX_cl wd sk).1 A u U H hW h.2⟩, fun A U H H1 hq h => ⟨(sX_cl b L xs wd sk).2.1 A U H H1 hq h.1, (iX_cl wd sk).2.1 A U H H1 hq h.2⟩, fun A B U H hAB h => ⟨(sX_cl b L xs wd sk).2.2 A B U H hAB h.1, (iX_cl wd sk).2.2 A B U H hAB h.2⟩⟩
theorem permLoP {D : va_G} {H : Heap} {wd : Nat → Nat} {cI cB cP cT : ClassId} {ad : Nat → Nat → Nat} {v : cS} {a b : Nat × va_E} (h : va_P D vwCl ((cW [] ad wd cI cB cP cT v ++ [a]) ++ [b]) H) : va_P D vwCl (cW [a, b] ad wd cI cB cP cT v) H := by
  have e : (cW [] ad wd cI cB cP cT v ++ [a]) ++ [b] = cW [a, b] ad wd cI cB cP cT v := by
    show ((cwL ad wd cI cB cP cT v.1 v.2.1 v.2.2 ++ []) ++ [a]) ++ [b] = cwL ad wd cI cB cP cT v.1 v.2.1 v.2.2 ++ [a, b]
    rw [List.append_nil, List.append_assoc]
    rfl
  rw [← e]
  exact h
theorem permLoD {A : Nat → Prop} {wd : Nat → Nat} {cI cB cP cT : ClassId} {ad : Nat → Nat → Nat} {v : cS} {a b : Nat × va_E} (h : va_D A ((cW [] ad wd cI cB cP cT v ++ [a]) ++ [b])) : va_D A (cW [a, b] ad wd cI cB cP cT v) := by
  have e : (cW [] ad wd cI cB cP cT v ++ [a]) ++ [b] = cW [a, b] ad wd cI cB cP cT v := by
    show ((cwL ad wd cI cB cP cT v.1 v.2.1 v.2.2 ++ []) ++ [a]) ++ [b] = cwL ad wd cI cB cP cT v.1 v.2.1 v.2.2 ++ [a, b]
    rw [List.append_nil, List.append_assoc]
    rfl
  rw [← e]
  exact h
section NW
variable {p : Program} {l : Launch} {e : Env} {R : Room} {s : State} {m : MethodId} {args : Array Value} {below : List Frame} {meth : Method} {c : Code} {H : Heap} {locs : List Loc} {cells slots : Nat} {Q : State → Prop} {A : Nat → Prop} {D : va_G} {cc : ByteArray} {pc nL : Nat} {ls : Array Slot} {rest : List Value} {own : String} {cI cB cP cT : ClassId} {X : (Nat → Prop) → State → Heap → Prop}
theorem v_newI {ws : va_W} (hF : zFx p s m args c cc own A D (cTy cI cB cP cT) X nL) (hP : va_P D vwCl ws H) (hD : va_D A ws) (hS : va_S A s.heap H locs) {n : Int32} {N : Nat} (hN : n.toNatClampNeg = N) (hn : ¬ n < 0) (hb4 : N * 4 ≤ 536870912) (hc : cells + 1 ≤ R.cells) (hs : slots + N ≤ R.slots) (hdg : decode cc pc = .ok (.newarray .int, 2)) (kk : ∀ (q : Nat) (H1 : Heap), va_P D vwCl (ws ++ [(q, .inl (cI, N, .inl (fun _ => 0)))]) H1 → va_D A (ws ++ [(q, .inl (cI, N, .inl (fun _ => 0)))]) → va_S A s.heap H1 locs → W p l e R s m args below meth c H1 locs (cells + 1) (slots + N) Q (F0 m (pc + 2) ls (.ref q :: rest))) : W p l e R s m args below meth c H locs cells slots Q (F0 m pc ls (.int n :: rest)) := by
  subst hN
  obtain ⟨hx, hb, hml, hown, hts, hA, hK, hXc, hXs⟩ := hF
  refine va_newa (atype := .int) (ty := .int) (N' := n.toNatClampNeg) (a0 := (n.toNatClampNeg, .inl (fun _ => 0))) hx hb (hts _ arrI) rfl hK hP hD hS hA (fun _ => rfl) hn rfl hb4 hc hs hdg (fun q cA H1 hK1 hP1 hD1 hS1 => ?_)
  have h0 : s.vm.findClass ("[" ++ FieldType.int.toString) = some cI := (hK1.2 0 _ rfl).2
  have h4 : s.vm.findClass ("[" ++ FieldType.int.toString) = some cA := (hK1.2 4 _ rfl).2
  obtain rfl : cI = cA := Option.some.inj (h0.symm.trans h4)
  exact kk q H1 hP1 hD1 hS1
end NW
theorem ws_cl8 : Cond.classLink RL 11 RX8 ∈ wAll := (zin 58 (by decide +kernel) (by decide +kernel))
theorem ws_ins8 : Cond.instantiable RX8 5 ∈ wAll := (zin 59 (by decide +kernel) (by decide +kernel))
theorem ws_ml8 : Cond.methodLink RL 115 yX8_init ∈ wAll := (zin 60 (by decide +kernel) (by decide +kernel))
theorem ws_im8 : Cond.instanceMethod yX8_init ∈ wAll := (zin 61 (by decide +kernel) (by decide +kernel))
theorem ws_ic8 : Cond.code yX8_init cX8_init 1 none ∈ wAll := (zin 62 (by decide +kernel) (by decide +kernel))
set_option maxRecDepth 100000 in
set_option maxHeartbeats 4000000 in
theorem kL_loom {l : Launch} {D : va_G} {b L : Nat} {xs : Nat → Int32} {wd sk : Nat → Nat} {cI cB cP cT : ClassId} {sz : Nat} (a1 : Int32) (bc0 bs0 BC BS : Nat) (hlf : l.stackTraces = false) (hb1 : 60 + bc0 ≤ BC) (hb2 : 760 + bs0 ≤ BS) (h0 : ∀ u : Nat → Nat, ∃ n37 : Nat, lL_loom_37 L xs (fun r _ _ _ _ _ _ _ => r = 1) n37 s0x (s0y u) s0g (fun _ => 0) (upd (upd (fun _ => 0) 7 1) 8 (-1)) a1 1 0 bc0 bs0) : Met l yL_loom (zws yL_loom cL_loom 13 (some .boolean)) { frames := 11, cells := BC, slots := BS, locals := 299 } (zPc D (cTy cI cB cP cT) (nX b L xs wd sk) [] [.ref b, .int a1] sz) (zQi D (cTy cI cB cP cT) (fun _ : Unit => []) (fun r _ => r = 1) [] sz) BC BS (va_A [] sz) := by
  refine zMet (by decide) (Nat.le_of_ble_eq_true rfl) ?_
  intro p e s m args below meth c A hx hb hr hml hown hts hlocks hsz hAe hA hS hP hK hD hX ls hl
  subst hsz
  have hF : zFx p s m args c cL_loom RL A D (cTy cI cB cP cT) (lX wd sk) 13 := ⟨hx, hb, hml, hown, hts, hA, hK, lX_cl wd sk, hX.1.1⟩
  have hFc : zFx p s m args c cL_loom RL A D (cTy cI cB cP cT) (cX wd sk) 13 := ⟨hx, hb, hml, hown, hts, hA, hK, cX_cl wd sk, hX.1.1.1⟩
  have hFs : zFx p s m args c cL_loom RL A D (cTy cI cB cP cT) (sX b L xs wd sk) 13 := ⟨hx, hb, hml, hown, hts, hA, hK, sX_cl b L xs wd sk, hX.1⟩
  have hFi : zFx p s m args c cL_loom RL A D (cTy cI cB cP cT) (iX wd sk) 13 := ⟨hx, hb, hml, hown, hts, hA, hK, iX_cl wd sk, hX.2⟩
  have hl : lv_has ls 13 [(0, .ref b), (1, .int a1)] := hl
  generalize hΦ : (fun (r : Int32) (_ : Nat → Nat → Int32) (_ : Nat → Nat → Nat) (_ : Nat → Nat → Nat → Int32) (_ _ : Nat → Int32) (_ _ : Nat) => r = 1) = Φ at h0
  have hloop : ∀ (qa ca : Nat) (ad : Nat → Nat → Nat), ∀ n37 : Nat, ∀ (x : Nat → Nat → Int32) (y : Nat → Nat → Nat) (g : Nat → Nat → Nat → Int32) (qf cf : Nat → Int32) (v1 v5 v6 : Int32) (bc bs : Nat), lL_loom_37 L xs Φ n37 x y g qf cf v1 v5 v6 bc bs → ∀ (cells slots : Nat), (cells + bc ≤ BC ∧ slots + bs ≤ BS) → ∀ (H : Heap) (locs : List Loc) (ls : Array Slot), va_P D vwCl (cW (LE qa ca cI qf cf []) ad wd cI cB cP cT (x, y, g)) H → va_D A (cW (LE qa ca cI qf cf []) ad wd cI cB cP cT (x, y, g)) → va_S A s.heap H locs → lv_has ls 13 [(0, .ref b), (1, .int v1), (2, .ref (ad 0 0)), (3, .ref qa), (4, .ref ca), (5, .int v5), (6, .int v6)] → W p l e { frames := 11, cells := BC, slots := BS, locals := 299 } s m args below meth c H locs cells slots (MQ below (zQi D (cTy cI cB cP cT) (fun _ : Unit => []) (fun r _ => r = 1) [] s.heap.size) args s BC BS (va_A [] s.heap.size)) (F0 m 37 ls []) := by
    intro qa ca ad
    have hend : ∀ (v : Int32) (x : Nat → Nat → Int32) (y : Nat → Nat → Nat) (g : Nat → Nat → Nat → Int32) (qf cf : Nat → Int32) (bc bs cells slots : Nat) (H : Heap) (locs : List Loc) (ls : Array Slot), Φ v x y g qf cf bc bs → cells + bc ≤ BC → slots + bs ≤ BS → va_P D vwCl (cW (LE qa ca cI qf cf []) ad wd cI cB cP cT (x, y, g)) H → va_D A (cW (LE qa ca cI qf cf []) ad wd cI cB cP cT (x, y, g)) → va_S A s.heap H locs → lv_has ls 13 [(5, .int v)] → W p l e { frames := 11, cells := BC, slots := BS, locals := 299 } s m args below meth c H locs cells slots (MQ below (zQi D (cTy cI cB cP cT) (fun _ : Unit => []) (fun r _ => r = 1) [] s.heap.size) args s BC BS (va_A [] s.heap.size)) (F0 m 589 ls []) := by
      intro v x y g qf cf bc bs cells slots H locs ls h h1 h2 hP hD hS hl
      have hv : v = 1 := by
        rw [← hΦ] at h
        exact h
      subst hv
      refine lv_iload (pc := 589) hx hb dL_loom_589 (lv_at hl 0 rfl) ?_
      exact zirV (pc := 591) (Wd := fun _ : Unit => []) (u := ()) hx hb hr hlocks hAe hK (fun k q h9 => absurd h9 (by simp)) ⟨fun i j p q h9 => absurd h9 (by simp), fun k q h9 => absurd h9 (by simp)⟩ hS rfl dL_loom_591 (by omega) (by omega) rfl
    have L37 : ∀ n37 : Nat, ∀ (x : Nat → Nat → Int32) (y : Nat → Nat → Nat) (g : Nat → Nat → Nat → Int32) (qf cf : Nat → Int32) (v1 : Int32) (v5 : Int32) (v6 : Int32) (bc bs : Nat), lL_loom_37 L xs Φ n37 x y g qf cf v1 v5 v6 bc bs → ∀ (cells slots : Nat), (cells + bc ≤ BC ∧ slots + bs ≤ BS) → ∀ (H : Heap) (locs : List Loc) (ls : Array Slot), va_P D vwCl (cW (LE qa ca cI qf cf []) ad wd cI cB cP cT (x, y, g)) H → va_D A (cW (LE qa ca cI qf cf []) ad wd cI cB cP cT (x, y, g)) → va_S A s.heap H locs → lv_has ls 13 [(0, .ref b), (1, .int v1), (2, .ref (ad 0 0)), (3, .ref qa), (4, .ref ca), (5, .int v5), (6, .int v6)] → W p l e { frames := 11, cells := BC, slots := BS, locals := 299 } s m args below meth c H locs cells slots (MQ below (zQi D (cTy cI cB cP cT) (fun _ : Unit => []) (fun r _ => r = 1) [] s.heap.size) args s BC BS (va_A [] s.heap.size)) (F0 m 37 ls []) := by
      intro n37
      induction n37 with
      | zero => intro x y g qf cf v1 v5 v6 bc bs h cells slots hB H locs ls hP hD hS hl; exact h.elim
      | succ n37 ih37 =>
        have J556 : ∀ (x : Nat → Nat → Int32) (y : Nat → Nat → Nat) (g : Nat → Nat → Nat → Int32) (qf cf : Nat → Int32) (v1 : Int32) (v6 : Int32) (v8 : Int32) (bc bs : Nat), jL_loom_556 L xs (lL_loom_37 L xs Φ n37) Φ x y g qf cf v1 v6 v8 bc bs → ∀ (cells slots : Nat), (cells + bc ≤ BC ∧ slots + bs ≤ BS) → ∀ (H : Heap) (locs : List Loc) (ls : Array Slot), va_P D vwCl (cW (LE qa ca cI qf cf []) ad wd cI cB cP cT (x, y, g)) H → va_D A (cW (LE qa ca cI qf cf []) ad wd cI cB cP cT (x, y, g)) → va_S A s.heap H locs → lv_has ls 13 [(0, .ref b), (1, .int v1), (2, .ref (ad 0 0)), (3, .ref qa), (4, .ref ca), (6, .int v6), (8, .int v8)] → W p l e { frames := 11, cells := BC, slots := BS, locals := 299 } s m args below meth c H locs cells slots (MQ below (zQi D (cTy cI cB cP cT) (fun _ : Unit => []) (fun r _ => r = 1) [] s.heap.size) args s BC BS (va_A [] s.heap.size)) (F0 m 556 ls []) := by
          intro x y g qf cf v1 v6 v8 bc bs h cells slots hB H locs ls hP hD hS hl
          unfold jL_loom_556 at h
          refine lv_iload (pc := 556) hx hb dL_loom_556 (lv_at hl 5 rfl) ?_
          refine lv_iconst (pc := 558) (v := 3) hx hb dL_loom_558 (by decide) ?_
          refine lv_irem (pc := 559) hx hb dL_loom_559 (by decide) ?_
          refine lv_iconst (pc := 560) (v := 2) hx hb dL_loom_560 (by decide) ?_
          refine lv_icmp_lt (pc := 561) (tgt := 576) hx hb dL_loom_561 (by decide) (fun c_561 => ?_) (fun c_561 => ?_)
          · have h := h.1 c_561
            refine lv_iconst (pc := 576) (v := 1) hx hb dL_loom_576 (by decide) ?_
            refine lv_goto (pc := 577) (tgt := 581) hx hb dL_loom_577 (by decide) ?_
            refine lv_istore (pc := 581) (lv' := [(5, .int 1), (0, .ref b), (1, .int v1), (2, .ref (ad 0 0)), (3, .ref qa), (4, .ref ca), (6, .int v6), (8, .int v8)]) hx hb dL_loom_581 hl (by decide) rfl (fun ls hl => ?_)
            obtain ⟨v6_583, e_v6_583⟩ : ∃ y : Int32, y = v6 + 1 := ⟨_, rfl⟩
            replace h := h v6_583 e_v6_583
            refine lv_iinc (pc := 583) (v := v6_583) (lv' := [(6, .int v6_583), (5, .int 1), (0, .ref b), (1, .int v1), (2, .ref (ad 0 0)), (3, .ref qa), (4, .ref ca), (8, .int v8)]) hx hb dL_loom_583 hl (k := 6) rfl (by rw [e_v6_583]; rfl) (by decide) rfl (fun ls hl => ?_)
            refine lv_goto (pc := 586) (tgt := 37) hx hb dL_loom_586 (by decide) ?_
            exact ih37 x y g qf cf v1 1 v6_583 bc bs h _ _ hB _ _ _ hP hD hS (lv_sub hl [2, 3, 4, 5, 6, 1, 0] rfl)
          · have h := h.2 c_561
            refine lv_aload_n (pc := 564) hx hb dL_loom_564 rfl (lv_at hl 2 rfl) ?_
            refine lv_aload_n (pc := 565) hx hb dL_loom_565 rfl (lv_at hl 3 rfl) ?_
            refine lv_aload (pc := 566) hx hb dL_loom_566 (lv_at hl 4 rfl) ?_
            refine lv_iload (pc := 568) hx hb dL_loom_568 (lv_at hl 6 rfl) ?_
            obtain ⟨kc_570, ks_570, bc_570, bs_570, ec_570, es_570, h⟩ := h
            refine zSi (pc := 570) (Wd := (WL [] qa ca ad wd cI cB cP cT)) (u0 := ((x, y, g), qf, cf)) [.ref (ad 0 0), .ref qa, .ref ca, .int v8] hF (kL_areTotals x y g qf cf v8 kc_570 ks_570 hlf h) (cwL_L_areTotals hts ⟨Nat.le_of_ble_eq_true rfl, Nat.le_of_ble_eq_true rfl⟩) hP hD hS rfl rfl hl.1 (Nat.le_of_ble_eq_true rfl) dL_loom_570 ⟨by show _ ≤ BC; (try dsimp only); omega, by show _ ≤ BS; (try dsimp only); omega⟩ (fun r_570 u H locs h hP hD hS => ?_)
            obtain ⟨⟨x_570, y_570, g_570⟩, qf_570, cf_570⟩ := u
            have hP : va_P D vwCl (cW (LE qa ca cI qf_570 cf_570 []) ad wd cI cB cP cT (x_570, y_570, g_570)) H := hP
            have hD : va_D A (cW (LE qa ca cI qf_570 cf_570 []) ad wd cI cB cP cT (x_570, y_570, g_570)) := hD
            have hB : (cells + kc_570) + bc_570 ≤ BC ∧ (slots + ks_570) + bs_570 ≤ BS := ⟨by omega, by omega⟩
            refine lv_if_eq (pc := 573) (tgt := 580) hx hb dL_loom_573 (by decide) (fun c_573 => ?_) (fun c_573 => ?_)
            · have h := h.1 c_573
              refine lv_iconst (pc := 580) (v := 0) hx hb dL_loom_580 (by decide) ?_
              refine lv_istore (pc := 581) (lv' := [(5, .int 0), (0, .ref b), (1, .int v1), (2, .ref (ad 0 0)), (3, .ref qa), (4, .ref ca), (6, .int v6), (8, .int v8)]) hx hb dL_loom_581 hl (by decide) rfl (fun ls hl => ?_)
              obtain ⟨v6_583, e_v6_583⟩ : ∃ y : Int32, y = v6 + 1 := ⟨_, rfl⟩
              replace h := h v6_583 e_v6_583
              refine lv_iinc (pc := 583) (v := v6_583) (lv' := [(6, .int v6_583), (5, .int 0), (0, .ref b), (1, .int v1), (2, .ref (ad 0 0)), (3, .ref qa), (4, .ref ca), (8, .int v8)]) hx hb dL_loom_583 hl (k := 6) rfl (by rw [e_v6_583]; rfl) (by decide) rfl (fun ls hl => ?_)
              refine lv_goto (pc := 586) (tgt := 37) hx hb dL_loom_586 (by decide) ?_
              exact ih37 x_570 y_570 g_570 qf_570 cf_570 v1 0 v6_583 bc_570 bs_570 h _ _ hB _ _ _ hP hD hS (lv_sub hl [2, 3, 4, 5, 6, 1, 0] rfl)
            · have h := h.2 c_573
              refine lv_iconst (pc := 576) (v := 1) hx hb dL_loom_576 (by decide) ?_
              refine lv_goto (pc := 577) (tgt := 581) hx hb dL_loom_577 (by decide) ?_
              refine lv_istore (pc := 581) (lv' := [(5, .int 1), (0, .ref b), (1, .int v1), (2, .ref (ad 0 0)), (3, .ref qa), (4, .ref ca), (6, .int v6), (8, .int v8)]) hx hb dL_loom_581 hl (by decide) rfl (fun ls hl => ?_)
              obtain ⟨v6_583, e_v6_583⟩ : ∃ y : Int32, y = v6 + 1 := ⟨_, rfl⟩
              replace h := h v6_583 e_v6_583
              refine lv_iinc (pc := 583) (v := v6_583) (lv' := [(6, .int v6_583), (5, .int 1), (0, .ref b), (1, .int v1), (2, .ref (ad 0 0)), (3, .ref qa), (4, .ref ca), (8, .int v8)]) hx hb dL_loom_583 hl (k := 6) rfl (by rw [e_v6_583]; rfl) (by decide) rfl (fun ls hl => ?_)
              refine lv_goto (pc := 586) (tgt := 37) hx hb dL_loom_586 (by decide) ?_
              exact ih37 x_570 y_570 g_570 qf_570 cf_570 v1 1 v6_583 bc_570 bs_570 h _ _ hB _ _ _ hP hD hS (lv_sub hl [2, 3, 4, 5, 6, 1, 0] rfl)
        have J519 : ∀ (x : Nat → Nat → Int32) (y : Nat → Nat → Nat) (g : Nat → Nat → Nat → Int32) (qf cf : Nat → Int32) (v1 : Int32) (v5 : Int32) (v6 : Int32) (v8 : Int32) (s0 : Int32) (bc bs : Nat), jL_loom_519 L xs (lL_loom_37 L xs Φ n37) Φ x y g qf cf v1 v5 v6 v8 s0 bc bs → ∀ (cells slots : Nat), (cells + bc ≤ BC ∧ slots + bs ≤ BS) → ∀ (H : Heap) (locs : List Loc) (ls : Array Slot), va_P D vwCl (cW (LE qa ca cI qf cf []) ad wd cI cB cP cT (x, y, g)) H → va_D A (cW (LE qa ca cI qf cf []) ad wd cI cB cP cT (x, y, g)) → va_S A s.heap H locs → lv_has ls 13 [(0, .ref b), (1, .int v1), (2, .ref (ad 0 0)), (3, .ref qa), (4, .ref ca), (5, .int v5), (6, .int v6), (8, .int v8)] → W p l e { frames := 11, cells := BC, slots := BS, locals := 299 } s m args below meth c H locs cells slots (MQ below (zQi D (cTy cI cB cP cT) (fun _ : Unit => []) (fun r _ => r = 1) [] s.heap.size) args s BC BS (va_A [] s.heap.size)) (F0 m 519 ls [.int s0]) := by
          intro x y g qf cf v1 v5 v6 v8 s0 bc bs h cells slots hB H locs ls hP hD hS hl
          unfold jL_loom_519 at h
          refine lv_istore (pc := 519) (lv' := [(10, .int s0), (0, .ref b), (1, .int v1), (2, .ref (ad 0 0)), (3, .ref qa), (4, .ref ca), (5, .int v5), (6, .int v6), (8, .int v8)]) hx hb dL_loom_519 hl (by decide) rfl (fun ls hl => ?_)
          refine lv_iload (pc := 521) hx hb dL_loom_521 (lv_at hl 6 rfl) ?_
          refine lv_if_eq (pc := 523) (tgt := 580) hx hb dL_loom_523 (by decide) (fun c_523 => ?_) (fun c_523 => ?_)
          · have h := h.1 c_523
            refine lv_iconst (pc := 580) (v := 0) hx hb dL_loom_580 (by decide) ?_
            refine lv_istore (pc := 581) (lv' := [(5, .int 0), (10, .int s0), (0, .ref b), (1, .int v1), (2, .ref (ad 0 0)), (3, .ref qa), (4, .ref ca), (6, .int v6), (8, .int v8)]) hx hb dL_loom_581 hl (by decide) rfl (fun ls hl => ?_)
            obtain ⟨v6_583, e_v6_583⟩ : ∃ y : Int32, y = v6 + 1 := ⟨_, rfl⟩
            replace h := h v6_583 e_v6_583
            refine lv_iinc (pc := 583) (v := v6_583) (lv' := [(6, .int v6_583), (5, .int 0), (10, .int s0), (0, .ref b), (1, .int v1), (2, .ref (ad 0 0)), (3, .ref qa), (4, .ref ca), (8, .int v8)]) hx hb dL_loom_583 hl (k := 7) rfl (by rw [e_v6_583]; rfl) (by decide) rfl (fun ls hl => ?_)
            refine lv_goto (pc := 586) (tgt := 37) hx hb dL_loom_586 (by decide) ?_
            exact ih37 x y g qf cf v1 0 v6_583 bc bs h _ _ hB _ _ _ hP hD hS (lv_sub hl [3, 4, 5, 6, 7, 1, 0] rfl)
          · have h := h.2 c_523
            refine lv_aload (pc := 526) hx hb dL_loom_526 (lv_at hl 5 rfl) ?_
            refine lv_bipush (pc := 528) (v := 6) hx hb dL_loom_528 (by decide) ?_
            refine lc_get (pc := 530) (v := (cf 6)) hF hP rfl (vp_in_iff.mpr (by decide)) dL_loom_530 ?_
            refine lv_if_eq (pc := 531) (tgt := 556) hx hb dL_loom_531 (by decide) (fun c_531 => ?_) (fun c_531 => ?_)
            · have h := h.1 c_531
              exact J556 x y g qf cf v1 v6 v8 bc bs h _ _ hB _ _ _ hP hD hS (lv_sub hl [1, 2, 3, 4, 5, 7, 8] rfl)
            · have h := h.2 c_531
              refine lv_aload_n (pc := 534) hx hb dL_loom_534 rfl (lv_at hl 3 rfl) ?_
              refine lv_aload_n (pc := 535) hx hb dL_loom_535 rfl (lv_at hl 4 rfl) ?_
              refine lv_aload (pc := 536) hx hb dL_loom_536 (lv_at hl 5 rfl) ?_
              obtain ⟨kc_538, ks_538, bc_538, bs_538, ec_538, es_538, h⟩ := h
              refine zSi (pc := 538) (Wd := (WL [] qa ca ad wd cI cB cP cT)) (u0 := ((x, y, g), qf, cf)) [.ref (ad 0 0), .ref qa, .ref ca] hF (kL_areWindows x y g qf cf kc_538 ks_538 hlf h) (cwL_L_areWindows hts ⟨Nat.le_of_ble_eq_true rfl, Nat.le_of_ble_eq_true rfl⟩) hP hD hS rfl rfl hl.1 (Nat.le_of_ble_eq_true rfl) dL_loom_538 ⟨by show _ ≤ BC; (try dsimp only); omega, by show _ ≤ BS; (try dsimp only); omega⟩ (fun r_538 u H locs h hP hD hS => ?_)
              obtain ⟨⟨x_538, y_538, g_538⟩, qf_538, cf_538⟩ := u
              have hP : va_P D vwCl (cW (LE qa ca cI qf_538 cf_538 []) ad wd cI cB cP cT (x_538, y_538, g_538)) H := hP
              have hD : va_D A (cW (LE qa ca cI qf_538 cf_538 []) ad wd cI cB cP cT (x_538, y_538, g_538)) := hD
              have hB : (cells + kc_538) + bc_538 ≤ BC ∧ (slots + ks_538) + bs_538 ≤ BS := ⟨by omega, by omega⟩
              refine lv_if_eq (pc := 541) (tgt := 580) hx hb dL_loom_541 (by decide) (fun c_541 => ?_) (fun c_541 => ?_)
              · have h := h.1 c_541
                refine lv_iconst (pc := 580) (v := 0) hx hb dL_loom_580 (by decide) ?_
                refine lv_istore (pc := 581) (lv' := [(5, .int 0), (10, .int s0), (0, .ref b), (1, .int v1), (2, .ref (ad 0 0)), (3, .ref qa), (4, .ref ca), (6, .int v6), (8, .int v8)]) hx hb dL_loom_581 hl (by decide) rfl (fun ls hl => ?_)
                obtain ⟨v6_583, e_v6_583⟩ : ∃ y : Int32, y = v6 + 1 := ⟨_, rfl⟩
                replace h := h v6_583 e_v6_583
                refine lv_iinc (pc := 583) (v := v6_583) (lv' := [(6, .int v6_583), (5, .int 0), (10, .int s0), (0, .ref b), (1, .int v1), (2, .ref (ad 0 0)), (3, .ref qa), (4, .ref ca), (8, .int v8)]) hx hb dL_loom_583 hl (k := 7) rfl (by rw [e_v6_583]; rfl) (by decide) rfl (fun ls hl => ?_)
                refine lv_goto (pc := 586) (tgt := 37) hx hb dL_loom_586 (by decide) ?_
                exact ih37 x_538 y_538 g_538 qf_538 cf_538 v1 0 v6_583 bc_538 bs_538 h _ _ hB _ _ _ hP hD hS (lv_sub hl [3, 4, 5, 6, 7, 1, 0] rfl)
              · have h := h.2 c_541
                refine lv_aload_n (pc := 544) hx hb dL_loom_544 rfl (lv_at hl 3 rfl) ?_
                refine lv_aload_n (pc := 545) hx hb dL_loom_545 rfl (lv_at hl 4 rfl) ?_
                refine lv_aload (pc := 546) hx hb dL_loom_546 (lv_at hl 5 rfl) ?_
                refine lv_iload (pc := 548) hx hb dL_loom_548 (lv_at hl 0 rfl) ?_
                obtain ⟨kc_550, ks_550, bc_550, bs_550, ec_550, es_550, h⟩ := h
                refine zSi (pc := 550) (Wd := (WL [] qa ca ad wd cI cB cP cT)) (u0 := ((x_538, y_538, g_538), qf_538, cf_538)) [.ref (ad 0 0), .ref qa, .ref ca, .int s0] hF (kL_areResults x_538 y_538 g_538 qf_538 cf_538 s0 kc_550 ks_550 hlf h) (cwL_L_areResults hts ⟨Nat.le_of_ble_eq_true rfl, Nat.le_of_ble_eq_true rfl⟩) hP hD hS rfl rfl hl.1 (Nat.le_of_ble_eq_true rfl) dL_loom_550 ⟨by show _ ≤ BC; (try dsimp only); omega, by show _ ≤ BS; (try dsimp only); omega⟩ (fun r_550 u H locs h hP hD hS => ?_)
                obtain ⟨⟨x_550, y_550, g_550⟩, qf_550, cf_550⟩ := u
                have hP : va_P D vwCl (cW (LE qa ca cI qf_550 cf_550 []) ad wd cI cB cP cT (x_550, y_550, g_550)) H := hP
                have hD : va_D A (cW (LE qa ca cI qf_550 cf_550 []) ad wd cI cB cP cT (x_550, y_550, g_550)) := hD
                have hB : ((cells + kc_538) + kc_550) + bc_550 ≤ BC ∧ ((slots + ks_538) + ks_550) + bs_550 ≤ BS := ⟨by omega, by omega⟩
                refine lv_if_eq (pc := 553) (tgt := 580) hx hb dL_loom_553 (by decide) (fun c_553 => ?_) (fun c_553 => ?_)
                · have h := h.1 c_553
                  refine lv_iconst (pc := 580) (v := 0) hx hb dL_loom_580 (by decide) ?_
                  refine lv_istore (pc := 581) (lv' := [(5, .int 0), (10, .int s0), (0, .ref b), (1, .int v1), (2, .ref (ad 0 0)), (3, .ref qa), (4, .ref ca), (6, .int v6), (8, .int v8)]) hx hb dL_loom_581 hl (by decide) rfl (fun ls hl => ?_)
                  obtain ⟨v6_583, e_v6_583⟩ : ∃ y : Int32, y = v6 + 1 := ⟨_, rfl⟩
                  replace h := h v6_583 e_v6_583
                  refine lv_iinc (pc := 583) (v := v6_583) (lv' := [(6, .int v6_583), (5, .int 0), (10, .int s0), (0, .ref b), (1, .int v1), (2, .ref (ad 0 0)), (3, .ref qa), (4, .ref ca), (8, .int v8)]) hx hb dL_loom_583 hl (k := 7) rfl (by rw [e_v6_583]; rfl) (by decide) rfl (fun ls hl => ?_)
                  refine lv_goto (pc := 586) (tgt := 37) hx hb dL_loom_586 (by decide) ?_
                  exact ih37 x_550 y_550 g_550 qf_550 cf_550 v1 0 v6_583 bc_550 bs_550 h _ _ hB _ _ _ hP hD hS (lv_sub hl [3, 4, 5, 6, 7, 1, 0] rfl)
                · have h := h.2 c_553
                  exact J556 x_550 y_550 g_550 qf_550 cf_550 v1 v6 v8 bc_550 bs_550 h _ _ hB _ _ _ hP hD hS (lv_sub hl [1, 2, 3, 4, 5, 7, 8] rfl)
        have J501 : ∀ (x : Nat → Nat → Int32) (y : Nat → Nat → Nat) (g : Nat → Nat → Nat → Int32) (qf cf : Nat → Int32) (v1 : Int32) (v5 : Int32) (v6 : Int32) (v8 : Int32) (v10 : Int32) (bc bs : Nat), jL_loom_501 L xs (lL_loom_37 L xs Φ n37) Φ x y g qf cf v1 v5 v6 v8 v10 bc bs → ∀ (cells slots : Nat), (cells + bc ≤ BC ∧ slots + bs ≤ BS) → ∀ (H : Heap) (locs : List Loc) (ls : Array Slot), va_P D vwCl (cW (LE qa ca cI qf cf []) ad wd cI cB cP cT (x, y, g)) H → va_D A (cW (LE qa ca cI qf cf []) ad wd cI cB cP cT (x, y, g)) → va_S A s.heap H locs → lv_has ls 13 [(0, .ref b), (1, .int v1), (2, .ref (ad 0 0)), (3, .ref qa), (4, .ref ca), (5, .int v5), (6, .int v6), (8, .int v8), (10, .int v10)] → W p l e { frames := 11, cells := BC, slots := BS, locals := 299 } s m args below meth c H locs cells slots (MQ below (zQi D (cTy cI cB cP cT) (fun _ : Unit => []) (fun r _ => r = 1) [] s.heap.size) args s BC BS (va_A [] s.heap.size)) (F0 m 501 ls []) := by
          intro x y g qf cf v1 v5 v6 v8 v10 bc bs h cells slots hB H locs ls hP hD hS hl
          unfold jL_loom_501 at h
          refine lv_iload (pc := 501) hx hb dL_loom_501 (lv_at hl 8 rfl) ?_
          refine lv_aload_n (pc := 503) hx hb dL_loom_503 rfl (lv_at hl 2 rfl) ?_
          refine cVip (pc := 504) (E := LE qa ca cI qf cf []) (x := x) (y := y) (g := g) [] hFc (kX8_results x y g h) (cwL_X8_results hts ⟨Nat.le_of_ble_eq_true rfl, Nat.le_of_ble_eq_true rfl⟩) rfl (cA_S ..) hP hD hS rfl rfl hl.1 (Nat.le_of_ble_eq_true rfl) dL_loom_504 ⟨by show _ ≤ BC; (try dsimp only); omega, by show _ ≤ BS; (try dsimp only); omega⟩ (fun r_504 H locs h hP hD hS => ?_)
          refine lv_icmp_ge (pc := 507) (tgt := 515) hx hb dL_loom_507 (by decide) (fun c_507 => ?_) (fun c_507 => ?_)
          · have h := h.1 c_507
            refine lv_aload_n (pc := 515) hx hb dL_loom_515 rfl (lv_at hl 2 rfl) ?_
            refine cVip (pc := 516) (E := LE qa ca cI qf cf []) (x := x) (y := y) (g := g) [] hFc (kX8_results x y g h) (cwL_X8_results hts ⟨Nat.le_of_ble_eq_true rfl, Nat.le_of_ble_eq_true rfl⟩) rfl (cA_S ..) hP hD hS rfl rfl hl.1 (Nat.le_of_ble_eq_true rfl) dL_loom_516 ⟨by show _ ≤ BC; (try dsimp only); omega, by show _ ≤ BS; (try dsimp only); omega⟩ (fun r_516 H locs h hP hD hS => ?_)
            exact J519 x y g qf cf v1 v5 v6 v8 r_516 bc bs h _ _ hB _ _ _ hP hD hS (lv_sub hl [0, 1, 2, 3, 4, 5, 6, 7] rfl)
          · have h := h.2 c_507
            refine lv_iload (pc := 510) hx hb dL_loom_510 (lv_at hl 8 rfl) ?_
            refine lv_goto (pc := 512) (tgt := 519) hx hb dL_loom_512 (by decide) ?_
            exact J519 x y g qf cf v1 v5 v6 v8 v10 bc bs h _ _ hB _ _ _ hP hD hS (lv_sub hl [0, 1, 2, 3, 4, 5, 6, 7] rfl)
        have J488 : ∀ (x : Nat → Nat → Int32) (y : Nat → Nat → Nat) (g : Nat → Nat → Nat → Int32) (qf cf : Nat → Int32) (v1 : Int32) (v6 : Int32) (v7 : Int32) (v8 : Int32) (v10 : Int32) (s0 : Int32) (bc bs : Nat), jL_loom_488 L xs (lL_loom_37 L xs Φ n37) Φ x y g qf cf v1 v6 v7 v8 v10 s0 bc bs → ∀ (cells slots : Nat), (cells + bc ≤ BC ∧ slots + bs ≤ BS) → ∀ (H : Heap) (locs : List Loc) (ls : Array Slot), va_P D vwCl (cW (LE qa ca cI qf cf []) ad wd cI cB cP cT (x, y, g)) H → va_D A (cW (LE qa ca cI qf cf []) ad wd cI cB cP cT (x, y, g)) → va_S A s.heap H locs → lv_has ls 13 [(0, .ref b), (1, .int v1), (2, .ref (ad 0 0)), (3, .ref qa), (4, .ref ca), (6, .int v6), (7, .int v7), (8, .int v8), (10, .int v10)] → W p l e { frames := 11, cells := BC, slots := BS, locals := 299 } s m args below meth c H locs cells slots (MQ below (zQi D (cTy cI cB cP cT) (fun _ : Unit => []) (fun r _ => r = 1) [] s.heap.size) args s BC BS (va_A [] s.heap.size)) (F0 m 488 ls [.int s0]) := by
          intro x y g qf cf v1 v6 v7 v8 v10 s0 bc bs h cells slots hB H locs ls hP hD hS hl
          unfold jL_loom_488 at h
          refine lv_istore (pc := 488) (lv' := [(5, .int s0), (0, .ref b), (1, .int v1), (2, .ref (ad 0 0)), (3, .ref qa), (4, .ref ca), (6, .int v6), (7, .int v7), (8, .int v8), (10, .int v10)]) hx hb dL_loom_488 hl (by decide) rfl (fun ls hl => ?_)
          refine lv_aload (pc := 490) hx hb dL_loom_490 (lv_at hl 5 rfl) ?_
          refine lv_bipush (pc := 492) (v := 7) hx hb dL_loom_492 (by decide) ?_
          refine lv_iconst (pc := 494) (v := 1) hx hb dL_loom_494 (by decide) ?_
          refine lv_iload (pc := 495) hx hb dL_loom_495 (lv_at hl 7 rfl) ?_
          refine lv_iconst (pc := 497) (v := 4) hx hb dL_loom_497 (by decide) ?_
          refine lv_irem (pc := 498) hx hb dL_loom_498 (by decide) ?_
          refine lv_iadd (pc := 499) hx hb dL_loom_499 ?_
          obtain ⟨cf_500, e_cf_500⟩ : ∃ z : Nat → Int32, z = (upd cf 7 (1 + (v7 - v7 / 4 * 4))) := ⟨_, rfl⟩
          replace h := h cf_500 e_cf_500
          refine lc_set (pc := 500) (v := (1 + (v7 - v7 / 4 * 4))) (f := cf_500) hF hP hD hS e_cf_500.symm (vp_in_iff.mpr (by decide)) dL_loom_500 (fun H locs hP hD hS => ?_)
          exact J501 x y g qf cf_500 v1 s0 v6 v8 v10 bc bs h _ _ hB _ _ _ hP hD hS (lv_sub hl [1, 2, 3, 4, 5, 0, 6, 8, 9] rfl)
        have J487 : ∀ (x : Nat → Nat → Int32) (y : Nat → Nat → Nat) (g : Nat → Nat → Nat → Int32) (qf cf : Nat → Int32) (v1 : Int32) (v6 : Int32) (v7 : Int32) (v8 : Int32) (v10 : Int32) (bc bs : Nat), jL_loom_487 L xs (lL_loom_37 L xs Φ n37) Φ x y g qf cf v1 v6 v7 v8 v10 bc bs → ∀ (cells slots : Nat), (cells + bc ≤ BC ∧ slots + bs ≤ BS) → ∀ (H : Heap) (locs : List Loc) (ls : Array Slot), va_P D vwCl (cW (LE qa ca cI qf cf []) ad wd cI cB cP cT (x, y, g)) H → va_D A (cW (LE qa ca cI qf cf []) ad wd cI cB cP cT (x, y, g)) → va_S A s.heap H locs → lv_has ls 13 [(0, .ref b), (1, .int v1), (2, .ref (ad 0 0)), (3, .ref qa), (4, .ref ca), (6, .int v6), (7, .int v7), (8, .int v8), (10, .int v10)] → W p l e { frames := 11, cells := BC, slots := BS, locals := 299 } s m args below meth c H locs cells slots (MQ below (zQi D (cTy cI cB cP cT) (fun _ : Unit => []) (fun r _ => r = 1) [] s.heap.size) args s BC BS (va_A [] s.heap.size)) (F0 m 487 ls []) := by
          intro x y g qf cf v1 v6 v7 v8 v10 bc bs h cells slots hB H locs ls hP hD hS hl
          unfold jL_loom_487 at h
          refine lv_iconst (pc := 487) (v := 0) hx hb dL_loom_487 (by decide) ?_
          exact J488 x y g qf cf v1 v6 v7 v8 v10 0 bc bs h _ _ hB _ _ _ hP hD hS (lv_sub hl [0, 1, 2, 3, 4, 5, 6, 7, 8] rfl)
        have J448 : ∀ (x : Nat → Nat → Int32) (y : Nat → Nat → Nat) (g : Nat → Nat → Nat → Int32) (qf cf : Nat → Int32) (v1 : Int32) (v6 : Int32) (v8 : Int32) (v10 : Int32) (s0 : Int32) (bc bs : Nat), jL_loom_448 L xs (lL_loom_37 L xs Φ n37) Φ x y g qf cf v1 v6 v8 v10 s0 bc bs → ∀ (cells slots : Nat), (cells + bc ≤ BC ∧ slots + bs ≤ BS) → ∀ (H : Heap) (locs : List Loc) (ls : Array Slot), va_P D vwCl (cW (LE qa ca cI qf cf []) ad wd cI cB cP cT (x, y, g)) H → va_D A (cW (LE qa ca cI qf cf []) ad wd cI cB cP cT (x, y, g)) → va_S A s.heap H locs → lv_has ls 13 [(0, .ref b), (1, .int v1), (2, .ref (ad 0 0)), (3, .ref qa), (4, .ref ca), (6, .int v6), (8, .int v8), (10, .int v10)] → W p l e { frames := 11, cells := BC, slots := BS, locals := 299 } s m args below meth c H locs cells slots (MQ below (zQi D (cTy cI cB cP cT) (fun _ : Unit => []) (fun r _ => r = 1) [] s.heap.size) args s BC BS (va_A [] s.heap.size)) (F0 m 448 ls [.int s0]) := by
          intro x y g qf cf v1 v6 v8 v10 s0 bc bs h cells slots hB H locs ls hP hD hS hl
          unfold jL_loom_448 at h
          refine lv_istore (pc := 448) (lv' := [(5, .int s0), (0, .ref b), (1, .int v1), (2, .ref (ad 0 0)), (3, .ref qa), (4, .ref ca), (6, .int v6), (8, .int v8), (10, .int v10)]) hx hb dL_loom_448 hl (by decide) rfl (fun ls hl => ?_)
          refine lv_goto (pc := 450) (tgt := 501) hx hb dL_loom_450 (by decide) ?_
          exact J501 x y g qf cf v1 s0 v6 v8 v10 bc bs h _ _ hB _ _ _ hP hD hS (lv_sub hl [1, 2, 3, 4, 5, 0, 6, 7, 8] rfl)
        have J447 : ∀ (x : Nat → Nat → Int32) (y : Nat → Nat → Nat) (g : Nat → Nat → Nat → Int32) (qf cf : Nat → Int32) (v1 : Int32) (v6 : Int32) (v8 : Int32) (v10 : Int32) (bc bs : Nat), jL_loom_447 L xs (lL_loom_37 L xs Φ n37) Φ x y g qf cf v1 v6 v8 v10 bc bs → ∀ (cells slots : Nat), (cells + bc ≤ BC ∧ slots + bs ≤ BS) → ∀ (H : Heap) (locs : List Loc) (ls : Array Slot), va_P D vwCl (cW (LE qa ca cI qf cf []) ad wd cI cB cP cT (x, y, g)) H → va_D A (cW (LE qa ca cI qf cf []) ad wd cI cB cP cT (x, y, g)) → va_S A s.heap H locs → lv_has ls 13 [(0, .ref b), (1, .int v1), (2, .ref (ad 0 0)), (3, .ref qa), (4, .ref ca), (6, .int v6), (8, .int v8), (10, .int v10)] → W p l e { frames := 11, cells := BC, slots := BS, locals := 299 } s m args below meth c H locs cells slots (MQ below (zQi D (cTy cI cB cP cT) (fun _ : Unit => []) (fun r _ => r = 1) [] s.heap.size) args s BC BS (va_A [] s.heap.size)) (F0 m 447 ls []) := by
          intro x y g qf cf v1 v6 v8 v10 bc bs h cells slots hB H locs ls hP hD hS hl
          unfold jL_loom_447 at h
          refine lv_iconst (pc := 447) (v := 0) hx hb dL_loom_447 (by decide) ?_
          exact J448 x y g qf cf v1 v6 v8 v10 0 bc bs h _ _ hB _ _ _ hP hD hS (lv_sub hl [0, 1, 2, 3, 4, 5, 6, 7] rfl)
        have J443 : ∀ (x : Nat → Nat → Int32) (y : Nat → Nat → Nat) (g : Nat → Nat → Nat → Int32) (qf cf : Nat → Int32) (v1 : Int32) (v6 : Int32) (v8 : Int32) (v10 : Int32) (bc bs : Nat), jL_loom_443 L xs (lL_loom_37 L xs Φ n37) Φ x y g qf cf v1 v6 v8 v10 bc bs → ∀ (cells slots : Nat), (cells + bc ≤ BC ∧ slots + bs ≤ BS) → ∀ (H : Heap) (locs : List Loc) (ls : Array Slot), va_P D vwCl (cW (LE qa ca cI qf cf []) ad wd cI cB cP cT (x, y, g)) H → va_D A (cW (LE qa ca cI qf cf []) ad wd cI cB cP cT (x, y, g)) → va_S A s.heap H locs → lv_has ls 13 [(0, .ref b), (1, .int v1), (2, .ref (ad 0 0)), (3, .ref qa), (4, .ref ca), (6, .int v6), (8, .int v8), (10, .int v10)] → W p l e { frames := 11, cells := BC, slots := BS, locals := 299 } s m args below meth c H locs cells slots (MQ below (zQi D (cTy cI cB cP cT) (fun _ : Unit => []) (fun r _ => r = 1) [] s.heap.size) args s BC BS (va_A [] s.heap.size)) (F0 m 443 ls []) := by
          intro x y g qf cf v1 v6 v8 v10 bc bs h cells slots hB H locs ls hP hD hS hl
          unfold jL_loom_443 at h
          refine lv_iconst (pc := 443) (v := 1) hx hb dL_loom_443 (by decide) ?_
          refine lv_goto (pc := 444) (tgt := 448) hx hb dL_loom_444 (by decide) ?_
          exact J448 x y g qf cf v1 v6 v8 v10 1 bc bs h _ _ hB _ _ _ hP hD hS (lv_sub hl [0, 1, 2, 3, 4, 5, 6, 7] rfl)
        have J367 : ∀ (x : Nat → Nat → Int32) (y : Nat → Nat → Nat) (g : Nat → Nat → Nat → Int32) (qf cf : Nat → Int32) (v1 : Int32) (v6 : Int32) (v8 : Int32) (v10 : Int32) (v11 : Int32) (s0 : Int32) (bc bs : Nat), jL_loom_367 L xs (lL_loom_37 L xs Φ n37) Φ x y g qf cf v1 v6 v8 v10 v11 s0 bc bs → ∀ (cells slots : Nat), (cells + bc ≤ BC ∧ slots + bs ≤ BS) → ∀ (H : Heap) (locs : List Loc) (ls : Array Slot), va_P D vwCl (cW (LE qa ca cI qf cf []) ad wd cI cB cP cT (x, y, g)) H → va_D A (cW (LE qa ca cI qf cf []) ad wd cI cB cP cT (x, y, g)) → va_S A s.heap H locs → lv_has ls 13 [(0, .ref b), (1, .int v1), (2, .ref (ad 0 0)), (3, .ref qa), (4, .ref ca), (6, .int v6), (8, .int v8), (10, .int v10), (11, .int v11)] → W p l e { frames := 11, cells := BC, slots := BS, locals := 299 } s m args below meth c H locs cells slots (MQ below (zQi D (cTy cI cB cP cT) (fun _ : Unit => []) (fun r _ => r = 1) [] s.heap.size) args s BC BS (va_A [] s.heap.size)) (F0 m 367 ls [.int s0]) := by
          intro x y g qf cf v1 v6 v8 v10 v11 s0 bc bs h cells slots hB H locs ls hP hD hS hl
          unfold jL_loom_367 at h
          refine lv_istore (pc := 367) (lv' := [(5, .int s0), (0, .ref b), (1, .int v1), (2, .ref (ad 0 0)), (3, .ref qa), (4, .ref ca), (6, .int v6), (8, .int v8), (10, .int v10), (11, .int v11)]) hx hb dL_loom_367 hl (by decide) rfl (fun ls hl => ?_)
          refine lv_aload (pc := 369) hx hb dL_loom_369 (lv_at hl 5 rfl) ?_
          refine lv_bipush (pc := 371) (v := 8) hx hb dL_loom_371 (by decide) ?_
          refine lv_iload (pc := 373) hx hb dL_loom_373 (lv_at hl 9 rfl) ?_
          obtain ⟨cf_375, e_cf_375⟩ : ∃ z : Nat → Int32, z = (upd cf 8 v11) := ⟨_, rfl⟩
          replace h := h cf_375 e_cf_375
          refine lc_set (pc := 375) (v := v11) (f := cf_375) hF hP hD hS e_cf_375.symm (vp_in_iff.mpr (by decide)) dL_loom_375 (fun H locs hP hD hS => ?_)
          refine lv_goto (pc := 376) (tgt := 501) hx hb dL_loom_376 (by decide) ?_
          exact J501 x y g qf cf_375 v1 s0 v6 v8 v10 bc bs h _ _ hB _ _ _ hP hD hS (lv_sub hl [1, 2, 3, 4, 5, 0, 6, 7, 8] rfl)
        have J366 : ∀ (x : Nat → Nat → Int32) (y : Nat → Nat → Nat) (g : Nat → Nat → Nat → Int32) (qf cf : Nat → Int32) (v1 : Int32) (v6 : Int32) (v8 : Int32) (v10 : Int32) (v11 : Int32) (bc bs : Nat), jL_loom_366 L xs (lL_loom_37 L xs Φ n37) Φ x y g qf cf v1 v6 v8 v10 v11 bc bs → ∀ (cells slots : Nat), (cells + bc ≤ BC ∧ slots + bs ≤ BS) → ∀ (H : Heap) (locs : List Loc) (ls : Array Slot), va_P D vwCl (cW (LE qa ca cI qf cf []) ad wd cI cB cP cT (x, y, g)) H → va_D A (cW (LE qa ca cI qf cf []) ad wd cI cB cP cT (x, y, g)) → va_S A s.heap H locs → lv_has ls 13 [(0, .ref b), (1, .int v1), (2, .ref (ad 0 0)), (3, .ref qa), (4, .ref ca), (6, .int v6), (8, .int v8), (10, .int v10), (11, .int v11)] → W p l e { frames := 11, cells := BC, slots := BS, locals := 299 } s m args below meth c H locs cells slots (MQ below (zQi D (cTy cI cB cP cT) (fun _ : Unit => []) (fun r _ => r = 1) [] s.heap.size) args s BC BS (va_A [] s.heap.size)) (F0 m 366 ls []) := by
          intro x y g qf cf v1 v6 v8 v10 v11 bc bs h cells slots hB H locs ls hP hD hS hl
          unfold jL_loom_366 at h
          refine lv_iconst (pc := 366) (v := 0) hx hb dL_loom_366 (by decide) ?_
          exact J367 x y g qf cf v1 v6 v8 v10 v11 0 bc bs h _ _ hB _ _ _ hP hD hS (lv_sub hl [0, 1, 2, 3, 4, 5, 6, 7, 8] rfl)
        have J338 : ∀ (x : Nat → Nat → Int32) (y : Nat → Nat → Nat) (g : Nat → Nat → Nat → Int32) (qf cf : Nat → Int32) (v1 : Int32) (v6 : Int32) (v8 : Int32) (v10 : Int32) (s1 : Int32) (s2 : Int32) (bc bs : Nat), jL_loom_338 L xs (lL_loom_37 L xs Φ n37) Φ x y g qf cf v1 v6 v8 v10 s1 s2 bc bs → ∀ (cells slots : Nat), (cells + bc ≤ BC ∧ slots + bs ≤ BS) → ∀ (H : Heap) (locs : List Loc) (ls : Array Slot), va_P D vwCl (cW (LE qa ca cI qf cf []) ad wd cI cB cP cT (x, y, g)) H → va_D A (cW (LE qa ca cI qf cf []) ad wd cI cB cP cT (x, y, g)) → va_S A s.heap H locs → lv_has ls 13 [(0, .ref b), (1, .int v1), (2, .ref (ad 0 0)), (3, .ref qa), (4, .ref ca), (6, .int v6), (8, .int v8), (10, .int v10)] → W p l e { frames := 11, cells := BC, slots := BS, locals := 299 } s m args below meth c H locs cells slots (MQ below (zQi D (cTy cI cB cP cT) (fun _ : Unit => []) (fun r _ => r = 1) [] s.heap.size) args s BC BS (va_A [] s.heap.size)) (F0 m 338 ls [.int s2, .int s1, .ref (ad 0 0)]) := by
          intro x y g qf cf v1 v6 v8 v10 s1 s2 bc bs h cells slots hB H locs ls hP hD hS hl
          unfold jL_loom_338 at h
          obtain ⟨kc_338, ks_338, bc_338, bs_338, ec_338, es_338, h⟩ := h
          obtain ⟨hz_338, h⟩ := h
          refine lCall (pc := 338) (E := LE qa ca cI qf cf []) (x := x) (y := y) (g := g) [.int s1, .int s2] hFc (kX8_idle x y g s1 s2 kc_338 ks_338 hlf h hz_338) (cwL_X8_idle hts ⟨Nat.le_of_ble_eq_true rfl, Nat.le_of_ble_eq_true rfl⟩) (lRo hFc hP) hP hD hS rfl rfl hl.1 (Nat.le_of_ble_eq_true rfl) dL_loom_338 ⟨by show _ ≤ BC; (try dsimp only); omega, by show _ ≤ BS; (try dsimp only); omega⟩ (fun E2 ce q9 x1 y1 g1 H locs h hP hD hS hce hcv hcl => h.elim) (fun r_338 x_338 y_338 g_338 H locs h hP hD hS => ?_)
          have hB : (cells + kc_338) + bc_338 ≤ BC ∧ (slots + ks_338) + bs_338 ≤ BS := ⟨by omega, by omega⟩
          refine lv_istore (pc := 341) (lv' := [(11, .int r_338), (0, .ref b), (1, .int v1), (2, .ref (ad 0 0)), (3, .ref qa), (4, .ref ca), (6, .int v6), (8, .int v8), (10, .int v10)]) hx hb dL_loom_341 hl (by decide) rfl (fun ls hl => ?_)
          refine lv_iload (pc := 343) hx hb dL_loom_343 (lv_at hl 0 rfl) ?_
          refine lv_aload_n (pc := 345) hx hb dL_loom_345 rfl (lv_at hl 3 rfl) ?_
          refine cVip (pc := 346) (E := LE qa ca cI qf cf []) (x := x_338) (y := y_338) (g := g_338) [] hFc (kX8_watermark x_338 y_338 g_338 h) (cwL_X8_watermark hts ⟨Nat.le_of_ble_eq_true rfl, Nat.le_of_ble_eq_true rfl⟩) rfl (cA_S ..) hP hD hS rfl rfl hl.1 (Nat.le_of_ble_eq_true rfl) dL_loom_346 ⟨by show _ ≤ BC; (try dsimp only); omega, by show _ ≤ BS; (try dsimp only); omega⟩ (fun r_346 H locs h hP hD hS => ?_)
          refine lv_icmp_ne (pc := 349) (tgt := 366) hx hb dL_loom_349 (by decide) (fun c_349 => ?_) (fun c_349 => ?_)
          · have h := h.2 c_349
            exact J366 x_338 y_338 g_338 qf cf v1 v6 v8 v10 r_338 bc_338 bs_338 h _ _ hB _ _ _ hP hD hS (lv_sub hl [1, 2, 3, 4, 5, 6, 7, 8, 0] rfl)
          · have h := h.1 c_349
            refine lv_iload (pc := 352) hx hb dL_loom_352 (lv_at hl 0 rfl) ?_
            refine lv_aload (pc := 354) hx hb dL_loom_354 (lv_at hl 5 rfl) ?_
            refine lv_bipush (pc := 356) (v := 8) hx hb dL_loom_356 (by decide) ?_
            refine lc_get (pc := 358) (v := (cf 8)) hF hP rfl (vp_in_iff.mpr (by decide)) dL_loom_358 ?_
            refine lv_icmp_lt (pc := 359) (tgt := 366) hx hb dL_loom_359 (by decide) (fun c_359 => ?_) (fun c_359 => ?_)
            · have h := h.1 c_359
              exact J366 x_338 y_338 g_338 qf cf v1 v6 v8 v10 r_338 bc_338 bs_338 h _ _ hB _ _ _ hP hD hS (lv_sub hl [1, 2, 3, 4, 5, 6, 7, 8, 0] rfl)
            · have h := h.2 c_359
              refine lv_iconst (pc := 362) (v := 1) hx hb dL_loom_362 (by decide) ?_
              refine lv_goto (pc := 363) (tgt := 367) hx hb dL_loom_363 (by decide) ?_
              exact J367 x_338 y_338 g_338 qf cf v1 v6 v8 v10 r_338 1 bc_338 bs_338 h _ _ hB _ _ _ hP hD hS (lv_sub hl [1, 2, 3, 4, 5, 6, 7, 8, 0] rfl)
        have J258 : ∀ (x : Nat → Nat → Int32) (y : Nat → Nat → Nat) (g : Nat → Nat → Nat → Int32) (qf cf : Nat → Int32) (v1 : Int32) (v6 : Int32) (v8 : Int32) (v10 : Int32) (s0 : Int32) (bc bs : Nat), jL_loom_258 L xs (lL_loom_37 L xs Φ n37) Φ x y g qf cf v1 v6 v8 v10 s0 bc bs → ∀ (cells slots : Nat), (cells + bc ≤ BC ∧ slots + bs ≤ BS) → ∀ (H : Heap) (locs : List Loc) (ls : Array Slot), va_P D vwCl (cW (LE qa ca cI qf cf []) ad wd cI cB cP cT (x, y, g)) H → va_D A (cW (LE qa ca cI qf cf []) ad wd cI cB cP cT (x, y, g)) → va_S A s.heap H locs → lv_has ls 13 [(0, .ref b), (1, .int v1), (2, .ref (ad 0 0)), (3, .ref qa), (4, .ref ca), (6, .int v6), (8, .int v8), (10, .int v10)] → W p l e { frames := 11, cells := BC, slots := BS, locals := 299 } s m args below meth c H locs cells slots (MQ below (zQi D (cTy cI cB cP cT) (fun _ : Unit => []) (fun r _ => r = 1) [] s.heap.size) args s BC BS (va_A [] s.heap.size)) (F0 m 258 ls [.int s0]) := by
          intro x y g qf cf v1 v6 v8 v10 s0 bc bs h cells slots hB H locs ls hP hD hS hl
          unfold jL_loom_258 at h
          refine lv_istore (pc := 258) (lv' := [(5, .int s0), (0, .ref b), (1, .int v1), (2, .ref (ad 0 0)), (3, .ref qa), (4, .ref ca), (6, .int v6), (8, .int v8), (10, .int v10)]) hx hb dL_loom_258 hl (by decide) rfl (fun ls hl => ?_)
          refine lv_goto (pc := 260) (tgt := 501) hx hb dL_loom_260 (by decide) ?_
          exact J501 x y g qf cf v1 s0 v6 v8 v10 bc bs h _ _ hB _ _ _ hP hD hS (lv_sub hl [1, 2, 3, 4, 5, 0, 6, 7, 8] rfl)
        have J160 : ∀ (x : Nat → Nat → Int32) (y : Nat → Nat → Nat) (g : Nat → Nat → Nat → Int32) (qf cf : Nat → Int32) (v1 : Int32) (v6 : Int32) (v8 : Int32) (v10 : Int32) (s0 : Int32) (bc bs : Nat), jL_loom_160 L xs (lL_loom_37 L xs Φ n37) Φ x y g qf cf v1 v6 v8 v10 s0 bc bs → ∀ (cells slots : Nat), (cells + bc ≤ BC ∧ slots + bs ≤ BS) → ∀ (H : Heap) (locs : List Loc) (ls : Array Slot), va_P D vwCl (cW (LE qa ca cI qf cf []) ad wd cI cB cP cT (x, y, g)) H → va_D A (cW (LE qa ca cI qf cf []) ad wd cI cB cP cT (x, y, g)) → va_S A s.heap H locs → lv_has ls 13 [(0, .ref b), (1, .int v1), (2, .ref (ad 0 0)), (3, .ref qa), (4, .ref ca), (6, .int v6), (8, .int v8), (10, .int v10)] → W p l e { frames := 11, cells := BC, slots := BS, locals := 299 } s m args below meth c H locs cells slots (MQ below (zQi D (cTy cI cB cP cT) (fun _ : Unit => []) (fun r _ => r = 1) [] s.heap.size) args s BC BS (va_A [] s.heap.size)) (F0 m 160 ls [.int s0]) := by
          intro x y g qf cf v1 v6 v8 v10 s0 bc bs h cells slots hB H locs ls hP hD hS hl
          unfold jL_loom_160 at h
          refine lv_istore (pc := 160) (lv' := [(5, .int s0), (0, .ref b), (1, .int v1), (2, .ref (ad 0 0)), (3, .ref qa), (4, .ref ca), (6, .int v6), (8, .int v8), (10, .int v10)]) hx hb dL_loom_160 hl (by decide) rfl (fun ls hl => ?_)
          refine lv_goto (pc := 162) (tgt := 501) hx hb dL_loom_162 (by decide) ?_
          exact J501 x y g qf cf v1 s0 v6 v8 v10 bc bs h _ _ hB _ _ _ hP hD hS (lv_sub hl [1, 2, 3, 4, 5, 0, 6, 7, 8] rfl)
        have J155 : ∀ (x : Nat → Nat → Int32) (y : Nat → Nat → Nat) (g : Nat → Nat → Nat → Int32) (qf cf : Nat → Int32) (v1 : Int32) (v6 : Int32) (v8 : Int32) (v10 : Int32) (bc bs : Nat), jL_loom_155 L xs (lL_loom_37 L xs Φ n37) Φ x y g qf cf v1 v6 v8 v10 bc bs → ∀ (cells slots : Nat), (cells + bc ≤ BC ∧ slots + bs ≤ BS) → ∀ (H : Heap) (locs : List Loc) (ls : Array Slot), va_P D vwCl (cW (LE qa ca cI qf cf []) ad wd cI cB cP cT (x, y, g)) H → va_D A (cW (LE qa ca cI qf cf []) ad wd cI cB cP cT (x, y, g)) → va_S A s.heap H locs → lv_has ls 13 [(0, .ref b), (1, .int v1), (2, .ref (ad 0 0)), (3, .ref qa), (4, .ref ca), (6, .int v6), (8, .int v8), (10, .int v10)] → W p l e { frames := 11, cells := BC, slots := BS, locals := 299 } s m args below meth c H locs cells slots (MQ below (zQi D (cTy cI cB cP cT) (fun _ : Unit => []) (fun r _ => r = 1) [] s.heap.size) args s BC BS (va_A [] s.heap.size)) (F0 m 155 ls []) := by
          intro x y g qf cf v1 v6 v8 v10 bc bs h cells slots hB H locs ls hP hD hS hl
          unfold jL_loom_155 at h
          refine lv_iconst (pc := 155) (v := 1) hx hb dL_loom_155 (by decide) ?_
          refine lv_goto (pc := 156) (tgt := 160) hx hb dL_loom_156 (by decide) ?_
          exact J160 x y g qf cf v1 v6 v8 v10 1 bc bs h _ _ hB _ _ _ hP hD hS (lv_sub hl [0, 1, 2, 3, 4, 5, 6, 7] rfl)
        have J141 : ∀ (x : Nat → Nat → Int32) (y : Nat → Nat → Nat) (g : Nat → Nat → Nat → Int32) (qf cf : Nat → Int32) (v1 : Int32) (v6 : Int32) (v7 : Int32) (v8 : Int32) (v10 : Int32) (bc bs : Nat), jL_loom_141 L xs (lL_loom_37 L xs Φ n37) Φ x y g qf cf v1 v6 v7 v8 v10 bc bs → ∀ (cells slots : Nat), (cells + bc ≤ BC ∧ slots + bs ≤ BS) → ∀ (H : Heap) (locs : List Loc) (ls : Array Slot), va_P D vwCl (cW (LE qa ca cI qf cf []) ad wd cI cB cP cT (x, y, g)) H → va_D A (cW (LE qa ca cI qf cf []) ad wd cI cB cP cT (x, y, g)) → va_S A s.heap H locs → lv_has ls 13 [(0, .ref b), (1, .int v1), (2, .ref (ad 0 0)), (3, .ref qa), (4, .ref ca), (6, .int v6), (7, .int v7), (8, .int v8), (10, .int v10)] → W p l e { frames := 11, cells := BC, slots := BS, locals := 299 } s m args below meth c H locs cells slots (MQ below (zQi D (cTy cI cB cP cT) (fun _ : Unit => []) (fun r _ => r = 1) [] s.heap.size) args s BC BS (va_A [] s.heap.size)) (F0 m 141 ls []) := by
          intro x y g qf cf v1 v6 v7 v8 v10 bc bs h cells slots hB H locs ls hP hD hS hl
          unfold jL_loom_141 at h
          refine lv_aload_n (pc := 141) hx hb dL_loom_141 rfl (lv_at hl 2 rfl) ?_
          refine lv_iload (pc := 142) hx hb dL_loom_142 (lv_at hl 6 rfl) ?_
          refine lv_iload (pc := 144) hx hb dL_loom_144 (lv_at hl 7 rfl) ?_
          refine lv_aload_n (pc := 146) hx hb dL_loom_146 rfl (lv_at hl 3 rfl) ?_
          refine lv_aload (pc := 147) hx hb dL_loom_147 (lv_at hl 4 rfl) ?_
          obtain ⟨kc_149, ks_149, bc_149, bs_149, ec_149, es_149, h⟩ := h
          refine zSi (pc := 149) (Wd := (WL [] qa ca ad wd cI cB cP cT)) (u0 := ((x, y, g), qf, cf)) [.ref (ad 0 0), .int v7, .int v8, .ref qa, .ref ca] hF (kL_begins x y g qf cf v7 v8 kc_149 ks_149 hlf h) (cwL_L_begins hts ⟨Nat.le_of_ble_eq_true rfl, Nat.le_of_ble_eq_true rfl⟩) hP hD hS rfl rfl hl.1 (Nat.le_of_ble_eq_true rfl) dL_loom_149 ⟨by show _ ≤ BC; (try dsimp only); omega, by show _ ≤ BS; (try dsimp only); omega⟩ (fun r_149 u H locs h hP hD hS => ?_)
          obtain ⟨⟨x_149, y_149, g_149⟩, qf_149, cf_149⟩ := u
          have hP : va_P D vwCl (cW (LE qa ca cI qf_149 cf_149 []) ad wd cI cB cP cT (x_149, y_149, g_149)) H := hP
          have hD : va_D A (cW (LE qa ca cI qf_149 cf_149 []) ad wd cI cB cP cT (x_149, y_149, g_149)) := hD
          have hB : (cells + kc_149) + bc_149 ≤ BC ∧ (slots + ks_149) + bs_149 ≤ BS := ⟨by omega, by omega⟩
          refine lv_if_eq (pc := 152) (tgt := 159) hx hb dL_loom_152 (by decide) (fun c_152 => ?_) (fun c_152 => ?_)
          · have h := h.1 c_152
            refine lv_iconst (pc := 159) (v := 0) hx hb dL_loom_159 (by decide) ?_
            exact J160 x_149 y_149 g_149 qf_149 cf_149 v1 v6 v8 v10 0 bc_149 bs_149 h _ _ hB _ _ _ hP hD hS (lv_sub hl [0, 1, 2, 3, 4, 5, 7, 8] rfl)
          · have h := h.2 c_152
            exact J155 x_149 y_149 g_149 qf_149 cf_149 v1 v6 v8 v10 bc_149 bs_149 h _ _ hB _ _ _ hP hD hS (lv_sub hl [0, 1, 2, 3, 4, 5, 7, 8] rfl)
        have J113 : ∀ (x : Nat → Nat → Int32) (y : Nat → Nat → Nat) (g : Nat → Nat → Nat → Int32) (qf cf : Nat → Int32) (v1 : Int32) (v6 : Int32) (v7 : Int32) (v8 : Int32) (s0 : Int32) (bc bs : Nat), jL_loom_113 L xs (lL_loom_37 L xs Φ n37) Φ x y g qf cf v1 v6 v7 v8 s0 bc bs → ∀ (cells slots : Nat), (cells + bc ≤ BC ∧ slots + bs ≤ BS) → ∀ (H : Heap) (locs : List Loc) (ls : Array Slot), va_P D vwCl (cW (LE qa ca cI qf cf []) ad wd cI cB cP cT (x, y, g)) H → va_D A (cW (LE qa ca cI qf cf []) ad wd cI cB cP cT (x, y, g)) → va_S A s.heap H locs → lv_has ls 13 [(0, .ref b), (1, .int v1), (2, .ref (ad 0 0)), (3, .ref qa), (4, .ref ca), (6, .int v6), (7, .int v7), (8, .int v8)] → W p l e { frames := 11, cells := BC, slots := BS, locals := 299 } s m args below meth c H locs cells slots (MQ below (zQi D (cTy cI cB cP cT) (fun _ : Unit => []) (fun r _ => r = 1) [] s.heap.size) args s BC BS (va_A [] s.heap.size)) (F0 m 113 ls [.int s0]) := by
          intro x y g qf cf v1 v6 v7 v8 s0 bc bs h cells slots hB H locs ls hP hD hS hl
          unfold jL_loom_113 at h
          refine lv_istore (pc := 113) (lv' := [(9, .int s0), (0, .ref b), (1, .int v1), (2, .ref (ad 0 0)), (3, .ref qa), (4, .ref ca), (6, .int v6), (7, .int v7), (8, .int v8)]) hx hb dL_loom_113 hl (by decide) rfl (fun ls hl => ?_)
          refine lv_aload_n (pc := 115) hx hb dL_loom_115 rfl (lv_at hl 3 rfl) ?_
          refine cVip (pc := 116) (E := LE qa ca cI qf cf []) (x := x) (y := y) (g := g) [] hFc (kX8_results x y g h) (cwL_X8_results hts ⟨Nat.le_of_ble_eq_true rfl, Nat.le_of_ble_eq_true rfl⟩) rfl (cA_S ..) hP hD hS rfl rfl hl.1 (Nat.le_of_ble_eq_true rfl) dL_loom_116 ⟨by show _ ≤ BC; (try dsimp only); omega, by show _ ≤ BS; (try dsimp only); omega⟩ (fun r_116 H locs h hP hD hS => ?_)
          refine lv_istore (pc := 119) (lv' := [(10, .int r_116), (9, .int s0), (0, .ref b), (1, .int v1), (2, .ref (ad 0 0)), (3, .ref qa), (4, .ref ca), (6, .int v6), (7, .int v7), (8, .int v8)]) hx hb dL_loom_119 hl (by decide) rfl (fun ls hl => ?_)
          refine lv_iload (pc := 121) hx hb dL_loom_121 (lv_at hl 1 rfl) ?_
          refine lv_iconst (pc := 123) (v := 2) hx hb dL_loom_123 (by decide) ?_
          refine lv_icmp_ge (pc := 124) (tgt := 165) hx hb dL_loom_124 (by decide) (fun c_124 => ?_) (fun c_124 => ?_)
          · have h := h.1 c_124
            refine lv_iload (pc := 165) hx hb dL_loom_165 (lv_at hl 1 rfl) ?_
            refine lv_bipush (pc := 167) (v := 8) hx hb dL_loom_167 (by decide) ?_
            refine lv_icmp_ge (pc := 169) (tgt := 263) hx hb dL_loom_169 (by decide) (fun c_169 => ?_) (fun c_169 => ?_)
            · have h := h.1 c_169
              refine lv_iload (pc := 263) hx hb dL_loom_263 (lv_at hl 1 rfl) ?_
              refine lv_bipush (pc := 265) (v := 16) hx hb dL_loom_265 (by decide) ?_
              refine lv_icmp_ge (pc := 267) (tgt := 294) hx hb dL_loom_267 (by decide) (fun c_267 => ?_) (fun c_267 => ?_)
              · have h := h.1 c_267
                refine lv_iload (pc := 294) hx hb dL_loom_294 (lv_at hl 1 rfl) ?_
                refine lv_bipush (pc := 296) (v := 19) hx hb dL_loom_296 (by decide) ?_
                refine lv_icmp_ge (pc := 298) (tgt := 314) hx hb dL_loom_298 (by decide) (fun c_298 => ?_) (fun c_298 => ?_)
                · have h := h.1 c_298
                  refine lv_iload (pc := 314) hx hb dL_loom_314 (lv_at hl 1 rfl) ?_
                  refine lv_bipush (pc := 316) (v := 19) hx hb dL_loom_316 (by decide) ?_
                  refine lv_icmp_ne (pc := 318) (tgt := 379) hx hb dL_loom_318 (by decide) (fun c_318 => ?_) (fun c_318 => ?_)
                  · have h := h.2 c_318
                    refine lv_iload (pc := 379) hx hb dL_loom_379 (lv_at hl 1 rfl) ?_
                    refine lv_bipush (pc := 381) (v := 20) hx hb dL_loom_381 (by decide) ?_
                    refine lv_icmp_ne (pc := 383) (tgt := 453) hx hb dL_loom_383 (by decide) (fun c_383 => ?_) (fun c_383 => ?_)
                    · have h := h.2 c_383
                      refine lv_aload_n (pc := 453) hx hb dL_loom_453 rfl (lv_at hl 4 rfl) ?_
                      refine cVip (pc := 454) (E := LE qa ca cI qf cf []) (x := x) (y := y) (g := g) [] hFc (kX8_windows x y g h) (cwL_X8_windows hts ⟨Nat.le_of_ble_eq_true rfl, Nat.le_of_ble_eq_true rfl⟩) rfl (cA_S ..) hP hD hS rfl rfl hl.1 (Nat.le_of_ble_eq_true rfl) dL_loom_454 ⟨by show _ ≤ BC; (try dsimp only); omega, by show _ ≤ BS; (try dsimp only); omega⟩ (fun r_454 H locs h hP hD hS => ?_)
                      refine lv_istore (pc := 457) (lv' := [(11, .int r_454), (10, .int r_116), (9, .int s0), (0, .ref b), (1, .int v1), (2, .ref (ad 0 0)), (3, .ref qa), (4, .ref ca), (6, .int v6), (7, .int v7), (8, .int v8)]) hx hb dL_loom_457 hl (by decide) rfl (fun ls hl => ?_)
                      refine lv_aload_n (pc := 459) hx hb dL_loom_459 rfl (lv_at hl 5 rfl) ?_
                      refine lv_iconst (pc := 460) (v := 1) hx hb dL_loom_460 (by decide) ?_
                      refine lv_iload (pc := 461) hx hb dL_loom_461 (lv_at hl 9 rfl) ?_
                      refine lv_iconst (pc := 463) (v := 4) hx hb dL_loom_463 (by decide) ?_
                      refine lv_irem (pc := 464) hx hb dL_loom_464 (by decide) ?_
                      refine lv_iadd (pc := 465) hx hb dL_loom_465 ?_
                      obtain ⟨kc_466, ks_466, bc_466, bs_466, ec_466, es_466, h⟩ := h
                      refine lCall (pc := 466) (E := LE qa ca cI qf cf []) (x := x) (y := y) (g := g) [.int (1 + (v7 - v7 / 4 * 4))] hFc (kX8_workers x y g (1 + (v7 - v7 / 4 * 4)) kc_466 ks_466 hlf h) (cwL_X8_workers hts ⟨Nat.le_of_ble_eq_true rfl, Nat.le_of_ble_eq_true rfl⟩) (lRo hFc hP) hP hD hS rfl rfl hl.1 (Nat.le_of_ble_eq_true rfl) dL_loom_466 ⟨by show _ ≤ BC; (try dsimp only); omega, by show _ ≤ BS; (try dsimp only); omega⟩ (fun E2 ce q9 x1 y1 g1 H locs h hP hD hS hce hcv hcl => h.elim) (fun r_466 x_466 y_466 g_466 H locs h hP hD hS => ?_)
                      have hB : (((cells + 0) + 0) + kc_466) + bc_466 ≤ BC ∧ (((slots + 0) + 0) + ks_466) + bs_466 ≤ BS := ⟨by omega, by omega⟩
                      refine lv_istore (pc := 469) (lv' := [(12, .int r_466), (11, .int r_454), (10, .int r_116), (9, .int s0), (0, .ref b), (1, .int v1), (2, .ref (ad 0 0)), (3, .ref qa), (4, .ref ca), (6, .int v6), (7, .int v7), (8, .int v8)]) hx hb dL_loom_469 hl (by decide) rfl (fun ls hl => ?_)
                      refine lv_iload (pc := 471) hx hb dL_loom_471 (lv_at hl 0 rfl) ?_
                      refine lv_if_lt (pc := 473) (tgt := 487) hx hb dL_loom_473 (by decide) (fun c_473 => ?_) (fun c_473 => ?_)
                      · have h := h.1 c_473
                        exact J487 x_466 y_466 g_466 qf cf v1 v6 v7 v8 r_116 bc_466 bs_466 h _ _ hB _ _ _ hP hD hS (lv_sub hl [4, 5, 6, 7, 8, 9, 10, 11, 2] rfl)
                      · have h := h.2 c_473
                        refine lv_iload (pc := 476) hx hb dL_loom_476 (lv_at hl 0 rfl) ?_
                        refine lv_iload (pc := 478) hx hb dL_loom_478 (lv_at hl 1 rfl) ?_
                        refine lv_icmp_gt (pc := 480) (tgt := 487) hx hb dL_loom_480 (by decide) (fun c_480 => ?_) (fun c_480 => ?_)
                        · have h := h.1 c_480
                          exact J487 x_466 y_466 g_466 qf cf v1 v6 v7 v8 r_116 bc_466 bs_466 h _ _ hB _ _ _ hP hD hS (lv_sub hl [4, 5, 6, 7, 8, 9, 10, 11, 2] rfl)
                        · have h := h.2 c_480
                          refine lv_iconst (pc := 483) (v := 1) hx hb dL_loom_483 (by decide) ?_
                          refine lv_goto (pc := 484) (tgt := 488) hx hb dL_loom_484 (by decide) ?_
                          exact J488 x_466 y_466 g_466 qf cf v1 v6 v7 v8 r_116 1 bc_466 bs_466 h _ _ hB _ _ _ hP hD hS (lv_sub hl [4, 5, 6, 7, 8, 9, 10, 11, 2] rfl)
                    · have h := h.1 c_383
                      refine lv_aload_n (pc := 386) hx hb dL_loom_386 rfl (lv_at hl 4 rfl) ?_
                      refine lv_iload (pc := 387) hx hb dL_loom_387 (lv_at hl 8 rfl) ?_
                      refine lv_iconst (pc := 389) (v := 3) hx hb dL_loom_389 (by decide) ?_
                      refine lv_irem (pc := 390) hx hb dL_loom_390 (by decide) ?_
                      refine lv_iload (pc := 391) hx hb dL_loom_391 (lv_at hl 9 rfl) ?_
                      refine lv_bipush (pc := 393) (v := 8) hx hb dL_loom_393 (by decide) ?_
                      refine lv_irem (pc := 395) hx hb dL_loom_395 (by decide) ?_
                      obtain ⟨kc_396, ks_396, bc_396, bs_396, ec_396, es_396, h⟩ := h
                      refine lCall (pc := 396) (E := LE qa ca cI qf cf []) (x := x) (y := y) (g := g) [.int (v7 - v7 / 3 * 3), .int (v8 - v8 / 8 * 8)] hFc (kX8_bound x y g (v7 - v7 / 3 * 3) (v8 - v8 / 8 * 8) kc_396 ks_396 hlf h) (cwL_X8_bound hts ⟨Nat.le_of_ble_eq_true rfl, Nat.le_of_ble_eq_true rfl⟩) (lRo hFc hP) hP hD hS rfl rfl hl.1 (Nat.le_of_ble_eq_true rfl) dL_loom_396 ⟨by show _ ≤ BC; (try dsimp only); omega, by show _ ≤ BS; (try dsimp only); omega⟩ (fun E2 ce q9 x1 y1 g1 H locs h hP hD hS hce hcv hcl => h.elim) (fun r_396 x_396 y_396 g_396 H locs h hP hD hS => ?_)
                      have hB : ((cells + 0) + kc_396) + bc_396 ≤ BC ∧ ((slots + 0) + ks_396) + bs_396 ≤ BS := ⟨by omega, by omega⟩
                      refine lv_if_lt (pc := 399) (tgt := 447) hx hb dL_loom_399 (by decide) (fun c_399 => ?_) (fun c_399 => ?_)
                      · have h := h.1 c_399
                        exact J447 x_396 y_396 g_396 qf cf v1 v6 v8 r_116 bc_396 bs_396 h _ _ hB _ _ _ hP hD hS (lv_sub hl [2, 3, 4, 5, 6, 7, 9, 0] rfl)
                      · have h := h.2 c_399
                        refine lv_iload (pc := 402) hx hb dL_loom_402 (lv_at hl 7 rfl) ?_
                        refine lv_bipush (pc := 404) (v := 55) hx hb dL_loom_404 (by decide) ?_
                        refine lv_icmp_gt (pc := 406) (tgt := 443) hx hb dL_loom_406 (by decide) (fun c_406 => ?_) (fun c_406 => ?_)
                        · have h := h.1 c_406
                          exact J443 x_396 y_396 g_396 qf cf v1 v6 v8 r_116 bc_396 bs_396 h _ _ hB _ _ _ hP hD hS (lv_sub hl [2, 3, 4, 5, 6, 7, 9, 0] rfl)
                        · have h := h.2 c_406
                          refine lv_aload_n (pc := 409) hx hb dL_loom_409 rfl (lv_at hl 4 rfl) ?_
                          refine lv_iload (pc := 410) hx hb dL_loom_410 (lv_at hl 8 rfl) ?_
                          refine lv_iconst (pc := 412) (v := 3) hx hb dL_loom_412 (by decide) ?_
                          refine lv_idiv (pc := 413) hx hb dL_loom_413 (by decide) ?_
                          refine lv_bipush (pc := 414) (v := 8) hx hb dL_loom_414 (by decide) ?_
                          refine lv_irem (pc := 416) hx hb dL_loom_416 (by decide) ?_
                          refine lv_iload (pc := 417) hx hb dL_loom_417 (lv_at hl 9 rfl) ?_
                          refine lv_bipush (pc := 419) (v := 8) hx hb dL_loom_419 (by decide) ?_
                          refine lv_idiv (pc := 421) hx hb dL_loom_421 (by decide) ?_
                          refine lv_bipush (pc := 422) (v := 60) hx hb dL_loom_422 (by decide) ?_
                          refine lv_irem (pc := 424) hx hb dL_loom_424 (by decide) ?_
                          refine lv_iload (pc := 425) hx hb dL_loom_425 (lv_at hl 8 rfl) ?_
                          refine lv_bipush (pc := 427) (v := 24) hx hb dL_loom_427 (by decide) ?_
                          refine lv_idiv (pc := 429) hx hb dL_loom_429 (by decide) ?_
                          refine lv_sipush (pc := 430) (v := 199) hx hb dL_loom_430 (by decide) ?_
                          refine lv_irem (pc := 433) hx hb dL_loom_433 (by decide) ?_
                          refine lv_bipush (pc := 434) (v := 99) hx hb dL_loom_434 (by decide) ?_
                          refine lv_isub (pc := 436) hx hb dL_loom_436 ?_
                          obtain ⟨kc_437, ks_437, bc_437, bs_437, ec_437, es_437, h⟩ := h
                          refine lCall (pc := 437) (E := LE qa ca cI qf cf []) (x := x_396) (y := y_396) (g := g_396) [.int ((v7 / 3) - (v7 / 3) / 8 * 8), .int ((v8 / 8) - (v8 / 8) / 60 * 60), .int (((v7 / 24) - (v7 / 24) / 199 * 199) - 99)] hFc (kX8_table x_396 y_396 g_396 ((v7 / 3) - (v7 / 3) / 8 * 8) ((v8 / 8) - (v8 / 8) / 60 * 60) (((v7 / 24) - (v7 / 24) / 199 * 199) - 99) kc_437 ks_437 hlf h) (cwL_X8_table hts ⟨Nat.le_of_ble_eq_true rfl, Nat.le_of_ble_eq_true rfl⟩) (lRo hFc hP) hP hD hS rfl rfl hl.1 (Nat.le_of_ble_eq_true rfl) dL_loom_437 ⟨by show _ ≤ BC; (try dsimp only); omega, by show _ ≤ BS; (try dsimp only); omega⟩ (fun E2 ce q9 x1 y1 g1 H locs h hP hD hS hce hcv hcl => h.elim) (fun r_437 x_437 y_437 g_437 H locs h hP hD hS => ?_)
                          have hB : (((cells + 0) + kc_396) + kc_437) + bc_437 ≤ BC ∧ (((slots + 0) + ks_396) + ks_437) + bs_437 ≤ BS := ⟨by omega, by omega⟩
                          refine lv_if_le (pc := 440) (tgt := 447) hx hb dL_loom_440 (by decide) (fun c_440 => ?_) (fun c_440 => ?_)
                          · have h := h.1 c_440
                            exact J447 x_437 y_437 g_437 qf cf v1 v6 v8 r_116 bc_437 bs_437 h _ _ hB _ _ _ hP hD hS (lv_sub hl [2, 3, 4, 5, 6, 7, 9, 0] rfl)
                          · have h := h.2 c_440
                            exact J443 x_437 y_437 g_437 qf cf v1 v6 v8 r_116 bc_437 bs_437 h _ _ hB _ _ _ hP hD hS (lv_sub hl [2, 3, 4, 5, 6, 7, 9, 0] rfl)
                  · have h := h.1 c_318
                    refine lv_aload_n (pc := 321) hx hb dL_loom_321 rfl (lv_at hl 4 rfl) ?_
                    refine lv_iload (pc := 322) hx hb dL_loom_322 (lv_at hl 8 rfl) ?_
                    refine lv_iconst (pc := 324) (v := 3) hx hb dL_loom_324 (by decide) ?_
                    refine lv_irem (pc := 325) hx hb dL_loom_325 (by decide) ?_
                    refine lv_iload (pc := 326) hx hb dL_loom_326 (lv_at hl 9 rfl) ?_
                    refine lv_iconst (pc := 328) (v := 3) hx hb dL_loom_328 (by decide) ?_
                    refine lv_irem (pc := 329) hx hb dL_loom_329 (by decide) ?_
                    refine lv_if_le (pc := 330) (tgt := 337) hx hb dL_loom_330 (by decide) (fun c_330 => ?_) (fun c_330 => ?_)
                    · have h := h.1 c_330
                      refine lv_iconst (pc := 337) (v := 0) hx hb dL_loom_337 (by decide) ?_
                      exact J338 x y g qf cf v1 v6 v8 r_116 (v7 - v7 / 3 * 3) 0 bc bs h _ _ hB _ _ _ hP hD hS (lv_sub hl [2, 3, 4, 5, 6, 7, 9, 0] rfl)
                    · have h := h.2 c_330
                      refine lv_iconst (pc := 333) (v := 1) hx hb dL_loom_333 (by decide) ?_
                      refine lv_goto (pc := 334) (tgt := 338) hx hb dL_loom_334 (by decide) ?_
                      exact J338 x y g qf cf v1 v6 v8 r_116 (v7 - v7 / 3 * 3) 1 bc bs h _ _ hB _ _ _ hP hD hS (lv_sub hl [2, 3, 4, 5, 6, 7, 9, 0] rfl)
                · have h := h.2 c_298
                  refine lv_aload_n (pc := 301) hx hb dL_loom_301 rfl (lv_at hl 4 rfl) ?_
                  refine lv_iload (pc := 302) hx hb dL_loom_302 (lv_at hl 8 rfl) ?_
                  refine lv_aload (pc := 304) hx hb dL_loom_304 (lv_at hl 6 rfl) ?_
                  obtain ⟨kc_306, ks_306, bc_306, bs_306, ec_306, es_306, h⟩ := h
                  refine zSi (pc := 306) (Wd := (WL [] qa ca ad wd cI cB cP cT)) (u0 := ((x, y, g), qf, cf)) [.ref (ad 0 0), .int v7, .ref ca] hF (kL_snaps x y g qf cf v7 kc_306 ks_306 hlf h) (cwL_L_snaps hts ⟨Nat.le_of_ble_eq_true rfl, Nat.le_of_ble_eq_true rfl⟩) hP hD hS rfl rfl hl.1 (Nat.le_of_ble_eq_true rfl) dL_loom_306 ⟨by show _ ≤ BC; (try dsimp only); omega, by show _ ≤ BS; (try dsimp only); omega⟩ (fun r_306 u H locs h hP hD hS => ?_)
                  obtain ⟨⟨x_306, y_306, g_306⟩, qf_306, cf_306⟩ := u
                  have hP : va_P D vwCl (cW (LE qa ca cI qf_306 cf_306 []) ad wd cI cB cP cT (x_306, y_306, g_306)) H := hP
                  have hD : va_D A (cW (LE qa ca cI qf_306 cf_306 []) ad wd cI cB cP cT (x_306, y_306, g_306)) := hD
                  have hB : ((cells + 0) + kc_306) + bc_306 ≤ BC ∧ ((slots + 0) + ks_306) + bs_306 ≤ BS := ⟨by omega, by omega⟩
                  refine lv_istore (pc := 309) (lv' := [(5, .int r_306), (10, .int r_116), (9, .int s0), (0, .ref b), (1, .int v1), (2, .ref (ad 0 0)), (3, .ref qa), (4, .ref ca), (6, .int v6), (7, .int v7), (8, .int v8)]) hx hb dL_loom_309 hl (by decide) rfl (fun ls hl => ?_)
                  refine lv_goto (pc := 311) (tgt := 501) hx hb dL_loom_311 (by decide) ?_
                  exact J501 x_306 y_306 g_306 qf_306 cf_306 v1 r_306 v6 v8 r_116 bc_306 bs_306 h _ _ hB _ _ _ hP hD hS (lv_sub hl [3, 4, 5, 6, 7, 0, 8, 10, 1] rfl)
              · have h := h.2 c_267
                refine lv_aload_n (pc := 270) hx hb dL_loom_270 rfl (lv_at hl 4 rfl) ?_
                refine lv_iload (pc := 271) hx hb dL_loom_271 (lv_at hl 8 rfl) ?_
                refine lv_iconst (pc := 273) (v := 3) hx hb dL_loom_273 (by decide) ?_
                refine lv_irem (pc := 274) hx hb dL_loom_274 (by decide) ?_
                refine lv_iconst (pc := 275) (v := 2) hx hb dL_loom_275 (by decide) ?_
                refine lv_idiv (pc := 276) hx hb dL_loom_276 (by decide) ?_
                refine lv_iload (pc := 277) hx hb dL_loom_277 (lv_at hl 8 rfl) ?_
                refine lv_iconst (pc := 279) (v := 3) hx hb dL_loom_279 (by decide) ?_
                refine lv_idiv (pc := 280) hx hb dL_loom_280 (by decide) ?_
                refine lv_iconst (pc := 281) (v := 2) hx hb dL_loom_281 (by decide) ?_
                refine lv_irem (pc := 282) hx hb dL_loom_282 (by decide) ?_
                refine lv_iadd (pc := 283) hx hb dL_loom_283 ?_
                refine lv_aload (pc := 284) hx hb dL_loom_284 (lv_at hl 6 rfl) ?_
                obtain ⟨kc_286, ks_286, bc_286, bs_286, ec_286, es_286, h⟩ := h
                refine zSi (pc := 286) (Wd := (WL [] qa ca ad wd cI cB cP cT)) (u0 := ((x, y, g), qf, cf)) [.ref (ad 0 0), .int (((v7 - v7 / 3 * 3) / 2) + ((v7 / 3) - (v7 / 3) / 2 * 2)), .ref ca] hF (kL_steps x y g qf cf (((v7 - v7 / 3 * 3) / 2) + ((v7 / 3) - (v7 / 3) / 2 * 2)) kc_286 ks_286 hlf h) (cwL_L_steps hts ⟨Nat.le_of_ble_eq_true rfl, Nat.le_of_ble_eq_true rfl⟩) hP hD hS rfl rfl hl.1 (Nat.le_of_ble_eq_true rfl) dL_loom_286 ⟨by show _ ≤ BC; (try dsimp only); omega, by show _ ≤ BS; (try dsimp only); omega⟩ (fun r_286 u H locs h hP hD hS => ?_)
                obtain ⟨⟨x_286, y_286, g_286⟩, qf_286, cf_286⟩ := u
                have hP : va_P D vwCl (cW (LE qa ca cI qf_286 cf_286 []) ad wd cI cB cP cT (x_286, y_286, g_286)) H := hP
                have hD : va_D A (cW (LE qa ca cI qf_286 cf_286 []) ad wd cI cB cP cT (x_286, y_286, g_286)) := hD
                have hB : ((cells + 0) + kc_286) + bc_286 ≤ BC ∧ ((slots + 0) + ks_286) + bs_286 ≤ BS := ⟨by omega, by omega⟩
                refine lv_istore (pc := 289) (lv' := [(5, .int r_286), (10, .int r_116), (9, .int s0), (0, .ref b), (1, .int v1), (2, .ref (ad 0 0)), (3, .ref qa), (4, .ref ca), (6, .int v6), (7, .int v7), (8, .int v8)]) hx hb dL_loom_289 hl (by decide) rfl (fun ls hl => ?_)
                refine lv_goto (pc := 291) (tgt := 501) hx hb dL_loom_291 (by decide) ?_
                exact J501 x_286 y_286 g_286 qf_286 cf_286 v1 r_286 v6 v8 r_116 bc_286 bs_286 h _ _ hB _ _ _ hP hD hS (lv_sub hl [3, 4, 5, 6, 7, 0, 8, 10, 1] rfl)
            · have h := h.2 c_169
              refine lv_iload (pc := 172) hx hb dL_loom_172 (lv_at hl 8 rfl) ?_
              refine lv_iconst (pc := 174) (v := 3) hx hb dL_loom_174 (by decide) ?_
              refine lv_irem (pc := 175) hx hb dL_loom_175 (by decide) ?_
              refine lv_iconst (pc := 176) (v := 2) hx hb dL_loom_176 (by decide) ?_
              refine lv_idiv (pc := 177) hx hb dL_loom_177 (by decide) ?_
              refine lv_iload (pc := 178) hx hb dL_loom_178 (lv_at hl 8 rfl) ?_
              refine lv_iconst (pc := 180) (v := 3) hx hb dL_loom_180 (by decide) ?_
              refine lv_idiv (pc := 181) hx hb dL_loom_181 (by decide) ?_
              refine lv_iconst (pc := 182) (v := 2) hx hb dL_loom_182 (by decide) ?_
              refine lv_irem (pc := 183) hx hb dL_loom_183 (by decide) ?_
              refine lv_iadd (pc := 184) hx hb dL_loom_184 ?_
              refine lv_topi (fun v11_185 e_v11_185 => ?_)
              replace h := h v11_185 e_v11_185
              refine lv_istore (pc := 185) (lv' := [(11, .int v11_185), (10, .int r_116), (9, .int s0), (0, .ref b), (1, .int v1), (2, .ref (ad 0 0)), (3, .ref qa), (4, .ref ca), (6, .int v6), (7, .int v7), (8, .int v8)]) hx hb dL_loom_185 hl (by decide) rfl (fun ls hl => ?_)
              refine lv_aload (pc := 187) hx hb dL_loom_187 (lv_at hl 7 rfl) ?_
              refine lv_iload (pc := 189) hx hb dL_loom_189 (lv_at hl 0 rfl) ?_
              refine lv_dup2_11 (pc := 191) hx hb dL_loom_191 rfl rfl ?_
              obtain ⟨hi_192, h⟩ := h
              refine lc_get (pc := 192) (v := (cf v11_185.toNatClampNeg)) hF hP rfl hi_192 dL_loom_192 ?_
              refine lv_iconst (pc := 193) (v := 1) hx hb dL_loom_193 (by decide) ?_
              refine lv_iadd (pc := 194) hx hb dL_loom_194 ?_
              obtain ⟨hi_195, h⟩ := h
              obtain ⟨cf_195, e_cf_195⟩ : ∃ z : Nat → Int32, z = (upd cf v11_185.toNatClampNeg ((cf v11_185.toNatClampNeg) + 1)) := ⟨_, rfl⟩
              replace h := h cf_195 e_cf_195
              refine lc_set (pc := 195) (v := ((cf v11_185.toNatClampNeg) + 1)) (f := cf_195) hF hP hD hS e_cf_195.symm hi_195 dL_loom_195 (fun H locs hP hD hS => ?_)
              refine lv_aload_n (pc := 196) hx hb dL_loom_196 rfl (lv_at hl 5 rfl) ?_
              refine lv_iload (pc := 197) hx hb dL_loom_197 (lv_at hl 0 rfl) ?_
              refine lv_iload (pc := 199) hx hb dL_loom_199 (lv_at hl 9 rfl) ?_
              refine lv_bipush (pc := 201) (v := 9) hx hb dL_loom_201 (by decide) ?_
              refine lv_idiv (pc := 203) hx hb dL_loom_203 (by decide) ?_
              refine lv_bipush (pc := 204) (v := 8) hx hb dL_loom_204 (by decide) ?_
              refine lv_irem (pc := 206) hx hb dL_loom_206 (by decide) ?_
              refine lv_iconst (pc := 207) (v := 1) hx hb dL_loom_207 (by decide) ?_
              refine lv_iload (pc := 208) hx hb dL_loom_208 (lv_at hl 9 rfl) ?_
              refine lv_bipush (pc := 210) (v := 72) hx hb dL_loom_210 (by decide) ?_
              refine lv_idiv (pc := 212) hx hb dL_loom_212 (by decide) ?_
              refine lv_iconst (pc := 213) (v := 3) hx hb dL_loom_213 (by decide) ?_
              refine lv_irem (pc := 214) hx hb dL_loom_214 (by decide) ?_
              refine lv_iadd (pc := 215) hx hb dL_loom_215 ?_
              obtain ⟨h0_216, h⟩ := h
              refine lv_idiv (pc := 216) hx hb dL_loom_216 h0_216 ?_
              refine lv_iload (pc := 217) hx hb dL_loom_217 (lv_at hl 10 rfl) ?_
              refine lv_iconst (pc := 219) (v := 3) hx hb dL_loom_219 (by decide) ?_
              refine lv_idiv (pc := 220) hx hb dL_loom_220 (by decide) ?_
              refine lv_bipush (pc := 221) (v := 20) hx hb dL_loom_221 (by decide) ?_
              refine lv_iconst (pc := 223) (v := 2) hx hb dL_loom_223 (by decide) ?_
              refine lv_iload (pc := 224) hx hb dL_loom_224 (lv_at hl 8 rfl) ?_
              refine lv_imul (pc := 226) hx hb dL_loom_226 ?_
              refine lv_iadd (pc := 227) hx hb dL_loom_227 ?_
              obtain ⟨h0_228, h⟩ := h
              refine lv_irem (pc := 228) hx hb dL_loom_228 h0_228 ?_
              refine lv_iload (pc := 229) hx hb dL_loom_229 (lv_at hl 9 rfl) ?_
              refine lv_sipush (pc := 231) (v := 216) hx hb dL_loom_231 (by decide) ?_
              refine lv_idiv (pc := 234) hx hb dL_loom_234 (by decide) ?_
              refine lv_sipush (pc := 235) (v := 199) hx hb dL_loom_235 (by decide) ?_
              refine lv_irem (pc := 238) hx hb dL_loom_238 (by decide) ?_
              refine lv_bipush (pc := 239) (v := 99) hx hb dL_loom_239 (by decide) ?_
              refine lv_isub (pc := 241) hx hb dL_loom_241 ?_
              obtain ⟨kc_242, ks_242, bc_242, bs_242, ec_242, es_242, h⟩ := h
              refine lCall (pc := 242) (E := LE qa ca cI qf cf_195 []) (x := x) (y := y) (g := g) [.int v11_185, .int (((v7 / 9) - (v7 / 9) / 8 * 8) / (1 + ((v7 / 72) - (v7 / 72) / 3 * 3))), .int ((v8 / 3) - (v8 / 3) / (20 + (2 * v6)) * (20 + (2 * v6))), .int (((v7 / 216) - (v7 / 216) / 199 * 199) - 99)] hFc (kX8_event x y g v11_185 (((v7 / 9) - (v7 / 9) / 8 * 8) / (1 + ((v7 / 72) - (v7 / 72) / 3 * 3))) ((v8 / 3) - (v8 / 3) / (20 + (2 * v6)) * (20 + (2 * v6))) (((v7 / 216) - (v7 / 216) / 199 * 199) - 99) kc_242 ks_242 hlf h) (cwL_X8_event hts ⟨Nat.le_of_ble_eq_true rfl, Nat.le_of_ble_eq_true rfl⟩) (lRo hFc hP) hP hD hS rfl rfl hl.1 (Nat.le_of_ble_eq_true rfl) dL_loom_242 ⟨by show _ ≤ BC; (try dsimp only); omega, by show _ ≤ BS; (try dsimp only); omega⟩ (fun E2 ce q9 x1 y1 g1 H locs h hP hD hS hce hcv hcl => h.elim) (fun r_242 x_242 y_242 g_242 H locs h hP hD hS => ?_)
              have hB : ((cells + 0) + kc_242) + bc_242 ≤ BC ∧ ((slots + 0) + ks_242) + bs_242 ≤ BS := ⟨by omega, by omega⟩
              refine lv_aload (pc := 245) hx hb dL_loom_245 (lv_at hl 7 rfl) ?_
              refine lv_iload (pc := 247) hx hb dL_loom_247 (lv_at hl 0 rfl) ?_
              obtain ⟨hi_249, h⟩ := h
              refine lc_get (pc := 249) (v := (cf_195 v11_185.toNatClampNeg)) hF hP rfl hi_249 dL_loom_249 ?_
              refine lv_icmp_ne (pc := 250) (tgt := 257) hx hb dL_loom_250 (by decide) (fun c_250 => ?_) (fun c_250 => ?_)
              · have h := h.2 c_250
                refine lv_iconst (pc := 257) (v := 0) hx hb dL_loom_257 (by decide) ?_
                exact J258 x_242 y_242 g_242 qf cf_195 v1 v6 v8 r_116 0 bc_242 bs_242 h _ _ hB _ _ _ hP hD hS (lv_sub hl [3, 4, 5, 6, 7, 8, 10, 1] rfl)
              · have h := h.1 c_250
                refine lv_iconst (pc := 253) (v := 1) hx hb dL_loom_253 (by decide) ?_
                refine lv_goto (pc := 254) (tgt := 258) hx hb dL_loom_254 (by decide) ?_
                exact J258 x_242 y_242 g_242 qf cf_195 v1 v6 v8 r_116 1 bc_242 bs_242 h _ _ hB _ _ _ hP hD hS (lv_sub hl [3, 4, 5, 6, 7, 8, 10, 1] rfl)
          · have h := h.2 c_124
            refine lv_iload (pc := 127) hx hb dL_loom_127 (lv_at hl 7 rfl) ?_
            refine lv_if_le (pc := 129) (tgt := 141) hx hb dL_loom_129 (by decide) (fun c_129 => ?_) (fun c_129 => ?_)
            · have h := h.1 c_129
              exact J141 x y g qf cf v1 v6 v7 v8 r_116 bc bs h _ _ hB _ _ _ hP hD hS (lv_sub hl [2, 3, 4, 5, 6, 7, 8, 9, 0] rfl)
            · have h := h.2 c_129
              refine lv_iload (pc := 132) hx hb dL_loom_132 (lv_at hl 8 rfl) ?_
              refine lv_bipush (pc := 134) (v := 7) hx hb dL_loom_134 (by decide) ?_
              refine lv_irem (pc := 136) hx hb dL_loom_136 (by decide) ?_
              refine lv_iconst (pc := 137) (v := 2) hx hb dL_loom_137 (by decide) ?_
              refine lv_icmp_gt (pc := 138) (tgt := 155) hx hb dL_loom_138 (by decide) (fun c_138 => ?_) (fun c_138 => ?_)
              · have h := h.1 c_138
                exact J155 x y g qf cf v1 v6 v8 r_116 bc bs h _ _ hB _ _ _ hP hD hS (lv_sub hl [2, 3, 4, 5, 6, 7, 9, 0] rfl)
              · have h := h.2 c_138
                exact J141 x y g qf cf v1 v6 v7 v8 r_116 bc bs h _ _ hB _ _ _ hP hD hS (lv_sub hl [2, 3, 4, 5, 6, 7, 8, 9, 0] rfl)
        intro x y g qf cf v1 v5 v6 bc bs h cells slots hB H locs ls hP hD hS hl
        unfold lL_loom_37 at h
        refine lv_iload (pc := 37) hx hb dL_loom_37 (lv_at hl 6 rfl) ?_
        refine lv_bipush (pc := 39) (v := 110) hx hb dL_loom_39 (by decide) ?_
        refine lv_icmp_ge (pc := 41) (tgt := 589) hx hb dL_loom_41 (by decide) (fun c_41 => ?_) (fun c_41 => ?_)
        · have h := h.1 c_41
          exact hend v5 x y g qf cf bc bs _ _ H locs ls h (by (try dsimp only); omega) (by (try dsimp only); omega) hP hD hS (lv_sub hl [5] rfl)
        · have h := h.2 c_41
          refine lv_iload (pc := 44) hx hb dL_loom_44 (lv_at hl 5 rfl) ?_
          refine lv_if_eq (pc := 46) (tgt := 589) hx hb dL_loom_46 (by decide) (fun c_46 => ?_) (fun c_46 => ?_)
          · have h := h.1 c_46
            exact hend v5 x y g qf cf bc bs _ _ H locs ls h (by (try dsimp only); omega) (by (try dsimp only); omega) hP hD hS (lv_sub hl [5] rfl)
          · have h := h.2 c_46
            refine lv_aload_n (pc := 49) hx hb dL_loom_49 rfl (lv_at hl 0 rfl) ?_
            refine lv_iload_n (pc := 50) hx hb dL_loom_50 rfl (lv_at hl 1 rfl) ?_
            refine lv_iconst (pc := 51) (v := 3) hx hb dL_loom_51 (by decide) ?_
            refine lv_iload (pc := 52) hx hb dL_loom_52 (lv_at hl 6 rfl) ?_
            refine lv_imul (pc := 54) hx hb dL_loom_54 ?_
            refine lv_iadd (pc := 55) hx hb dL_loom_55 ?_
            refine lv_iconst (pc := 56) (v := 1) hx hb dL_loom_56 (by decide) ?_
            refine lv_iadd (pc := 57) hx hb dL_loom_57 ?_
            refine lv_ldc (pc := 58) (v := 1073741824) hx hb hown (hts _ lK_116) dL_loom_58 ?_
            obtain ⟨kc_60, ks_60, bc_60, bs_60, ec_60, es_60, h⟩ := h
            refine zSi (pc := 60) (Wd := (WL [] qa ca ad wd cI cB cP cT)) (u0 := ((x, y, g), qf, cf)) [.ref b, .int ((v1 + (3 * v6)) + 1), .int 1073741824] hFs (kL_draw x y g qf cf ((v1 + (3 * v6)) + 1) 1073741824 kc_60 ks_60 hlf h) (cwL_L_draw hts ⟨Nat.le_of_ble_eq_true rfl, Nat.le_of_ble_eq_true rfl⟩) hP hD hS rfl rfl hl.1 (Nat.le_of_ble_eq_true rfl) dL_loom_60 ⟨by show _ ≤ BC; (try dsimp only); omega, by show _ ≤ BS; (try dsimp only); omega⟩ (fun r_60 u H locs h hP hD hS => ?_)
            obtain ⟨⟨x_60, y_60, g_60⟩, qf_60, cf_60⟩ := u
            have hP : va_P D vwCl (cW (LE qa ca cI qf_60 cf_60 []) ad wd cI cB cP cT (x_60, y_60, g_60)) H := hP
            have hD : va_D A (cW (LE qa ca cI qf_60 cf_60 []) ad wd cI cB cP cT (x_60, y_60, g_60)) := hD
            have hB : (cells + kc_60) + bc_60 ≤ BC ∧ (slots + ks_60) + bs_60 ≤ BS := ⟨by omega, by omega⟩
            refine lv_istore (pc := 63) (lv' := [(7, .int r_60), (0, .ref b), (1, .int v1), (2, .ref (ad 0 0)), (3, .ref qa), (4, .ref ca), (5, .int v5), (6, .int v6)]) hx hb dL_loom_63 hl (by decide) rfl (fun ls hl => ?_)
            refine lv_aload_n (pc := 65) hx hb dL_loom_65 rfl (lv_at hl 1 rfl) ?_
            refine lv_iload_n (pc := 66) hx hb dL_loom_66 rfl (lv_at hl 2 rfl) ?_
            refine lv_iconst (pc := 67) (v := 3) hx hb dL_loom_67 (by decide) ?_
            refine lv_iload (pc := 68) hx hb dL_loom_68 (lv_at hl 7 rfl) ?_
            refine lv_imul (pc := 70) hx hb dL_loom_70 ?_
            refine lv_iadd (pc := 71) hx hb dL_loom_71 ?_
            refine lv_iconst (pc := 72) (v := 2) hx hb dL_loom_72 (by decide) ?_
            refine lv_iadd (pc := 73) hx hb dL_loom_73 ?_
            refine lv_ldc (pc := 74) (v := 1073741824) hx hb hown (hts _ lK_116) dL_loom_74 ?_
            obtain ⟨kc_76, ks_76, bc_76, bs_76, ec_76, es_76, h⟩ := h
            refine zSi (pc := 76) (Wd := (WL [] qa ca ad wd cI cB cP cT)) (u0 := ((x_60, y_60, g_60), qf_60, cf_60)) [.ref b, .int ((v1 + (3 * v6)) + 2), .int 1073741824] hFs (kL_draw x_60 y_60 g_60 qf_60 cf_60 ((v1 + (3 * v6)) + 2) 1073741824 kc_76 ks_76 hlf h) (cwL_L_draw hts ⟨Nat.le_of_ble_eq_true rfl, Nat.le_of_ble_eq_true rfl⟩) hP hD hS rfl rfl hl.1 (Nat.le_of_ble_eq_true rfl) dL_loom_76 ⟨by show _ ≤ BC; (try dsimp only); omega, by show _ ≤ BS; (try dsimp only); omega⟩ (fun r_76 u H locs h hP hD hS => ?_)
            obtain ⟨⟨x_76, y_76, g_76⟩, qf_76, cf_76⟩ := u
            have hP : va_P D vwCl (cW (LE qa ca cI qf_76 cf_76 []) ad wd cI cB cP cT (x_76, y_76, g_76)) H := hP
            have hD : va_D A (cW (LE qa ca cI qf_76 cf_76 []) ad wd cI cB cP cT (x_76, y_76, g_76)) := hD
            have hB : ((cells + kc_60) + kc_76) + bc_76 ≤ BC ∧ ((slots + ks_60) + ks_76) + bs_76 ≤ BS := ⟨by omega, by omega⟩
            refine lv_istore (pc := 79) (lv' := [(8, .int r_76), (7, .int r_60), (0, .ref b), (1, .int v1), (2, .ref (ad 0 0)), (3, .ref qa), (4, .ref ca), (5, .int v5), (6, .int v6)]) hx hb dL_loom_79 hl (by decide) rfl (fun ls hl => ?_)
            refine lv_iload (pc := 81) hx hb dL_loom_81 (lv_at hl 8 rfl) ?_
            refine lv_if_ne (pc := 83) (tgt := 90) hx hb dL_loom_83 (by decide) (fun c_83 => ?_) (fun c_83 => ?_)
            · have h := h.2 c_83
              refine lv_iload (pc := 90) hx hb dL_loom_90 (lv_at hl 8 rfl) ?_
              refine lv_bipush (pc := 92) (v := 7) hx hb dL_loom_92 (by decide) ?_
              refine lv_icmp_ge (pc := 94) (tgt := 101) hx hb dL_loom_94 (by decide) (fun c_94 => ?_) (fun c_94 => ?_)
              · have h := h.1 c_94
                refine lv_aload_n (pc := 101) hx hb dL_loom_101 rfl (lv_at hl 2 rfl) ?_
                refine lv_iload_n (pc := 102) hx hb dL_loom_102 rfl (lv_at hl 3 rfl) ?_
                refine lv_iconst (pc := 103) (v := 3) hx hb dL_loom_103 (by decide) ?_
                refine lv_iload (pc := 104) hx hb dL_loom_104 (lv_at hl 8 rfl) ?_
                refine lv_imul (pc := 106) hx hb dL_loom_106 ?_
                refine lv_iadd (pc := 107) hx hb dL_loom_107 ?_
                refine lv_bipush (pc := 108) (v := 22) hx hb dL_loom_108 (by decide) ?_
                obtain ⟨kc_110, ks_110, bc_110, bs_110, ec_110, es_110, h⟩ := h
                refine zSi (pc := 110) (Wd := (WL [] qa ca ad wd cI cB cP cT)) (u0 := ((x_76, y_76, g_76), qf_76, cf_76)) [.ref b, .int (v1 + (3 * v6)), .int 22] hFs (kL_draw x_76 y_76 g_76 qf_76 cf_76 (v1 + (3 * v6)) 22 kc_110 ks_110 hlf h) (cwL_L_draw hts ⟨Nat.le_of_ble_eq_true rfl, Nat.le_of_ble_eq_true rfl⟩) hP hD hS rfl rfl hl.1 (Nat.le_of_ble_eq_true rfl) dL_loom_110 ⟨by show _ ≤ BC; (try dsimp only); omega, by show _ ≤ BS; (try dsimp only); omega⟩ (fun r_110 u H locs h hP hD hS => ?_)
                obtain ⟨⟨x_110, y_110, g_110⟩, qf_110, cf_110⟩ := u
                have hP : va_P D vwCl (cW (LE qa ca cI qf_110 cf_110 []) ad wd cI cB cP cT (x_110, y_110, g_110)) H := hP
                have hD : va_D A (cW (LE qa ca cI qf_110 cf_110 []) ad wd cI cB cP cT (x_110, y_110, g_110)) := hD
                have hB : (((cells + kc_60) + kc_76) + kc_110) + bc_110 ≤ BC ∧ (((slots + ks_60) + ks_76) + ks_110) + bs_110 ≤ BS := ⟨by omega, by omega⟩
                exact J113 x_110 y_110 g_110 qf_110 cf_110 v1 v6 r_60 r_76 r_110 bc_110 bs_110 h _ _ hB _ _ _ hP hD hS (lv_sub hl [2, 3, 4, 5, 6, 8, 1, 0] rfl)
              · have h := h.2 c_94
                refine lv_iconst (pc := 97) (v := 2) hx hb dL_loom_97 (by decide) ?_
                refine lv_goto (pc := 98) (tgt := 113) hx hb dL_loom_98 (by decide) ?_
                exact J113 x_76 y_76 g_76 qf_76 cf_76 v1 v6 r_60 r_76 2 bc_76 bs_76 h _ _ hB _ _ _ hP hD hS (lv_sub hl [2, 3, 4, 5, 6, 8, 1, 0] rfl)
            · have h := h.1 c_83
              refine lv_iconst (pc := 86) (v := 0) hx hb dL_loom_86 (by decide) ?_
              refine lv_goto (pc := 87) (tgt := 113) hx hb dL_loom_87 (by decide) ?_
              exact J113 x_76 y_76 g_76 qf_76 cf_76 v1 v6 r_60 r_76 0 bc_76 bs_76 h _ _ hB _ _ _ hP hD hS (lv_sub hl [2, 3, 4, 5, 6, 8, 1, 0] rfl)
    exact L37
  have hP : va_P D vwCl [] s.heap := hP
  refine va_new (pc := 0) (ci := 11) (fs := [.null, .null, .null, .int 0, .int 0]) (C := RX8) (T := TX8) (N := 5) hx hb hts uwX8 tyX8 tyX8_ok hown (hts _ ws_cl8) (hts _ ws_ins8) (hts _ inX8) hK hP hD hS hA rfl (fun j hj => by rcases (show j = 0 ∨ j = 1 ∨ j = 2 ∨ j = 3 ∨ j = 4 by omega) with rfl | rfl | rfl | rfl | rfl <;> rfl) (by show _ ≤ BC; omega) (by show _ ≤ BS; omega) dL_loom_0 (fun o H hP hD hS => ?_)
  have hP : va_P D vwCl ([] ++ [(o, .inr (11, [.null, .null, .null, .int 0, .int 0]))]) H := hP
  have hD : va_D A ([] ++ [(o, .inr (11, [.null, .null, .null, .int 0, .int 0]))]) := hD
  refine W.widen (k := 1) (n := 5) (Nat.le_of_ble_eq_true rfl) (Nat.le_of_ble_eq_true rfl) ?_
  refine lv_dup (pc := 3) hx hb dL_loom_3 rfl ?_
  refine w_call (pc := 4) (L := []) (wc := [(o, .inr (11, [.null, .null, .null, .int 0, .int 0]))]) hFi hP hD hS (w_runI (nA := 0) (L := []) [] hFi (kX8_init (l := l) (D := D) (wd := wd) (sk := sk) (cI := cI) (cB := cB) (cP := cP) (cT := cT) o) inX8 ws_ml8 ws_im8 ws_ic8 rfl (by decide +kernel) ⟨Nat.le_of_ble_eq_true rfl, Nat.le_of_ble_eq_true rfl⟩ hP hD hS rfl rfl hl.1 (Nat.le_of_ble_eq_true rfl) dL_loom_4 ⟨by show _ ≤ BC; (try dsimp only); omega, by show _ ≤ BS; (try dsimp only); omega⟩) (fun u H locs _ hP hD hS => ?_)
  have hP := s0P hP
  have hD := s0D hD
  refine W.widen (k := 56) (n := 731) (Nat.le_of_ble_eq_true rfl) (Nat.le_of_ble_eq_true rfl) ?_
  refine lv_astore_n (pc := 7) (lv' := [(2, .ref o), (0, .ref b), (1, .int a1)]) hx hb dL_loom_7 rfl hl (by decide) rfl (fun ls hl => ?_)
  refine lv_bipush (pc := 8) (v := 7) hx hb dL_loom_8 (by decide) ?_
  refine v_newI (pc := 10) (N := 7) hFc hP hD hS rfl (by decide) (by decide) (by show _ ≤ BC; omega) (by show _ ≤ BS; omega) dL_loom_10 (fun qa H hP hD hS => ?_)
  refine lv_astore_n (pc := 12) (lv' := [(3, .ref qa), (2, .ref o), (0, .ref b), (1, .int a1)]) hx hb dL_loom_12 rfl hl (by decide) rfl (fun ls hl => ?_)
  refine lv_bipush (pc := 13) (v := 9) hx hb dL_loom_13 (by decide) ?_
  refine v_newI (pc := 15) (N := 9) hFc hP hD hS rfl (by decide) (by decide) (by show _ ≤ BC; omega) (by show _ ≤ BS; omega) dL_loom_15 (fun ca H hP hD hS => ?_)
  refine lv_astore (pc := 17) (lv' := [(4, .ref ca), (3, .ref qa), (2, .ref o), (0, .ref b), (1, .int a1)]) hx hb dL_loom_17 hl (by decide) rfl (fun ls hl => ?_)
  have hP : va_P D vwCl (cW (LE qa ca cI (fun _ => 0) (fun _ => 0) []) (s0ad o u) wd cI cB cP cT (s0x, s0y u, s0g)) H := permLoP hP
  have hD : va_D A (cW (LE qa ca cI (fun _ => 0) (fun _ => 0) []) (s0ad o u) wd cI cB cP cT (s0x, s0y u, s0g)) := permLoD hD
  refine lv_aload (pc := 19) hx hb dL_loom_19 (lv_at hl 0 rfl) ?_
  refine lv_bipush (pc := 21) (v := 7) hx hb dL_loom_21 (by decide) ?_
  refine lv_iconst (pc := 23) (v := 1) hx hb dL_loom_23 (by decide) ?_
  refine lc_set (pc := 24) (v := 1) (f := upd (fun _ => 0) 7 1) hF hP hD hS rfl (vp_in_iff.mpr (by decide)) dL_loom_24 (fun H locs hP hD hS => ?_)
  refine lv_aload (pc := 25) hx hb dL_loom_25 (lv_at hl 0 rfl) ?_
  refine lv_bipush (pc := 27) (v := 8) hx hb dL_loom_27 (by decide) ?_
  refine lv_iconst (pc := 29) (v := -1) hx hb dL_loom_29 (by decide) ?_
  refine lc_set (pc := 30) (v := -1) (f := upd (upd (fun _ => 0) 7 1) 8 (-1)) hF hP hD hS rfl (vp_in_iff.mpr (by decide)) dL_loom_30 (fun H locs hP hD hS => ?_)
  refine lv_iconst (pc := 31) (v := 1) hx hb dL_loom_31 (by decide) ?_
  refine lv_istore (pc := 32) (lv' := [(5, .int 1), (4, .ref ca), (3, .ref qa), (2, .ref o), (0, .ref b), (1, .int a1)]) hx hb dL_loom_32 hl (by decide) rfl (fun ls hl => ?_)
  refine lv_iconst (pc := 34) (v := 0) hx hb dL_loom_34 (by decide) ?_
  refine lv_istore (pc := 35) (lv' := [(6, .int 0), (5, .int 1), (4, .ref ca), (3, .ref qa), (2, .ref o), (0, .ref b), (1, .int a1)]) hx hb dL_loom_35 hl (by decide) rfl (fun ls hl => ?_)
  obtain ⟨n37, h⟩ := h0 u
  exact hloop qa ca (s0ad o u) n37 s0x (s0y u) s0g _ _ a1 1 0 bc0 bs0 h _ _ ⟨by omega, by omega⟩ H locs ls hP hD hS (lv_sub hl [5, 6, 4, 3, 2, 1, 0] rfl)
