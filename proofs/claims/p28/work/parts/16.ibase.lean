/-! ===== constructors: worlds are lists of cells; a callee's object stands last ===== -/
def iX (wd sk : Nat → Nat) : (Nat → Prop) → State → Heap → Prop := fun A U H => cX wd sk A U H ∧ va_AO RX1 U ∧ va_AO RX6 U
theorem iX_cl (wd sk : Nat → Nat) : zCl (iX wd sk) := ⟨fun A u U H hW h => ⟨(cX_cl wd sk).1 A u U H hW h.1, h.2.1.moved hW.alike, h.2.2.moved hW.alike⟩, fun A U H H1 hq h => ⟨(cX_cl wd sk).2.1 A U H H1 hq h.1, h.2⟩, fun A B U H hAB h => ⟨(cX_cl wd sk).2.2 A B U H hAB h.1, h.2⟩⟩
theorem zjoinP {D : va_G} {cl : List vw_C} {A : Nat → Prop} {L wc w1 : va_W} {H H1 : Heap} (hP : va_P D cl (L ++ wc) H) (hD : va_D A (L ++ wc)) (hk : ∀ q : Nat, q < H.size → ¬ va_A wc H.size q → H1[q]? = H[q]?) (hP1 : va_P D cl w1 H1) : va_P D cl (L ++ w1) H1 := by
  intro k q hq
  by_cases h : k < L.length
  · rw [List.getElem?_append_left h] at hq
    have hq' : (L ++ wc)[k]? = some q := by rw [List.getElem?_append_left h]; exact hq
    have h1 := hP k q hq'
    refine h1.kept (hk q.1 h1.lt ?_)
    rintro (⟨j, e, hj⟩ | hj)
    · have := hD.1 k (L.length + j) q (q.1, e) hq' (by rw [List.getElem?_append_right (by omega)]; simpa using hj) rfl
      omega
    · exact absurd h1.lt (by omega)
  · rw [List.getElem?_append_right (by omega)] at hq
    exact hP1 _ q hq
theorem zjoinD {D : va_G} {cl : List vw_C} {A : Nat → Prop} {L wc w1 : va_W} {H : Heap} (hP : va_P D cl (L ++ wc) H) (hD : va_D A (L ++ wc)) (hA : ∀ q, H.size ≤ q → A q) (hD1 : va_D (va_A wc H.size) w1) : va_D A (L ++ w1) := by
  have hin : ∀ q, va_A wc H.size q → A q := by
    rintro q (⟨j, e, hj⟩ | hj)
    · exact hD.2 (L.length + j) (q, e) (by rw [List.getElem?_append_right (by omega)]; simpa using hj)
    · exact hA q hj
  have hap : ∀ (i j : Nat) (p q : Nat × va_E), L[i]? = some p → w1[j]? = some q → p.1 ≠ q.1 := by
    intro i j p q hi hj e
    have hil := (List.getElem?_eq_some_iff.mp hi).1
    have hi' : (L ++ wc)[i]? = some p := by rw [List.getElem?_append_left hil]; exact hi
    rcases hD1.2 j q hj with ⟨n, e2, hn⟩ | hn
    · have := hD.1 i (L.length + n) p (q.1, e2) hi' (by rw [List.getElem?_append_right (by omega)]; simpa using hn) e
      omega
    · have := (hP i p hi').lt
      omega
  refine (show va_D A L from ⟨fun i j p q hi hj e => ?_, fun k q hq => ?_⟩).app (hD1.weaken fun _ _ _ h => hin _ h) hap
  · exact hD.1 i j p q (by rw [List.getElem?_append_left (List.getElem?_eq_some_iff.mp hi).1]; exact hi) (by rw [List.getElem?_append_left (List.getElem?_eq_some_iff.mp hj).1]; exact hj) e
  · exact hD.2 k q (by rw [List.getElem?_append_left (List.getElem?_eq_some_iff.mp hq).1]; exact hq)
theorem zrightP {D : va_G} {cl : List vw_C} {L wc : va_W} {H : Heap} (hP : va_P D cl (L ++ wc) H) : va_P D cl wc H := fun k q hq => hP (L.length + k) q (by rw [List.getElem?_append_right (by omega)]; simpa using hq)
theorem zrightD {A : Nat → Prop} {L wc : va_W} (hD : va_D A (L ++ wc)) : va_D A wc := by
  refine ⟨fun i j p q hi hj e => ?_, fun k q hq => hD.2 (L.length + k) q (by rw [List.getElem?_append_right (by omega)]; simpa using hq)⟩
  have := hD.1 (L.length + i) (L.length + j) p q (by rw [List.getElem?_append_right (by omega)]; simpa using hi) (by rw [List.getElem?_append_right (by omega)]; simpa using hj) e
  omega
section IG
variable {p : Program} {l : Launch} {e : Env} {R : Room} {s : State} {m : MethodId} {args : Array Value} {below : List Frame} {meth : Method} {c : Code} {H : Heap} {locs : List Loc} {cells slots : Nat} {Q : State → Prop} {A : Nat → Prop} {D : va_G} {cc : ByteArray} {pc nL index : Nat} {ls : Array Slot} {rest : List Value} {own host : String} {wd sk : Nat → Nat} {cI cB cP cT : ClassId} {ws : va_W}
theorem i_newI (hF : zFx p s m args c cc own A D (cTy cI cB cP cT) (iX wd sk) nL) (hP : va_P D vwCl ws H) (hD : va_D A ws) (hS : va_S A s.heap H locs) {n : Int32} (hn : ¬ n < 0) (hb4 : n.toNatClampNeg * 4 ≤ 536870912) (hc : cells + 1 ≤ R.cells) (hs : slots + n.toNatClampNeg ≤ R.slots) (hdg : decode cc pc = .ok (.newarray .int, 2)) (kk : ∀ (q : Nat) (H1 : Heap), va_P D vwCl (ws ++ [(q, .inl (cI, n.toNatClampNeg, .inl (fun _ => 0)))]) H1 → va_D A (ws ++ [(q, .inl (cI, n.toNatClampNeg, .inl (fun _ => 0)))]) → va_S A s.heap H1 locs → W p l e R s m args below meth c H1 locs (cells + 1) (slots + n.toNatClampNeg) Q (F0 m (pc + 2) ls (.ref q :: rest))) : W p l e R s m args below meth c H locs cells slots Q (F0 m pc ls (.int n :: rest)) := by
  obtain ⟨hx, hb, hml, hown, hts, hA, hK, hXc, hXs⟩ := hF
  refine va_newa (atype := .int) (ty := .int) (N' := n.toNatClampNeg) (a0 := (n.toNatClampNeg, .inl (fun _ => 0))) hx hb (hts _ arrI) rfl hK hP hD hS hA (fun _ => rfl) hn rfl hb4 hc hs hdg (fun q cA H1 hK1 hP1 hD1 hS1 => ?_)
  have h0 : s.vm.findClass ("[" ++ (.int : FieldType).toString) = some cI := (hK1.2 0 _ rfl).2
  have h4 : s.vm.findClass ("[" ++ (.int : FieldType).toString) = some cA := (hK1.2 4 _ rfl).2
  obtain rfl : cI = cA := Option.some.inj (h0.symm.trans h4)
  exact kk q H1 hP1 hD1 hS1
theorem i_newB (hF : zFx p s m args c cc own A D (cTy cI cB cP cT) (iX wd sk) nL) (hP : va_P D vwCl ws H) (hD : va_D A ws) (hS : va_S A s.heap H locs) {n : Int32} (hn : ¬ n < 0) (hb4 : n.toNatClampNeg * 1 ≤ 536870912) (hc : cells + 1 ≤ R.cells) (hs : slots + n.toNatClampNeg ≤ R.slots) (hdg : decode cc pc = .ok (.newarray .byte, 2)) (kk : ∀ (q : Nat) (H1 : Heap), va_P D vwCl (ws ++ [(q, .inl (cB, n.toNatClampNeg, .inl (fun _ => 0)))]) H1 → va_D A (ws ++ [(q, .inl (cB, n.toNatClampNeg, .inl (fun _ => 0)))]) → va_S A s.heap H1 locs → W p l e R s m args below meth c H1 locs (cells + 1) (slots + n.toNatClampNeg) Q (F0 m (pc + 2) ls (.ref q :: rest))) : W p l e R s m args below meth c H locs cells slots Q (F0 m pc ls (.int n :: rest)) := by
  obtain ⟨hx, hb, hml, hown, hts, hA, hK, hXc, hXs⟩ := hF
  refine va_newa (atype := .byte) (ty := .byte) (N' := n.toNatClampNeg) (a0 := (n.toNatClampNeg, .inl (fun _ => 0))) hx hb (hts _ arrB) rfl hK hP hD hS hA (fun _ => rfl) hn rfl hb4 hc hs hdg (fun q cA H1 hK1 hP1 hD1 hS1 => ?_)
  have h0 : s.vm.findClass ("[" ++ (.byte : FieldType).toString) = some cB := (hK1.2 1 _ rfl).2
  have h4 : s.vm.findClass ("[" ++ (.byte : FieldType).toString) = some cA := (hK1.2 4 _ rfl).2
  obtain rfl : cB = cA := Option.some.inj (h0.symm.trans h4)
  exact kk q H1 hP1 hD1 hS1
theorem i_newP (hF : zFx p s m args c cc own A D (cTy cI cB cP cT) (iX wd sk) nL) (hP : va_P D vwCl ws H) (hD : va_D A ws) (hS : va_S A s.heap H locs) {n : Int32} (hlk : Cond.classLink own index RX1 ∈ wAll) (hn : ¬ n < 0) (hb4 : n.toNatClampNeg * 4 ≤ 536870912) (hc : cells + 1 ≤ R.cells) (hs : slots + n.toNatClampNeg ≤ R.slots) (hdg : decode cc pc = .ok (.anewarray index, 3)) (kk : ∀ (q : Nat) (H1 : Heap), va_P D vwCl (ws ++ [(q, .inl (cP, n.toNatClampNeg, .inr (.inr (.inr (.inr (fun _ => none))))))]) H1 → va_D A (ws ++ [(q, .inl (cP, n.toNatClampNeg, .inr (.inr (.inr (.inr (fun _ => none))))))]) → va_S A s.heap H1 locs → W p l e R s m args below meth c H1 locs (cells + 1) (slots + n.toNatClampNeg) Q (F0 m (pc + 3) ls (.ref q :: rest))) : W p l e R s m args below meth c H locs cells slots Q (F0 m pc ls (.int n :: rest)) := by
  obtain ⟨hx, hb, hml, hown, hts, hA, hK, hXc, hXs⟩ := hF
  refine va_newq (C := RX1) hx hb hown (hts _ hlk) hXs.2.1 hK hP hD hS hA hn rfl hb4 hc hs hdg (fun q cA H1 hK1 hP1 hD1 hS1 => ?_)
  obtain ⟨kA, comp, -, -, -, h0⟩ := (hK1.2 2 _ rfl).2
  obtain ⟨kA2, comp2, -, -, -, h4⟩ := (hK1.2 4 _ rfl).2
  obtain rfl : cP = cA := Option.some.inj (h0.symm.trans h4)
  exact kk q H1 hP1 hD1 hS1
theorem i_newT (hF : zFx p s m args c cc own A D (cTy cI cB cP cT) (iX wd sk) nL) (hP : va_P D vwCl ws H) (hD : va_D A ws) (hS : va_S A s.heap H locs) {n : Int32} (hlk : Cond.classLink own index RX6 ∈ wAll) (hn : ¬ n < 0) (hb4 : n.toNatClampNeg * 4 ≤ 536870912) (hc : cells + 1 ≤ R.cells) (hs : slots + n.toNatClampNeg ≤ R.slots) (hdg : decode cc pc = .ok (.anewarray index, 3)) (kk : ∀ (q : Nat) (H1 : Heap), va_P D vwCl (ws ++ [(q, .inl (cT, n.toNatClampNeg, .inr (.inr (.inr (.inr (fun _ => none))))))]) H1 → va_D A (ws ++ [(q, .inl (cT, n.toNatClampNeg, .inr (.inr (.inr (.inr (fun _ => none))))))]) → va_S A s.heap H1 locs → W p l e R s m args below meth c H1 locs (cells + 1) (slots + n.toNatClampNeg) Q (F0 m (pc + 3) ls (.ref q :: rest))) : W p l e R s m args below meth c H locs cells slots Q (F0 m pc ls (.int n :: rest)) := by
  obtain ⟨hx, hb, hml, hown, hts, hA, hK, hXc, hXs⟩ := hF
  refine va_newq (C := RX6) hx hb hown (hts _ hlk) hXs.2.2 hK hP hD hS hA hn rfl hb4 hc hs hdg (fun q cA H1 hK1 hP1 hD1 hS1 => ?_)
  obtain ⟨kA, comp, -, -, -, h0⟩ := (hK1.2 3 _ rfl).2
  obtain ⟨kA2, comp2, -, -, -, h4⟩ := (hK1.2 4 _ rfl).2
  obtain rfl : cT = cA := Option.some.inj (h0.symm.trans h4)
  exact kk q H1 hP1 hD1 hS1
theorem i_call {S : Type} {L wc : va_W} {Wd : S → va_W} {Φ : S → Prop} {a : Array Value} {kc ks : Nat} {st : List Value} {X : (Nat → Prop) → State → Heap → Prop} (hF : zFx p s m args c cc own A D (cTy cI cB cP cT) X nL) (hP : va_P D vwCl (L ++ wc) H) (hD : va_D A (L ++ wc)) (hS : va_S A s.heap H locs) (hr : va_Run p l e R s m args below meth c H locs cells slots kc ks (F0 m pc ls st) rest (zQv D (cTy cI cB cP cT) Wd Φ wc H.size a) (va_A wc H.size)) (kk : ∀ (u : S) (H1 : Heap) (locs1 : List Loc), Φ u → va_P D vwCl (L ++ Wd u) H1 → va_D A (L ++ Wd u) → va_S A s.heap H1 locs1 → W p l e R s m args below meth c H1 locs1 (cells + kc) (slots + ks) Q (F0 m (pc + 3) ls rest)) : W p l e R s m args below meth c H locs cells slots Q (F0 m pc ls st) := by
  have hfr := zfree (zrightD hD) hS hF.2.2.2.2.2.1
  refine va_callv hr hS (fun q _ h => hfr q h) hfr (fun u t H1 locs1 ht hvm hw hB hz1 hk1 hS1 => ?_)
  obtain ⟨hP1, -, hD1⟩ := hB
  rw [ht] at hP1
  exact kk u H1 locs1 hw (zjoinP hP hD (fun q h1 h2 => hk1 q h1 h2) hP1) (zjoinD hP hD (fun q h => hF.2.2.2.2.2.1 q (Nat.le_trans hS.1 h)) hD1) hS1
theorem i_runI {wc : va_W} {L : va_W} {Qc : Array Value → State → Outcome → State → Prop} {y1 : MethodName} {bytes : ByteArray} {maxL nA : Nat} {rm : Room} {st : List Value} {b : Nat} (As : List Value) {X : (Nat → Prop) → State → Heap → Prop} (hF : zFx p s m args c cc own A D (cTy cI cB cP cT) X nL) (hM : Met l y1 (zws y1 bytes maxL none) rm (zPc D (cTy cI cB cP cT) X wc (.ref b :: As) H.size) Qc rm.cells rm.slots (va_A wc H.size)) (h1 : Cond.initialized y1.cls ∈ wAll) (h2 : Cond.methodLink own index y1 ∈ wAll) (h3 : Cond.instanceMethod y1 ∈ wAll) (h4 : Cond.code y1 bytes maxL none ∈ wAll) (hy : y1.name = "<init>") (hd : y1.cls ≠ "java/lang/invoke/MethodHandle" ∧ y1.cls ≠ "java/lang/invoke/VarHandle" ∧ (parseMethodDescriptor y1.desc).map (fun d => d.parameters.length) = some nA) (hR : rm.frames + 1 ≤ R.frames ∧ 8 + (maxL + 11) + rm.locals ≤ R.locals) (hP : va_P D vwCl (L ++ wc) H) (hD : va_D A (L ++ wc)) (hS : va_S A s.heap H locs) (hst : st = As.reverse ++ .ref b :: rest) (hn : As.length = nA) (hl : ls.size = nL) (hW : (rest.map fun v => v.category).sum ≤ 8) (hdg : decode cc pc = .ok (.invokespecial index, 3)) (hf : cells + rm.cells ≤ R.cells ∧ slots + rm.slots ≤ R.slots) : va_Run p l e R s m args below meth c H locs cells slots rm.cells rm.slots (F0 m pc ls st) rest (Qc (Value.ref b :: As).toArray) (va_A wc H.size) := by
  obtain ⟨hx, hb, hml, hown, hts, hA, hK, hXc, hXs⟩ := hF
  subst hst
  have hg : GoodIn wAll (zws y1 bytes maxL none) := fun w h => (List.mem_cons.mp h).elim (fun e => e ▸ ⟨h4, zgw h4⟩) (fun h => ⟨h, zgw h⟩)
  exact va_runI (As := As) (rest := rest) ⟨hx, hb, hml, hown, hts⟩ hM (cwI nA hts hg rfl rfl rfl (hts _ h1) (hts _ h2) (hts _ h3) hy hd hR) ⟨zPc_blind hXc, zpre hXc hXs hK (zrightP hP) (zrightD hD) hS hA⟩ rfl hn hl rfl (lv_room hW) hdg hf
theorem i_runIN {wc : va_W} {L : va_W} {Qc : Array Value → State → Outcome → State → Prop} {y1 : MethodName} {bytes : ByteArray} {maxL nA : Nat} {rm : Room} {st : List Value} {b : Nat} (As : List Value) {X : (Nat → Prop) → State → Heap → Prop} (hF : zFx p s m args c cc own A D (cTy cI cB cP cT) X nL) (hM : Met l y1 (zws y1 bytes maxL none) rm (zPc D (cTy cI cB cP cT) X wc (.ref b :: As) H.size) Qc rm.cells rm.slots (va_A wc H.size)) (h1 : Cond.initialized y1.cls ∈ wAll) (h2 : va_Nw (.methodLinkNest own index y1 host) s) (h3 : Cond.instanceMethod y1 ∈ wAll) (h4 : Cond.code y1 bytes maxL none ∈ wAll) (hy : y1.name = "<init>") (hd : y1.cls ≠ "java/lang/invoke/MethodHandle" ∧ y1.cls ≠ "java/lang/invoke/VarHandle" ∧ (parseMethodDescriptor y1.desc).map (fun d => d.parameters.length) = some nA) (hR : rm.frames + 1 ≤ R.frames ∧ 8 + (maxL + 11) + rm.locals ≤ R.locals) (hP : va_P D vwCl (L ++ wc) H) (hD : va_D A (L ++ wc)) (hS : va_S A s.heap H locs) (hst : st = As.reverse ++ .ref b :: rest) (hn : As.length = nA) (hl : ls.size = nL) (hW : (rest.map fun v => v.category).sum ≤ 8) (hdg : decode cc pc = .ok (.invokespecial index, 3)) (hf : cells + rm.cells ≤ R.cells ∧ slots + rm.slots ≤ R.slots) : va_Run p l e R s m args below meth c H locs cells slots rm.cells rm.slots (F0 m pc ls st) rest (Qc (Value.ref b :: As).toArray) (va_A wc H.size) := by
  obtain ⟨hx, hb, hml, hown, hts, hA, hK, hXc, hXs⟩ := hF
  subst hst
  have hg : GoodIn wAll (zws y1 bytes maxL none) := fun w h => (List.mem_cons.mp h).elim (fun e => e ▸ ⟨h4, zgw h4⟩) (fun h => ⟨h, zgw h⟩)
  exact va_runIN (As := As) (rest := rest) ⟨hx, hb, hml, hown, hts⟩ hM ⟨va_cnB nA hts hg rfl rfl rfl h2 (hts _ h1) hd hR, hy, hts _ h3⟩ ⟨zPc_blind hXc, zpre hXc hXs hK (zrightP hP) (zrightD hD) hS hA⟩ rfl hn hl rfl (lv_room hW) hdg hf
theorem i_nw (hF : zFx p s m args c cc own A D (cTy cI cB cP cT) (iX wd sk) nL) {w : Cond} (h : w ∈ wNest) : va_Nw w s := hF.2.2.2.2.2.2.2.2.1.1 w h
theorem i_word (hF : zFx p s m args c cc own A D (cTy cI cB cP cT) (iX wd sk) nL) (hS : va_S A s.heap H locs) {k : Nat} (hk : k < 15) {n : String} (hn : wName k = n) (hlk : Cond.fieldLink own index "Streamloom$Word" n "LStreamloom$Word;" ∈ wAll) (hdg : decode cc pc = .ok (.getstatic index, 3)) (kk : W p l e R s m args below meth c H locs cells slots Q (F0 m (pc + 3) ls (.ref (wd k) :: rest))) : W p l e R s m args below meth c H locs cells slots Q (F0 m pc ls rest) := by
  subst hn
  obtain ⟨hx, hb, hml, hown, hts, hA, hK, hXc, hXs⟩ := hF
  exact va_gets (C := "Streamloom$Word") hx hb (hXs.1.2.2.1 k hk) hS hown (hts _ hlk) (fun _ h9 => h9) hdg kk
theorem i_cmp (hF : zFx p s m args c cc own A D (cTy cI cB cP cT) (iX wd sk) nL) (hS : va_S A s.heap H locs) (hlk : Cond.fieldLink own index "java/lang/String" "COMPACT_STRINGS" "Z" ∈ wAll) (hdg : decode cc pc = .ok (.getstatic index, 3)) (kk : W p l e R s m args below meth c H locs cells slots Q (F0 m (pc + 3) ls (.int 1 :: rest))) : W p l e R s m args below meth c H locs cells slots Q (F0 m pc ls rest) := by
  obtain ⟨hx, hb, hml, hown, hts, hA, hK, hXc, hXs⟩ := hF
  exact va_gets hx hb hXs.1.2.2.2.2.2.2.2.1 hS hown (hts _ hlk) (fun _ h9 => h9) hdg kk
theorem oiS : Cond.instanceMethod Lib.objectInit ∈ wAll := (zin 64 (by decide +kernel) (by decide +kernel))
theorem oiC : Cond.code Lib.objectInit ⟨#[0xb1]⟩ 1 none ∈ wAll := zin 65 (by decide +kernel) (by decide +kernel)
theorem i_objX (hF : zFx p s m args c cc own A D (cTy cI cB cP cT) (cX wd sk) nL) (hl : ls.size = nL) {a : Nat} (hlk : Cond.methodLink own index Lib.objectInit ∈ wAll) (hR : 1 ≤ R.frames ∧ (rest.map fun v => v.category).sum + 12 ≤ R.locals) (hdg : decode cc pc = .ok (.invokespecial index, 3)) (kk : W p l e R s m args below meth c H locs cells slots Q (F0 m (pc + 3) ls rest)) : W p l e R s m args below meth c H locs cells slots Q (F0 m pc ls (.ref a :: rest)) := by
  obtain ⟨hx, hb, hml, hown, hts, hA, hK, hXc, hXs⟩ := hF
  exact W.objInit hx hb hown (hts _ hlk) (hts _ oiS) (hts _ oiC) rfl (by rw [hml]; exact hl) rfl hdg hR.1 (by show 2 * 0 + _ + 12 ≤ _; omega) kk
theorem c_wordX (hF : zFx p s m args c cc own A D (cTy cI cB cP cT) (cX wd sk) nL) (hS : va_S A s.heap H locs) {k : Nat} (hk : k < 15) {n : String} (hn : wName k = n) (hlk : Cond.fieldLink own index "Streamloom$Word" n "LStreamloom$Word;" ∈ wAll) (hdg : decode cc pc = .ok (.getstatic index, 3)) (kk : W p l e R s m args below meth c H locs cells slots Q (F0 m (pc + 3) ls (.ref (wd k) :: rest))) : W p l e R s m args below meth c H locs cells slots Q (F0 m pc ls rest) := by
  subst hn
  obtain ⟨hx, hb, hml, hown, hts, hA, hK, hXc, hXs⟩ := hF
  exact va_gets (C := "Streamloom$Word") hx hb (hXs.2.2.1 k hk) hS hown (hts _ hlk) (fun _ h9 => h9) hdg kk
theorem i_obj (hF : zFx p s m args c cc own A D (cTy cI cB cP cT) (iX wd sk) nL) (hl : ls.size = nL) {a : Nat} (hlk : Cond.methodLink own index Lib.objectInit ∈ wAll) (hR : 1 ≤ R.frames ∧ (rest.map fun v => v.category).sum + 12 ≤ R.locals) (hdg : decode cc pc = .ok (.invokespecial index, 3)) (kk : W p l e R s m args below meth c H locs cells slots Q (F0 m (pc + 3) ls rest)) : W p l e R s m args below meth c H locs cells slots Q (F0 m pc ls (.ref a :: rest)) := by
  obtain ⟨hx, hb, hml, hown, hts, hA, hK, hXc, hXs⟩ := hF
  exact W.objInit hx hb hown (hts _ hlk) (hts _ oiS) (hts _ oiC) rfl (by rw [hml]; exact hl) rfl hdg hR.1 (by show 2 * 0 + _ + 12 ≤ _; omega) kk
end IG
theorem zMetI {l : Launch} {y : MethodName} {cc : ByteArray} {n : Nat} {ret : Option FieldType} {rm : Room} {D : va_G} {tys : List (ClassId × FieldType)} {X : (Nat → Prop) → State → Heap → Prop} {ws : va_W} {av : List Value} {sz : Nat} {Qc : Array Value → State → Outcome → State → Prop} {mc ms : Nat} {free : Addr → Prop}
    (hy : plainName y.cls = true) (hn : (lg_sl av).length ≤ n)
    (body : ∀ (p : Program) (e : Env) (s : State) (m : MethodId) (args : Array Value) (below : List Frame) (meth : Method) (c : Code) (A : Nat → Prop), p.tables.exec = Jvm.exec → c.code = cc → meth.sig.returnType = ret → c.maxLocals = n → s.vm.findClass y.cls = some m.cls → (∀ w ∈ wAll, w.before args s = true) → meth.locks = false → meth.name = y.name → s.heap.size = sz → va_A ws s.heap.size = A → (∀ q : Nat, s.heap.size ≤ q → A q) → va_S A s.heap s.heap [] → va_P D vwCl ws s.heap → va_K D vwCl tys s → va_D A ws → X A s s.heap → ∀ ls : Array Slot, lv_has ls n (lv_args 0 av) → W p l e rm s m args below meth c s.heap [] 0 0 (MQ below Qc args s mc ms free) (F0 m 0 ls [])) :
    Met l y (zws y cc n ret) rm (zPc D tys X ws av sz) Qc mc ms free := by
  refine Met.ofW (cc := cc) (maxL := n) (ret := ret) hy rfl ?_
  intro p e s m args below meth c s₁ B hml hv
  obtain ⟨rfl, hsz, hP, hK, hD0, hX⟩ := hv
  have hts := atoms_spec (ws := zws y cc n ret) B.pre
  rw [lg_entry_eq]
  subst hsz
  exact body p e s m _ below meth c _ B.exec B.bytes B.returns hml (findClass_of_methodNamed B.named) (fun w h => hts w (List.mem_cons_of_mem _ h)) B.notSynchronized (name_of_methodNamed B.named B.method).1 rfl rfl (fun q h => Or.inr h) va_S.rf hP hK hD0.self hX _ (lv_entry av hn)

theorem lkX1_14 : Cond.fieldLink RX1 14 "Streamloom$Partition" "events" "LStreamloom$Rows;" ∈ wAll := zin 238 (by decide +kernel) (by decide +kernel)
theorem lkX1_20 : Cond.fieldLink RX1 20 "Streamloom$Partition" "lag" "I" ∈ wAll := zin 241 (by decide +kernel) (by decide +kernel)
theorem lkX1_24 : Cond.fieldLink RX1 24 "Streamloom$Partition" "isIdle" "Z" ∈ wAll := zin 244 (by decide +kernel) (by decide +kernel)
theorem lkX2_9 : Cond.fieldLink RX2 9 "Streamloom$Word" "SUM" "LStreamloom$Word;" ∈ wAll := zin 178 (by decide +kernel) (by decide +kernel)
theorem lkX2_20 : Cond.fieldLink RX2 20 "Streamloom$Word" "IF" "LStreamloom$Word;" ∈ wAll := zin 180 (by decide +kernel) (by decide +kernel)
theorem lkX2_30 : Cond.fieldLink RX2 30 "Streamloom$Query" "isJoined" "Z" ∈ wAll := zin 193 (by decide +kernel) (by decide +kernel)
theorem lkX2_34 : Cond.fieldLink RX2 34 "Streamloom$Word" "FIXED" "LStreamloom$Word;" ∈ wAll := zin 182 (by decide +kernel) (by decide +kernel)
theorem lkX2_49 : Cond.fieldLink RX2 49 "Streamloom$Word" "TOLD_ANEW" "LStreamloom$Word;" ∈ wAll := zin 184 (by decide +kernel) (by decide +kernel)
theorem lkX2_52 : Cond.fieldLink RX2 52 "Streamloom$Query" "mode" "LStreamloom$Word;" ∈ wAll := zin 209 (by decide +kernel) (by decide +kernel)
theorem lkX8_10 : Cond.fieldLink RX8 10 "Streamloom" "text" "Ljava/lang/StringBuilder;" ∈ wAll := zin 299 (by decide +kernel) (by decide +kernel)
theorem mlJ5_3 : Cond.methodLink RJ5 3 Lib.objectInit ∈ wAll := zin 74 (by decide +kernel) (by decide +kernel)
theorem mlX0_3 : Cond.methodLink RX0 3 Lib.objectInit ∈ wAll := zin 104 (by decide +kernel) (by decide +kernel)
theorem mlX1_3 : Cond.methodLink RX1 3 Lib.objectInit ∈ wAll := zin 235 (by decide +kernel) (by decide +kernel)
theorem mlX2_3 : Cond.methodLink RX2 3 Lib.objectInit ∈ wAll := zin 177 (by decide +kernel) (by decide +kernel)
theorem mlX3_3 : Cond.methodLink RX3 3 Lib.objectInit ∈ wAll := zin 540 (by decide +kernel) (by decide +kernel)
theorem mlX4_3 : Cond.methodLink RX4 3 Lib.objectInit ∈ wAll := zin 112 (by decide +kernel) (by decide +kernel)
theorem mlX5_3 : Cond.methodLink RX5 3 Lib.objectInit ∈ wAll := zin 280 (by decide +kernel) (by decide +kernel)
theorem mlX6_3 : Cond.methodLink RX6 3 Lib.objectInit ∈ wAll := zin 135 (by decide +kernel) (by decide +kernel)
theorem mlX8_1 : Cond.methodLink RX8 1 Lib.objectInit ∈ wAll := zin 63 (by decide +kernel) (by decide +kernel)
theorem miJ4_1 : Cond.methodLink RJ4 1 yJ5_init_d00df ∈ wAll := zin 71 (by decide +kernel) (by decide +kernel)
theorem imJ5_init_d00df : Cond.instanceMethod yJ5_init_d00df ∈ wAll := (zin 72 (by decide +kernel) (by decide +kernel))
theorem icJ5_init_d00df : Cond.code yJ5_init_d00df cJ5_init_d00df 2 none ∈ wAll := zin 73 (by decide +kernel) (by decide +kernel)
theorem miX0_19 : Cond.methodLink RX0 19 yX4_init ∈ wAll := zin 109 (by decide +kernel) (by decide +kernel)
theorem imX4_init : Cond.instanceMethod yX4_init ∈ wAll := (zin 110 (by decide +kernel) (by decide +kernel))
theorem icX4_init : Cond.code yX4_init cX4_init 2 none ∈ wAll := zin 111 (by decide +kernel) (by decide +kernel)
theorem miX0_31 : Cond.methodLinkNest RX0 31 yX6_init "Streamloom" ∈ wNest := zinN 132 (by decide +kernel) rfl
theorem imX6_init : Cond.instanceMethod yX6_init ∈ wAll := (zin 133 (by decide +kernel) (by decide +kernel))
theorem icX6_init : Cond.code yX6_init cX6_init 1 none ∈ wAll := zin 134 (by decide +kernel) (by decide +kernel)
theorem miX0_38 : Cond.methodLinkNest RX0 38 yX2_init "Streamloom" ∈ wNest := zinN 174 (by decide +kernel) rfl
theorem imX2_init : Cond.instanceMethod yX2_init ∈ wAll := (zin 175 (by decide +kernel) (by decide +kernel))
theorem icX2_init : Cond.code yX2_init cX2_init 1 none ∈ wAll := zin 176 (by decide +kernel) (by decide +kernel)
theorem miX0_43 : Cond.methodLinkNest RX0 43 yX1_init "Streamloom" ∈ wNest := zinN 232 (by decide +kernel) rfl
theorem imX1_init : Cond.instanceMethod yX1_init ∈ wAll := (zin 233 (by decide +kernel) (by decide +kernel))
theorem icX1_init : Cond.code yX1_init cX1_init 1 none ∈ wAll := zin 234 (by decide +kernel) (by decide +kernel)
theorem miX1_11 : Cond.methodLink RX1 11 yX4_init ∈ wAll := zin 237 (by decide +kernel) (by decide +kernel)
theorem miX5_17 : Cond.methodLinkNest RX5 17 yX6_init "Streamloom" ∈ wNest := zinN 283 (by decide +kernel) rfl
theorem miX6_20 : Cond.methodLink RX6 20 yX4_init ∈ wAll := zin 137 (by decide +kernel) (by decide +kernel)
theorem miX8_9 : Cond.methodLink RX8 9 yJ4_init_da8c8 ∈ wAll := zin 68 (by decide +kernel) (by decide +kernel)
theorem imJ4_init_da8c8 : Cond.instanceMethod yJ4_init_da8c8 ∈ wAll := (zin 69 (by decide +kernel) (by decide +kernel))
theorem icJ4_init_da8c8 : Cond.code yJ4_init_da8c8 cJ4_init_da8c8 1 none ∈ wAll := zin 70 (by decide +kernel) (by decide +kernel)
theorem miX8_18 : Cond.methodLink RX8 18 yX0_init ∈ wAll := zin 101 (by decide +kernel) (by decide +kernel)
theorem imX0_init : Cond.instanceMethod yX0_init ∈ wAll := (zin 102 (by decide +kernel) (by decide +kernel))
theorem icX0_init : Cond.code yX0_init cX0_init 2 none ∈ wAll := zin 103 (by decide +kernel) (by decide +kernel)
theorem miX8_25 : Cond.methodLink RX8 25 yX5_init ∈ wAll := zin 277 (by decide +kernel) (by decide +kernel)
theorem imX5_init : Cond.instanceMethod yX5_init ∈ wAll := (zin 278 (by decide +kernel) (by decide +kernel))
theorem icX5_init : Cond.code yX5_init cX5_init 2 none ∈ wAll := zin 279 (by decide +kernel) (by decide +kernel)
theorem clX0_9 : Cond.classLink RX0 9 RX1 ∈ wAll := (zin 105 (by decide +kernel) (by decide +kernel))
theorem clX0_17 : Cond.classLink RX0 17 RX4 ∈ wAll := (zin 107 (by decide +kernel) (by decide +kernel))
theorem clX0_29 : Cond.classLink RX0 29 RX6 ∈ wAll := (zin 130 (by decide +kernel) (by decide +kernel))
theorem clX0_36 : Cond.classLink RX0 36 RX2 ∈ wAll := (zin 172 (by decide +kernel) (by decide +kernel))
theorem clX1_9 : Cond.classLink RX1 9 RX4 ∈ wAll := (zin 236 (by decide +kernel) (by decide +kernel))
theorem clX5_9 : Cond.classLink RX5 9 RX6 ∈ wAll := (zin 281 (by decide +kernel) (by decide +kernel))
theorem clX6_18 : Cond.classLink RX6 18 RX4 ∈ wAll := (zin 136 (by decide +kernel) (by decide +kernel))
theorem clX8_7 : Cond.classLink RX8 7 RJ4 ∈ wAll := (zin 66 (by decide +kernel) (by decide +kernel))
theorem clX8_16 : Cond.classLink RX8 16 RX0 ∈ wAll := (zin 99 (by decide +kernel) (by decide +kernel))
theorem clX8_23 : Cond.classLink RX8 23 RX5 ∈ wAll := (zin 275 (by decide +kernel) (by decide +kernel))
theorem insX0 : Cond.instantiable RX0 5 ∈ wAll := (zin 100 (by decide +kernel) (by decide +kernel))
theorem insX1 : Cond.instantiable RX1 3 ∈ wAll := (zin 231 (by decide +kernel) (by decide +kernel))
theorem inX1 : Cond.initialized RX1 ∈ wAll := (zin 36 (by decide +kernel) (by decide +kernel))
theorem insX2 : Cond.instantiable RX2 9 ∈ wAll := (zin 173 (by decide +kernel) (by decide +kernel))
theorem insX4 : Cond.instantiable RX4 3 ∈ wAll := (zin 108 (by decide +kernel) (by decide +kernel))
theorem insX5 : Cond.instantiable RX5 4 ∈ wAll := (zin 276 (by decide +kernel) (by decide +kernel))
theorem insX6 : Cond.instantiable RX6 7 ∈ wAll := (zin 131 (by decide +kernel) (by decide +kernel))
theorem insJ4 : Cond.instantiable RJ4 4 ∈ wAll := (zin 67 (by decide +kernel) (by decide +kernel))
