/-! ===== the law from its entry to its loop ===== -/
section WS
variable {p : Program} {l : Launch} {e : Env} {R : Room} {s : State} {m : MethodId} {args : Array Value} {below : List Frame} {meth : Method} {c : Code} {H : Heap} {locs : List Loc} {cells slots : Nat} {Q : State → Prop} {A : Nat → Prop} {D : va_G} {cc : ByteArray} {pc nL index : Nat} {ls : Array Slot} {rest : List Value} {own : String} {tys : List (ClassId × FieldType)}
theorem w_call {S : Type} {L wc : va_W} {Wd : S → va_W} {Φ : S → Prop} {a : Array Value} {kc ks : Nat} {st : List Value} {X : (Nat → Prop) → State → Heap → Prop} (hF : zFx p s m args c cc own A D tys X nL) (hP : va_P D vwCl (L ++ wc) H) (hD : va_D A (L ++ wc)) (hS : va_S A s.heap H locs) (hr : va_Run p l e R s m args below meth c H locs cells slots kc ks (F0 m pc ls st) rest (zQv D tys Wd Φ wc H.size a) (va_A wc H.size)) (kk : ∀ (u : S) (H1 : Heap) (locs1 : List Loc), Φ u → va_P D vwCl (L ++ Wd u) H1 → va_D A (L ++ Wd u) → va_S A s.heap H1 locs1 → W p l e R s m args below meth c H1 locs1 (cells + kc) (slots + ks) Q (F0 m (pc + 3) ls rest)) : W p l e R s m args below meth c H locs cells slots Q (F0 m pc ls st) := by
  have hfr := zfree (zrightD hD) hS hF.2.2.2.2.2.1
  refine va_callv hr hS (fun q _ h => hfr q h) hfr (fun u t H1 locs1 ht hvm hw hB hz1 hk1 hS1 => ?_)
  obtain ⟨hP1, -, hD1⟩ := hB
  rw [ht] at hP1
  exact kk u H1 locs1 hw (zjoinP hP hD (fun q h1 h2 => hk1 q h1 h2) hP1) (zjoinD hP hD (fun q h => hF.2.2.2.2.2.1 q (Nat.le_trans hS.1 h)) hD1) hS1
theorem w_runI {wc : va_W} {L : va_W} {Qc : Array Value → State → Outcome → State → Prop} {y1 : MethodName} {bytes : ByteArray} {maxL nA : Nat} {rm : Room} {st : List Value} {b : Nat} (As : List Value) {X : (Nat → Prop) → State → Heap → Prop} (hF : zFx p s m args c cc own A D tys X nL) (hM : Met l y1 (zws y1 bytes maxL none) rm (zPc D tys X wc (.ref b :: As) H.size) Qc rm.cells rm.slots (va_A wc H.size)) (h1 : Cond.initialized y1.cls ∈ wAll) (h2 : Cond.methodLink own index y1 ∈ wAll) (h3 : Cond.instanceMethod y1 ∈ wAll) (h4 : Cond.code y1 bytes maxL none ∈ wAll) (hy : y1.name = "<init>") (hd : y1.cls ≠ "java/lang/invoke/MethodHandle" ∧ y1.cls ≠ "java/lang/invoke/VarHandle" ∧ (parseMethodDescriptor y1.desc).map (fun d => d.parameters.length) = some nA) (hR : rm.frames + 1 ≤ R.frames ∧ 8 + (maxL + 11) + rm.locals ≤ R.locals) (hP : va_P D vwCl (L ++ wc) H) (hD : va_D A (L ++ wc)) (hS : va_S A s.heap H locs) (hst : st = As.reverse ++ .ref b :: rest) (hn : As.length = nA) (hl : ls.size = nL) (hW : (rest.map fun v => v.category).sum ≤ 8) (hdg : decode cc pc = .ok (.invokespecial index, 3)) (hf : cells + rm.cells ≤ R.cells ∧ slots + rm.slots ≤ R.slots) : va_Run p l e R s m args below meth c H locs cells slots rm.cells rm.slots (F0 m pc ls st) rest (Qc (Value.ref b :: As).toArray) (va_A wc H.size) := by
  obtain ⟨hx, hb, hml, hown, hts, hA, hK, hXc, hXs⟩ := hF
  subst hst
  have hg : GoodIn wAll (zws y1 bytes maxL none) := fun w h => (List.mem_cons.mp h).elim (fun e => e ▸ ⟨h4, zgw h4⟩) (fun h => ⟨h, zgw h⟩)
  exact va_runI (As := As) (rest := rest) ⟨hx, hb, hml, hown, hts⟩ hM (cwI nA hts hg rfl rfl rfl (hts _ h1) (hts _ h2) (hts _ h3) hy hd hR) ⟨zPc_blind hXc, zpre hXc hXs hK (zrightP hP) (zrightD hD) hS hA⟩ rfl hn hl rfl (lv_room hW) hdg hf
end WS
def wsv9 : List Value := [.int 0, .int 0, .int 0, .int 0, .null, .int 0, .null, .null, .int 0, .null, .null, .null, .null, .null, .null, .null, .null, .null, .null, .int 0, .null, .null, .null, .null, .null, .null, .null, .null, .null, .null, .null, .null, .null, .null, .null, .int 0, .null, .int 0, .null, .null, .null, .null, .null, .int 0, .int 0]
theorem wsv9_ok : ∀ j, j < 45 → defaultValue (tyX9 j) = vp_V wsv9 j := by
  intro j hj
  match j, hj with
  | 0, _ => rfl
  | 1, _ => rfl
  | 2, _ => rfl
  | 3, _ => rfl
  | 4, _ => rfl
  | 5, _ => rfl
  | 6, _ => rfl
  | 7, _ => rfl
  | 8, _ => rfl
  | 9, _ => rfl
  | 10, _ => rfl
  | 11, _ => rfl
  | 12, _ => rfl
  | 13, _ => rfl
  | 14, _ => rfl
  | 15, _ => rfl
  | 16, _ => rfl
  | 17, _ => rfl
  | 18, _ => rfl
  | 19, _ => rfl
  | 20, _ => rfl
  | 21, _ => rfl
  | 22, _ => rfl
  | 23, _ => rfl
  | 24, _ => rfl
  | 25, _ => rfl
  | 26, _ => rfl
  | 27, _ => rfl
  | 28, _ => rfl
  | 29, _ => rfl
  | 30, _ => rfl
  | 31, _ => rfl
  | 32, _ => rfl
  | 33, _ => rfl
  | 34, _ => rfl
  | 35, _ => rfl
  | 36, _ => rfl
  | 37, _ => rfl
  | 38, _ => rfl
  | 39, _ => rfl
  | 40, _ => rfl
  | 41, _ => rfl
  | 42, _ => rfl
  | 43, _ => rfl
  | 44, _ => rfl
  | j + 45, hj => exact absurd hj (by omega)
theorem ws_cl8 : Cond.classLink RL 8 RX8 ∈ wAll := List.mem_filter.mpr ⟨by decide +kernel, by decide +kernel⟩
theorem ws_cl9 : Cond.classLink RL 77 RX9 ∈ wAll := List.mem_filter.mpr ⟨by decide +kernel, by decide +kernel⟩
theorem ws_ins8 : Cond.instantiable RX8 5 ∈ wAll := List.mem_filter.mpr ⟨by decide +kernel, by decide +kernel⟩
theorem ws_ins9 : Cond.instantiable RX9 45 ∈ wAll := List.mem_filter.mpr ⟨by decide +kernel, by decide +kernel⟩
theorem ws_ml8 : Cond.methodLink RL 76 yX8_init ∈ wAll := List.mem_filter.mpr ⟨by decide +kernel, by decide +kernel⟩
theorem ws_ml9 : Cond.methodLink RL 79 yX9_init ∈ wAll := List.mem_filter.mpr ⟨by decide +kernel, by decide +kernel⟩
theorem ws_im8 : Cond.instanceMethod yX8_init ∈ wAll := List.mem_filter.mpr ⟨by decide +kernel, by decide +kernel⟩
theorem ws_im9 : Cond.instanceMethod yX9_init ∈ wAll := List.mem_filter.mpr ⟨by decide +kernel, by decide +kernel⟩
theorem ws_ic8 : Cond.code yX8_init cX8_init 1 none ∈ wAll := List.mem_filter.mpr ⟨by decide +kernel, by decide +kernel⟩
theorem ws_ic9 : Cond.code yX9_init cX9_init 1 none ∈ wAll := List.mem_filter.mpr ⟨by decide +kernel, by decide +kernel⟩
theorem cW_end {ad : Nat → Nat → Nat} {wd : Nat → Nat} {cI cB cP cT : ClassId} {u : cS} (z : Nat × va_E) : cW [] ad wd cI cB cP cT u ++ [z] = cW [z] ad wd cI cB cP cT u := by
  show (cwL ad wd cI cB cP cT u.1 u.2.1 u.2.2 ++ []) ++ [z] = cwL ad wd cI cB cP cT u.1 u.2.1 u.2.2 ++ [z]
  rw [List.append_nil]
theorem no_traces {l : Launch} (h : l.flags = flags0) : l.stackTraces = false := by
  unfold Launch.stackTraces
  rw [h]
  decide +kernel
