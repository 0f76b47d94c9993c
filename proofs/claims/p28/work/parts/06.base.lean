/-! ===== the contracts' own form: a world Wd u, facts X that stay, a start zPc, an end zQi / zQv ===== -/
def zws (y : MethodName) (cc : ByteArray) (n : Nat) (r : Option FieldType) : List Cond := .code y cc n r :: wAll
/-- facts X A U H that stay when the machine warms, when cells outside A stay, when A gets smaller -/
def zCl (X : (Nat → Prop) → State → Heap → Prop) : Prop :=
  (∀ (A : Nat → Prop) (u U : State) (H : Heap), u.WarmedH U.vm → X A u H → X A U H) ∧ (∀ (A : Nat → Prop) (U : State) (H H1 : Heap), (∀ a : Nat, a < H.size → ¬ A a → H1[a]? = H[a]?) → X A U H → X A U H1) ∧ (∀ (A B : Nat → Prop) (U : State) (H : Heap), (∀ q, B q → A q) → X A U H → X B U H)
def zX0 : (Nat → Prop) → State → Heap → Prop := fun _ _ _ => True
theorem zX0_cl : zCl zX0 := ⟨fun _ _ _ _ _ _ => trivial, fun _ _ _ _ _ _ => trivial, fun _ _ _ _ _ _ => trivial⟩
def zPc (D : va_G) (tys : List (ClassId × FieldType)) (X : (Nat → Prop) → State → Heap → Prop) (ws : va_W) (av : List Value) (sz : Nat) : Array Value → State → Prop :=
  va_Pc av (fun U => U.heap.size = sz ∧ va_P D vwCl ws U.heap ∧ va_K D vwCl tys U ∧ va_D (fun _ => True) ws ∧ X (va_A ws sz) U U.heap)
def zB {S : Type} (D : va_G) (tys : List (ClassId × FieldType)) (Wd : S → va_W) (A : Nat → Prop) (u : S) (t : State) : Prop := va_P D vwCl (Wd u) t.heap ∧ va_K D vwCl tys t ∧ va_D A (Wd u)
def zQi {S : Type} (D : va_G) (tys : List (ClassId × FieldType)) (Wd : S → va_W) (Φ : Int32 → S → Prop) (ws : va_W) (sz : Nat) : Array Value → State → Outcome → State → Prop := va_Qi Φ (zB D tys Wd (va_A ws sz)) (va_A ws sz)
def zQv {S : Type} (D : va_G) (tys : List (ClassId × FieldType)) (Wd : S → va_W) (Φ : S → Prop) (ws : va_W) (sz : Nat) : Array Value → State → Outcome → State → Prop := va_Qv Φ (zB D tys Wd (va_A ws sz)) (va_A ws sz)
theorem zPc_blind {D : va_G} {tys : List (ClassId × FieldType)} {X : (Nat → Prop) → State → Heap → Prop} (hX : zCl X) {ws : va_W} {av : List Value} {sz : Nat} : FrameBlind (zPc D tys X ws av sz) := by
  intro a U g mk h
  obtain ⟨h0, h1, h2, h3, h4, h5⟩ := h
  exact ⟨h0, h1, h2, va_K.moved (u := U) (U := U.calling g mk a) (Vm.Alike.refl U.vm) h3, h4, hX.1 _ U (U.calling g mk a) _ (State.WarmedH.refl U) h5⟩
theorem zMet {l : Launch} {y : MethodName} {cc : ByteArray} {n : Nat} {ret : Option FieldType} {rm : Room} {D : va_G} {tys : List (ClassId × FieldType)} {X : (Nat → Prop) → State → Heap → Prop} {ws : va_W} {av : List Value} {sz : Nat} {Qc : Array Value → State → Outcome → State → Prop} {mc ms : Nat} {free : Addr → Prop}
    (hy : plainName y.cls = true) (hn : (lg_sl av).length ≤ n)
    (body : ∀ (p : Program) (e : Env) (s : State) (m : MethodId) (args : Array Value) (below : List Frame) (meth : Method) (c : Code) (A : Nat → Prop), p.tables.exec = Jvm.exec → c.code = cc → meth.sig.returnType = ret → c.maxLocals = n → s.vm.findClass y.cls = some m.cls → (∀ w ∈ wAll, w.before args s = true) → meth.locks = false → s.heap.size = sz → va_A ws s.heap.size = A → (∀ q : Nat, s.heap.size ≤ q → A q) → va_S A s.heap s.heap [] → va_P D vwCl ws s.heap → va_K D vwCl tys s → va_D A ws → X A s s.heap → ∀ ls : Array Slot, lv_has ls n (lv_args 0 av) → W p l e rm s m args below meth c s.heap [] 0 0 (MQ below Qc args s mc ms free) (F0 m 0 ls [])) :
    Met l y (zws y cc n ret) rm (zPc D tys X ws av sz) Qc mc ms free := by
  refine Met.ofW (cc := cc) (maxL := n) (ret := ret) hy rfl ?_
  intro p e s m args below meth c s₁ B hml hv
  obtain ⟨rfl, hsz, hP, hK, hD0, hX⟩ := hv
  have hts := atoms_spec (ws := zws y cc n ret) B.pre
  rw [lg_entry_eq]
  subst hsz
  exact body p e s m _ below meth c _ B.exec B.bytes B.returns hml (findClass_of_methodNamed B.named) (fun w h => hts w (List.mem_cons_of_mem _ h)) B.notSynchronized rfl rfl (fun q h => Or.inr h) va_S.rf hP hK hD0.self hX _ (lv_entry av hn)
section ZR
variable {p : Program} {l : Launch} {e : Env} {R : Room} {s : State} {m : MethodId} {args : Array Value} {below : List Frame} {meth : Method} {c : Code} {H : Heap} {locs : List Loc} {cells slots : Nat} {Q : State → Prop} {A : Nat → Prop} {D : va_G} {tys : List (ClassId × FieldType)} {X : (Nat → Prop) → State → Heap → Prop} {cc : ByteArray} {pc : Nat} {ls : Array Slot} {rest : List Value} {ws0 : va_W} {own : String}
/-- an int (or short ..) is returned -/
theorem zirV {S : Type} {Wd : S → va_W} {Φ : Int32 → S → Prop} {u : S} {v : Int32} {ty : FieldType} (hx : p.tables.exec = Jvm.exec) (hb : c.code = cc) (hr : meth.sig.returnType = some ty) (hlocks : meth.locks = false) (hAe : va_A ws0 s.heap.size = A) (hK : va_K D vwCl tys s) (hP : va_P D vwCl (Wd u) H) (hD : va_D A (Wd u)) (hS : va_S A s.heap H locs) (hn : narrow ty (.int v) = .int v) (hdg : decode cc pc = .ok (.ireturn, 1)) {mc ms : Nat} (hmc : cells ≤ mc) (hms : slots ≤ ms) (h : Φ v u) :
    W p l e R s m args below meth c H locs cells slots (MQ below (zQi D tys Wd Φ ws0 s.heap.size) args s mc ms (va_A ws0 s.heap.size)) (F0 m pc ls [.int v]) := by
  refine W.widen hmc hms ?_
  subst hAe
  exact W.zret hx hb hr hn (fun t ht hW => ⟨⟨v, u, rfl, h, by rw [ht]; exact hP, va_K.moved hW.alike hK, hD⟩, hS.F ht⟩) hS.2.2 hdg
theorem zvr {S : Type} {Wd : S → va_W} {Φ : S → Prop} {u : S} (hx : p.tables.exec = Jvm.exec) (hb : c.code = cc) (hr : meth.sig.returnType = none) (hlocks : meth.locks = false) (hAe : va_A ws0 s.heap.size = A) (hK : va_K D vwCl tys s) (hP : va_P D vwCl (Wd u) H) (hD : va_D A (Wd u)) (hS : va_S A s.heap H locs) (hdg : decode cc pc = .ok (.return_, 1)) {mc ms : Nat} (hmc : cells ≤ mc) (hms : slots ≤ ms) (h : Φ u) :
    W p l e R s m args below meth c H locs cells slots (MQ below (zQv D tys Wd Φ ws0 s.heap.size) args s mc ms (va_A ws0 s.heap.size)) (F0 m pc ls []) := by
  refine W.widen hmc hms ?_
  subst hAe
  exact W.vret hx hb hr (fun t ht hW => ⟨⟨u, rfl, h, by rw [ht]; exact hP, va_K.moved hW.alike hK, hD⟩, hS.F ht⟩) hS.2.2 hdg
/-- the callee's cells lie in the caller's -/
theorem zfree {ws : va_W} {H0 : Heap} (hD : va_D A ws) (hS : va_S A H0 H locs) (hA : ∀ q, H0.size ≤ q → A q) : ∀ q, va_A ws H.size q → A q := by
  intro q h
  rcases h with ⟨k, e, h⟩ | h
  · exact hD.2 k _ h
  · exact hA q (Nat.le_trans hS.1 h)
theorem zXat {ws : va_W} (hX : zCl X) (hXs : X A s s.heap) (hD : va_D A ws) (hS : va_S A s.heap H locs) (hA : ∀ q, s.heap.size ≤ q → A q) {U : State} (hU : U.heap = H) (hW : s.WarmedH U.vm) : X (va_A ws H.size) U U.heap := by
  rw [hU]
  exact hX.1 _ s U H hW (hX.2.2 A _ s H (zfree hD hS hA) (hX.2.1 A s s.heap H (fun a h1 h2 => hS.2.1 a h1 h2) hXs))
theorem zpre {ws : va_W} {av : List Value} (hX : zCl X) (hXs : X A s s.heap) (hK : va_K D vwCl tys s) (hP : va_P D vwCl ws H) (hD : va_D A ws) (hS : va_S A s.heap H locs) (hA : ∀ q, s.heap.size ≤ q → A q) : ∀ U : State, U.heap = H → s.WarmedH U.vm → zPc D tys X ws av H.size av.toArray U := by
  intro U hU hW
  refine ⟨rfl, by rw [hU], by rw [hU]; exact hP, va_K.moved hW.alike hK, hD.weaken (fun _ _ _ _ => trivial), ?_⟩
  exact zXat hX hXs hD hS hA hU hW
theorem zCW {y : MethodName} {C : String} {bytes : ByteArray} {maxL index n : Nat} {ret : Option FieldType} {rm : Room} (hts : ∀ w ∈ wAll, w.before args s = true) (hl : Cond.methodLink own index y ∈ wAll) (hi : Cond.instanceMethod y ∈ wAll) (hse : Cond.selects C y y ∈ wAll) (hini : Cond.initialized y.cls ∈ wAll) (hc : Cond.code y bytes maxL ret ∈ wAll) (hd : y.cls ≠ "java/lang/invoke/MethodHandle" ∧ y.cls ≠ "java/lang/invoke/VarHandle" ∧ (parseMethodDescriptor y.desc).map (fun d => d.parameters.length) = some n) (hR : rm.frames + 1 ≤ R.frames ∧ 8 + (maxL + 11) + rm.locals ≤ R.locals) : CallW R s args own C index y bytes maxL ret (zws y bytes maxL ret) rm rm.cells rm.slots n := by
  have hg : GoodIn wAll (zws y bytes maxL ret) := fun w h => (List.mem_cons.mp h).elim (fun e => e ▸ ⟨hc, zgw hc⟩) (fun h => ⟨h, zgw h⟩)
  exact ⟨callB_of n hts hg rfl rfl rfl (hts _ hini) (hts _ hl) hd hR, hts _ hi, hts _ hse⟩
theorem zCS {y : MethodName} {bytes : ByteArray} {maxL index n : Nat} {ret : Option FieldType} {rm : Room} (hts : ∀ w ∈ wAll, w.before args s = true) (hl : Cond.methodLink own index y ∈ wAll) (hst : Cond.static y ∈ wAll) (hini : Cond.initialized y.cls ∈ wAll) (hc : Cond.code y bytes maxL ret ∈ wAll) (hd : y.cls ≠ "java/lang/invoke/MethodHandle" ∧ y.cls ≠ "java/lang/invoke/VarHandle" ∧ (parseMethodDescriptor y.desc).map (fun d => d.parameters.length) = some n) (hR : rm.frames + 1 ≤ R.frames ∧ 8 + (maxL + 11) + rm.locals ≤ R.locals) : CallB R s args own index y bytes maxL ret (zws y bytes maxL ret) rm rm.cells rm.slots n ∧ (Cond.static y).before args s = true := by
  have hg : GoodIn wAll (zws y bytes maxL ret) := fun w h => (List.mem_cons.mp h).elim (fun e => e ▸ ⟨hc, zgw hc⟩) (fun h => ⟨h, zgw h⟩)
  exact ⟨callB_of n hts hg rfl rfl rfl (hts _ hini) (hts _ hl) hd hR, hts _ hst⟩
/-- what a caller has of itself: the machine, the code, the tables, its class, its facts -/
def zFx (p : Program) (s : State) (m : MethodId) (args : Array Value) (c : Code) (cc : ByteArray) (own : String) (A : Nat → Prop) (D : va_G) (tys : List (ClassId × FieldType)) (X : (Nat → Prop) → State → Heap → Prop) (nL : Nat) : Prop :=
  p.tables.exec = Jvm.exec ∧ c.code = cc ∧ c.maxLocals = nL ∧ s.vm.findClass own = some m.cls ∧ (∀ w ∈ wAll, w.before args s = true) ∧ (∀ q : Nat, s.heap.size ≤ q → A q) ∧ va_K D vwCl tys s ∧ zCl X ∧ X A s s.heap
/-- a virtual call whose callee's world is the whole world, an int comes back -/
theorem zVi {S : Type} {Wd : S → va_W} {u0 : S} {Φ : Int32 → S → Prop} {y : MethodName} {bytes : ByteArray} {maxL index nA nL : Nat} {ret : Option FieldType} {rm : Room} {b : Nat} {C : String} {st : List Value} (As : List Value) (hF : zFx p s m args c cc own A D tys X nL)
    (hM : Met l y (zws y bytes maxL ret) rm (zPc D tys X (Wd u0) (.ref b :: As) H.size) (zQi D tys Wd Φ (Wd u0) H.size) rm.cells rm.slots (va_A (Wd u0) H.size))
    (cw : CallW R s args own C index y bytes maxL ret (zws y bytes maxL ret) rm rm.cells rm.slots nA) {q0 ci : Nat} {fs : List Value} {T : u_T} {N : Nat} (hc : vwCl[ci]? = some (C, T, N)) (he : (Wd u0)[q0]? = some (b, .inr (ci, fs))) (hP : va_P D vwCl (Wd u0) H) (hD : va_D A (Wd u0)) (hS : va_S A s.heap H locs)
    (hst : st = As.reverse ++ .ref b :: rest) (hn : As.length = nA) (hl : ls.size = nL) (hW : (rest.map fun v => v.category).sum ≤ 8) (hdg : decode cc pc = .ok (.invokevirtual index, 3)) (hf : cells + rm.cells ≤ R.cells ∧ slots + rm.slots ≤ R.slots)
    (kk : ∀ (r : Int32) (u : S) (H1 : Heap) (locs1 : List Loc), Φ r u → va_P D vwCl (Wd u) H1 → va_D A (Wd u) → va_S A s.heap H1 locs1 → W p l e R s m args below meth c H1 locs1 (cells + rm.cells) (slots + rm.slots) Q (F0 m (pc + 3) ls (.int r :: rest))) :
    W p l e R s m args below meth c H locs cells slots Q (F0 m pc ls st) := by
  obtain ⟨hx, hb, hml, hown, hts, hA, hK, hXc, hXs⟩ := hF
  subst hst
  have hfr := zfree hD hS hA
  refine va_calli (va_runV (As := As) (rest := rest) ⟨hx, hb, hml, hown, hts⟩ hM cw ⟨zPc_blind hXc, va_recv hK hP hc he, zpre hXc hXs hK hP hD hS hA⟩ rfl hn hl rfl (lv_room hW) hdg hf) hS (fun q _ h => hfr q h) hfr (fun r u t H1 locs1 ht hvm hw hB hz1 hk1 hS1 => ?_)
  obtain ⟨hP1, -, hD1⟩ := hB
  rw [ht] at hP1
  exact kk r u H1 locs1 hw hP1 (hD1.weaken fun _ _ _ h => hfr _ h) hS1
theorem zVv {S : Type} {Wd : S → va_W} {u0 : S} {Φ : S → Prop} {y : MethodName} {bytes : ByteArray} {maxL index nA nL : Nat} {ret : Option FieldType} {rm : Room} {b : Nat} {C : String} {st : List Value} (As : List Value) (hF : zFx p s m args c cc own A D tys X nL)
    (hM : Met l y (zws y bytes maxL ret) rm (zPc D tys X (Wd u0) (.ref b :: As) H.size) (zQv D tys Wd Φ (Wd u0) H.size) rm.cells rm.slots (va_A (Wd u0) H.size))
    (cw : CallW R s args own C index y bytes maxL ret (zws y bytes maxL ret) rm rm.cells rm.slots nA) {q0 ci : Nat} {fs : List Value} {T : u_T} {N : Nat} (hc : vwCl[ci]? = some (C, T, N)) (he : (Wd u0)[q0]? = some (b, .inr (ci, fs))) (hP : va_P D vwCl (Wd u0) H) (hD : va_D A (Wd u0)) (hS : va_S A s.heap H locs)
    (hst : st = As.reverse ++ .ref b :: rest) (hn : As.length = nA) (hl : ls.size = nL) (hW : (rest.map fun v => v.category).sum ≤ 8) (hdg : decode cc pc = .ok (.invokevirtual index, 3)) (hf : cells + rm.cells ≤ R.cells ∧ slots + rm.slots ≤ R.slots)
    (kk : ∀ (u : S) (H1 : Heap) (locs1 : List Loc), Φ u → va_P D vwCl (Wd u) H1 → va_D A (Wd u) → va_S A s.heap H1 locs1 → W p l e R s m args below meth c H1 locs1 (cells + rm.cells) (slots + rm.slots) Q (F0 m (pc + 3) ls rest)) :
    W p l e R s m args below meth c H locs cells slots Q (F0 m pc ls st) := by
  obtain ⟨hx, hb, hml, hown, hts, hA, hK, hXc, hXs⟩ := hF
  subst hst
  have hfr := zfree hD hS hA
  refine va_callv (va_runV (As := As) (rest := rest) ⟨hx, hb, hml, hown, hts⟩ hM cw ⟨zPc_blind hXc, va_recv hK hP hc he, zpre hXc hXs hK hP hD hS hA⟩ rfl hn hl rfl (lv_room hW) hdg hf) hS (fun q _ h => hfr q h) hfr (fun u t H1 locs1 ht hvm hw hB hz1 hk1 hS1 => ?_)
  obtain ⟨hP1, -, hD1⟩ := hB
  rw [ht] at hP1
  exact kk u H1 locs1 hw hP1 (hD1.weaken fun _ _ _ h => hfr _ h) hS1
theorem zSi {S : Type} {Wd : S → va_W} {u0 : S} {Φ : Int32 → S → Prop} {y : MethodName} {bytes : ByteArray} {maxL index nA nL : Nat} {ret : Option FieldType} {rm : Room} {st : List Value} (As : List Value) (hF : zFx p s m args c cc own A D tys X nL)
    (hM : Met l y (zws y bytes maxL ret) rm (zPc D tys X (Wd u0) As H.size) (zQi D tys Wd Φ (Wd u0) H.size) rm.cells rm.slots (va_A (Wd u0) H.size))
    (cw : CallB R s args own index y bytes maxL ret (zws y bytes maxL ret) rm rm.cells rm.slots nA ∧ (Cond.static y).before args s = true) (hP : va_P D vwCl (Wd u0) H) (hD : va_D A (Wd u0)) (hS : va_S A s.heap H locs)
    (hst : st = As.reverse ++ rest) (hn : As.length = nA) (hl : ls.size = nL) (hW : (rest.map fun v => v.category).sum ≤ 8) (hdg : decode cc pc = .ok (.invokestatic index, 3)) (hf : cells + rm.cells ≤ R.cells ∧ slots + rm.slots ≤ R.slots)
    (kk : ∀ (r : Int32) (u : S) (H1 : Heap) (locs1 : List Loc), Φ r u → va_P D vwCl (Wd u) H1 → va_D A (Wd u) → va_S A s.heap H1 locs1 → W p l e R s m args below meth c H1 locs1 (cells + rm.cells) (slots + rm.slots) Q (F0 m (pc + 3) ls (.int r :: rest))) :
    W p l e R s m args below meth c H locs cells slots Q (F0 m pc ls st) := by
  obtain ⟨hx, hb, hml, hown, hts, hA, hK, hXc, hXs⟩ := hF
  subst hst
  have hfr := zfree hD hS hA
  refine va_calli (va_runS (As := As) (rest := rest) ⟨hx, hb, hml, hown, hts⟩ hM cw ⟨zPc_blind hXc, zpre hXc hXs hK hP hD hS hA⟩ rfl hn hl rfl (lv_room hW) hdg hf) hS (fun q _ h => hfr q h) hfr (fun r u t H1 locs1 ht hvm hw hB hz1 hk1 hS1 => ?_)
  obtain ⟨hP1, -, hD1⟩ := hB
  rw [ht] at hP1
  exact kk r u H1 locs1 hw hP1 (hD1.weaken fun _ _ _ h => hfr _ h) hS1
end ZR
theorem znB {r : Int32} (h : r = 0 ∨ r = 1) : narrow .boolean (.int r) = .int r := by
  rcases h with rfl | rfl <;> rfl
