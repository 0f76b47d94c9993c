/-! ===== private methods of a class above the receiver's ===== -/
theorem selP {y x : MethodName} {C : String} {s : State} {args : Array Value} {n : Nat} (hy : y.cls ≠ "java/lang/invoke/MethodHandle" ∧ y.cls ≠ "java/lang/invoke/VarHandle") (hcls : x.cls = y.cls)
    (hins : (Cond.instantiable C n).before args s = true) (hpriv : (Cond.privateMethod y).before args s = true) (hinst : (Cond.instanceMethod y).before args s = true) (hx : (Cond.selects C x x).before args s = true) :
    (Cond.selects C y y).before args s = true := by
  obtain ⟨c, k, hc, hk, -, hniab, -, -⟩ := Cond.instantiable_spec hins
  obtain ⟨mk, methM, hnamed, hmethM, -, -⟩ := Cond.instanceMethod_spec hinst
  have hfound : s.methodFound? y.cls y.name y.desc = some mk := State.methodFound?_of_named hnamed hy
  obtain ⟨c2, r2, m2, q1, q2, q3, q4, kP, hkP, hkPi⟩ := Cond.selects_spec hx
  have e1 : s.vm.findClass y.cls = some mk.cls := findClass_of_methodNamed hnamed
  have e2 : s.vm.findClass x.cls = some m2.cls := findClass_of_methodNamed q3
  have e3 : m2.cls = mk.cls := by
    rw [hcls] at e2
    exact Option.some.inj (e2.symm.trans e1)
  have hsel : selectMethod {} s.vm c mk = .method mk := selectMethod_private hmethM (Cond.privateMethod_at hpriv mk methM hnamed hmethM)
  rw [e3] at hkP
  simp only [Cond.before, Cond.holds, Cond.value, hc, hfound, hnamed, hsel, hkP]
  simp
  exact hkPi
theorem selE_start {args : Array Value} {s : State} (hts : ∀ w ∈ lw_tbl, w.before args s = true) : zSelE.before args s = true :=
  selP (x := ⟨"java/lang/AbstractStringBuilder", "isLatin1", "()Z"⟩) (n := 4) (by decide +kernel) rfl (hts _ (by decide +kernel)) (hts _ (by decide +kernel)) (hts _ (by decide +kernel)) (hts _ (by decide +kernel))
theorem selN_start {args : Array Value} {s : State} (hts : ∀ w ∈ lw_tbl, w.before args s = true) : zSelN.before args s = true :=
  selP (x := ⟨"java/lang/AbstractStringBuilder", "isLatin1", "()Z"⟩) (n := 4) (by decide +kernel) rfl (hts _ (by decide +kernel)) (hts _ (by decide +kernel)) (hts _ (by decide +kernel)) (hts _ (by decide +kernel))
theorem nest_start {args : Array Value} {s : State} (hts : ∀ w ∈ lw_tbl, w.before args s = true) : ∀ w ∈ wNest, va_Nw w s := by
  intro w hw
  rcases List.mem_append.mp hw with h | h
  · obtain ⟨h1, h2⟩ := List.mem_filter.mp h
    refine va_Nw.of ?_ (hts w h1)
    cases w <;> first | rfl | (simp [zNest] at h2; done)
  · rcases List.mem_cons.mp h with rfl | h
    · exact va_Nw.of rfl (selE_start hts)
    · rcases List.mem_cons.mp h with rfl | h
      · exact va_Nw.of rfl (selN_start hts)
      · cases h
theorem cast_start {args : Array Value} {s : State} (hts : ∀ w ∈ lw_tbl, w.before args s = true) : ∀ w ∈ wCast, va_Nw w s := by
  intro w hw
  obtain ⟨h1, h2⟩ := List.mem_filter.mp hw
  refine va_Nw.of ?_ (hts w h1)
  cases w <;> first | rfl | (simp [zCast] at h2; done)

/-! ===== static fields at the law's entry ===== -/
theorem comp_start {args : Array Value} {s : State} {A : Nat → Prop} (hA : ∀ a : Nat, a < s.heap.size → ¬ A a) (hts : ∀ w ∈ lw_tbl, w.before args s = true) (hg : ∀ w ∈ flatC (Cond.and given_1 narrow_1), w.before args s = true) : va_Z "java/lang/String" "COMPACT_STRINGS" "Z" (.int 1) A s s.heap := va_Zof (hts _ (by decide +kernel)) (hts _ (by decide +kernel)) (va_eqt (hg _ (by decide +kernel))) hA
theorem siob_start {args : Array Value} {s : State} {A : Nat → Prop} (hA : ∀ a : Nat, a < s.heap.size → ¬ A a) (hts : ∀ w ∈ lw_tbl, w.before args s = true) (hg : ∀ w ∈ flatC (Cond.and given_1 narrow_1), w.before args s = true) : va_Zq "jdk/internal/util/Preconditions" "SIOOBE_FORMATTER" "Ljava/util/function/BiFunction;" A s s.heap := va_Zqof (hts _ (by decide +kernel)) (hts _ (by decide +kernel)) (hg _ (by decide +kernel)) hA
theorem ust_start {args : Array Value} {s : State} {A : Nat → Prop} (hA : ∀ a : Nat, a < s.heap.size → ¬ A a) (hts : ∀ w ∈ lw_tbl, w.before args s = true) (hg : ∀ w ∈ flatC (Cond.and given_1 narrow_1), w.before args s = true) : vx_Zq Bundle.tN "UNASSIGNED_STACK" Bundle.steD A s s.heap := vx_Zqof (hts _ (by decide +kernel)) (hts _ (by decide +kernel)) (hg _ (by decide +kernel)) hA
theorem sup_start {args : Array Value} {s : State} {A : Nat → Prop} (hA : ∀ a : Nat, a < s.heap.size → ¬ A a) (hts : ∀ w ∈ lw_tbl, w.before args s = true) (hg : ∀ w ∈ flatC (Cond.and given_1 narrow_1), w.before args s = true) : vx_Zq Bundle.tN "SUPPRESSED_SENTINEL" Bundle.listD A s s.heap := vx_Zqof (hts _ (by decide +kernel)) (hts _ (by decide +kernel)) (hg _ (by decide +kernel)) hA
theorem aoP_start {args : Array Value} {s : State} (hts : ∀ w ∈ lw_tbl, w.before args s = true) : va_AO RX1 s := va_AO.of (hts _ (by decide +kernel))
theorem aoT_start {args : Array Value} {s : State} (hts : ∀ w ∈ lw_tbl, w.before args s = true) : va_AO RX6 s := va_AO.of (hts _ (by decide +kernel))
theorem lEx_start {args : Array Value} {s : State} (hg : ∀ w ∈ flatC (Cond.and given_1 narrow_1), w.before args s = true) : ∀ C ∈ lEx, ∀ T ∈ lEx, C ≠ T → va_Nc C T s := by
  intro C hC T hT hn
  simp only [lEx, List.mem_cons, List.not_mem_nil, or_false] at hC hT
  rcases hC with rfl | rfl | rfl | rfl <;> rcases hT with rfl | rfl | rfl | rfl <;> first | exact absurd rfl hn | exact va_Nc.of (hg _ (by decide +kernel))
