/-! ===== the class's calls, asked ===== -/
theorem q_win {S M d i x y g} (hc : RC S x y g) (hr : Rel S M d i) {pl c : Nat} (hp : pl < (M.V 6).length) (h5 : c < 5) {bc bs : Nat} {Φ : Int32 → Prop} {Ψ : String → pK} (h : Φ (((M.V 6).getD pl pz) c)) : wX8_window x y g (nI pl) (nI c) bc bs Φ Ψ := by
  have hwr : WR d.sz (decide (S.y 5 0 = 10)) (S.R 5) (M.V 6) := hr.st0.wr
  have hl := hwr.len
  have hn := hc.n (q := 5) (by omega)
  unfold wX8_window
  rw [hc.len (q := 5) (by omega)]
  refine k_in (by omega) (by omega) (ite0 (k_in (n := 5) h5 (by omega) (ite0 (c_windowByKey hc (by rw [hwr.keys]; omega) (by omega) fun j hj hjk => c_get hc (by omega) hj (show c < pwq 5 by show c < 6; omega) ?_))))
  rw [hwr.keys] at hjk
  rw [hjk]; exact h
theorem q_winX {S x y g} (hc : RC S x y g) {a : Int32} {bc bs : Nat} (h1 : 1 ≤ bc) (h2 : 6 ≤ bs) {Φ : Int32 → Prop} {Ψ : String → pK} (h : Ψ "java/lang/IndexOutOfBoundsException" x y g) : wX8_window x y g (nI (S.R 5).length) a bc bs Φ Ψ := by
  have hn := hc.n (q := 5) (by omega)
  unfold wX8_window
  rw [hc.len (q := 5) (by omega)]
  exact k_out (by omega) (fun q => Int32.lt_irrefl q.2) (ite1 ⟨h1, h2, h⟩)
theorem q_total {S x y g} (hc : RC S x y g) {k : Nat} {b : Int32} (hk : k < 8) {bc bs : Nat} {Φ : Int32 → Prop} {Ψ : String → pK} (h : Φ (TR (S.R 4) (nI k) b)) : wX8_total x y g (nI k) b bc bs Φ Ψ := by
  unfold wX8_total
  exact k_in (n := 8) hk (by omega) (ite0 (c_totalOfResults hc h))
theorem q_res {S x y g} (hc : RC S x y g) {pl c : Nat} (hp : pl < (S.R 4).length) (h5 : c < 5) {bc bs : Nat} {Φ : Int32 → Prop} {Ψ : String → pK} (h : Φ (((S.R 4).getD pl pz) c)) : wX8_result x y g (nI pl) (nI c) bc bs Φ Ψ := by
  have hn := hc.n (q := 4) (by omega)
  unfold wX8_result
  rw [hc.len (q := 4) (by omega)]
  exact k_in hp (by omega) (ite0 (k_in (n := 5) h5 (by omega) (ite0 (c_get hc (by omega) hp (show c < pwq 4 by show c < 5; omega) h))))
theorem q_resX {S x y g} (hc : RC S x y g) {a : Int32} {bc bs : Nat} (h1 : 1 ≤ bc) (h2 : 6 ≤ bs) {Φ : Int32 → Prop} {Ψ : String → pK} (h : Ψ "java/lang/IndexOutOfBoundsException" x y g) : wX8_result x y g (nI (S.R 4).length) a bc bs Φ Ψ := by
  have hn := hc.n (q := 4) (by omega)
  unfold wX8_result
  rw [hc.len (q := 4) (by omega)]
  exact k_out (by omega) (fun q => Int32.lt_irrefl q.2) (ite1 ⟨h1, h2, h⟩)
theorem q_read {S M d i x y g} (hc : RC S x y g) (hr : Rel S M d i) {p : Nat} (hp : p < 3) {bc bs : Nat} {Φ : Int32 → Prop} {Ψ : String → pK} (h : Φ (nI (d.rd p))) : wX8_read x y g (nI p) bc bs Φ Ψ := by
  unfold wX8_read
  refine k_in (n := 3) hp (by omega) (ite0 ⟨vp_in_nI hp (by omega), ?_⟩)
  rw [p_cl (by omega), hc.hg 1 (by omega), (hr.st0.rs p hp).1]
  exact h
theorem q_load {S x y g} (hc : RC S x y g) {n k : Nat} (hs : S.x 16 0 = nI n) (hn : n < 5) (hk : k < n) {bc bs : Nat} {Φ : Int32 → Prop} {Ψ : String → pK} (h : Φ (nI ((S.R 5).countP fun r => decide (pWk (r 0) (S.x 16 0) = nI k)))) : wX8_load x y g (nI k) bc bs Φ Ψ := by
  unfold wX8_load
  rw [hc.hx 16 (by omega), hs]
  exact k_in hk (by omega) (ite0 ⟨(S.R 5).length + 1, c_ldL hc h (S.R 5) _ 0 0 rfl (by omega) (by omega) (by omega)⟩)
theorem q_loadX {S x y g} (hc : RC S x y g) {n : Nat} (hs : S.x 16 0 = nI n) (hn : n < 5) {bc bs : Nat} (h1 : 1 ≤ bc) (h2 : 6 ≤ bs) {Φ : Int32 → Prop} {Ψ : String → pK} (h : Ψ "java/lang/IndexOutOfBoundsException" x y g) : wX8_load x y g (nI n) bc bs Φ Ψ := by
  unfold wX8_load
  rw [hc.hx 16 (by omega), hs]
  exact k_out (by omega) (fun q => Int32.lt_irrefl q.2) (ite1 ⟨h1, h2, h⟩)
theorem q_anewX {S M d i x y g} (hc : RC S x y g) (hr : Rel S M d i) {k : Nat} {b : Int32} (hk : k < 8) {bc bs : Nat} (h1 : 1 ≤ bc) (h2 : 6 ≤ bs) (hz : M.x 5 = 0 ∨ S.y 5 0 = 10) {Φ : Int32 → Prop} {Ψ : String → pK} (h : Ψ "java/lang/IllegalStateException" x y g) : wX8_totalAnew x y g (nI k) b bc bs Φ Ψ := by
  unfold wX8_totalAnew
  rw [hc.hx 15 (by omega), hc.hy 5 (by omega), hr.pl.s15]
  refine k_in (n := 8) hk (by omega) (ite0 ⟨fun _ => ⟨h1, h2, h⟩, fun c => ⟨fun _ => ⟨h1, h2, h⟩, fun c2 => ?_⟩⟩)
  rcases hz with z | z
  · exact absurd z c
  · exact absurd z c2
theorem q_anew {S M d i x y g} (hc : RC S x y g) (hr : Rel S M d i) (h5 : M.x 5 = 1) (hs : S.y 5 0 ≠ 10) {k : Nat} {b : Int32} (hk : k < 8) {bc bs : Nat} {Φ : Int32 → Prop} {Ψ : String → pK} (h : Φ (cTotA S d.rd d.sl (nI k) b)) : wX8_totalAnew x y g (nI k) b bc bs Φ Ψ := by
  have hq := hr.pl.q h5
  have s1 := hq.s1
  have s2 := hq.s2
  unfold wX8_totalAnew
  rw [hc.hx 15 (by omega), hc.hy 5 (by omega), hr.pl.s15, h5]
  exact k_in (n := 8) hk (by omega) (ite0 ⟨fun c => absurd c (by decide), fun _ => ⟨fun c => absurd c hs, fun _ => c_totalOfEvents hc hq.sc (by omega) (by omega) (rd := d.rd) (fun p hp => by rw [hr.ev.len p hp]; exact hr.ev.rdn p hp) (fun p hp => (hr.st0.rs p hp).1) h⟩⟩)
