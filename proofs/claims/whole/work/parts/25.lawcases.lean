def wlc0 (x : Nat → Nat → Int32) (y : Nat → Nat → Nat) (g : Nat → Nat → Nat → Int32) (f : Nat → Int64) (xm : Nat → Int32) (gm : Nat → Nat → Int32) (p1 : Int32) (bc bs : Nat) (K : (Nat → Nat → Int32) → (Nat → Nat → Nat) → (Nat → Nat → Nat → Int32) → (Nat → Int64) → (Nat → Int32) → (Nat → Nat → Int32) → Nat → Nat → Prop) : Prop := ∃ kc ks bc2 bs2 : Nat, kc + bc2 ≤ bc ∧ ks + bs2 ≤ bs ∧ wL_type x y g f p1 kc ks (fun k x1 y1 g1 f1 => wX9_type xm gm p1 (fun r xm1 gm1 => wX9_thrown xm1 gm1 (fun t => t = k ∧ (k = 0 → f1 (0 : Int32).toNatClampNeg = r.toInt64) ∧ K x1 y1 g1 f1 xm1 gm1 bc2 bs2)))
def wlc1 (x : Nat → Nat → Int32) (y : Nat → Nat → Nat) (g : Nat → Nat → Nat → Int32) (f : Nat → Int64) (xm : Nat → Int32) (gm : Nat → Nat → Int32) (bc bs : Nat) (K : (Nat → Nat → Int32) → (Nat → Nat → Nat) → (Nat → Nat → Nat → Int32) → (Nat → Int64) → (Nat → Int32) → (Nat → Nat → Int32) → Nat → Nat → Prop) : Prop := ∃ kc ks bc2 bs2 : Nat, kc + bc2 ≤ bc ∧ ks + bs2 ≤ bs ∧ wX8_wipe x y g kc ks (fun r x1 y1 g1 => wX9_wipe xm gm (fun r2 xm1 gm1 => r = r2 ∧ K x1 y1 g1 f xm1 gm1 bc2 bs2))
def wlc2 (x : Nat → Nat → Int32) (y : Nat → Nat → Nat) (g : Nat → Nat → Nat → Int32) (f : Nat → Int64) (xm : Nat → Int32) (gm : Nat → Nat → Int32) (bc bs : Nat) (K : (Nat → Nat → Int32) → (Nat → Nat → Nat) → (Nat → Nat → Nat → Int32) → (Nat → Int64) → (Nat → Int32) → (Nat → Nat → Int32) → Nat → Nat → Prop) : Prop := ∃ kc ks bc2 bs2 : Nat, kc + bc2 ≤ bc ∧ ks + bs2 ≤ bs ∧ wX8_fault x y g kc ks (fun r x1 y1 g1 => wX9_fault xm gm (fun r2 xm1 gm1 => r = r2 ∧ K x1 y1 g1 f xm1 gm1 bc2 bs2))
def wlc3 (x : Nat → Nat → Int32) (y : Nat → Nat → Nat) (g : Nat → Nat → Nat → Int32) (f : Nat → Int64) (xm : Nat → Int32) (gm : Nat → Nat → Int32) (p1 : Int32) (bc bs : Nat) (K : (Nat → Nat → Int32) → (Nat → Nat → Nat) → (Nat → Nat → Nat → Int32) → (Nat → Int64) → (Nat → Int32) → (Nat → Nat → Int32) → Nat → Nat → Prop) : Prop := ∃ kc ks bc2 bs2 : Nat, kc + bc2 ≤ bc ∧ ks + bs2 ≤ bs ∧ wL_plan x y g f p1 kc ks (fun k x1 y1 g1 f1 => wX9_plan xm gm p1 (fun r xm1 gm1 => wX9_thrown xm1 gm1 (fun t => t = k ∧ (k = 0 → f1 (0 : Int32).toNatClampNeg = r.toInt64) ∧ K x1 y1 g1 f1 xm1 gm1 bc2 bs2)))
def wlc4 (x : Nat → Nat → Int32) (y : Nat → Nat → Nat) (g : Nat → Nat → Nat → Int32) (f : Nat → Int64) (xm : Nat → Int32) (gm : Nat → Nat → Int32) (p1 : Int32) (p2 : Int32) (p3 : Int32) (p4 : Int32) (bc bs : Nat) (K : (Nat → Nat → Int32) → (Nat → Nat → Nat) → (Nat → Nat → Nat → Int32) → (Nat → Int64) → (Nat → Int32) → (Nat → Nat → Int32) → Nat → Nat → Prop) : Prop := ∃ kc ks bc2 bs2 : Nat, kc + bc2 ≤ bc ∧ ks + bs2 ≤ bs ∧ wL_event x y g f p1 p2 p3 p4 kc ks (fun k x1 y1 g1 f1 => wX9_event xm gm p1 p2 p3 p4 (fun r xm1 gm1 => wX9_thrown xm1 gm1 (fun t => t = k ∧ (k = 0 → f1 (0 : Int32).toNatClampNeg = r.toInt64) ∧ K x1 y1 g1 f1 xm1 gm1 bc2 bs2)))
def wlc5 (x : Nat → Nat → Int32) (y : Nat → Nat → Nat) (g : Nat → Nat → Nat → Int32) (f : Nat → Int64) (xm : Nat → Int32) (gm : Nat → Nat → Int32) (p1 : Int32) (p2 : Int32) (bc bs : Nat) (K : (Nat → Nat → Int32) → (Nat → Nat → Nat) → (Nat → Nat → Nat → Int32) → (Nat → Int64) → (Nat → Int32) → (Nat → Nat → Int32) → Nat → Nat → Prop) : Prop := ∃ kc ks bc2 bs2 : Nat, kc + bc2 ≤ bc ∧ ks + bs2 ≤ bs ∧ wL_bound x y g f p1 p2 kc ks (fun k x1 y1 g1 f1 => wX9_bound xm gm p1 p2 (fun r xm1 gm1 => wX9_thrown xm1 gm1 (fun t => t = k ∧ (k = 0 → f1 (0 : Int32).toNatClampNeg = r.toInt64) ∧ K x1 y1 g1 f1 xm1 gm1 bc2 bs2)))
def wlc6 (x : Nat → Nat → Int32) (y : Nat → Nat → Nat) (g : Nat → Nat → Nat → Int32) (f : Nat → Int64) (xm : Nat → Int32) (gm : Nat → Nat → Int32) (p1 : Int32) (p2 : Int32) (bc bs : Nat) (K : (Nat → Nat → Int32) → (Nat → Nat → Nat) → (Nat → Nat → Nat → Int32) → (Nat → Int64) → (Nat → Int32) → (Nat → Nat → Int32) → Nat → Nat → Prop) : Prop := ∃ kc ks bc2 bs2 : Nat, kc + bc2 ≤ bc ∧ ks + bs2 ≤ bs ∧ wL_idle x y g f p1 p2 kc ks (fun k x1 y1 g1 f1 => wX9_idle xm gm p1 p2 (fun r xm1 gm1 => wX9_thrown xm1 gm1 (fun t => t = k ∧ (k = 0 → f1 (0 : Int32).toNatClampNeg = r.toInt64) ∧ K x1 y1 g1 f1 xm1 gm1 bc2 bs2)))
def wlc7 (x : Nat → Nat → Int32) (y : Nat → Nat → Nat) (g : Nat → Nat → Nat → Int32) (f : Nat → Int64) (xm : Nat → Int32) (gm : Nat → Nat → Int32) (p1 : Int32) (p2 : Int32) (p3 : Int32) (bc bs : Nat) (K : (Nat → Nat → Int32) → (Nat → Nat → Nat) → (Nat → Nat → Nat → Int32) → (Nat → Int64) → (Nat → Int32) → (Nat → Nat → Int32) → Nat → Nat → Prop) : Prop := ∃ kc ks bc2 bs2 : Nat, kc + bc2 ≤ bc ∧ ks + bs2 ≤ bs ∧ wL_table x y g f p1 p2 p3 kc ks (fun k x1 y1 g1 f1 => wX9_table xm gm p1 p2 p3 (fun r xm1 gm1 => wX9_thrown xm1 gm1 (fun t => t = k ∧ (k = 0 → f1 (0 : Int32).toNatClampNeg = r.toInt64) ∧ K x1 y1 g1 f1 xm1 gm1 bc2 bs2)))
def wlc8 (x : Nat → Nat → Int32) (y : Nat → Nat → Nat) (g : Nat → Nat → Nat → Int32) (f : Nat → Int64) (xm : Nat → Int32) (gm : Nat → Nat → Int32) (p1 : Int32) (bc bs : Nat) (K : (Nat → Nat → Int32) → (Nat → Nat → Nat) → (Nat → Nat → Nat → Int32) → (Nat → Int64) → (Nat → Int32) → (Nat → Nat → Int32) → Nat → Nat → Prop) : Prop := ∃ kc ks bc2 bs2 : Nat, kc + bc2 ≤ bc ∧ ks + bs2 ≤ bs ∧ wL_step x y g f p1 kc ks (fun k x1 y1 g1 f1 => wX9_step xm gm p1 (fun r xm1 gm1 => wX9_thrown xm1 gm1 (fun t => t = k ∧ (k = 0 → f1 (0 : Int32).toNatClampNeg = r.toInt64) ∧ K x1 y1 g1 f1 xm1 gm1 bc2 bs2)))
def wlc9 (x : Nat → Nat → Int32) (y : Nat → Nat → Nat) (g : Nat → Nat → Nat → Int32) (f : Nat → Int64) (xm : Nat → Int32) (gm : Nat → Nat → Int32) (bc bs : Nat) (K : (Nat → Nat → Int32) → (Nat → Nat → Nat) → (Nat → Nat → Nat → Int32) → (Nat → Int64) → (Nat → Int32) → (Nat → Nat → Int32) → Nat → Nat → Prop) : Prop := wX8_watermark x y g (fun r => wX9_watermark xm gm (fun r2 xm1 gm1 => r = r2 ∧ K x y g f xm1 gm1 bc bs))
def wlc10 (x : Nat → Nat → Int32) (y : Nat → Nat → Nat) (g : Nat → Nat → Nat → Int32) (f : Nat → Int64) (xm : Nat → Int32) (gm : Nat → Nat → Int32) (p1 : Int32) (bc bs : Nat) (K : (Nat → Nat → Int32) → (Nat → Nat → Nat) → (Nat → Nat → Nat → Int32) → (Nat → Int64) → (Nat → Int32) → (Nat → Nat → Int32) → Nat → Nat → Prop) : Prop := ∃ kc ks bc2 bs2 : Nat, kc + bc2 ≤ bc ∧ ks + bs2 ≤ bs ∧ wL_read x y g f p1 kc ks (fun k x1 y1 g1 f1 => wX9_read xm gm p1 (fun r xm1 gm1 => wX9_thrown xm1 gm1 (fun t => t = k ∧ (k = 0 → f1 (0 : Int32).toNatClampNeg = r.toInt64) ∧ K x1 y1 g1 f1 xm1 gm1 bc2 bs2)))
def wlc11 (x : Nat → Nat → Int32) (y : Nat → Nat → Nat) (g : Nat → Nat → Nat → Int32) (f : Nat → Int64) (xm : Nat → Int32) (gm : Nat → Nat → Int32) (bc bs : Nat) (K : (Nat → Nat → Int32) → (Nat → Nat → Nat) → (Nat → Nat → Nat → Int32) → (Nat → Int64) → (Nat → Int32) → (Nat → Nat → Int32) → Nat → Nat → Prop) : Prop := wX8_tooLate x y g (fun r => wX9_tooLate xm gm (fun r2 xm1 gm1 => r = r2 ∧ K x y g f xm1 gm1 bc bs))
def wlc12 (x : Nat → Nat → Int32) (y : Nat → Nat → Nat) (g : Nat → Nat → Nat → Int32) (f : Nat → Int64) (xm : Nat → Int32) (gm : Nat → Nat → Int32) (bc bs : Nat) (K : (Nat → Nat → Int32) → (Nat → Nat → Nat) → (Nat → Nat → Nat → Int32) → (Nat → Int64) → (Nat → Int32) → (Nat → Nat → Int32) → Nat → Nat → Prop) : Prop := wX8_windows x y g (fun r => wX9_windows xm gm (fun r2 xm1 gm1 => r = r2 ∧ K x y g f xm1 gm1 bc bs))
def wlc13 (x : Nat → Nat → Int32) (y : Nat → Nat → Nat) (g : Nat → Nat → Nat → Int32) (f : Nat → Int64) (xm : Nat → Int32) (gm : Nat → Nat → Int32) (p1 : Int32) (p2 : Int32) (bc bs : Nat) (K : (Nat → Nat → Int32) → (Nat → Nat → Nat) → (Nat → Nat → Nat → Int32) → (Nat → Int64) → (Nat → Int32) → (Nat → Nat → Int32) → Nat → Nat → Prop) : Prop := ∃ kc ks bc2 bs2 : Nat, kc + bc2 ≤ bc ∧ ks + bs2 ≤ bs ∧ wL_window x y g f p1 p2 kc ks (fun k x1 y1 g1 f1 => wX9_window xm gm p1 p2 (fun r xm1 gm1 => wX9_thrown xm1 gm1 (fun t => t = k ∧ (k = 0 → f1 (0 : Int32).toNatClampNeg = r.toInt64) ∧ K x1 y1 g1 f1 xm1 gm1 bc2 bs2)))
def wlc14 (x : Nat → Nat → Int32) (y : Nat → Nat → Nat) (g : Nat → Nat → Nat → Int32) (f : Nat → Int64) (xm : Nat → Int32) (gm : Nat → Nat → Int32) (bc bs : Nat) (K : (Nat → Nat → Int32) → (Nat → Nat → Nat) → (Nat → Nat → Nat → Int32) → (Nat → Int64) → (Nat → Int32) → (Nat → Nat → Int32) → Nat → Nat → Prop) : Prop := wX8_results x y g (fun r => wX9_results xm gm (fun r2 xm1 gm1 => r = r2 ∧ K x y g f xm1 gm1 bc bs))
def wlc15 (x : Nat → Nat → Int32) (y : Nat → Nat → Nat) (g : Nat → Nat → Nat → Int32) (f : Nat → Int64) (xm : Nat → Int32) (gm : Nat → Nat → Int32) (bc bs : Nat) (K : (Nat → Nat → Int32) → (Nat → Nat → Nat) → (Nat → Nat → Nat → Int32) → (Nat → Int64) → (Nat → Int32) → (Nat → Nat → Int32) → Nat → Nat → Prop) : Prop := wX8_committed x y g (fun r => wX9_committed xm gm (fun r2 xm1 gm1 => r = r2 ∧ K x y g f xm1 gm1 bc bs))
def wlc16 (x : Nat → Nat → Int32) (y : Nat → Nat → Nat) (g : Nat → Nat → Nat → Int32) (f : Nat → Int64) (xm : Nat → Int32) (gm : Nat → Nat → Int32) (p1 : Int32) (p2 : Int32) (bc bs : Nat) (K : (Nat → Nat → Int32) → (Nat → Nat → Nat) → (Nat → Nat → Nat → Int32) → (Nat → Int64) → (Nat → Int32) → (Nat → Nat → Int32) → Nat → Nat → Prop) : Prop := ∃ kc ks bc2 bs2 : Nat, kc + bc2 ≤ bc ∧ ks + bs2 ≤ bs ∧ wL_result x y g f p1 p2 kc ks (fun k x1 y1 g1 f1 => wX9_result xm gm p1 p2 (fun r xm1 gm1 => wX9_thrown xm1 gm1 (fun t => t = k ∧ (k = 0 → f1 (0 : Int32).toNatClampNeg = r.toInt64) ∧ K x1 y1 g1 f1 xm1 gm1 bc2 bs2)))
def wlc17 (x : Nat → Nat → Int32) (y : Nat → Nat → Nat) (g : Nat → Nat → Nat → Int32) (f : Nat → Int64) (xm : Nat → Int32) (gm : Nat → Nat → Int32) (p1 : Int32) (p2 : Int32) (bc bs : Nat) (K : (Nat → Nat → Int32) → (Nat → Nat → Nat) → (Nat → Nat → Nat → Int32) → (Nat → Int64) → (Nat → Int32) → (Nat → Nat → Int32) → Nat → Nat → Prop) : Prop := ∃ kc ks bc2 bs2 : Nat, kc + bc2 ≤ bc ∧ ks + bs2 ≤ bs ∧ wL_total x y g f p1 p2 kc ks (fun k x1 y1 g1 f1 => wX9_total xm gm p1 p2 (fun r xm1 gm1 => wX9_thrown xm1 gm1 (fun t => t = k ∧ (k = 0 → f1 (0 : Int32).toNatClampNeg = r.toInt64) ∧ K x1 y1 g1 f1 xm1 gm1 bc2 bs2)))
def wlc18 (x : Nat → Nat → Int32) (y : Nat → Nat → Nat) (g : Nat → Nat → Nat → Int32) (f : Nat → Int64) (xm : Nat → Int32) (gm : Nat → Nat → Int32) (p1 : Int32) (p2 : Int32) (bc bs : Nat) (K : (Nat → Nat → Int32) → (Nat → Nat → Nat) → (Nat → Nat → Nat → Int32) → (Nat → Int64) → (Nat → Int32) → (Nat → Nat → Int32) → Nat → Nat → Prop) : Prop := ∃ kc ks bc2 bs2 : Nat, kc + bc2 ≤ bc ∧ ks + bs2 ≤ bs ∧ wL_totalAnew x y g f p1 p2 kc ks (fun k x1 y1 g1 f1 => wX9_totalAnew xm gm p1 p2 (fun r xm1 gm1 => wX9_thrown xm1 gm1 (fun t => t = k ∧ (k = 0 → f1 (0 : Int32).toNatClampNeg = r.toInt64) ∧ K x1 y1 g1 f1 xm1 gm1 bc2 bs2)))
def wlc19 (x : Nat → Nat → Int32) (y : Nat → Nat → Nat) (g : Nat → Nat → Nat → Int32) (f : Nat → Int64) (xm : Nat → Int32) (gm : Nat → Nat → Int32) (bc bs : Nat) (K : (Nat → Nat → Int32) → (Nat → Nat → Nat) → (Nat → Nat → Nat → Int32) → (Nat → Int64) → (Nat → Int32) → (Nat → Nat → Int32) → Nat → Nat → Prop) : Prop := ∃ kc ks bc2 bs2 : Nat, kc + bc2 ≤ bc ∧ ks + bs2 ≤ bs ∧ wL_barrier x y g f kc ks (fun k x1 y1 g1 f1 => wX9_barrier xm gm (fun r xm1 gm1 => wX9_thrown xm1 gm1 (fun t => t = k ∧ (k = 0 → f1 (0 : Int32).toNatClampNeg = r.toInt64) ∧ K x1 y1 g1 f1 xm1 gm1 bc2 bs2)))
def wlc20 (x : Nat → Nat → Int32) (y : Nat → Nat → Nat) (g : Nat → Nat → Nat → Int32) (f : Nat → Int64) (xm : Nat → Int32) (gm : Nat → Nat → Int32) (p1 : Int32) (bc bs : Nat) (K : (Nat → Nat → Int32) → (Nat → Nat → Nat) → (Nat → Nat → Nat → Int32) → (Nat → Int64) → (Nat → Int32) → (Nat → Nat → Int32) → Nat → Nat → Prop) : Prop := ∃ kc ks bc2 bs2 : Nat, kc + bc2 ≤ bc ∧ ks + bs2 ≤ bs ∧ wL_complete x y g f p1 kc ks (fun k x1 y1 g1 f1 => wX9_complete xm gm p1 (fun r xm1 gm1 => wX9_thrown xm1 gm1 (fun t => t = k ∧ (k = 0 → f1 (0 : Int32).toNatClampNeg = r.toInt64) ∧ K x1 y1 g1 f1 xm1 gm1 bc2 bs2)))
def wlc21 (x : Nat → Nat → Int32) (y : Nat → Nat → Nat) (g : Nat → Nat → Nat → Int32) (f : Nat → Int64) (xm : Nat → Int32) (gm : Nat → Nat → Int32) (bc bs : Nat) (K : (Nat → Nat → Int32) → (Nat → Nat → Nat) → (Nat → Nat → Nat → Int32) → (Nat → Int64) → (Nat → Int32) → (Nat → Nat → Int32) → Nat → Nat → Prop) : Prop := wX8_doubtful x y g (fun r => wX9_doubtful xm gm (fun r2 xm1 gm1 => r = r2 ∧ K x y g f xm1 gm1 bc bs))
def wlc22 (x : Nat → Nat → Int32) (y : Nat → Nat → Nat) (g : Nat → Nat → Nat → Int32) (f : Nat → Int64) (xm : Nat → Int32) (gm : Nat → Nat → Int32) (bc bs : Nat) (K : (Nat → Nat → Int32) → (Nat → Nat → Nat) → (Nat → Nat → Nat → Int32) → (Nat → Int64) → (Nat → Int32) → (Nat → Nat → Int32) → Nat → Nat → Prop) : Prop := ∃ kc ks bc2 bs2 : Nat, kc + bc2 ≤ bc ∧ ks + bs2 ≤ bs ∧ wL_crash x y g f kc ks (fun k x1 y1 g1 f1 => wX9_crash xm gm (fun r xm1 gm1 => wX9_thrown xm1 gm1 (fun t => t = k ∧ (k = 0 → f1 (0 : Int32).toNatClampNeg = r.toInt64) ∧ K x1 y1 g1 f1 xm1 gm1 bc2 bs2)))
def wlc23 (x : Nat → Nat → Int32) (y : Nat → Nat → Nat) (g : Nat → Nat → Nat → Int32) (f : Nat → Int64) (xm : Nat → Int32) (gm : Nat → Nat → Int32) (p1 : Int32) (bc bs : Nat) (K : (Nat → Nat → Int32) → (Nat → Nat → Nat) → (Nat → Nat → Nat → Int32) → (Nat → Int64) → (Nat → Int32) → (Nat → Nat → Int32) → Nat → Nat → Prop) : Prop := ∃ kc ks bc2 bs2 : Nat, kc + bc2 ≤ bc ∧ ks + bs2 ≤ bs ∧ wL_workers x y g f p1 kc ks (fun k x1 y1 g1 f1 => wX9_workers xm gm p1 (fun r xm1 gm1 => wX9_thrown xm1 gm1 (fun t => t = k ∧ (k = 0 → f1 (0 : Int32).toNatClampNeg = r.toInt64) ∧ K x1 y1 g1 f1 xm1 gm1 bc2 bs2)))
def wlc24 (x : Nat → Nat → Int32) (y : Nat → Nat → Nat) (g : Nat → Nat → Nat → Int32) (f : Nat → Int64) (xm : Nat → Int32) (gm : Nat → Nat → Int32) (p1 : Int32) (bc bs : Nat) (K : (Nat → Nat → Int32) → (Nat → Nat → Nat) → (Nat → Nat → Nat → Int32) → (Nat → Int64) → (Nat → Int32) → (Nat → Nat → Int32) → Nat → Nat → Prop) : Prop := ∃ kc ks bc2 bs2 : Nat, kc + bc2 ≤ bc ∧ ks + bs2 ≤ bs ∧ wL_load x y g f p1 kc ks (fun k x1 y1 g1 f1 => wX9_load xm gm p1 (fun r xm1 gm1 => wX9_thrown xm1 gm1 (fun t => t = k ∧ (k = 0 → f1 (0 : Int32).toNatClampNeg = r.toInt64) ∧ K x1 y1 g1 f1 xm1 gm1 bc2 bs2)))
theorem lgc0 {x y : Int64} (h : x = y) : lg_cmp x y = 0 := by subst h; simp [lg_cmp]
theorem lzb (v : Int32) : (if v = 0 then (0 : Int32) else 1) = 0 ∨ (if v = 0 then (0 : Int32) else 1) = 1 := by by_cases h : v = 0 <;> simp [h]
def lwF (p : Program) (s : State) (m : MethodId) (args : Array Value) (c : Code) (A : Nat → Prop) (D : va_G) (wd sk : Nat → Nat) (cI cB cP cT cJ cIm cZ : ClassId) (b L : Nat) (xs : Nat → Int32) : Prop := zFx p s m args c cL_law RL A D (lTy cI cB cP cT cJ) (lX wd sk) 7 ∧ zFx p s m args c cL_law RL A D (mT cIm cZ) zX0 7 ∧ va_X b L xs s s.heap ∧ b < s.heap.size ∧ ¬ A b
def lw2 (ad : Nat → Nat → Nat) (wd : Nat → Nat) (cI cB cP cT cJ cIm cZ : ClassId) (qo om : Nat) (adm : Nat → Nat) (x : Nat → Nat → Int32) (y : Nat → Nat → Nat) (g : Nat → Nat → Nat → Int32) (f : Nat → Int64) (xm : Nat → Int32) (gm : Nat → Nat → Int32) : va_W := mW [] om adm cIm cZ (xm, gm) ++ cW [(qo, .inl (cJ, 1, .inr (.inl f)))] ad wd cI cB cP cT (x, y, g)
section LWC
variable {p : Program} {l : Launch} {e : Env} {s : State} {m : MethodId} {args : Array Value} {below : List Frame} {meth : Method} {c : Code} {H : Heap} {locs : List Loc} {cells slots : Nat} {Q : State → Prop} {A : Nat → Prop} {D : va_G} {ls : Array Slot} {rest : List Value} {ad : Nat → Nat → Nat} {wd sk : Nat → Nat} {cI cB cP cT cJ cIm cZ : ClassId} {qo om b L : Nat} {adm : Nat → Nat} {xs : Nat → Int32}
theorem l_bool {cc : ByteArray} {R : Room} {pc : Nat} {v : Int32} (hx : p.tables.exec = Jvm.exec) (hb : c.code = cc) (d1 : decode cc pc = .ok (.ifCond .eq 7, 3)) (d2 : decode cc (pc + 3) = .ok (.iconst 1, 1)) (d3 : decode cc (pc + 4) = .ok (.goto 4, 3)) (d4 : decode cc (pc + 7) = .ok (.iconst 0, 1)) (kk : W p l e R s m args below meth c H locs cells slots Q (F0 m (pc + 8) ls (.int (if v = 0 then 0 else 1) :: rest))) : W p l e R s m args below meth c H locs cells slots Q (F0 m pc ls (.int v :: rest)) := by
  refine lv_if_eq (tgt := pc + 7) hx hb d1 (by omega) (fun c => ?_) (fun c => ?_)
  · rw [if_pos c] at kk
    exact lv_iconst (v := 0) hx hb d4 (by decide) kk
  · rw [if_neg c] at kk
    refine lv_iconst (pc := pc + 3) (v := 1) hx hb d2 (by decide) ?_
    exact lv_goto (pc := pc + 4) (tgt := pc + 8) hx hb d3 (by omega) kk
set_option maxRecDepth 100000 in
set_option maxHeartbeats 1000000 in
theorem klc0 {iv : Int32} (hlf : l.stackTraces = false) (hF : lwF p s m args c A D wd sk cI cB cP cT cJ cIm cZ b L xs) (hi1 : vp_in (iv + 1) L) (x : Nat → Nat → Int32) (y : Nat → Nat → Nat) (g : Nat → Nat → Nat → Int32) (f : Nat → Int64) (xm : Nat → Int32) (gm : Nat → Nat → Int32) (bc bs : Nat) {K : (Nat → Nat → Int32) → (Nat → Nat → Nat) → (Nat → Nat → Nat → Int32) → (Nat → Int64) → (Nat → Int32) → (Nat → Nat → Int32) → Nat → Nat → Prop} (h : wlc0 x y g f xm gm (((xs (iv + 1).toNatClampNeg).toUInt32 % 65536).toInt32) bc bs K) (hb1 : cells + bc ≤ 601024) (hb2 : slots + bs ≤ 7293034) (hP : va_P D vwCl (lw2 ad wd cI cB cP cT cJ cIm cZ qo om adm x y g f xm gm) H) (hD : va_D A (lw2 ad wd cI cB cP cT cJ cIm cZ qo om adm x y g f xm gm)) (hS : va_S A s.heap H locs) (hl : lv_has ls 7 [(0, .ref b), (1, .ref (ad 0 0)), (2, .ref om), (3, .ref qo), (4, .int iv)])
  (hend : ∀ (x1 : Nat → Nat → Int32) (y1 : Nat → Nat → Nat) (g1 : Nat → Nat → Nat → Int32) (f1 : Nat → Int64) (xm1 : Nat → Int32) (gm1 : Nat → Nat → Int32) (bc2 bs2 k1 n1 : Nat) (H1 : Heap) (locs1 : List Loc) (ls1 : Array Slot), K x1 y1 g1 f1 xm1 gm1 bc2 bs2 → k1 + bc2 ≤ 601024 → n1 + bs2 ≤ 7293034 → va_P D vwCl (lw2 ad wd cI cB cP cT cJ cIm cZ qo om adm x1 y1 g1 f1 xm1 gm1) H1 → va_D A (lw2 ad wd cI cB cP cT cJ cIm cZ qo om adm x1 y1 g1 f1 xm1 gm1) → va_S A s.heap H1 locs1 → lv_has ls1 7 [(0, .ref b), (1, .ref (ad 0 0)), (2, .ref om), (3, .ref qo), (4, .int iv)] → W p l e room_1 s m args below meth c H1 locs1 k1 n1 Q (F0 m 1350 ls1 [])) : W p l e room_1 s m args below meth c H locs cells slots Q (F0 m 152 ls []) := by
  obtain ⟨hFl, hFm, hX, hbl, hbA⟩ := hF
  have hFc : zFx p s m args c cL_law RL A D (cTy cI cB cP cT) (cX wd sk) 7 := ⟨hFl.1, hFl.2.1, hFl.2.2.1, hFl.2.2.2.1, hFl.2.2.2.2.1, hFl.2.2.2.2.2.1, hFl.2.2.2.2.2.2.1.sub [0, 1, 2, 3] rfl, cX_cl wd sk, hFl.2.2.2.2.2.2.2.2.1⟩
  have hx := hFl.1
  have hb := hFl.2.1
  have hts := hFl.2.2.2.2.1
  have hA := hFl.2.2.2.2.2.1
  have hK := hFl.2.2.2.2.2.2.1
  unfold wlc0 at h
  unfold lw2 at hP hD
  refine lv_aload_n (pc := 152) hx hb dL_law_152 rfl (lv_at hl 1 rfl) ?_
  refine lv_aload_n (pc := 153) hx hb dL_law_153 rfl (lv_at hl 0 rfl) ?_
  refine lv_iload (pc := 154) hx hb dL_law_154 (lv_at hl 4 rfl) ?_
  refine lv_iconst (pc := 156) (v := 1) hx hb dL_law_156 (by decide) ?_
  refine lv_iadd (pc := 157) hx hb dL_law_157 ?_
  refine va_sld (pc := 158) hx hb hX hbl hbA hS hi1 dL_law_158 ?_
  refine lv_i2c (pc := 159) (v := (((xs (iv + 1).toNatClampNeg).toUInt32 % 65536).toInt32)) hx hb dL_law_159 rfl ?_
  refine lv_aload_n (pc := 160) hx hb dL_law_160 rfl (lv_at hl 3 rfl) ?_
  obtain ⟨kc, ks, bc2, bs2, eC, eS, h⟩ := h
  obtain ⟨L0, hL0⟩ : ∃ L : va_W, L = mW [] om adm cIm cZ (xm, gm) := ⟨_, rfl⟩
  rw [← hL0] at hP hD
  refine lJi (pc := 161) (L := L0) (wc := cW [(qo, .inl (cJ, 1, .inr (.inl f)))] ad wd cI cB cP cT (x, y, g)) (Wd := (fun w : cS × (Nat → Int64) => cW [(qo, .inl (cJ, 1, .inr (.inl w.2)))] ad wd cI cB cP cT w.1)) hA hP hD hS (lS (L := L0) [.ref (ad 0 0), .int (((xs (iv + 1).toNatClampNeg).toUInt32 % 65536).toInt32), .ref qo] hFl (kL_type x y g f (((xs (iv + 1).toNatClampNeg).toUInt32 % 65536).toInt32) kc ks hlf h) (cwZ_L_type hts ⟨Nat.le_of_ble_eq_true rfl, Nat.le_of_ble_eq_true rfl⟩) hP hD hS rfl rfl hl.1 (Nat.le_of_ble_eq_true rfl) dL_law_161 ⟨by show _ ≤ (601024 : Nat); (try dsimp only); omega, by show _ ≤ (7293034 : Nat); (try dsimp only); omega⟩) (fun r0 u H locs h hP hD hS => ?_)
  rw [hL0] at hP hD
  obtain ⟨⟨x1, y1, g1⟩, f1⟩ := u
  have hP : va_P D vwCl (mW [] om adm cIm cZ (xm, gm) ++ cW [(qo, .inl (cJ, 1, .inr (.inl f1)))] ad wd cI cB cP cT (x1, y1, g1)) H := hP
  have hD : va_D A (mW [] om adm cIm cZ (xm, gm) ++ cW [(qo, .inl (cJ, 1, .inr (.inl f1)))] ad wd cI cB cP cT (x1, y1, g1)) := hD
  refine lv_istore (pc := 164) (lv' := [(5, .int r0), (0, .ref b), (1, .ref (ad 0 0)), (2, .ref om), (3, .ref qo), (4, .int iv)]) hx hb dL_law_164 hl (by decide) rfl (fun ls hl => ?_)
  refine lv_aload_n (pc := 166) hx hb dL_law_166 rfl (lv_at hl 3 rfl) ?_
  refine lv_aload_n (pc := 167) hx hb dL_law_167 rfl (lv_at hl 1 rfl) ?_
  refine lv_iload (pc := 168) hx hb dL_law_168 (lv_at hl 5 rfl) ?_
  refine lv_iconst (pc := 170) (v := 1) hx hb dL_law_170 (by decide) ?_
  refine lv_iadd (pc := 171) hx hb dL_law_171 ?_
  refine va_sld (pc := 172) hx hb hX hbl hbA hS hi1 dL_law_172 ?_
  refine lv_i2c (pc := 173) (v := (((xs (iv + 1).toNatClampNeg).toUInt32 % 65536).toInt32)) hx hb dL_law_173 rfl ?_
  have hP := zpermP List.perm_append_comm hP
  have hD := zpermD List.perm_append_comm hD
  obtain ⟨L1, hL1⟩ : ∃ L : va_W, L = cW [(qo, .inl (cJ, 1, .inr (.inl f1)))] ad wd cI cB cP cT (x1, y1, g1) := ⟨_, rfl⟩
  rw [← hL1] at hP hD
  refine lJi (pc := 174) (L := L1) (wc := mW [] om adm cIm cZ (xm, gm)) (Wd := (mW [] om adm cIm cZ)) hA hP hD hS (lV (L := L1) [.int (((xs (iv + 1).toNatClampNeg).toUInt32 % 65536).toInt32)] hFm (kX9_type xm gm (((xs (iv + 1).toNatClampNeg).toUInt32 % 65536).toInt32) h) (cwZ_X9_type hts ⟨Nat.le_of_ble_eq_true rfl, Nat.le_of_ble_eq_true rfl⟩) (lRv (L := L1) hK hP (ci := 12) (q0 := 0) rfl rfl) hP hD hS rfl rfl hl.1 (Nat.le_of_ble_eq_true rfl) dL_law_174 ⟨by show _ ≤ (601024 : Nat); (try dsimp only); omega, by show _ ≤ (7293034 : Nat); (try dsimp only); omega⟩) (fun r1 u H locs h hP hD hS => ?_)
  rw [hL1] at hP hD
  obtain ⟨xm1, gm1⟩ := u
  have hP : va_P D vwCl (cW [(qo, .inl (cJ, 1, .inr (.inl f1)))] ad wd cI cB cP cT (x1, y1, g1) ++ mW [] om adm cIm cZ (xm1, gm1)) H := hP
  have hD : va_D A (cW [(qo, .inl (cJ, 1, .inr (.inl f1)))] ad wd cI cB cP cT (x1, y1, g1) ++ mW [] om adm cIm cZ (xm1, gm1)) := hD
  refine lv_istore (pc := 177) (lv' := [(6, .int r1), (5, .int r0), (0, .ref b), (1, .ref (ad 0 0)), (2, .ref om), (3, .ref qo), (4, .int iv)]) hx hb dL_law_177 hl (by decide) rfl (fun ls hl => ?_)
  refine lv_aload_n (pc := 179) hx hb dL_law_179 rfl (lv_at hl 4 rfl) ?_
  obtain ⟨L2, hL2⟩ : ∃ L : va_W, L = cW [(qo, .inl (cJ, 1, .inr (.inl f1)))] ad wd cI cB cP cT (x1, y1, g1) := ⟨_, rfl⟩
  rw [← hL2] at hP hD
  refine lJi (pc := 180) (L := L2) (wc := mW [] om adm cIm cZ (xm1, gm1)) (Wd := (mW [] om adm cIm cZ)) hA hP hD hS (lV (L := L2) [] hFm (kX9_thrown xm1 gm1 h) (cwZ_X9_thrown hts ⟨Nat.le_of_ble_eq_true rfl, Nat.le_of_ble_eq_true rfl⟩) (lRv (L := L2) hK hP (ci := 12) (q0 := 0) rfl rfl) hP hD hS rfl rfl hl.1 (Nat.le_of_ble_eq_true rfl) dL_law_180 ⟨by show _ ≤ (601024 : Nat); (try dsimp only); omega, by show _ ≤ (7293034 : Nat); (try dsimp only); omega⟩) (fun r2 u H locs h hP hD hS => ?_)
  rw [hL2] at hP hD
  obtain ⟨rfl, h⟩ := h
  have hP : va_P D vwCl (cW [(qo, .inl (cJ, 1, .inr (.inl f1)))] ad wd cI cB cP cT (x1, y1, g1) ++ mW [] om adm cIm cZ (xm1, gm1)) H := hP
  have hD : va_D A (cW [(qo, .inl (cJ, 1, .inr (.inl f1)))] ad wd cI cB cP cT (x1, y1, g1) ++ mW [] om adm cIm cZ (xm1, gm1)) := hD
  have hP := zpermP List.perm_append_comm hP
  have hD := zpermD List.perm_append_comm hD
  refine lv_iload (pc := 183) hx hb dL_law_183 (lv_at hl 1 rfl) ?_
  refine lv_icmp_eq (pc := 185) (tgt := 190) hx hb dL_law_185 (by decide) (fun c9 => ?_) (fun c9 => absurd h.1 c9)
  refine lv_iload (pc := 190) hx hb dL_law_190 (lv_at hl 1 rfl) ?_
  refine lv_if_ne (pc := 192) (tgt := 207) hx hb dL_law_192 (by decide) (fun c9 => ?_) (fun c9 => ?_)
  · refine lv_goto (pc := 207) (tgt := 1350) hx hb dL_law_207 (by decide) ?_
    exact hend x1 y1 g1 f1 xm1 gm1 bc2 bs2 _ _ H locs ls h.2.2 (by (try dsimp only); omega) (by (try dsimp only); omega) hP hD hS (lv_sub hl [2, 3, 4, 5, 6] rfl)
  · refine lv_aload_n (pc := 195) hx hb dL_law_195 rfl (lv_at hl 5 rfl) ?_
    refine lv_iconst (pc := 196) (v := 0) hx hb dL_law_196 (by decide) ?_
    refine va_lald (pc := 197) (i := 0) hx hb hK (zrightP hP) 56 4 (lA ..) rfl (vp_in_iff.mpr (by decide)) dL_law_197 ?_
    refine lv_iload (pc := 198) hx hb dL_law_198 (lv_at hl 0 rfl) ?_
    refine lv_i2l (pc := 200) hx hb dL_law_200 rfl ?_
    refine W.lcmp (pc := 201) hx hb dL_law_201 ?_
    refine lv_if_eq (pc := 202) (tgt := 207) hx hb dL_law_202 (by decide) (fun c8 => ?_) (fun c8 => absurd (lgc0 (h.2.1 c9)) c8)
    refine lv_goto (pc := 207) (tgt := 1350) hx hb dL_law_207 (by decide) ?_
    exact hend x1 y1 g1 f1 xm1 gm1 bc2 bs2 _ _ H locs ls h.2.2 (by (try dsimp only); omega) (by (try dsimp only); omega) hP hD hS (lv_sub hl [2, 3, 4, 5, 6] rfl)

set_option maxRecDepth 100000 in
set_option maxHeartbeats 1000000 in
theorem klc1 {iv : Int32} (hlf : l.stackTraces = false) (hF : lwF p s m args c A D wd sk cI cB cP cT cJ cIm cZ b L xs) (x : Nat → Nat → Int32) (y : Nat → Nat → Nat) (g : Nat → Nat → Nat → Int32) (f : Nat → Int64) (xm : Nat → Int32) (gm : Nat → Nat → Int32) (bc bs : Nat) {K : (Nat → Nat → Int32) → (Nat → Nat → Nat) → (Nat → Nat → Nat → Int32) → (Nat → Int64) → (Nat → Int32) → (Nat → Nat → Int32) → Nat → Nat → Prop} (h : wlc1 x y g f xm gm bc bs K) (hb1 : cells + bc ≤ 601024) (hb2 : slots + bs ≤ 7293034) (hP : va_P D vwCl (lw2 ad wd cI cB cP cT cJ cIm cZ qo om adm x y g f xm gm) H) (hD : va_D A (lw2 ad wd cI cB cP cT cJ cIm cZ qo om adm x y g f xm gm)) (hS : va_S A s.heap H locs) (hl : lv_has ls 7 [(0, .ref b), (1, .ref (ad 0 0)), (2, .ref om), (3, .ref qo), (4, .int iv)])
  (hend : ∀ (x1 : Nat → Nat → Int32) (y1 : Nat → Nat → Nat) (g1 : Nat → Nat → Nat → Int32) (f1 : Nat → Int64) (xm1 : Nat → Int32) (gm1 : Nat → Nat → Int32) (bc2 bs2 k1 n1 : Nat) (H1 : Heap) (locs1 : List Loc) (ls1 : Array Slot), K x1 y1 g1 f1 xm1 gm1 bc2 bs2 → k1 + bc2 ≤ 601024 → n1 + bs2 ≤ 7293034 → va_P D vwCl (lw2 ad wd cI cB cP cT cJ cIm cZ qo om adm x1 y1 g1 f1 xm1 gm1) H1 → va_D A (lw2 ad wd cI cB cP cT cJ cIm cZ qo om adm x1 y1 g1 f1 xm1 gm1) → va_S A s.heap H1 locs1 → lv_has ls1 7 [(0, .ref b), (1, .ref (ad 0 0)), (2, .ref om), (3, .ref qo), (4, .int iv)] → W p l e room_1 s m args below meth c H1 locs1 k1 n1 Q (F0 m 1350 ls1 [])) : W p l e room_1 s m args below meth c H locs cells slots Q (F0 m 210 ls []) := by
  obtain ⟨hFl, hFm, hX, hbl, hbA⟩ := hF
  have hFc : zFx p s m args c cL_law RL A D (cTy cI cB cP cT) (cX wd sk) 7 := ⟨hFl.1, hFl.2.1, hFl.2.2.1, hFl.2.2.2.1, hFl.2.2.2.2.1, hFl.2.2.2.2.2.1, hFl.2.2.2.2.2.2.1.sub [0, 1, 2, 3] rfl, cX_cl wd sk, hFl.2.2.2.2.2.2.2.2.1⟩
  have hx := hFl.1
  have hb := hFl.2.1
  have hts := hFl.2.2.2.2.1
  have hA := hFl.2.2.2.2.2.1
  have hK := hFl.2.2.2.2.2.2.1
  unfold wlc1 at h
  unfold lw2 at hP hD
  refine lv_aload_n (pc := 210) hx hb dL_law_210 rfl (lv_at hl 1 rfl) ?_
  obtain ⟨kc, ks, bc2, bs2, eC, eS, h⟩ := h
  obtain ⟨L0, hL0⟩ : ∃ L : va_W, L = mW [] om adm cIm cZ (xm, gm) := ⟨_, rfl⟩
  rw [← hL0] at hP hD
  refine lJi (pc := 211) (L := L0) (wc := cW [(qo, .inl (cJ, 1, .inr (.inl f)))] ad wd cI cB cP cT (x, y, g)) (Wd := (cW [(qo, .inl (cJ, 1, .inr (.inl f)))] ad wd cI cB cP cT)) hA hP hD hS (lV (L := L0) [] hFc (kX8_wipe x y g kc ks h) (cwZ_X8_wipe hts ⟨Nat.le_of_ble_eq_true rfl, Nat.le_of_ble_eq_true rfl⟩) (lRv (L := L0) hK hP (ci := 11) (q0 := 0) rfl rfl) hP hD hS rfl rfl hl.1 (Nat.le_of_ble_eq_true rfl) dL_law_211 ⟨by show _ ≤ (601024 : Nat); (try dsimp only); omega, by show _ ≤ (7293034 : Nat); (try dsimp only); omega⟩) (fun r0 u H locs h hP hD hS => ?_)
  rw [hL0] at hP hD
  obtain ⟨x1, y1, g1⟩ := u
  have hP : va_P D vwCl (mW [] om adm cIm cZ (xm, gm) ++ cW [(qo, .inl (cJ, 1, .inr (.inl f)))] ad wd cI cB cP cT (x1, y1, g1)) H := hP
  have hD : va_D A (mW [] om adm cIm cZ (xm, gm) ++ cW [(qo, .inl (cJ, 1, .inr (.inl f)))] ad wd cI cB cP cT (x1, y1, g1)) := hD
  refine lv_aload_n (pc := 214) hx hb dL_law_214 rfl (lv_at hl 2 rfl) ?_
  have hP := zpermP List.perm_append_comm hP
  have hD := zpermD List.perm_append_comm hD
  obtain ⟨L1, hL1⟩ : ∃ L : va_W, L = cW [(qo, .inl (cJ, 1, .inr (.inl f)))] ad wd cI cB cP cT (x1, y1, g1) := ⟨_, rfl⟩
  rw [← hL1] at hP hD
  refine lJi (pc := 215) (L := L1) (wc := mW [] om adm cIm cZ (xm, gm)) (Wd := (mW [] om adm cIm cZ)) hA hP hD hS (lV (L := L1) [] hFm (kX9_wipe xm gm h) (cwZ_X9_wipe hts ⟨Nat.le_of_ble_eq_true rfl, Nat.le_of_ble_eq_true rfl⟩) (lRv (L := L1) hK hP (ci := 12) (q0 := 0) rfl rfl) hP hD hS rfl rfl hl.1 (Nat.le_of_ble_eq_true rfl) dL_law_215 ⟨by show _ ≤ (601024 : Nat); (try dsimp only); omega, by show _ ≤ (7293034 : Nat); (try dsimp only); omega⟩) (fun r1 u H locs h hP hD hS => ?_)
  rw [hL1] at hP hD
  obtain ⟨xm1, gm1⟩ := u
  have hP : va_P D vwCl (cW [(qo, .inl (cJ, 1, .inr (.inl f)))] ad wd cI cB cP cT (x1, y1, g1) ++ mW [] om adm cIm cZ (xm1, gm1)) H := hP
  have hD : va_D A (cW [(qo, .inl (cJ, 1, .inr (.inl f)))] ad wd cI cB cP cT (x1, y1, g1) ++ mW [] om adm cIm cZ (xm1, gm1)) := hD
  have hP := zpermP List.perm_append_comm hP
  have hD := zpermD List.perm_append_comm hD
  refine lv_icmp_eq (pc := 218) (tgt := 1350) hx hb dL_law_218 (by decide) (fun c9 => ?_) (fun c9 => absurd h.1 c9)
  exact hend x1 y1 g1 f xm1 gm1 bc2 bs2 _ _ H locs ls h.2 (by (try dsimp only); omega) (by (try dsimp only); omega) hP hD hS (lv_sub hl [0, 1, 2, 3, 4] rfl)

set_option maxRecDepth 100000 in
set_option maxHeartbeats 1000000 in
theorem klc2 {iv : Int32} (hlf : l.stackTraces = false) (hF : lwF p s m args c A D wd sk cI cB cP cT cJ cIm cZ b L xs) (x : Nat → Nat → Int32) (y : Nat → Nat → Nat) (g : Nat → Nat → Nat → Int32) (f : Nat → Int64) (xm : Nat → Int32) (gm : Nat → Nat → Int32) (bc bs : Nat) {K : (Nat → Nat → Int32) → (Nat → Nat → Nat) → (Nat → Nat → Nat → Int32) → (Nat → Int64) → (Nat → Int32) → (Nat → Nat → Int32) → Nat → Nat → Prop} (h : wlc2 x y g f xm gm bc bs K) (hb1 : cells + bc ≤ 601024) (hb2 : slots + bs ≤ 7293034) (hP : va_P D vwCl (lw2 ad wd cI cB cP cT cJ cIm cZ qo om adm x y g f xm gm) H) (hD : va_D A (lw2 ad wd cI cB cP cT cJ cIm cZ qo om adm x y g f xm gm)) (hS : va_S A s.heap H locs) (hl : lv_has ls 7 [(0, .ref b), (1, .ref (ad 0 0)), (2, .ref om), (3, .ref qo), (4, .int iv)])
  (hend : ∀ (x1 : Nat → Nat → Int32) (y1 : Nat → Nat → Nat) (g1 : Nat → Nat → Nat → Int32) (f1 : Nat → Int64) (xm1 : Nat → Int32) (gm1 : Nat → Nat → Int32) (bc2 bs2 k1 n1 : Nat) (H1 : Heap) (locs1 : List Loc) (ls1 : Array Slot), K x1 y1 g1 f1 xm1 gm1 bc2 bs2 → k1 + bc2 ≤ 601024 → n1 + bs2 ≤ 7293034 → va_P D vwCl (lw2 ad wd cI cB cP cT cJ cIm cZ qo om adm x1 y1 g1 f1 xm1 gm1) H1 → va_D A (lw2 ad wd cI cB cP cT cJ cIm cZ qo om adm x1 y1 g1 f1 xm1 gm1) → va_S A s.heap H1 locs1 → lv_has ls1 7 [(0, .ref b), (1, .ref (ad 0 0)), (2, .ref om), (3, .ref qo), (4, .int iv)] → W p l e room_1 s m args below meth c H1 locs1 k1 n1 Q (F0 m 1350 ls1 [])) : W p l e room_1 s m args below meth c H locs cells slots Q (F0 m 223 ls []) := by
  obtain ⟨hFl, hFm, hX, hbl, hbA⟩ := hF
  have hFc : zFx p s m args c cL_law RL A D (cTy cI cB cP cT) (cX wd sk) 7 := ⟨hFl.1, hFl.2.1, hFl.2.2.1, hFl.2.2.2.1, hFl.2.2.2.2.1, hFl.2.2.2.2.2.1, hFl.2.2.2.2.2.2.1.sub [0, 1, 2, 3] rfl, cX_cl wd sk, hFl.2.2.2.2.2.2.2.2.1⟩
  have hx := hFl.1
  have hb := hFl.2.1
  have hts := hFl.2.2.2.2.1
  have hA := hFl.2.2.2.2.2.1
  have hK := hFl.2.2.2.2.2.2.1
  unfold wlc2 at h
  unfold lw2 at hP hD
  refine lv_aload_n (pc := 223) hx hb dL_law_223 rfl (lv_at hl 1 rfl) ?_
  obtain ⟨kc, ks, bc2, bs2, eC, eS, h⟩ := h
  obtain ⟨L0, hL0⟩ : ∃ L : va_W, L = mW [] om adm cIm cZ (xm, gm) := ⟨_, rfl⟩
  rw [← hL0] at hP hD
  refine lJi (pc := 224) (L := L0) (wc := cW [(qo, .inl (cJ, 1, .inr (.inl f)))] ad wd cI cB cP cT (x, y, g)) (Wd := (cW [(qo, .inl (cJ, 1, .inr (.inl f)))] ad wd cI cB cP cT)) hA hP hD hS (lV (L := L0) [] hFc (kX8_fault x y g kc ks h) (cwZ_X8_fault hts ⟨Nat.le_of_ble_eq_true rfl, Nat.le_of_ble_eq_true rfl⟩) (lRv (L := L0) hK hP (ci := 11) (q0 := 0) rfl rfl) hP hD hS rfl rfl hl.1 (Nat.le_of_ble_eq_true rfl) dL_law_224 ⟨by show _ ≤ (601024 : Nat); (try dsimp only); omega, by show _ ≤ (7293034 : Nat); (try dsimp only); omega⟩) (fun r0 u H locs h hP hD hS => ?_)
  rw [hL0] at hP hD
  obtain ⟨x1, y1, g1⟩ := u
  have hP : va_P D vwCl (mW [] om adm cIm cZ (xm, gm) ++ cW [(qo, .inl (cJ, 1, .inr (.inl f)))] ad wd cI cB cP cT (x1, y1, g1)) H := hP
  have hD : va_D A (mW [] om adm cIm cZ (xm, gm) ++ cW [(qo, .inl (cJ, 1, .inr (.inl f)))] ad wd cI cB cP cT (x1, y1, g1)) := hD
  refine lv_aload_n (pc := 227) hx hb dL_law_227 rfl (lv_at hl 2 rfl) ?_
  have hP := zpermP List.perm_append_comm hP
  have hD := zpermD List.perm_append_comm hD
  obtain ⟨L1, hL1⟩ : ∃ L : va_W, L = cW [(qo, .inl (cJ, 1, .inr (.inl f)))] ad wd cI cB cP cT (x1, y1, g1) := ⟨_, rfl⟩
  rw [← hL1] at hP hD
  refine lJi (pc := 228) (L := L1) (wc := mW [] om adm cIm cZ (xm, gm)) (Wd := (mW [] om adm cIm cZ)) hA hP hD hS (lV (L := L1) [] hFm (kX9_fault xm gm h) (cwZ_X9_fault hts ⟨Nat.le_of_ble_eq_true rfl, Nat.le_of_ble_eq_true rfl⟩) (lRv (L := L1) hK hP (ci := 12) (q0 := 0) rfl rfl) hP hD hS rfl rfl hl.1 (Nat.le_of_ble_eq_true rfl) dL_law_228 ⟨by show _ ≤ (601024 : Nat); (try dsimp only); omega, by show _ ≤ (7293034 : Nat); (try dsimp only); omega⟩) (fun r1 u H locs h hP hD hS => ?_)
  rw [hL1] at hP hD
  obtain ⟨xm1, gm1⟩ := u
  have hP : va_P D vwCl (cW [(qo, .inl (cJ, 1, .inr (.inl f)))] ad wd cI cB cP cT (x1, y1, g1) ++ mW [] om adm cIm cZ (xm1, gm1)) H := hP
  have hD : va_D A (cW [(qo, .inl (cJ, 1, .inr (.inl f)))] ad wd cI cB cP cT (x1, y1, g1) ++ mW [] om adm cIm cZ (xm1, gm1)) := hD
  have hP := zpermP List.perm_append_comm hP
  have hD := zpermD List.perm_append_comm hD
  refine lv_icmp_eq (pc := 231) (tgt := 1350) hx hb dL_law_231 (by decide) (fun c9 => ?_) (fun c9 => absurd h.1 c9)
  exact hend x1 y1 g1 f xm1 gm1 bc2 bs2 _ _ H locs ls h.2 (by (try dsimp only); omega) (by (try dsimp only); omega) hP hD hS (lv_sub hl [0, 1, 2, 3, 4] rfl)

set_option maxRecDepth 100000 in
set_option maxHeartbeats 1000000 in
theorem klc3 {iv : Int32} (hlf : l.stackTraces = false) (hF : lwF p s m args c A D wd sk cI cB cP cT cJ cIm cZ b L xs) (hi1 : vp_in (iv + 1) L) (x : Nat → Nat → Int32) (y : Nat → Nat → Nat) (g : Nat → Nat → Nat → Int32) (f : Nat → Int64) (xm : Nat → Int32) (gm : Nat → Nat → Int32) (bc bs : Nat) {K : (Nat → Nat → Int32) → (Nat → Nat → Nat) → (Nat → Nat → Nat → Int32) → (Nat → Int64) → (Nat → Int32) → (Nat → Nat → Int32) → Nat → Nat → Prop} (h : wlc3 x y g f xm gm (if (xs (iv + 1).toNatClampNeg) = 0 then 0 else 1) bc bs K) (hb1 : cells + bc ≤ 601024) (hb2 : slots + bs ≤ 7293034) (hP : va_P D vwCl (lw2 ad wd cI cB cP cT cJ cIm cZ qo om adm x y g f xm gm) H) (hD : va_D A (lw2 ad wd cI cB cP cT cJ cIm cZ qo om adm x y g f xm gm)) (hS : va_S A s.heap H locs) (hl : lv_has ls 7 [(0, .ref b), (1, .ref (ad 0 0)), (2, .ref om), (3, .ref qo), (4, .int iv)])
  (hend : ∀ (x1 : Nat → Nat → Int32) (y1 : Nat → Nat → Nat) (g1 : Nat → Nat → Nat → Int32) (f1 : Nat → Int64) (xm1 : Nat → Int32) (gm1 : Nat → Nat → Int32) (bc2 bs2 k1 n1 : Nat) (H1 : Heap) (locs1 : List Loc) (ls1 : Array Slot), K x1 y1 g1 f1 xm1 gm1 bc2 bs2 → k1 + bc2 ≤ 601024 → n1 + bs2 ≤ 7293034 → va_P D vwCl (lw2 ad wd cI cB cP cT cJ cIm cZ qo om adm x1 y1 g1 f1 xm1 gm1) H1 → va_D A (lw2 ad wd cI cB cP cT cJ cIm cZ qo om adm x1 y1 g1 f1 xm1 gm1) → va_S A s.heap H1 locs1 → lv_has ls1 7 [(0, .ref b), (1, .ref (ad 0 0)), (2, .ref om), (3, .ref qo), (4, .int iv)] → W p l e room_1 s m args below meth c H1 locs1 k1 n1 Q (F0 m 1350 ls1 [])) : W p l e room_1 s m args below meth c H locs cells slots Q (F0 m 236 ls []) := by
  obtain ⟨hFl, hFm, hX, hbl, hbA⟩ := hF
  have hFc : zFx p s m args c cL_law RL A D (cTy cI cB cP cT) (cX wd sk) 7 := ⟨hFl.1, hFl.2.1, hFl.2.2.1, hFl.2.2.2.1, hFl.2.2.2.2.1, hFl.2.2.2.2.2.1, hFl.2.2.2.2.2.2.1.sub [0, 1, 2, 3] rfl, cX_cl wd sk, hFl.2.2.2.2.2.2.2.2.1⟩
  have hx := hFl.1
  have hb := hFl.2.1
  have hts := hFl.2.2.2.2.1
  have hA := hFl.2.2.2.2.2.1
  have hK := hFl.2.2.2.2.2.2.1
  unfold wlc3 at h
  unfold lw2 at hP hD
  refine lv_aload_n (pc := 236) hx hb dL_law_236 rfl (lv_at hl 1 rfl) ?_
  refine lv_aload_n (pc := 237) hx hb dL_law_237 rfl (lv_at hl 0 rfl) ?_
  refine lv_iload (pc := 238) hx hb dL_law_238 (lv_at hl 4 rfl) ?_
  refine lv_iconst (pc := 240) (v := 1) hx hb dL_law_240 (by decide) ?_
  refine lv_iadd (pc := 241) hx hb dL_law_241 ?_
  refine va_sld (pc := 242) hx hb hX hbl hbA hS hi1 dL_law_242 ?_
  refine l_bool (pc := 243) hx hb dL_law_243 dL_law_246 dL_law_247 dL_law_250 ?_
  refine lv_aload_n (pc := 251) hx hb dL_law_251 rfl (lv_at hl 3 rfl) ?_
  obtain ⟨kc, ks, bc2, bs2, eC, eS, h⟩ := h
  obtain ⟨L0, hL0⟩ : ∃ L : va_W, L = mW [] om adm cIm cZ (xm, gm) := ⟨_, rfl⟩
  rw [← hL0] at hP hD
  refine lJi (pc := 252) (L := L0) (wc := cW [(qo, .inl (cJ, 1, .inr (.inl f)))] ad wd cI cB cP cT (x, y, g)) (Wd := (fun w : cS × (Nat → Int64) => cW [(qo, .inl (cJ, 1, .inr (.inl w.2)))] ad wd cI cB cP cT w.1)) hA hP hD hS (lS (L := L0) [.ref (ad 0 0), .int (if (xs (iv + 1).toNatClampNeg) = 0 then 0 else 1), .ref qo] hFl (kL_plan x y g f (if (xs (iv + 1).toNatClampNeg) = 0 then 0 else 1) kc ks hlf h (lzb _)) (cwZ_L_plan hts ⟨Nat.le_of_ble_eq_true rfl, Nat.le_of_ble_eq_true rfl⟩) hP hD hS rfl rfl hl.1 (Nat.le_of_ble_eq_true rfl) dL_law_252 ⟨by show _ ≤ (601024 : Nat); (try dsimp only); omega, by show _ ≤ (7293034 : Nat); (try dsimp only); omega⟩) (fun r0 u H locs h hP hD hS => ?_)
  rw [hL0] at hP hD
  obtain ⟨⟨x1, y1, g1⟩, f1⟩ := u
  have hP : va_P D vwCl (mW [] om adm cIm cZ (xm, gm) ++ cW [(qo, .inl (cJ, 1, .inr (.inl f1)))] ad wd cI cB cP cT (x1, y1, g1)) H := hP
  have hD : va_D A (mW [] om adm cIm cZ (xm, gm) ++ cW [(qo, .inl (cJ, 1, .inr (.inl f1)))] ad wd cI cB cP cT (x1, y1, g1)) := hD
  refine lv_istore (pc := 255) (lv' := [(5, .int r0), (0, .ref b), (1, .ref (ad 0 0)), (2, .ref om), (3, .ref qo), (4, .int iv)]) hx hb dL_law_255 hl (by decide) rfl (fun ls hl => ?_)
  refine lv_aload_n (pc := 257) hx hb dL_law_257 rfl (lv_at hl 3 rfl) ?_
  refine lv_aload_n (pc := 258) hx hb dL_law_258 rfl (lv_at hl 1 rfl) ?_
  refine lv_iload (pc := 259) hx hb dL_law_259 (lv_at hl 5 rfl) ?_
  refine lv_iconst (pc := 261) (v := 1) hx hb dL_law_261 (by decide) ?_
  refine lv_iadd (pc := 262) hx hb dL_law_262 ?_
  refine va_sld (pc := 263) hx hb hX hbl hbA hS hi1 dL_law_263 ?_
  refine l_bool (pc := 264) hx hb dL_law_264 dL_law_267 dL_law_268 dL_law_271 ?_
  have hP := zpermP List.perm_append_comm hP
  have hD := zpermD List.perm_append_comm hD
  obtain ⟨L1, hL1⟩ : ∃ L : va_W, L = cW [(qo, .inl (cJ, 1, .inr (.inl f1)))] ad wd cI cB cP cT (x1, y1, g1) := ⟨_, rfl⟩
  rw [← hL1] at hP hD
  refine lJi (pc := 272) (L := L1) (wc := mW [] om adm cIm cZ (xm, gm)) (Wd := (mW [] om adm cIm cZ)) hA hP hD hS (lV (L := L1) [.int (if (xs (iv + 1).toNatClampNeg) = 0 then 0 else 1)] hFm (kX9_plan xm gm (if (xs (iv + 1).toNatClampNeg) = 0 then 0 else 1) h) (cwZ_X9_plan hts ⟨Nat.le_of_ble_eq_true rfl, Nat.le_of_ble_eq_true rfl⟩) (lRv (L := L1) hK hP (ci := 12) (q0 := 0) rfl rfl) hP hD hS rfl rfl hl.1 (Nat.le_of_ble_eq_true rfl) dL_law_272 ⟨by show _ ≤ (601024 : Nat); (try dsimp only); omega, by show _ ≤ (7293034 : Nat); (try dsimp only); omega⟩) (fun r1 u H locs h hP hD hS => ?_)
  rw [hL1] at hP hD
  obtain ⟨xm1, gm1⟩ := u
  have hP : va_P D vwCl (cW [(qo, .inl (cJ, 1, .inr (.inl f1)))] ad wd cI cB cP cT (x1, y1, g1) ++ mW [] om adm cIm cZ (xm1, gm1)) H := hP
  have hD : va_D A (cW [(qo, .inl (cJ, 1, .inr (.inl f1)))] ad wd cI cB cP cT (x1, y1, g1) ++ mW [] om adm cIm cZ (xm1, gm1)) := hD
  refine lv_istore (pc := 275) (lv' := [(6, .int r1), (5, .int r0), (0, .ref b), (1, .ref (ad 0 0)), (2, .ref om), (3, .ref qo), (4, .int iv)]) hx hb dL_law_275 hl (by decide) rfl (fun ls hl => ?_)
  refine lv_aload_n (pc := 277) hx hb dL_law_277 rfl (lv_at hl 4 rfl) ?_
  obtain ⟨L2, hL2⟩ : ∃ L : va_W, L = cW [(qo, .inl (cJ, 1, .inr (.inl f1)))] ad wd cI cB cP cT (x1, y1, g1) := ⟨_, rfl⟩
  rw [← hL2] at hP hD
  refine lJi (pc := 278) (L := L2) (wc := mW [] om adm cIm cZ (xm1, gm1)) (Wd := (mW [] om adm cIm cZ)) hA hP hD hS (lV (L := L2) [] hFm (kX9_thrown xm1 gm1 h) (cwZ_X9_thrown hts ⟨Nat.le_of_ble_eq_true rfl, Nat.le_of_ble_eq_true rfl⟩) (lRv (L := L2) hK hP (ci := 12) (q0 := 0) rfl rfl) hP hD hS rfl rfl hl.1 (Nat.le_of_ble_eq_true rfl) dL_law_278 ⟨by show _ ≤ (601024 : Nat); (try dsimp only); omega, by show _ ≤ (7293034 : Nat); (try dsimp only); omega⟩) (fun r2 u H locs h hP hD hS => ?_)
  rw [hL2] at hP hD
  obtain ⟨rfl, h⟩ := h
  have hP : va_P D vwCl (cW [(qo, .inl (cJ, 1, .inr (.inl f1)))] ad wd cI cB cP cT (x1, y1, g1) ++ mW [] om adm cIm cZ (xm1, gm1)) H := hP
  have hD : va_D A (cW [(qo, .inl (cJ, 1, .inr (.inl f1)))] ad wd cI cB cP cT (x1, y1, g1) ++ mW [] om adm cIm cZ (xm1, gm1)) := hD
  have hP := zpermP List.perm_append_comm hP
  have hD := zpermD List.perm_append_comm hD
  refine lv_iload (pc := 281) hx hb dL_law_281 (lv_at hl 1 rfl) ?_
  refine lv_icmp_eq (pc := 283) (tgt := 288) hx hb dL_law_283 (by decide) (fun c9 => ?_) (fun c9 => absurd h.1 c9)
  refine lv_iload (pc := 288) hx hb dL_law_288 (lv_at hl 1 rfl) ?_
  refine lv_if_ne (pc := 290) (tgt := 305) hx hb dL_law_290 (by decide) (fun c9 => ?_) (fun c9 => ?_)
  · refine lv_goto (pc := 305) (tgt := 1350) hx hb dL_law_305 (by decide) ?_
    exact hend x1 y1 g1 f1 xm1 gm1 bc2 bs2 _ _ H locs ls h.2.2 (by (try dsimp only); omega) (by (try dsimp only); omega) hP hD hS (lv_sub hl [2, 3, 4, 5, 6] rfl)
  · refine lv_aload_n (pc := 293) hx hb dL_law_293 rfl (lv_at hl 5 rfl) ?_
    refine lv_iconst (pc := 294) (v := 0) hx hb dL_law_294 (by decide) ?_
    refine va_lald (pc := 295) (i := 0) hx hb hK (zrightP hP) 56 4 (lA ..) rfl (vp_in_iff.mpr (by decide)) dL_law_295 ?_
    refine lv_iload (pc := 296) hx hb dL_law_296 (lv_at hl 0 rfl) ?_
    refine lv_i2l (pc := 298) hx hb dL_law_298 rfl ?_
    refine W.lcmp (pc := 299) hx hb dL_law_299 ?_
    refine lv_if_eq (pc := 300) (tgt := 305) hx hb dL_law_300 (by decide) (fun c8 => ?_) (fun c8 => absurd (lgc0 (h.2.1 c9)) c8)
    refine lv_goto (pc := 305) (tgt := 1350) hx hb dL_law_305 (by decide) ?_
    exact hend x1 y1 g1 f1 xm1 gm1 bc2 bs2 _ _ H locs ls h.2.2 (by (try dsimp only); omega) (by (try dsimp only); omega) hP hD hS (lv_sub hl [2, 3, 4, 5, 6] rfl)

set_option maxRecDepth 100000 in
set_option maxHeartbeats 1000000 in
theorem klc4 {iv : Int32} (hlf : l.stackTraces = false) (hF : lwF p s m args c A D wd sk cI cB cP cT cJ cIm cZ b L xs) (hi1 : vp_in (iv + 1) L) (hi2 : vp_in (iv + 2) L) (hi3 : vp_in (iv + 3) L) (hi4 : vp_in (iv + 4) L) (x : Nat → Nat → Int32) (y : Nat → Nat → Nat) (g : Nat → Nat → Nat → Int32) (f : Nat → Int64) (xm : Nat → Int32) (gm : Nat → Nat → Int32) (bc bs : Nat) {K : (Nat → Nat → Int32) → (Nat → Nat → Nat) → (Nat → Nat → Nat → Int32) → (Nat → Int64) → (Nat → Int32) → (Nat → Nat → Int32) → Nat → Nat → Prop} (h : wlc4 x y g f xm gm (xs (iv + 1).toNatClampNeg) (xs (iv + 2).toNatClampNeg) (xs (iv + 3).toNatClampNeg) (xs (iv + 4).toNatClampNeg) bc bs K) (hb1 : cells + bc ≤ 601024) (hb2 : slots + bs ≤ 7293034) (hP : va_P D vwCl (lw2 ad wd cI cB cP cT cJ cIm cZ qo om adm x y g f xm gm) H) (hD : va_D A (lw2 ad wd cI cB cP cT cJ cIm cZ qo om adm x y g f xm gm)) (hS : va_S A s.heap H locs) (hl : lv_has ls 7 [(0, .ref b), (1, .ref (ad 0 0)), (2, .ref om), (3, .ref qo), (4, .int iv)])
  (hend : ∀ (x1 : Nat → Nat → Int32) (y1 : Nat → Nat → Nat) (g1 : Nat → Nat → Nat → Int32) (f1 : Nat → Int64) (xm1 : Nat → Int32) (gm1 : Nat → Nat → Int32) (bc2 bs2 k1 n1 : Nat) (H1 : Heap) (locs1 : List Loc) (ls1 : Array Slot), K x1 y1 g1 f1 xm1 gm1 bc2 bs2 → k1 + bc2 ≤ 601024 → n1 + bs2 ≤ 7293034 → va_P D vwCl (lw2 ad wd cI cB cP cT cJ cIm cZ qo om adm x1 y1 g1 f1 xm1 gm1) H1 → va_D A (lw2 ad wd cI cB cP cT cJ cIm cZ qo om adm x1 y1 g1 f1 xm1 gm1) → va_S A s.heap H1 locs1 → lv_has ls1 7 [(0, .ref b), (1, .ref (ad 0 0)), (2, .ref om), (3, .ref qo), (4, .int iv)] → W p l e room_1 s m args below meth c H1 locs1 k1 n1 Q (F0 m 1350 ls1 [])) : W p l e room_1 s m args below meth c H locs cells slots Q (F0 m 308 ls []) := by
  obtain ⟨hFl, hFm, hX, hbl, hbA⟩ := hF
  have hFc : zFx p s m args c cL_law RL A D (cTy cI cB cP cT) (cX wd sk) 7 := ⟨hFl.1, hFl.2.1, hFl.2.2.1, hFl.2.2.2.1, hFl.2.2.2.2.1, hFl.2.2.2.2.2.1, hFl.2.2.2.2.2.2.1.sub [0, 1, 2, 3] rfl, cX_cl wd sk, hFl.2.2.2.2.2.2.2.2.1⟩
  have hx := hFl.1
  have hb := hFl.2.1
  have hts := hFl.2.2.2.2.1
  have hA := hFl.2.2.2.2.2.1
  have hK := hFl.2.2.2.2.2.2.1
  unfold wlc4 at h
  unfold lw2 at hP hD
  refine lv_aload_n (pc := 308) hx hb dL_law_308 rfl (lv_at hl 1 rfl) ?_
  refine lv_aload_n (pc := 309) hx hb dL_law_309 rfl (lv_at hl 0 rfl) ?_
  refine lv_iload (pc := 310) hx hb dL_law_310 (lv_at hl 4 rfl) ?_
  refine lv_iconst (pc := 312) (v := 1) hx hb dL_law_312 (by decide) ?_
  refine lv_iadd (pc := 313) hx hb dL_law_313 ?_
  refine va_sld (pc := 314) hx hb hX hbl hbA hS hi1 dL_law_314 ?_
  refine lv_aload_n (pc := 315) hx hb dL_law_315 rfl (lv_at hl 0 rfl) ?_
  refine lv_iload (pc := 316) hx hb dL_law_316 (lv_at hl 4 rfl) ?_
  refine lv_iconst (pc := 318) (v := 2) hx hb dL_law_318 (by decide) ?_
  refine lv_iadd (pc := 319) hx hb dL_law_319 ?_
  refine va_sld (pc := 320) hx hb hX hbl hbA hS hi2 dL_law_320 ?_
  refine lv_aload_n (pc := 321) hx hb dL_law_321 rfl (lv_at hl 0 rfl) ?_
  refine lv_iload (pc := 322) hx hb dL_law_322 (lv_at hl 4 rfl) ?_
  refine lv_iconst (pc := 324) (v := 3) hx hb dL_law_324 (by decide) ?_
  refine lv_iadd (pc := 325) hx hb dL_law_325 ?_
  refine va_sld (pc := 326) hx hb hX hbl hbA hS hi3 dL_law_326 ?_
  refine lv_aload_n (pc := 327) hx hb dL_law_327 rfl (lv_at hl 0 rfl) ?_
  refine lv_iload (pc := 328) hx hb dL_law_328 (lv_at hl 4 rfl) ?_
  refine lv_iconst (pc := 330) (v := 4) hx hb dL_law_330 (by decide) ?_
  refine lv_iadd (pc := 331) hx hb dL_law_331 ?_
  refine va_sld (pc := 332) hx hb hX hbl hbA hS hi4 dL_law_332 ?_
  refine lv_aload_n (pc := 333) hx hb dL_law_333 rfl (lv_at hl 3 rfl) ?_
  obtain ⟨kc, ks, bc2, bs2, eC, eS, h⟩ := h
  obtain ⟨L0, hL0⟩ : ∃ L : va_W, L = mW [] om adm cIm cZ (xm, gm) := ⟨_, rfl⟩
  rw [← hL0] at hP hD
  refine lJi (pc := 334) (L := L0) (wc := cW [(qo, .inl (cJ, 1, .inr (.inl f)))] ad wd cI cB cP cT (x, y, g)) (Wd := (fun w : cS × (Nat → Int64) => cW [(qo, .inl (cJ, 1, .inr (.inl w.2)))] ad wd cI cB cP cT w.1)) hA hP hD hS (lS (L := L0) [.ref (ad 0 0), .int (xs (iv + 1).toNatClampNeg), .int (xs (iv + 2).toNatClampNeg), .int (xs (iv + 3).toNatClampNeg), .int (xs (iv + 4).toNatClampNeg), .ref qo] hFl (kL_event x y g f (xs (iv + 1).toNatClampNeg) (xs (iv + 2).toNatClampNeg) (xs (iv + 3).toNatClampNeg) (xs (iv + 4).toNatClampNeg) kc ks hlf h) (cwZ_L_event hts ⟨Nat.le_of_ble_eq_true rfl, Nat.le_of_ble_eq_true rfl⟩) hP hD hS rfl rfl hl.1 (Nat.le_of_ble_eq_true rfl) dL_law_334 ⟨by show _ ≤ (601024 : Nat); (try dsimp only); omega, by show _ ≤ (7293034 : Nat); (try dsimp only); omega⟩) (fun r0 u H locs h hP hD hS => ?_)
  rw [hL0] at hP hD
  obtain ⟨⟨x1, y1, g1⟩, f1⟩ := u
  have hP : va_P D vwCl (mW [] om adm cIm cZ (xm, gm) ++ cW [(qo, .inl (cJ, 1, .inr (.inl f1)))] ad wd cI cB cP cT (x1, y1, g1)) H := hP
  have hD : va_D A (mW [] om adm cIm cZ (xm, gm) ++ cW [(qo, .inl (cJ, 1, .inr (.inl f1)))] ad wd cI cB cP cT (x1, y1, g1)) := hD
  refine lv_istore (pc := 337) (lv' := [(5, .int r0), (0, .ref b), (1, .ref (ad 0 0)), (2, .ref om), (3, .ref qo), (4, .int iv)]) hx hb dL_law_337 hl (by decide) rfl (fun ls hl => ?_)
  refine lv_aload_n (pc := 339) hx hb dL_law_339 rfl (lv_at hl 3 rfl) ?_
  refine lv_aload_n (pc := 340) hx hb dL_law_340 rfl (lv_at hl 1 rfl) ?_
  refine lv_iload (pc := 341) hx hb dL_law_341 (lv_at hl 5 rfl) ?_
  refine lv_iconst (pc := 343) (v := 1) hx hb dL_law_343 (by decide) ?_
  refine lv_iadd (pc := 344) hx hb dL_law_344 ?_
  refine va_sld (pc := 345) hx hb hX hbl hbA hS hi1 dL_law_345 ?_
  refine lv_aload_n (pc := 346) hx hb dL_law_346 rfl (lv_at hl 1 rfl) ?_
  refine lv_iload (pc := 347) hx hb dL_law_347 (lv_at hl 5 rfl) ?_
  refine lv_iconst (pc := 349) (v := 2) hx hb dL_law_349 (by decide) ?_
  refine lv_iadd (pc := 350) hx hb dL_law_350 ?_
  refine va_sld (pc := 351) hx hb hX hbl hbA hS hi2 dL_law_351 ?_
  refine lv_aload_n (pc := 352) hx hb dL_law_352 rfl (lv_at hl 1 rfl) ?_
  refine lv_iload (pc := 353) hx hb dL_law_353 (lv_at hl 5 rfl) ?_
  refine lv_iconst (pc := 355) (v := 3) hx hb dL_law_355 (by decide) ?_
  refine lv_iadd (pc := 356) hx hb dL_law_356 ?_
  refine va_sld (pc := 357) hx hb hX hbl hbA hS hi3 dL_law_357 ?_
  refine lv_aload_n (pc := 358) hx hb dL_law_358 rfl (lv_at hl 1 rfl) ?_
  refine lv_iload (pc := 359) hx hb dL_law_359 (lv_at hl 5 rfl) ?_
  refine lv_iconst (pc := 361) (v := 4) hx hb dL_law_361 (by decide) ?_
  refine lv_iadd (pc := 362) hx hb dL_law_362 ?_
  refine va_sld (pc := 363) hx hb hX hbl hbA hS hi4 dL_law_363 ?_
  have hP := zpermP List.perm_append_comm hP
  have hD := zpermD List.perm_append_comm hD
  obtain ⟨L1, hL1⟩ : ∃ L : va_W, L = cW [(qo, .inl (cJ, 1, .inr (.inl f1)))] ad wd cI cB cP cT (x1, y1, g1) := ⟨_, rfl⟩
  rw [← hL1] at hP hD
  refine lJi (pc := 364) (L := L1) (wc := mW [] om adm cIm cZ (xm, gm)) (Wd := (mW [] om adm cIm cZ)) hA hP hD hS (lV (L := L1) [.int (xs (iv + 1).toNatClampNeg), .int (xs (iv + 2).toNatClampNeg), .int (xs (iv + 3).toNatClampNeg), .int (xs (iv + 4).toNatClampNeg)] hFm (kX9_event xm gm (xs (iv + 1).toNatClampNeg) (xs (iv + 2).toNatClampNeg) (xs (iv + 3).toNatClampNeg) (xs (iv + 4).toNatClampNeg) h) (cwZ_X9_event hts ⟨Nat.le_of_ble_eq_true rfl, Nat.le_of_ble_eq_true rfl⟩) (lRv (L := L1) hK hP (ci := 12) (q0 := 0) rfl rfl) hP hD hS rfl rfl hl.1 (Nat.le_of_ble_eq_true rfl) dL_law_364 ⟨by show _ ≤ (601024 : Nat); (try dsimp only); omega, by show _ ≤ (7293034 : Nat); (try dsimp only); omega⟩) (fun r1 u H locs h hP hD hS => ?_)
  rw [hL1] at hP hD
  obtain ⟨xm1, gm1⟩ := u
  have hP : va_P D vwCl (cW [(qo, .inl (cJ, 1, .inr (.inl f1)))] ad wd cI cB cP cT (x1, y1, g1) ++ mW [] om adm cIm cZ (xm1, gm1)) H := hP
  have hD : va_D A (cW [(qo, .inl (cJ, 1, .inr (.inl f1)))] ad wd cI cB cP cT (x1, y1, g1) ++ mW [] om adm cIm cZ (xm1, gm1)) := hD
  refine lv_istore (pc := 367) (lv' := [(6, .int r1), (5, .int r0), (0, .ref b), (1, .ref (ad 0 0)), (2, .ref om), (3, .ref qo), (4, .int iv)]) hx hb dL_law_367 hl (by decide) rfl (fun ls hl => ?_)
  refine lv_aload_n (pc := 369) hx hb dL_law_369 rfl (lv_at hl 4 rfl) ?_
  obtain ⟨L2, hL2⟩ : ∃ L : va_W, L = cW [(qo, .inl (cJ, 1, .inr (.inl f1)))] ad wd cI cB cP cT (x1, y1, g1) := ⟨_, rfl⟩
  rw [← hL2] at hP hD
  refine lJi (pc := 370) (L := L2) (wc := mW [] om adm cIm cZ (xm1, gm1)) (Wd := (mW [] om adm cIm cZ)) hA hP hD hS (lV (L := L2) [] hFm (kX9_thrown xm1 gm1 h) (cwZ_X9_thrown hts ⟨Nat.le_of_ble_eq_true rfl, Nat.le_of_ble_eq_true rfl⟩) (lRv (L := L2) hK hP (ci := 12) (q0 := 0) rfl rfl) hP hD hS rfl rfl hl.1 (Nat.le_of_ble_eq_true rfl) dL_law_370 ⟨by show _ ≤ (601024 : Nat); (try dsimp only); omega, by show _ ≤ (7293034 : Nat); (try dsimp only); omega⟩) (fun r2 u H locs h hP hD hS => ?_)
  rw [hL2] at hP hD
  obtain ⟨rfl, h⟩ := h
  have hP : va_P D vwCl (cW [(qo, .inl (cJ, 1, .inr (.inl f1)))] ad wd cI cB cP cT (x1, y1, g1) ++ mW [] om adm cIm cZ (xm1, gm1)) H := hP
  have hD : va_D A (cW [(qo, .inl (cJ, 1, .inr (.inl f1)))] ad wd cI cB cP cT (x1, y1, g1) ++ mW [] om adm cIm cZ (xm1, gm1)) := hD
  have hP := zpermP List.perm_append_comm hP
  have hD := zpermD List.perm_append_comm hD
  refine lv_iload (pc := 373) hx hb dL_law_373 (lv_at hl 1 rfl) ?_
  refine lv_icmp_eq (pc := 375) (tgt := 380) hx hb dL_law_375 (by decide) (fun c9 => ?_) (fun c9 => absurd h.1 c9)
  refine lv_iload (pc := 380) hx hb dL_law_380 (lv_at hl 1 rfl) ?_
  refine lv_if_ne (pc := 382) (tgt := 397) hx hb dL_law_382 (by decide) (fun c9 => ?_) (fun c9 => ?_)
  · refine lv_goto (pc := 397) (tgt := 1350) hx hb dL_law_397 (by decide) ?_
    exact hend x1 y1 g1 f1 xm1 gm1 bc2 bs2 _ _ H locs ls h.2.2 (by (try dsimp only); omega) (by (try dsimp only); omega) hP hD hS (lv_sub hl [2, 3, 4, 5, 6] rfl)
  · refine lv_aload_n (pc := 385) hx hb dL_law_385 rfl (lv_at hl 5 rfl) ?_
    refine lv_iconst (pc := 386) (v := 0) hx hb dL_law_386 (by decide) ?_
    refine va_lald (pc := 387) (i := 0) hx hb hK (zrightP hP) 56 4 (lA ..) rfl (vp_in_iff.mpr (by decide)) dL_law_387 ?_
    refine lv_iload (pc := 388) hx hb dL_law_388 (lv_at hl 0 rfl) ?_
    refine lv_i2l (pc := 390) hx hb dL_law_390 rfl ?_
    refine W.lcmp (pc := 391) hx hb dL_law_391 ?_
    refine lv_if_eq (pc := 392) (tgt := 397) hx hb dL_law_392 (by decide) (fun c8 => ?_) (fun c8 => absurd (lgc0 (h.2.1 c9)) c8)
    refine lv_goto (pc := 397) (tgt := 1350) hx hb dL_law_397 (by decide) ?_
    exact hend x1 y1 g1 f1 xm1 gm1 bc2 bs2 _ _ H locs ls h.2.2 (by (try dsimp only); omega) (by (try dsimp only); omega) hP hD hS (lv_sub hl [2, 3, 4, 5, 6] rfl)

set_option maxRecDepth 100000 in
set_option maxHeartbeats 1000000 in
theorem klc5 {iv : Int32} (hlf : l.stackTraces = false) (hF : lwF p s m args c A D wd sk cI cB cP cT cJ cIm cZ b L xs) (hi1 : vp_in (iv + 1) L) (hi2 : vp_in (iv + 2) L) (x : Nat → Nat → Int32) (y : Nat → Nat → Nat) (g : Nat → Nat → Nat → Int32) (f : Nat → Int64) (xm : Nat → Int32) (gm : Nat → Nat → Int32) (bc bs : Nat) {K : (Nat → Nat → Int32) → (Nat → Nat → Nat) → (Nat → Nat → Nat → Int32) → (Nat → Int64) → (Nat → Int32) → (Nat → Nat → Int32) → Nat → Nat → Prop} (h : wlc5 x y g f xm gm (xs (iv + 1).toNatClampNeg) (xs (iv + 2).toNatClampNeg) bc bs K) (hb1 : cells + bc ≤ 601024) (hb2 : slots + bs ≤ 7293034) (hP : va_P D vwCl (lw2 ad wd cI cB cP cT cJ cIm cZ qo om adm x y g f xm gm) H) (hD : va_D A (lw2 ad wd cI cB cP cT cJ cIm cZ qo om adm x y g f xm gm)) (hS : va_S A s.heap H locs) (hl : lv_has ls 7 [(0, .ref b), (1, .ref (ad 0 0)), (2, .ref om), (3, .ref qo), (4, .int iv)])
  (hend : ∀ (x1 : Nat → Nat → Int32) (y1 : Nat → Nat → Nat) (g1 : Nat → Nat → Nat → Int32) (f1 : Nat → Int64) (xm1 : Nat → Int32) (gm1 : Nat → Nat → Int32) (bc2 bs2 k1 n1 : Nat) (H1 : Heap) (locs1 : List Loc) (ls1 : Array Slot), K x1 y1 g1 f1 xm1 gm1 bc2 bs2 → k1 + bc2 ≤ 601024 → n1 + bs2 ≤ 7293034 → va_P D vwCl (lw2 ad wd cI cB cP cT cJ cIm cZ qo om adm x1 y1 g1 f1 xm1 gm1) H1 → va_D A (lw2 ad wd cI cB cP cT cJ cIm cZ qo om adm x1 y1 g1 f1 xm1 gm1) → va_S A s.heap H1 locs1 → lv_has ls1 7 [(0, .ref b), (1, .ref (ad 0 0)), (2, .ref om), (3, .ref qo), (4, .int iv)] → W p l e room_1 s m args below meth c H1 locs1 k1 n1 Q (F0 m 1350 ls1 [])) : W p l e room_1 s m args below meth c H locs cells slots Q (F0 m 400 ls []) := by
  obtain ⟨hFl, hFm, hX, hbl, hbA⟩ := hF
  have hFc : zFx p s m args c cL_law RL A D (cTy cI cB cP cT) (cX wd sk) 7 := ⟨hFl.1, hFl.2.1, hFl.2.2.1, hFl.2.2.2.1, hFl.2.2.2.2.1, hFl.2.2.2.2.2.1, hFl.2.2.2.2.2.2.1.sub [0, 1, 2, 3] rfl, cX_cl wd sk, hFl.2.2.2.2.2.2.2.2.1⟩
  have hx := hFl.1
  have hb := hFl.2.1
  have hts := hFl.2.2.2.2.1
  have hA := hFl.2.2.2.2.2.1
  have hK := hFl.2.2.2.2.2.2.1
  unfold wlc5 at h
  unfold lw2 at hP hD
  refine lv_aload_n (pc := 400) hx hb dL_law_400 rfl (lv_at hl 1 rfl) ?_
  refine lv_aload_n (pc := 401) hx hb dL_law_401 rfl (lv_at hl 0 rfl) ?_
  refine lv_iload (pc := 402) hx hb dL_law_402 (lv_at hl 4 rfl) ?_
  refine lv_iconst (pc := 404) (v := 1) hx hb dL_law_404 (by decide) ?_
  refine lv_iadd (pc := 405) hx hb dL_law_405 ?_
  refine va_sld (pc := 406) hx hb hX hbl hbA hS hi1 dL_law_406 ?_
  refine lv_aload_n (pc := 407) hx hb dL_law_407 rfl (lv_at hl 0 rfl) ?_
  refine lv_iload (pc := 408) hx hb dL_law_408 (lv_at hl 4 rfl) ?_
  refine lv_iconst (pc := 410) (v := 2) hx hb dL_law_410 (by decide) ?_
  refine lv_iadd (pc := 411) hx hb dL_law_411 ?_
  refine va_sld (pc := 412) hx hb hX hbl hbA hS hi2 dL_law_412 ?_
  refine lv_aload_n (pc := 413) hx hb dL_law_413 rfl (lv_at hl 3 rfl) ?_
  obtain ⟨kc, ks, bc2, bs2, eC, eS, h⟩ := h
  obtain ⟨L0, hL0⟩ : ∃ L : va_W, L = mW [] om adm cIm cZ (xm, gm) := ⟨_, rfl⟩
  rw [← hL0] at hP hD
  refine lJi (pc := 414) (L := L0) (wc := cW [(qo, .inl (cJ, 1, .inr (.inl f)))] ad wd cI cB cP cT (x, y, g)) (Wd := (fun w : cS × (Nat → Int64) => cW [(qo, .inl (cJ, 1, .inr (.inl w.2)))] ad wd cI cB cP cT w.1)) hA hP hD hS (lS (L := L0) [.ref (ad 0 0), .int (xs (iv + 1).toNatClampNeg), .int (xs (iv + 2).toNatClampNeg), .ref qo] hFl (kL_bound x y g f (xs (iv + 1).toNatClampNeg) (xs (iv + 2).toNatClampNeg) kc ks hlf h) (cwZ_L_bound hts ⟨Nat.le_of_ble_eq_true rfl, Nat.le_of_ble_eq_true rfl⟩) hP hD hS rfl rfl hl.1 (Nat.le_of_ble_eq_true rfl) dL_law_414 ⟨by show _ ≤ (601024 : Nat); (try dsimp only); omega, by show _ ≤ (7293034 : Nat); (try dsimp only); omega⟩) (fun r0 u H locs h hP hD hS => ?_)
  rw [hL0] at hP hD
  obtain ⟨⟨x1, y1, g1⟩, f1⟩ := u
  have hP : va_P D vwCl (mW [] om adm cIm cZ (xm, gm) ++ cW [(qo, .inl (cJ, 1, .inr (.inl f1)))] ad wd cI cB cP cT (x1, y1, g1)) H := hP
  have hD : va_D A (mW [] om adm cIm cZ (xm, gm) ++ cW [(qo, .inl (cJ, 1, .inr (.inl f1)))] ad wd cI cB cP cT (x1, y1, g1)) := hD
  refine lv_istore (pc := 417) (lv' := [(5, .int r0), (0, .ref b), (1, .ref (ad 0 0)), (2, .ref om), (3, .ref qo), (4, .int iv)]) hx hb dL_law_417 hl (by decide) rfl (fun ls hl => ?_)
  refine lv_aload_n (pc := 419) hx hb dL_law_419 rfl (lv_at hl 3 rfl) ?_
  refine lv_aload_n (pc := 420) hx hb dL_law_420 rfl (lv_at hl 1 rfl) ?_
  refine lv_iload (pc := 421) hx hb dL_law_421 (lv_at hl 5 rfl) ?_
  refine lv_iconst (pc := 423) (v := 1) hx hb dL_law_423 (by decide) ?_
  refine lv_iadd (pc := 424) hx hb dL_law_424 ?_
  refine va_sld (pc := 425) hx hb hX hbl hbA hS hi1 dL_law_425 ?_
  refine lv_aload_n (pc := 426) hx hb dL_law_426 rfl (lv_at hl 1 rfl) ?_
  refine lv_iload (pc := 427) hx hb dL_law_427 (lv_at hl 5 rfl) ?_
  refine lv_iconst (pc := 429) (v := 2) hx hb dL_law_429 (by decide) ?_
  refine lv_iadd (pc := 430) hx hb dL_law_430 ?_
  refine va_sld (pc := 431) hx hb hX hbl hbA hS hi2 dL_law_431 ?_
  have hP := zpermP List.perm_append_comm hP
  have hD := zpermD List.perm_append_comm hD
  obtain ⟨L1, hL1⟩ : ∃ L : va_W, L = cW [(qo, .inl (cJ, 1, .inr (.inl f1)))] ad wd cI cB cP cT (x1, y1, g1) := ⟨_, rfl⟩
  rw [← hL1] at hP hD
  refine lJi (pc := 432) (L := L1) (wc := mW [] om adm cIm cZ (xm, gm)) (Wd := (mW [] om adm cIm cZ)) hA hP hD hS (lV (L := L1) [.int (xs (iv + 1).toNatClampNeg), .int (xs (iv + 2).toNatClampNeg)] hFm (kX9_bound xm gm (xs (iv + 1).toNatClampNeg) (xs (iv + 2).toNatClampNeg) h) (cwZ_X9_bound hts ⟨Nat.le_of_ble_eq_true rfl, Nat.le_of_ble_eq_true rfl⟩) (lRv (L := L1) hK hP (ci := 12) (q0 := 0) rfl rfl) hP hD hS rfl rfl hl.1 (Nat.le_of_ble_eq_true rfl) dL_law_432 ⟨by show _ ≤ (601024 : Nat); (try dsimp only); omega, by show _ ≤ (7293034 : Nat); (try dsimp only); omega⟩) (fun r1 u H locs h hP hD hS => ?_)
  rw [hL1] at hP hD
  obtain ⟨xm1, gm1⟩ := u
  have hP : va_P D vwCl (cW [(qo, .inl (cJ, 1, .inr (.inl f1)))] ad wd cI cB cP cT (x1, y1, g1) ++ mW [] om adm cIm cZ (xm1, gm1)) H := hP
  have hD : va_D A (cW [(qo, .inl (cJ, 1, .inr (.inl f1)))] ad wd cI cB cP cT (x1, y1, g1) ++ mW [] om adm cIm cZ (xm1, gm1)) := hD
  refine lv_istore (pc := 435) (lv' := [(6, .int r1), (5, .int r0), (0, .ref b), (1, .ref (ad 0 0)), (2, .ref om), (3, .ref qo), (4, .int iv)]) hx hb dL_law_435 hl (by decide) rfl (fun ls hl => ?_)
  refine lv_aload_n (pc := 437) hx hb dL_law_437 rfl (lv_at hl 4 rfl) ?_
  obtain ⟨L2, hL2⟩ : ∃ L : va_W, L = cW [(qo, .inl (cJ, 1, .inr (.inl f1)))] ad wd cI cB cP cT (x1, y1, g1) := ⟨_, rfl⟩
  rw [← hL2] at hP hD
  refine lJi (pc := 438) (L := L2) (wc := mW [] om adm cIm cZ (xm1, gm1)) (Wd := (mW [] om adm cIm cZ)) hA hP hD hS (lV (L := L2) [] hFm (kX9_thrown xm1 gm1 h) (cwZ_X9_thrown hts ⟨Nat.le_of_ble_eq_true rfl, Nat.le_of_ble_eq_true rfl⟩) (lRv (L := L2) hK hP (ci := 12) (q0 := 0) rfl rfl) hP hD hS rfl rfl hl.1 (Nat.le_of_ble_eq_true rfl) dL_law_438 ⟨by show _ ≤ (601024 : Nat); (try dsimp only); omega, by show _ ≤ (7293034 : Nat); (try dsimp only); omega⟩) (fun r2 u H locs h hP hD hS => ?_)
  rw [hL2] at hP hD
  obtain ⟨rfl, h⟩ := h
  have hP : va_P D vwCl (cW [(qo, .inl (cJ, 1, .inr (.inl f1)))] ad wd cI cB cP cT (x1, y1, g1) ++ mW [] om adm cIm cZ (xm1, gm1)) H := hP
  have hD : va_D A (cW [(qo, .inl (cJ, 1, .inr (.inl f1)))] ad wd cI cB cP cT (x1, y1, g1) ++ mW [] om adm cIm cZ (xm1, gm1)) := hD
  have hP := zpermP List.perm_append_comm hP
  have hD := zpermD List.perm_append_comm hD
  refine lv_iload (pc := 441) hx hb dL_law_441 (lv_at hl 1 rfl) ?_
  refine lv_icmp_eq (pc := 443) (tgt := 448) hx hb dL_law_443 (by decide) (fun c9 => ?_) (fun c9 => absurd h.1 c9)
  refine lv_iload (pc := 448) hx hb dL_law_448 (lv_at hl 1 rfl) ?_
  refine lv_if_ne (pc := 450) (tgt := 465) hx hb dL_law_450 (by decide) (fun c9 => ?_) (fun c9 => ?_)
  · refine lv_goto (pc := 465) (tgt := 1350) hx hb dL_law_465 (by decide) ?_
    exact hend x1 y1 g1 f1 xm1 gm1 bc2 bs2 _ _ H locs ls h.2.2 (by (try dsimp only); omega) (by (try dsimp only); omega) hP hD hS (lv_sub hl [2, 3, 4, 5, 6] rfl)
  · refine lv_aload_n (pc := 453) hx hb dL_law_453 rfl (lv_at hl 5 rfl) ?_
    refine lv_iconst (pc := 454) (v := 0) hx hb dL_law_454 (by decide) ?_
    refine va_lald (pc := 455) (i := 0) hx hb hK (zrightP hP) 56 4 (lA ..) rfl (vp_in_iff.mpr (by decide)) dL_law_455 ?_
    refine lv_iload (pc := 456) hx hb dL_law_456 (lv_at hl 0 rfl) ?_
    refine lv_i2l (pc := 458) hx hb dL_law_458 rfl ?_
    refine W.lcmp (pc := 459) hx hb dL_law_459 ?_
    refine lv_if_eq (pc := 460) (tgt := 465) hx hb dL_law_460 (by decide) (fun c8 => ?_) (fun c8 => absurd (lgc0 (h.2.1 c9)) c8)
    refine lv_goto (pc := 465) (tgt := 1350) hx hb dL_law_465 (by decide) ?_
    exact hend x1 y1 g1 f1 xm1 gm1 bc2 bs2 _ _ H locs ls h.2.2 (by (try dsimp only); omega) (by (try dsimp only); omega) hP hD hS (lv_sub hl [2, 3, 4, 5, 6] rfl)

set_option maxRecDepth 100000 in
set_option maxHeartbeats 1000000 in
theorem klc6 {iv : Int32} (hlf : l.stackTraces = false) (hF : lwF p s m args c A D wd sk cI cB cP cT cJ cIm cZ b L xs) (hi1 : vp_in (iv + 1) L) (hi2 : vp_in (iv + 2) L) (x : Nat → Nat → Int32) (y : Nat → Nat → Nat) (g : Nat → Nat → Nat → Int32) (f : Nat → Int64) (xm : Nat → Int32) (gm : Nat → Nat → Int32) (bc bs : Nat) {K : (Nat → Nat → Int32) → (Nat → Nat → Nat) → (Nat → Nat → Nat → Int32) → (Nat → Int64) → (Nat → Int32) → (Nat → Nat → Int32) → Nat → Nat → Prop} (h : wlc6 x y g f xm gm (xs (iv + 1).toNatClampNeg) (if (xs (iv + 2).toNatClampNeg) = 0 then 0 else 1) bc bs K) (hb1 : cells + bc ≤ 601024) (hb2 : slots + bs ≤ 7293034) (hP : va_P D vwCl (lw2 ad wd cI cB cP cT cJ cIm cZ qo om adm x y g f xm gm) H) (hD : va_D A (lw2 ad wd cI cB cP cT cJ cIm cZ qo om adm x y g f xm gm)) (hS : va_S A s.heap H locs) (hl : lv_has ls 7 [(0, .ref b), (1, .ref (ad 0 0)), (2, .ref om), (3, .ref qo), (4, .int iv)])
  (hend : ∀ (x1 : Nat → Nat → Int32) (y1 : Nat → Nat → Nat) (g1 : Nat → Nat → Nat → Int32) (f1 : Nat → Int64) (xm1 : Nat → Int32) (gm1 : Nat → Nat → Int32) (bc2 bs2 k1 n1 : Nat) (H1 : Heap) (locs1 : List Loc) (ls1 : Array Slot), K x1 y1 g1 f1 xm1 gm1 bc2 bs2 → k1 + bc2 ≤ 601024 → n1 + bs2 ≤ 7293034 → va_P D vwCl (lw2 ad wd cI cB cP cT cJ cIm cZ qo om adm x1 y1 g1 f1 xm1 gm1) H1 → va_D A (lw2 ad wd cI cB cP cT cJ cIm cZ qo om adm x1 y1 g1 f1 xm1 gm1) → va_S A s.heap H1 locs1 → lv_has ls1 7 [(0, .ref b), (1, .ref (ad 0 0)), (2, .ref om), (3, .ref qo), (4, .int iv)] → W p l e room_1 s m args below meth c H1 locs1 k1 n1 Q (F0 m 1350 ls1 [])) : W p l e room_1 s m args below meth c H locs cells slots Q (F0 m 468 ls []) := by
  obtain ⟨hFl, hFm, hX, hbl, hbA⟩ := hF
  have hFc : zFx p s m args c cL_law RL A D (cTy cI cB cP cT) (cX wd sk) 7 := ⟨hFl.1, hFl.2.1, hFl.2.2.1, hFl.2.2.2.1, hFl.2.2.2.2.1, hFl.2.2.2.2.2.1, hFl.2.2.2.2.2.2.1.sub [0, 1, 2, 3] rfl, cX_cl wd sk, hFl.2.2.2.2.2.2.2.2.1⟩
  have hx := hFl.1
  have hb := hFl.2.1
  have hts := hFl.2.2.2.2.1
  have hA := hFl.2.2.2.2.2.1
  have hK := hFl.2.2.2.2.2.2.1
  unfold wlc6 at h
  unfold lw2 at hP hD
  refine lv_aload_n (pc := 468) hx hb dL_law_468 rfl (lv_at hl 1 rfl) ?_
  refine lv_aload_n (pc := 469) hx hb dL_law_469 rfl (lv_at hl 0 rfl) ?_
  refine lv_iload (pc := 470) hx hb dL_law_470 (lv_at hl 4 rfl) ?_
  refine lv_iconst (pc := 472) (v := 1) hx hb dL_law_472 (by decide) ?_
  refine lv_iadd (pc := 473) hx hb dL_law_473 ?_
  refine va_sld (pc := 474) hx hb hX hbl hbA hS hi1 dL_law_474 ?_
  refine lv_aload_n (pc := 475) hx hb dL_law_475 rfl (lv_at hl 0 rfl) ?_
  refine lv_iload (pc := 476) hx hb dL_law_476 (lv_at hl 4 rfl) ?_
  refine lv_iconst (pc := 478) (v := 2) hx hb dL_law_478 (by decide) ?_
  refine lv_iadd (pc := 479) hx hb dL_law_479 ?_
  refine va_sld (pc := 480) hx hb hX hbl hbA hS hi2 dL_law_480 ?_
  refine l_bool (pc := 481) hx hb dL_law_481 dL_law_484 dL_law_485 dL_law_488 ?_
  refine lv_aload_n (pc := 489) hx hb dL_law_489 rfl (lv_at hl 3 rfl) ?_
  obtain ⟨kc, ks, bc2, bs2, eC, eS, h⟩ := h
  obtain ⟨L0, hL0⟩ : ∃ L : va_W, L = mW [] om adm cIm cZ (xm, gm) := ⟨_, rfl⟩
  rw [← hL0] at hP hD
  refine lJi (pc := 490) (L := L0) (wc := cW [(qo, .inl (cJ, 1, .inr (.inl f)))] ad wd cI cB cP cT (x, y, g)) (Wd := (fun w : cS × (Nat → Int64) => cW [(qo, .inl (cJ, 1, .inr (.inl w.2)))] ad wd cI cB cP cT w.1)) hA hP hD hS (lS (L := L0) [.ref (ad 0 0), .int (xs (iv + 1).toNatClampNeg), .int (if (xs (iv + 2).toNatClampNeg) = 0 then 0 else 1), .ref qo] hFl (kL_idle x y g f (xs (iv + 1).toNatClampNeg) (if (xs (iv + 2).toNatClampNeg) = 0 then 0 else 1) kc ks hlf h (lzb _)) (cwZ_L_idle hts ⟨Nat.le_of_ble_eq_true rfl, Nat.le_of_ble_eq_true rfl⟩) hP hD hS rfl rfl hl.1 (Nat.le_of_ble_eq_true rfl) dL_law_490 ⟨by show _ ≤ (601024 : Nat); (try dsimp only); omega, by show _ ≤ (7293034 : Nat); (try dsimp only); omega⟩) (fun r0 u H locs h hP hD hS => ?_)
  rw [hL0] at hP hD
  obtain ⟨⟨x1, y1, g1⟩, f1⟩ := u
  have hP : va_P D vwCl (mW [] om adm cIm cZ (xm, gm) ++ cW [(qo, .inl (cJ, 1, .inr (.inl f1)))] ad wd cI cB cP cT (x1, y1, g1)) H := hP
  have hD : va_D A (mW [] om adm cIm cZ (xm, gm) ++ cW [(qo, .inl (cJ, 1, .inr (.inl f1)))] ad wd cI cB cP cT (x1, y1, g1)) := hD
  refine lv_istore (pc := 493) (lv' := [(5, .int r0), (0, .ref b), (1, .ref (ad 0 0)), (2, .ref om), (3, .ref qo), (4, .int iv)]) hx hb dL_law_493 hl (by decide) rfl (fun ls hl => ?_)
  refine lv_aload_n (pc := 495) hx hb dL_law_495 rfl (lv_at hl 3 rfl) ?_
  refine lv_aload_n (pc := 496) hx hb dL_law_496 rfl (lv_at hl 1 rfl) ?_
  refine lv_iload (pc := 497) hx hb dL_law_497 (lv_at hl 5 rfl) ?_
  refine lv_iconst (pc := 499) (v := 1) hx hb dL_law_499 (by decide) ?_
  refine lv_iadd (pc := 500) hx hb dL_law_500 ?_
  refine va_sld (pc := 501) hx hb hX hbl hbA hS hi1 dL_law_501 ?_
  refine lv_aload_n (pc := 502) hx hb dL_law_502 rfl (lv_at hl 1 rfl) ?_
  refine lv_iload (pc := 503) hx hb dL_law_503 (lv_at hl 5 rfl) ?_
  refine lv_iconst (pc := 505) (v := 2) hx hb dL_law_505 (by decide) ?_
  refine lv_iadd (pc := 506) hx hb dL_law_506 ?_
  refine va_sld (pc := 507) hx hb hX hbl hbA hS hi2 dL_law_507 ?_
  refine l_bool (pc := 508) hx hb dL_law_508 dL_law_511 dL_law_512 dL_law_515 ?_
  have hP := zpermP List.perm_append_comm hP
  have hD := zpermD List.perm_append_comm hD
  obtain ⟨L1, hL1⟩ : ∃ L : va_W, L = cW [(qo, .inl (cJ, 1, .inr (.inl f1)))] ad wd cI cB cP cT (x1, y1, g1) := ⟨_, rfl⟩
  rw [← hL1] at hP hD
  refine lJi (pc := 516) (L := L1) (wc := mW [] om adm cIm cZ (xm, gm)) (Wd := (mW [] om adm cIm cZ)) hA hP hD hS (lV (L := L1) [.int (xs (iv + 1).toNatClampNeg), .int (if (xs (iv + 2).toNatClampNeg) = 0 then 0 else 1)] hFm (kX9_idle xm gm (xs (iv + 1).toNatClampNeg) (if (xs (iv + 2).toNatClampNeg) = 0 then 0 else 1) h) (cwZ_X9_idle hts ⟨Nat.le_of_ble_eq_true rfl, Nat.le_of_ble_eq_true rfl⟩) (lRv (L := L1) hK hP (ci := 12) (q0 := 0) rfl rfl) hP hD hS rfl rfl hl.1 (Nat.le_of_ble_eq_true rfl) dL_law_516 ⟨by show _ ≤ (601024 : Nat); (try dsimp only); omega, by show _ ≤ (7293034 : Nat); (try dsimp only); omega⟩) (fun r1 u H locs h hP hD hS => ?_)
  rw [hL1] at hP hD
  obtain ⟨xm1, gm1⟩ := u
  have hP : va_P D vwCl (cW [(qo, .inl (cJ, 1, .inr (.inl f1)))] ad wd cI cB cP cT (x1, y1, g1) ++ mW [] om adm cIm cZ (xm1, gm1)) H := hP
  have hD : va_D A (cW [(qo, .inl (cJ, 1, .inr (.inl f1)))] ad wd cI cB cP cT (x1, y1, g1) ++ mW [] om adm cIm cZ (xm1, gm1)) := hD
  refine lv_istore (pc := 519) (lv' := [(6, .int r1), (5, .int r0), (0, .ref b), (1, .ref (ad 0 0)), (2, .ref om), (3, .ref qo), (4, .int iv)]) hx hb dL_law_519 hl (by decide) rfl (fun ls hl => ?_)
  refine lv_aload_n (pc := 521) hx hb dL_law_521 rfl (lv_at hl 4 rfl) ?_
  obtain ⟨L2, hL2⟩ : ∃ L : va_W, L = cW [(qo, .inl (cJ, 1, .inr (.inl f1)))] ad wd cI cB cP cT (x1, y1, g1) := ⟨_, rfl⟩
  rw [← hL2] at hP hD
  refine lJi (pc := 522) (L := L2) (wc := mW [] om adm cIm cZ (xm1, gm1)) (Wd := (mW [] om adm cIm cZ)) hA hP hD hS (lV (L := L2) [] hFm (kX9_thrown xm1 gm1 h) (cwZ_X9_thrown hts ⟨Nat.le_of_ble_eq_true rfl, Nat.le_of_ble_eq_true rfl⟩) (lRv (L := L2) hK hP (ci := 12) (q0 := 0) rfl rfl) hP hD hS rfl rfl hl.1 (Nat.le_of_ble_eq_true rfl) dL_law_522 ⟨by show _ ≤ (601024 : Nat); (try dsimp only); omega, by show _ ≤ (7293034 : Nat); (try dsimp only); omega⟩) (fun r2 u H locs h hP hD hS => ?_)
  rw [hL2] at hP hD
  obtain ⟨rfl, h⟩ := h
  have hP : va_P D vwCl (cW [(qo, .inl (cJ, 1, .inr (.inl f1)))] ad wd cI cB cP cT (x1, y1, g1) ++ mW [] om adm cIm cZ (xm1, gm1)) H := hP
  have hD : va_D A (cW [(qo, .inl (cJ, 1, .inr (.inl f1)))] ad wd cI cB cP cT (x1, y1, g1) ++ mW [] om adm cIm cZ (xm1, gm1)) := hD
  have hP := zpermP List.perm_append_comm hP
  have hD := zpermD List.perm_append_comm hD
  refine lv_iload (pc := 525) hx hb dL_law_525 (lv_at hl 1 rfl) ?_
  refine lv_icmp_eq (pc := 527) (tgt := 532) hx hb dL_law_527 (by decide) (fun c9 => ?_) (fun c9 => absurd h.1 c9)
  refine lv_iload (pc := 532) hx hb dL_law_532 (lv_at hl 1 rfl) ?_
  refine lv_if_ne (pc := 534) (tgt := 549) hx hb dL_law_534 (by decide) (fun c9 => ?_) (fun c9 => ?_)
  · refine lv_goto (pc := 549) (tgt := 1350) hx hb dL_law_549 (by decide) ?_
    exact hend x1 y1 g1 f1 xm1 gm1 bc2 bs2 _ _ H locs ls h.2.2 (by (try dsimp only); omega) (by (try dsimp only); omega) hP hD hS (lv_sub hl [2, 3, 4, 5, 6] rfl)
  · refine lv_aload_n (pc := 537) hx hb dL_law_537 rfl (lv_at hl 5 rfl) ?_
    refine lv_iconst (pc := 538) (v := 0) hx hb dL_law_538 (by decide) ?_
    refine va_lald (pc := 539) (i := 0) hx hb hK (zrightP hP) 56 4 (lA ..) rfl (vp_in_iff.mpr (by decide)) dL_law_539 ?_
    refine lv_iload (pc := 540) hx hb dL_law_540 (lv_at hl 0 rfl) ?_
    refine lv_i2l (pc := 542) hx hb dL_law_542 rfl ?_
    refine W.lcmp (pc := 543) hx hb dL_law_543 ?_
    refine lv_if_eq (pc := 544) (tgt := 549) hx hb dL_law_544 (by decide) (fun c8 => ?_) (fun c8 => absurd (lgc0 (h.2.1 c9)) c8)
    refine lv_goto (pc := 549) (tgt := 1350) hx hb dL_law_549 (by decide) ?_
    exact hend x1 y1 g1 f1 xm1 gm1 bc2 bs2 _ _ H locs ls h.2.2 (by (try dsimp only); omega) (by (try dsimp only); omega) hP hD hS (lv_sub hl [2, 3, 4, 5, 6] rfl)

set_option maxRecDepth 100000 in
set_option maxHeartbeats 1000000 in
theorem klc7 {iv : Int32} (hlf : l.stackTraces = false) (hF : lwF p s m args c A D wd sk cI cB cP cT cJ cIm cZ b L xs) (hi1 : vp_in (iv + 1) L) (hi2 : vp_in (iv + 2) L) (hi3 : vp_in (iv + 3) L) (x : Nat → Nat → Int32) (y : Nat → Nat → Nat) (g : Nat → Nat → Nat → Int32) (f : Nat → Int64) (xm : Nat → Int32) (gm : Nat → Nat → Int32) (bc bs : Nat) {K : (Nat → Nat → Int32) → (Nat → Nat → Nat) → (Nat → Nat → Nat → Int32) → (Nat → Int64) → (Nat → Int32) → (Nat → Nat → Int32) → Nat → Nat → Prop} (h : wlc7 x y g f xm gm (xs (iv + 1).toNatClampNeg) (xs (iv + 2).toNatClampNeg) (xs (iv + 3).toNatClampNeg) bc bs K) (hb1 : cells + bc ≤ 601024) (hb2 : slots + bs ≤ 7293034) (hP : va_P D vwCl (lw2 ad wd cI cB cP cT cJ cIm cZ qo om adm x y g f xm gm) H) (hD : va_D A (lw2 ad wd cI cB cP cT cJ cIm cZ qo om adm x y g f xm gm)) (hS : va_S A s.heap H locs) (hl : lv_has ls 7 [(0, .ref b), (1, .ref (ad 0 0)), (2, .ref om), (3, .ref qo), (4, .int iv)])
  (hend : ∀ (x1 : Nat → Nat → Int32) (y1 : Nat → Nat → Nat) (g1 : Nat → Nat → Nat → Int32) (f1 : Nat → Int64) (xm1 : Nat → Int32) (gm1 : Nat → Nat → Int32) (bc2 bs2 k1 n1 : Nat) (H1 : Heap) (locs1 : List Loc) (ls1 : Array Slot), K x1 y1 g1 f1 xm1 gm1 bc2 bs2 → k1 + bc2 ≤ 601024 → n1 + bs2 ≤ 7293034 → va_P D vwCl (lw2 ad wd cI cB cP cT cJ cIm cZ qo om adm x1 y1 g1 f1 xm1 gm1) H1 → va_D A (lw2 ad wd cI cB cP cT cJ cIm cZ qo om adm x1 y1 g1 f1 xm1 gm1) → va_S A s.heap H1 locs1 → lv_has ls1 7 [(0, .ref b), (1, .ref (ad 0 0)), (2, .ref om), (3, .ref qo), (4, .int iv)] → W p l e room_1 s m args below meth c H1 locs1 k1 n1 Q (F0 m 1350 ls1 [])) : W p l e room_1 s m args below meth c H locs cells slots Q (F0 m 552 ls []) := by
  obtain ⟨hFl, hFm, hX, hbl, hbA⟩ := hF
  have hFc : zFx p s m args c cL_law RL A D (cTy cI cB cP cT) (cX wd sk) 7 := ⟨hFl.1, hFl.2.1, hFl.2.2.1, hFl.2.2.2.1, hFl.2.2.2.2.1, hFl.2.2.2.2.2.1, hFl.2.2.2.2.2.2.1.sub [0, 1, 2, 3] rfl, cX_cl wd sk, hFl.2.2.2.2.2.2.2.2.1⟩
  have hx := hFl.1
  have hb := hFl.2.1
  have hts := hFl.2.2.2.2.1
  have hA := hFl.2.2.2.2.2.1
  have hK := hFl.2.2.2.2.2.2.1
  unfold wlc7 at h
  unfold lw2 at hP hD
  refine lv_aload_n (pc := 552) hx hb dL_law_552 rfl (lv_at hl 1 rfl) ?_
  refine lv_aload_n (pc := 553) hx hb dL_law_553 rfl (lv_at hl 0 rfl) ?_
  refine lv_iload (pc := 554) hx hb dL_law_554 (lv_at hl 4 rfl) ?_
  refine lv_iconst (pc := 556) (v := 1) hx hb dL_law_556 (by decide) ?_
  refine lv_iadd (pc := 557) hx hb dL_law_557 ?_
  refine va_sld (pc := 558) hx hb hX hbl hbA hS hi1 dL_law_558 ?_
  refine lv_aload_n (pc := 559) hx hb dL_law_559 rfl (lv_at hl 0 rfl) ?_
  refine lv_iload (pc := 560) hx hb dL_law_560 (lv_at hl 4 rfl) ?_
  refine lv_iconst (pc := 562) (v := 2) hx hb dL_law_562 (by decide) ?_
  refine lv_iadd (pc := 563) hx hb dL_law_563 ?_
  refine va_sld (pc := 564) hx hb hX hbl hbA hS hi2 dL_law_564 ?_
  refine lv_aload_n (pc := 565) hx hb dL_law_565 rfl (lv_at hl 0 rfl) ?_
  refine lv_iload (pc := 566) hx hb dL_law_566 (lv_at hl 4 rfl) ?_
  refine lv_iconst (pc := 568) (v := 3) hx hb dL_law_568 (by decide) ?_
  refine lv_iadd (pc := 569) hx hb dL_law_569 ?_
  refine va_sld (pc := 570) hx hb hX hbl hbA hS hi3 dL_law_570 ?_
  refine lv_aload_n (pc := 571) hx hb dL_law_571 rfl (lv_at hl 3 rfl) ?_
  obtain ⟨kc, ks, bc2, bs2, eC, eS, h⟩ := h
  obtain ⟨L0, hL0⟩ : ∃ L : va_W, L = mW [] om adm cIm cZ (xm, gm) := ⟨_, rfl⟩
  rw [← hL0] at hP hD
  refine lJi (pc := 572) (L := L0) (wc := cW [(qo, .inl (cJ, 1, .inr (.inl f)))] ad wd cI cB cP cT (x, y, g)) (Wd := (fun w : cS × (Nat → Int64) => cW [(qo, .inl (cJ, 1, .inr (.inl w.2)))] ad wd cI cB cP cT w.1)) hA hP hD hS (lS (L := L0) [.ref (ad 0 0), .int (xs (iv + 1).toNatClampNeg), .int (xs (iv + 2).toNatClampNeg), .int (xs (iv + 3).toNatClampNeg), .ref qo] hFl (kL_table x y g f (xs (iv + 1).toNatClampNeg) (xs (iv + 2).toNatClampNeg) (xs (iv + 3).toNatClampNeg) kc ks hlf h) (cwZ_L_table hts ⟨Nat.le_of_ble_eq_true rfl, Nat.le_of_ble_eq_true rfl⟩) hP hD hS rfl rfl hl.1 (Nat.le_of_ble_eq_true rfl) dL_law_572 ⟨by show _ ≤ (601024 : Nat); (try dsimp only); omega, by show _ ≤ (7293034 : Nat); (try dsimp only); omega⟩) (fun r0 u H locs h hP hD hS => ?_)
  rw [hL0] at hP hD
  obtain ⟨⟨x1, y1, g1⟩, f1⟩ := u
  have hP : va_P D vwCl (mW [] om adm cIm cZ (xm, gm) ++ cW [(qo, .inl (cJ, 1, .inr (.inl f1)))] ad wd cI cB cP cT (x1, y1, g1)) H := hP
  have hD : va_D A (mW [] om adm cIm cZ (xm, gm) ++ cW [(qo, .inl (cJ, 1, .inr (.inl f1)))] ad wd cI cB cP cT (x1, y1, g1)) := hD
  refine lv_istore (pc := 575) (lv' := [(5, .int r0), (0, .ref b), (1, .ref (ad 0 0)), (2, .ref om), (3, .ref qo), (4, .int iv)]) hx hb dL_law_575 hl (by decide) rfl (fun ls hl => ?_)
  refine lv_aload_n (pc := 577) hx hb dL_law_577 rfl (lv_at hl 3 rfl) ?_
  refine lv_aload_n (pc := 578) hx hb dL_law_578 rfl (lv_at hl 1 rfl) ?_
  refine lv_iload (pc := 579) hx hb dL_law_579 (lv_at hl 5 rfl) ?_
  refine lv_iconst (pc := 581) (v := 1) hx hb dL_law_581 (by decide) ?_
  refine lv_iadd (pc := 582) hx hb dL_law_582 ?_
  refine va_sld (pc := 583) hx hb hX hbl hbA hS hi1 dL_law_583 ?_
  refine lv_aload_n (pc := 584) hx hb dL_law_584 rfl (lv_at hl 1 rfl) ?_
  refine lv_iload (pc := 585) hx hb dL_law_585 (lv_at hl 5 rfl) ?_
  refine lv_iconst (pc := 587) (v := 2) hx hb dL_law_587 (by decide) ?_
  refine lv_iadd (pc := 588) hx hb dL_law_588 ?_
  refine va_sld (pc := 589) hx hb hX hbl hbA hS hi2 dL_law_589 ?_
  refine lv_aload_n (pc := 590) hx hb dL_law_590 rfl (lv_at hl 1 rfl) ?_
  refine lv_iload (pc := 591) hx hb dL_law_591 (lv_at hl 5 rfl) ?_
  refine lv_iconst (pc := 593) (v := 3) hx hb dL_law_593 (by decide) ?_
  refine lv_iadd (pc := 594) hx hb dL_law_594 ?_
  refine va_sld (pc := 595) hx hb hX hbl hbA hS hi3 dL_law_595 ?_
  have hP := zpermP List.perm_append_comm hP
  have hD := zpermD List.perm_append_comm hD
  obtain ⟨L1, hL1⟩ : ∃ L : va_W, L = cW [(qo, .inl (cJ, 1, .inr (.inl f1)))] ad wd cI cB cP cT (x1, y1, g1) := ⟨_, rfl⟩
  rw [← hL1] at hP hD
  refine lJi (pc := 596) (L := L1) (wc := mW [] om adm cIm cZ (xm, gm)) (Wd := (mW [] om adm cIm cZ)) hA hP hD hS (lV (L := L1) [.int (xs (iv + 1).toNatClampNeg), .int (xs (iv + 2).toNatClampNeg), .int (xs (iv + 3).toNatClampNeg)] hFm (kX9_table xm gm (xs (iv + 1).toNatClampNeg) (xs (iv + 2).toNatClampNeg) (xs (iv + 3).toNatClampNeg) h) (cwZ_X9_table hts ⟨Nat.le_of_ble_eq_true rfl, Nat.le_of_ble_eq_true rfl⟩) (lRv (L := L1) hK hP (ci := 12) (q0 := 0) rfl rfl) hP hD hS rfl rfl hl.1 (Nat.le_of_ble_eq_true rfl) dL_law_596 ⟨by show _ ≤ (601024 : Nat); (try dsimp only); omega, by show _ ≤ (7293034 : Nat); (try dsimp only); omega⟩) (fun r1 u H locs h hP hD hS => ?_)
  rw [hL1] at hP hD
  obtain ⟨xm1, gm1⟩ := u
  have hP : va_P D vwCl (cW [(qo, .inl (cJ, 1, .inr (.inl f1)))] ad wd cI cB cP cT (x1, y1, g1) ++ mW [] om adm cIm cZ (xm1, gm1)) H := hP
  have hD : va_D A (cW [(qo, .inl (cJ, 1, .inr (.inl f1)))] ad wd cI cB cP cT (x1, y1, g1) ++ mW [] om adm cIm cZ (xm1, gm1)) := hD
  refine lv_istore (pc := 599) (lv' := [(6, .int r1), (5, .int r0), (0, .ref b), (1, .ref (ad 0 0)), (2, .ref om), (3, .ref qo), (4, .int iv)]) hx hb dL_law_599 hl (by decide) rfl (fun ls hl => ?_)
  refine lv_aload_n (pc := 601) hx hb dL_law_601 rfl (lv_at hl 4 rfl) ?_
  obtain ⟨L2, hL2⟩ : ∃ L : va_W, L = cW [(qo, .inl (cJ, 1, .inr (.inl f1)))] ad wd cI cB cP cT (x1, y1, g1) := ⟨_, rfl⟩
  rw [← hL2] at hP hD
  refine lJi (pc := 602) (L := L2) (wc := mW [] om adm cIm cZ (xm1, gm1)) (Wd := (mW [] om adm cIm cZ)) hA hP hD hS (lV (L := L2) [] hFm (kX9_thrown xm1 gm1 h) (cwZ_X9_thrown hts ⟨Nat.le_of_ble_eq_true rfl, Nat.le_of_ble_eq_true rfl⟩) (lRv (L := L2) hK hP (ci := 12) (q0 := 0) rfl rfl) hP hD hS rfl rfl hl.1 (Nat.le_of_ble_eq_true rfl) dL_law_602 ⟨by show _ ≤ (601024 : Nat); (try dsimp only); omega, by show _ ≤ (7293034 : Nat); (try dsimp only); omega⟩) (fun r2 u H locs h hP hD hS => ?_)
  rw [hL2] at hP hD
  obtain ⟨rfl, h⟩ := h
  have hP : va_P D vwCl (cW [(qo, .inl (cJ, 1, .inr (.inl f1)))] ad wd cI cB cP cT (x1, y1, g1) ++ mW [] om adm cIm cZ (xm1, gm1)) H := hP
  have hD : va_D A (cW [(qo, .inl (cJ, 1, .inr (.inl f1)))] ad wd cI cB cP cT (x1, y1, g1) ++ mW [] om adm cIm cZ (xm1, gm1)) := hD
  have hP := zpermP List.perm_append_comm hP
  have hD := zpermD List.perm_append_comm hD
  refine lv_iload (pc := 605) hx hb dL_law_605 (lv_at hl 1 rfl) ?_
  refine lv_icmp_eq (pc := 607) (tgt := 612) hx hb dL_law_607 (by decide) (fun c9 => ?_) (fun c9 => absurd h.1 c9)
  refine lv_iload (pc := 612) hx hb dL_law_612 (lv_at hl 1 rfl) ?_
  refine lv_if_ne (pc := 614) (tgt := 629) hx hb dL_law_614 (by decide) (fun c9 => ?_) (fun c9 => ?_)
  · refine lv_goto (pc := 629) (tgt := 1350) hx hb dL_law_629 (by decide) ?_
    exact hend x1 y1 g1 f1 xm1 gm1 bc2 bs2 _ _ H locs ls h.2.2 (by (try dsimp only); omega) (by (try dsimp only); omega) hP hD hS (lv_sub hl [2, 3, 4, 5, 6] rfl)
  · refine lv_aload_n (pc := 617) hx hb dL_law_617 rfl (lv_at hl 5 rfl) ?_
    refine lv_iconst (pc := 618) (v := 0) hx hb dL_law_618 (by decide) ?_
    refine va_lald (pc := 619) (i := 0) hx hb hK (zrightP hP) 56 4 (lA ..) rfl (vp_in_iff.mpr (by decide)) dL_law_619 ?_
    refine lv_iload (pc := 620) hx hb dL_law_620 (lv_at hl 0 rfl) ?_
    refine lv_i2l (pc := 622) hx hb dL_law_622 rfl ?_
    refine W.lcmp (pc := 623) hx hb dL_law_623 ?_
    refine lv_if_eq (pc := 624) (tgt := 629) hx hb dL_law_624 (by decide) (fun c8 => ?_) (fun c8 => absurd (lgc0 (h.2.1 c9)) c8)
    refine lv_goto (pc := 629) (tgt := 1350) hx hb dL_law_629 (by decide) ?_
    exact hend x1 y1 g1 f1 xm1 gm1 bc2 bs2 _ _ H locs ls h.2.2 (by (try dsimp only); omega) (by (try dsimp only); omega) hP hD hS (lv_sub hl [2, 3, 4, 5, 6] rfl)

set_option maxRecDepth 100000 in
set_option maxHeartbeats 1000000 in
theorem klc8 {iv : Int32} (hlf : l.stackTraces = false) (hF : lwF p s m args c A D wd sk cI cB cP cT cJ cIm cZ b L xs) (hi1 : vp_in (iv + 1) L) (x : Nat → Nat → Int32) (y : Nat → Nat → Nat) (g : Nat → Nat → Nat → Int32) (f : Nat → Int64) (xm : Nat → Int32) (gm : Nat → Nat → Int32) (bc bs : Nat) {K : (Nat → Nat → Int32) → (Nat → Nat → Nat) → (Nat → Nat → Nat → Int32) → (Nat → Int64) → (Nat → Int32) → (Nat → Nat → Int32) → Nat → Nat → Prop} (h : wlc8 x y g f xm gm (xs (iv + 1).toNatClampNeg) bc bs K) (hb1 : cells + bc ≤ 601024) (hb2 : slots + bs ≤ 7293034) (hP : va_P D vwCl (lw2 ad wd cI cB cP cT cJ cIm cZ qo om adm x y g f xm gm) H) (hD : va_D A (lw2 ad wd cI cB cP cT cJ cIm cZ qo om adm x y g f xm gm)) (hS : va_S A s.heap H locs) (hl : lv_has ls 7 [(0, .ref b), (1, .ref (ad 0 0)), (2, .ref om), (3, .ref qo), (4, .int iv)])
  (hend : ∀ (x1 : Nat → Nat → Int32) (y1 : Nat → Nat → Nat) (g1 : Nat → Nat → Nat → Int32) (f1 : Nat → Int64) (xm1 : Nat → Int32) (gm1 : Nat → Nat → Int32) (bc2 bs2 k1 n1 : Nat) (H1 : Heap) (locs1 : List Loc) (ls1 : Array Slot), K x1 y1 g1 f1 xm1 gm1 bc2 bs2 → k1 + bc2 ≤ 601024 → n1 + bs2 ≤ 7293034 → va_P D vwCl (lw2 ad wd cI cB cP cT cJ cIm cZ qo om adm x1 y1 g1 f1 xm1 gm1) H1 → va_D A (lw2 ad wd cI cB cP cT cJ cIm cZ qo om adm x1 y1 g1 f1 xm1 gm1) → va_S A s.heap H1 locs1 → lv_has ls1 7 [(0, .ref b), (1, .ref (ad 0 0)), (2, .ref om), (3, .ref qo), (4, .int iv)] → W p l e room_1 s m args below meth c H1 locs1 k1 n1 Q (F0 m 1350 ls1 [])) : W p l e room_1 s m args below meth c H locs cells slots Q (F0 m 632 ls []) := by
  obtain ⟨hFl, hFm, hX, hbl, hbA⟩ := hF
  have hFc : zFx p s m args c cL_law RL A D (cTy cI cB cP cT) (cX wd sk) 7 := ⟨hFl.1, hFl.2.1, hFl.2.2.1, hFl.2.2.2.1, hFl.2.2.2.2.1, hFl.2.2.2.2.2.1, hFl.2.2.2.2.2.2.1.sub [0, 1, 2, 3] rfl, cX_cl wd sk, hFl.2.2.2.2.2.2.2.2.1⟩
  have hx := hFl.1
  have hb := hFl.2.1
  have hts := hFl.2.2.2.2.1
  have hA := hFl.2.2.2.2.2.1
  have hK := hFl.2.2.2.2.2.2.1
  unfold wlc8 at h
  unfold lw2 at hP hD
  refine lv_aload_n (pc := 632) hx hb dL_law_632 rfl (lv_at hl 1 rfl) ?_
  refine lv_aload_n (pc := 633) hx hb dL_law_633 rfl (lv_at hl 0 rfl) ?_
  refine lv_iload (pc := 634) hx hb dL_law_634 (lv_at hl 4 rfl) ?_
  refine lv_iconst (pc := 636) (v := 1) hx hb dL_law_636 (by decide) ?_
  refine lv_iadd (pc := 637) hx hb dL_law_637 ?_
  refine va_sld (pc := 638) hx hb hX hbl hbA hS hi1 dL_law_638 ?_
  refine lv_aload_n (pc := 639) hx hb dL_law_639 rfl (lv_at hl 3 rfl) ?_
  obtain ⟨kc, ks, bc2, bs2, eC, eS, h⟩ := h
  obtain ⟨L0, hL0⟩ : ∃ L : va_W, L = mW [] om adm cIm cZ (xm, gm) := ⟨_, rfl⟩
  rw [← hL0] at hP hD
  refine lJi (pc := 640) (L := L0) (wc := cW [(qo, .inl (cJ, 1, .inr (.inl f)))] ad wd cI cB cP cT (x, y, g)) (Wd := (fun w : cS × (Nat → Int64) => cW [(qo, .inl (cJ, 1, .inr (.inl w.2)))] ad wd cI cB cP cT w.1)) hA hP hD hS (lS (L := L0) [.ref (ad 0 0), .int (xs (iv + 1).toNatClampNeg), .ref qo] hFl (kL_step x y g f (xs (iv + 1).toNatClampNeg) kc ks hlf h) (cwZ_L_step hts ⟨Nat.le_of_ble_eq_true rfl, Nat.le_of_ble_eq_true rfl⟩) hP hD hS rfl rfl hl.1 (Nat.le_of_ble_eq_true rfl) dL_law_640 ⟨by show _ ≤ (601024 : Nat); (try dsimp only); omega, by show _ ≤ (7293034 : Nat); (try dsimp only); omega⟩) (fun r0 u H locs h hP hD hS => ?_)
  rw [hL0] at hP hD
  obtain ⟨⟨x1, y1, g1⟩, f1⟩ := u
  have hP : va_P D vwCl (mW [] om adm cIm cZ (xm, gm) ++ cW [(qo, .inl (cJ, 1, .inr (.inl f1)))] ad wd cI cB cP cT (x1, y1, g1)) H := hP
  have hD : va_D A (mW [] om adm cIm cZ (xm, gm) ++ cW [(qo, .inl (cJ, 1, .inr (.inl f1)))] ad wd cI cB cP cT (x1, y1, g1)) := hD
  refine lv_istore (pc := 643) (lv' := [(5, .int r0), (0, .ref b), (1, .ref (ad 0 0)), (2, .ref om), (3, .ref qo), (4, .int iv)]) hx hb dL_law_643 hl (by decide) rfl (fun ls hl => ?_)
  refine lv_aload_n (pc := 645) hx hb dL_law_645 rfl (lv_at hl 3 rfl) ?_
  refine lv_aload_n (pc := 646) hx hb dL_law_646 rfl (lv_at hl 1 rfl) ?_
  refine lv_iload (pc := 647) hx hb dL_law_647 (lv_at hl 5 rfl) ?_
  refine lv_iconst (pc := 649) (v := 1) hx hb dL_law_649 (by decide) ?_
  refine lv_iadd (pc := 650) hx hb dL_law_650 ?_
  refine va_sld (pc := 651) hx hb hX hbl hbA hS hi1 dL_law_651 ?_
  have hP := zpermP List.perm_append_comm hP
  have hD := zpermD List.perm_append_comm hD
  obtain ⟨L1, hL1⟩ : ∃ L : va_W, L = cW [(qo, .inl (cJ, 1, .inr (.inl f1)))] ad wd cI cB cP cT (x1, y1, g1) := ⟨_, rfl⟩
  rw [← hL1] at hP hD
  refine lJi (pc := 652) (L := L1) (wc := mW [] om adm cIm cZ (xm, gm)) (Wd := (mW [] om adm cIm cZ)) hA hP hD hS (lV (L := L1) [.int (xs (iv + 1).toNatClampNeg)] hFm (kX9_step xm gm (xs (iv + 1).toNatClampNeg) h) (cwZ_X9_step hts ⟨Nat.le_of_ble_eq_true rfl, Nat.le_of_ble_eq_true rfl⟩) (lRv (L := L1) hK hP (ci := 12) (q0 := 0) rfl rfl) hP hD hS rfl rfl hl.1 (Nat.le_of_ble_eq_true rfl) dL_law_652 ⟨by show _ ≤ (601024 : Nat); (try dsimp only); omega, by show _ ≤ (7293034 : Nat); (try dsimp only); omega⟩) (fun r1 u H locs h hP hD hS => ?_)
  rw [hL1] at hP hD
  obtain ⟨xm1, gm1⟩ := u
  have hP : va_P D vwCl (cW [(qo, .inl (cJ, 1, .inr (.inl f1)))] ad wd cI cB cP cT (x1, y1, g1) ++ mW [] om adm cIm cZ (xm1, gm1)) H := hP
  have hD : va_D A (cW [(qo, .inl (cJ, 1, .inr (.inl f1)))] ad wd cI cB cP cT (x1, y1, g1) ++ mW [] om adm cIm cZ (xm1, gm1)) := hD
  refine lv_istore (pc := 655) (lv' := [(6, .int r1), (5, .int r0), (0, .ref b), (1, .ref (ad 0 0)), (2, .ref om), (3, .ref qo), (4, .int iv)]) hx hb dL_law_655 hl (by decide) rfl (fun ls hl => ?_)
  refine lv_aload_n (pc := 657) hx hb dL_law_657 rfl (lv_at hl 4 rfl) ?_
  obtain ⟨L2, hL2⟩ : ∃ L : va_W, L = cW [(qo, .inl (cJ, 1, .inr (.inl f1)))] ad wd cI cB cP cT (x1, y1, g1) := ⟨_, rfl⟩
  rw [← hL2] at hP hD
  refine lJi (pc := 658) (L := L2) (wc := mW [] om adm cIm cZ (xm1, gm1)) (Wd := (mW [] om adm cIm cZ)) hA hP hD hS (lV (L := L2) [] hFm (kX9_thrown xm1 gm1 h) (cwZ_X9_thrown hts ⟨Nat.le_of_ble_eq_true rfl, Nat.le_of_ble_eq_true rfl⟩) (lRv (L := L2) hK hP (ci := 12) (q0 := 0) rfl rfl) hP hD hS rfl rfl hl.1 (Nat.le_of_ble_eq_true rfl) dL_law_658 ⟨by show _ ≤ (601024 : Nat); (try dsimp only); omega, by show _ ≤ (7293034 : Nat); (try dsimp only); omega⟩) (fun r2 u H locs h hP hD hS => ?_)
  rw [hL2] at hP hD
  obtain ⟨rfl, h⟩ := h
  have hP : va_P D vwCl (cW [(qo, .inl (cJ, 1, .inr (.inl f1)))] ad wd cI cB cP cT (x1, y1, g1) ++ mW [] om adm cIm cZ (xm1, gm1)) H := hP
  have hD : va_D A (cW [(qo, .inl (cJ, 1, .inr (.inl f1)))] ad wd cI cB cP cT (x1, y1, g1) ++ mW [] om adm cIm cZ (xm1, gm1)) := hD
  have hP := zpermP List.perm_append_comm hP
  have hD := zpermD List.perm_append_comm hD
  refine lv_iload (pc := 661) hx hb dL_law_661 (lv_at hl 1 rfl) ?_
  refine lv_icmp_eq (pc := 663) (tgt := 668) hx hb dL_law_663 (by decide) (fun c9 => ?_) (fun c9 => absurd h.1 c9)
  refine lv_iload (pc := 668) hx hb dL_law_668 (lv_at hl 1 rfl) ?_
  refine lv_if_ne (pc := 670) (tgt := 685) hx hb dL_law_670 (by decide) (fun c9 => ?_) (fun c9 => ?_)
  · refine lv_goto (pc := 685) (tgt := 1350) hx hb dL_law_685 (by decide) ?_
    exact hend x1 y1 g1 f1 xm1 gm1 bc2 bs2 _ _ H locs ls h.2.2 (by (try dsimp only); omega) (by (try dsimp only); omega) hP hD hS (lv_sub hl [2, 3, 4, 5, 6] rfl)
  · refine lv_aload_n (pc := 673) hx hb dL_law_673 rfl (lv_at hl 5 rfl) ?_
    refine lv_iconst (pc := 674) (v := 0) hx hb dL_law_674 (by decide) ?_
    refine va_lald (pc := 675) (i := 0) hx hb hK (zrightP hP) 56 4 (lA ..) rfl (vp_in_iff.mpr (by decide)) dL_law_675 ?_
    refine lv_iload (pc := 676) hx hb dL_law_676 (lv_at hl 0 rfl) ?_
    refine lv_i2l (pc := 678) hx hb dL_law_678 rfl ?_
    refine W.lcmp (pc := 679) hx hb dL_law_679 ?_
    refine lv_if_eq (pc := 680) (tgt := 685) hx hb dL_law_680 (by decide) (fun c8 => ?_) (fun c8 => absurd (lgc0 (h.2.1 c9)) c8)
    refine lv_goto (pc := 685) (tgt := 1350) hx hb dL_law_685 (by decide) ?_
    exact hend x1 y1 g1 f1 xm1 gm1 bc2 bs2 _ _ H locs ls h.2.2 (by (try dsimp only); omega) (by (try dsimp only); omega) hP hD hS (lv_sub hl [2, 3, 4, 5, 6] rfl)

set_option maxRecDepth 100000 in
set_option maxHeartbeats 1000000 in
theorem klc9 {iv : Int32} (hlf : l.stackTraces = false) (hF : lwF p s m args c A D wd sk cI cB cP cT cJ cIm cZ b L xs) (x : Nat → Nat → Int32) (y : Nat → Nat → Nat) (g : Nat → Nat → Nat → Int32) (f : Nat → Int64) (xm : Nat → Int32) (gm : Nat → Nat → Int32) (bc bs : Nat) {K : (Nat → Nat → Int32) → (Nat → Nat → Nat) → (Nat → Nat → Nat → Int32) → (Nat → Int64) → (Nat → Int32) → (Nat → Nat → Int32) → Nat → Nat → Prop} (h : wlc9 x y g f xm gm bc bs K) (hb1 : cells + bc ≤ 601024) (hb2 : slots + bs ≤ 7293034) (hP : va_P D vwCl (lw2 ad wd cI cB cP cT cJ cIm cZ qo om adm x y g f xm gm) H) (hD : va_D A (lw2 ad wd cI cB cP cT cJ cIm cZ qo om adm x y g f xm gm)) (hS : va_S A s.heap H locs) (hl : lv_has ls 7 [(0, .ref b), (1, .ref (ad 0 0)), (2, .ref om), (3, .ref qo), (4, .int iv)])
  (hend : ∀ (x1 : Nat → Nat → Int32) (y1 : Nat → Nat → Nat) (g1 : Nat → Nat → Nat → Int32) (f1 : Nat → Int64) (xm1 : Nat → Int32) (gm1 : Nat → Nat → Int32) (bc2 bs2 k1 n1 : Nat) (H1 : Heap) (locs1 : List Loc) (ls1 : Array Slot), K x1 y1 g1 f1 xm1 gm1 bc2 bs2 → k1 + bc2 ≤ 601024 → n1 + bs2 ≤ 7293034 → va_P D vwCl (lw2 ad wd cI cB cP cT cJ cIm cZ qo om adm x1 y1 g1 f1 xm1 gm1) H1 → va_D A (lw2 ad wd cI cB cP cT cJ cIm cZ qo om adm x1 y1 g1 f1 xm1 gm1) → va_S A s.heap H1 locs1 → lv_has ls1 7 [(0, .ref b), (1, .ref (ad 0 0)), (2, .ref om), (3, .ref qo), (4, .int iv)] → W p l e room_1 s m args below meth c H1 locs1 k1 n1 Q (F0 m 1350 ls1 [])) : W p l e room_1 s m args below meth c H locs cells slots Q (F0 m 688 ls []) := by
  obtain ⟨hFl, hFm, hX, hbl, hbA⟩ := hF
  have hFc : zFx p s m args c cL_law RL A D (cTy cI cB cP cT) (cX wd sk) 7 := ⟨hFl.1, hFl.2.1, hFl.2.2.1, hFl.2.2.2.1, hFl.2.2.2.2.1, hFl.2.2.2.2.2.1, hFl.2.2.2.2.2.2.1.sub [0, 1, 2, 3] rfl, cX_cl wd sk, hFl.2.2.2.2.2.2.2.2.1⟩
  have hx := hFl.1
  have hb := hFl.2.1
  have hts := hFl.2.2.2.2.1
  have hA := hFl.2.2.2.2.2.1
  have hK := hFl.2.2.2.2.2.2.1
  unfold wlc9 at h
  unfold lw2 at hP hD
  refine lv_aload_n (pc := 688) hx hb dL_law_688 rfl (lv_at hl 1 rfl) ?_
  obtain ⟨L0, hL0⟩ : ∃ L : va_W, L = mW [] om adm cIm cZ (xm, gm) := ⟨_, rfl⟩
  rw [← hL0] at hP hD
  refine lJi (pc := 689) (L := L0) (wc := cW [(qo, .inl (cJ, 1, .inr (.inl f)))] ad wd cI cB cP cT (x, y, g)) (Wd := (cW [(qo, .inl (cJ, 1, .inr (.inl f)))] ad wd cI cB cP cT)) hA hP hD hS (lV (L := L0) [] hFc (kX8_watermark x y g h) (cwZ_X8_watermark hts ⟨Nat.le_of_ble_eq_true rfl, Nat.le_of_ble_eq_true rfl⟩) (lRv (L := L0) hK hP (ci := 11) (q0 := 0) rfl rfl) hP hD hS rfl rfl hl.1 (Nat.le_of_ble_eq_true rfl) dL_law_689 ⟨by show _ ≤ (601024 : Nat); (try dsimp only); omega, by show _ ≤ (7293034 : Nat); (try dsimp only); omega⟩) (fun r0 u H locs h hP hD hS => ?_)
  rw [hL0] at hP hD
  obtain ⟨rfl, h⟩ := h
  have hP : va_P D vwCl (mW [] om adm cIm cZ (xm, gm) ++ cW [(qo, .inl (cJ, 1, .inr (.inl f)))] ad wd cI cB cP cT (x, y, g)) H := hP
  have hD : va_D A (mW [] om adm cIm cZ (xm, gm) ++ cW [(qo, .inl (cJ, 1, .inr (.inl f)))] ad wd cI cB cP cT (x, y, g)) := hD
  refine lv_aload_n (pc := 692) hx hb dL_law_692 rfl (lv_at hl 2 rfl) ?_
  have hP := zpermP List.perm_append_comm hP
  have hD := zpermD List.perm_append_comm hD
  obtain ⟨L1, hL1⟩ : ∃ L : va_W, L = cW [(qo, .inl (cJ, 1, .inr (.inl f)))] ad wd cI cB cP cT (x, y, g) := ⟨_, rfl⟩
  rw [← hL1] at hP hD
  refine lJi (pc := 693) (L := L1) (wc := mW [] om adm cIm cZ (xm, gm)) (Wd := (mW [] om adm cIm cZ)) hA hP hD hS (lV (L := L1) [] hFm (kX9_watermark xm gm h) (cwZ_X9_watermark hts ⟨Nat.le_of_ble_eq_true rfl, Nat.le_of_ble_eq_true rfl⟩) (lRv (L := L1) hK hP (ci := 12) (q0 := 0) rfl rfl) hP hD hS rfl rfl hl.1 (Nat.le_of_ble_eq_true rfl) dL_law_693 ⟨by show _ ≤ (601024 : Nat); (try dsimp only); omega, by show _ ≤ (7293034 : Nat); (try dsimp only); omega⟩) (fun r1 u H locs h hP hD hS => ?_)
  rw [hL1] at hP hD
  obtain ⟨xm1, gm1⟩ := u
  have hP : va_P D vwCl (cW [(qo, .inl (cJ, 1, .inr (.inl f)))] ad wd cI cB cP cT (x, y, g) ++ mW [] om adm cIm cZ (xm1, gm1)) H := hP
  have hD : va_D A (cW [(qo, .inl (cJ, 1, .inr (.inl f)))] ad wd cI cB cP cT (x, y, g) ++ mW [] om adm cIm cZ (xm1, gm1)) := hD
  have hP := zpermP List.perm_append_comm hP
  have hD := zpermD List.perm_append_comm hD
  refine lv_icmp_eq (pc := 696) (tgt := 1350) hx hb dL_law_696 (by decide) (fun c9 => ?_) (fun c9 => absurd h.1 c9)
  exact hend x y g f xm1 gm1 bc bs _ _ H locs ls h.2 (by (try dsimp only); omega) (by (try dsimp only); omega) hP hD hS (lv_sub hl [0, 1, 2, 3, 4] rfl)

set_option maxRecDepth 100000 in
set_option maxHeartbeats 1000000 in
theorem klc10 {iv : Int32} (hlf : l.stackTraces = false) (hF : lwF p s m args c A D wd sk cI cB cP cT cJ cIm cZ b L xs) (hi1 : vp_in (iv + 1) L) (x : Nat → Nat → Int32) (y : Nat → Nat → Nat) (g : Nat → Nat → Nat → Int32) (f : Nat → Int64) (xm : Nat → Int32) (gm : Nat → Nat → Int32) (bc bs : Nat) {K : (Nat → Nat → Int32) → (Nat → Nat → Nat) → (Nat → Nat → Nat → Int32) → (Nat → Int64) → (Nat → Int32) → (Nat → Nat → Int32) → Nat → Nat → Prop} (h : wlc10 x y g f xm gm (xs (iv + 1).toNatClampNeg) bc bs K) (hb1 : cells + bc ≤ 601024) (hb2 : slots + bs ≤ 7293034) (hP : va_P D vwCl (lw2 ad wd cI cB cP cT cJ cIm cZ qo om adm x y g f xm gm) H) (hD : va_D A (lw2 ad wd cI cB cP cT cJ cIm cZ qo om adm x y g f xm gm)) (hS : va_S A s.heap H locs) (hl : lv_has ls 7 [(0, .ref b), (1, .ref (ad 0 0)), (2, .ref om), (3, .ref qo), (4, .int iv)])
  (hend : ∀ (x1 : Nat → Nat → Int32) (y1 : Nat → Nat → Nat) (g1 : Nat → Nat → Nat → Int32) (f1 : Nat → Int64) (xm1 : Nat → Int32) (gm1 : Nat → Nat → Int32) (bc2 bs2 k1 n1 : Nat) (H1 : Heap) (locs1 : List Loc) (ls1 : Array Slot), K x1 y1 g1 f1 xm1 gm1 bc2 bs2 → k1 + bc2 ≤ 601024 → n1 + bs2 ≤ 7293034 → va_P D vwCl (lw2 ad wd cI cB cP cT cJ cIm cZ qo om adm x1 y1 g1 f1 xm1 gm1) H1 → va_D A (lw2 ad wd cI cB cP cT cJ cIm cZ qo om adm x1 y1 g1 f1 xm1 gm1) → va_S A s.heap H1 locs1 → lv_has ls1 7 [(0, .ref b), (1, .ref (ad 0 0)), (2, .ref om), (3, .ref qo), (4, .int iv)] → W p l e room_1 s m args below meth c H1 locs1 k1 n1 Q (F0 m 1350 ls1 [])) : W p l e room_1 s m args below meth c H locs cells slots Q (F0 m 701 ls []) := by
  obtain ⟨hFl, hFm, hX, hbl, hbA⟩ := hF
  have hFc : zFx p s m args c cL_law RL A D (cTy cI cB cP cT) (cX wd sk) 7 := ⟨hFl.1, hFl.2.1, hFl.2.2.1, hFl.2.2.2.1, hFl.2.2.2.2.1, hFl.2.2.2.2.2.1, hFl.2.2.2.2.2.2.1.sub [0, 1, 2, 3] rfl, cX_cl wd sk, hFl.2.2.2.2.2.2.2.2.1⟩
  have hx := hFl.1
  have hb := hFl.2.1
  have hts := hFl.2.2.2.2.1
  have hA := hFl.2.2.2.2.2.1
  have hK := hFl.2.2.2.2.2.2.1
  unfold wlc10 at h
  unfold lw2 at hP hD
  refine lv_aload_n (pc := 701) hx hb dL_law_701 rfl (lv_at hl 1 rfl) ?_
  refine lv_aload_n (pc := 702) hx hb dL_law_702 rfl (lv_at hl 0 rfl) ?_
  refine lv_iload (pc := 703) hx hb dL_law_703 (lv_at hl 4 rfl) ?_
  refine lv_iconst (pc := 705) (v := 1) hx hb dL_law_705 (by decide) ?_
  refine lv_iadd (pc := 706) hx hb dL_law_706 ?_
  refine va_sld (pc := 707) hx hb hX hbl hbA hS hi1 dL_law_707 ?_
  refine lv_aload_n (pc := 708) hx hb dL_law_708 rfl (lv_at hl 3 rfl) ?_
  obtain ⟨kc, ks, bc2, bs2, eC, eS, h⟩ := h
  obtain ⟨L0, hL0⟩ : ∃ L : va_W, L = mW [] om adm cIm cZ (xm, gm) := ⟨_, rfl⟩
  rw [← hL0] at hP hD
  refine lJi (pc := 709) (L := L0) (wc := cW [(qo, .inl (cJ, 1, .inr (.inl f)))] ad wd cI cB cP cT (x, y, g)) (Wd := (fun w : cS × (Nat → Int64) => cW [(qo, .inl (cJ, 1, .inr (.inl w.2)))] ad wd cI cB cP cT w.1)) hA hP hD hS (lS (L := L0) [.ref (ad 0 0), .int (xs (iv + 1).toNatClampNeg), .ref qo] hFl (kL_read x y g f (xs (iv + 1).toNatClampNeg) kc ks hlf h) (cwZ_L_read hts ⟨Nat.le_of_ble_eq_true rfl, Nat.le_of_ble_eq_true rfl⟩) hP hD hS rfl rfl hl.1 (Nat.le_of_ble_eq_true rfl) dL_law_709 ⟨by show _ ≤ (601024 : Nat); (try dsimp only); omega, by show _ ≤ (7293034 : Nat); (try dsimp only); omega⟩) (fun r0 u H locs h hP hD hS => ?_)
  rw [hL0] at hP hD
  obtain ⟨⟨x1, y1, g1⟩, f1⟩ := u
  have hP : va_P D vwCl (mW [] om adm cIm cZ (xm, gm) ++ cW [(qo, .inl (cJ, 1, .inr (.inl f1)))] ad wd cI cB cP cT (x1, y1, g1)) H := hP
  have hD : va_D A (mW [] om adm cIm cZ (xm, gm) ++ cW [(qo, .inl (cJ, 1, .inr (.inl f1)))] ad wd cI cB cP cT (x1, y1, g1)) := hD
  refine lv_istore (pc := 712) (lv' := [(5, .int r0), (0, .ref b), (1, .ref (ad 0 0)), (2, .ref om), (3, .ref qo), (4, .int iv)]) hx hb dL_law_712 hl (by decide) rfl (fun ls hl => ?_)
  refine lv_aload_n (pc := 714) hx hb dL_law_714 rfl (lv_at hl 3 rfl) ?_
  refine lv_aload_n (pc := 715) hx hb dL_law_715 rfl (lv_at hl 1 rfl) ?_
  refine lv_iload (pc := 716) hx hb dL_law_716 (lv_at hl 5 rfl) ?_
  refine lv_iconst (pc := 718) (v := 1) hx hb dL_law_718 (by decide) ?_
  refine lv_iadd (pc := 719) hx hb dL_law_719 ?_
  refine va_sld (pc := 720) hx hb hX hbl hbA hS hi1 dL_law_720 ?_
  have hP := zpermP List.perm_append_comm hP
  have hD := zpermD List.perm_append_comm hD
  obtain ⟨L1, hL1⟩ : ∃ L : va_W, L = cW [(qo, .inl (cJ, 1, .inr (.inl f1)))] ad wd cI cB cP cT (x1, y1, g1) := ⟨_, rfl⟩
  rw [← hL1] at hP hD
  refine lJi (pc := 721) (L := L1) (wc := mW [] om adm cIm cZ (xm, gm)) (Wd := (mW [] om adm cIm cZ)) hA hP hD hS (lV (L := L1) [.int (xs (iv + 1).toNatClampNeg)] hFm (kX9_read xm gm (xs (iv + 1).toNatClampNeg) h) (cwZ_X9_read hts ⟨Nat.le_of_ble_eq_true rfl, Nat.le_of_ble_eq_true rfl⟩) (lRv (L := L1) hK hP (ci := 12) (q0 := 0) rfl rfl) hP hD hS rfl rfl hl.1 (Nat.le_of_ble_eq_true rfl) dL_law_721 ⟨by show _ ≤ (601024 : Nat); (try dsimp only); omega, by show _ ≤ (7293034 : Nat); (try dsimp only); omega⟩) (fun r1 u H locs h hP hD hS => ?_)
  rw [hL1] at hP hD
  obtain ⟨xm1, gm1⟩ := u
  have hP : va_P D vwCl (cW [(qo, .inl (cJ, 1, .inr (.inl f1)))] ad wd cI cB cP cT (x1, y1, g1) ++ mW [] om adm cIm cZ (xm1, gm1)) H := hP
  have hD : va_D A (cW [(qo, .inl (cJ, 1, .inr (.inl f1)))] ad wd cI cB cP cT (x1, y1, g1) ++ mW [] om adm cIm cZ (xm1, gm1)) := hD
  refine lv_istore (pc := 724) (lv' := [(6, .int r1), (5, .int r0), (0, .ref b), (1, .ref (ad 0 0)), (2, .ref om), (3, .ref qo), (4, .int iv)]) hx hb dL_law_724 hl (by decide) rfl (fun ls hl => ?_)
  refine lv_aload_n (pc := 726) hx hb dL_law_726 rfl (lv_at hl 4 rfl) ?_
  obtain ⟨L2, hL2⟩ : ∃ L : va_W, L = cW [(qo, .inl (cJ, 1, .inr (.inl f1)))] ad wd cI cB cP cT (x1, y1, g1) := ⟨_, rfl⟩
  rw [← hL2] at hP hD
  refine lJi (pc := 727) (L := L2) (wc := mW [] om adm cIm cZ (xm1, gm1)) (Wd := (mW [] om adm cIm cZ)) hA hP hD hS (lV (L := L2) [] hFm (kX9_thrown xm1 gm1 h) (cwZ_X9_thrown hts ⟨Nat.le_of_ble_eq_true rfl, Nat.le_of_ble_eq_true rfl⟩) (lRv (L := L2) hK hP (ci := 12) (q0 := 0) rfl rfl) hP hD hS rfl rfl hl.1 (Nat.le_of_ble_eq_true rfl) dL_law_727 ⟨by show _ ≤ (601024 : Nat); (try dsimp only); omega, by show _ ≤ (7293034 : Nat); (try dsimp only); omega⟩) (fun r2 u H locs h hP hD hS => ?_)
  rw [hL2] at hP hD
  obtain ⟨rfl, h⟩ := h
  have hP : va_P D vwCl (cW [(qo, .inl (cJ, 1, .inr (.inl f1)))] ad wd cI cB cP cT (x1, y1, g1) ++ mW [] om adm cIm cZ (xm1, gm1)) H := hP
  have hD : va_D A (cW [(qo, .inl (cJ, 1, .inr (.inl f1)))] ad wd cI cB cP cT (x1, y1, g1) ++ mW [] om adm cIm cZ (xm1, gm1)) := hD
  have hP := zpermP List.perm_append_comm hP
  have hD := zpermD List.perm_append_comm hD
  refine lv_iload (pc := 730) hx hb dL_law_730 (lv_at hl 1 rfl) ?_
  refine lv_icmp_eq (pc := 732) (tgt := 737) hx hb dL_law_732 (by decide) (fun c9 => ?_) (fun c9 => absurd h.1 c9)
  refine lv_iload (pc := 737) hx hb dL_law_737 (lv_at hl 1 rfl) ?_
  refine lv_if_ne (pc := 739) (tgt := 754) hx hb dL_law_739 (by decide) (fun c9 => ?_) (fun c9 => ?_)
  · refine lv_goto (pc := 754) (tgt := 1350) hx hb dL_law_754 (by decide) ?_
    exact hend x1 y1 g1 f1 xm1 gm1 bc2 bs2 _ _ H locs ls h.2.2 (by (try dsimp only); omega) (by (try dsimp only); omega) hP hD hS (lv_sub hl [2, 3, 4, 5, 6] rfl)
  · refine lv_aload_n (pc := 742) hx hb dL_law_742 rfl (lv_at hl 5 rfl) ?_
    refine lv_iconst (pc := 743) (v := 0) hx hb dL_law_743 (by decide) ?_
    refine va_lald (pc := 744) (i := 0) hx hb hK (zrightP hP) 56 4 (lA ..) rfl (vp_in_iff.mpr (by decide)) dL_law_744 ?_
    refine lv_iload (pc := 745) hx hb dL_law_745 (lv_at hl 0 rfl) ?_
    refine lv_i2l (pc := 747) hx hb dL_law_747 rfl ?_
    refine W.lcmp (pc := 748) hx hb dL_law_748 ?_
    refine lv_if_eq (pc := 749) (tgt := 754) hx hb dL_law_749 (by decide) (fun c8 => ?_) (fun c8 => absurd (lgc0 (h.2.1 c9)) c8)
    refine lv_goto (pc := 754) (tgt := 1350) hx hb dL_law_754 (by decide) ?_
    exact hend x1 y1 g1 f1 xm1 gm1 bc2 bs2 _ _ H locs ls h.2.2 (by (try dsimp only); omega) (by (try dsimp only); omega) hP hD hS (lv_sub hl [2, 3, 4, 5, 6] rfl)

set_option maxRecDepth 100000 in
set_option maxHeartbeats 1000000 in
theorem klc11 {iv : Int32} (hlf : l.stackTraces = false) (hF : lwF p s m args c A D wd sk cI cB cP cT cJ cIm cZ b L xs) (x : Nat → Nat → Int32) (y : Nat → Nat → Nat) (g : Nat → Nat → Nat → Int32) (f : Nat → Int64) (xm : Nat → Int32) (gm : Nat → Nat → Int32) (bc bs : Nat) {K : (Nat → Nat → Int32) → (Nat → Nat → Nat) → (Nat → Nat → Nat → Int32) → (Nat → Int64) → (Nat → Int32) → (Nat → Nat → Int32) → Nat → Nat → Prop} (h : wlc11 x y g f xm gm bc bs K) (hb1 : cells + bc ≤ 601024) (hb2 : slots + bs ≤ 7293034) (hP : va_P D vwCl (lw2 ad wd cI cB cP cT cJ cIm cZ qo om adm x y g f xm gm) H) (hD : va_D A (lw2 ad wd cI cB cP cT cJ cIm cZ qo om adm x y g f xm gm)) (hS : va_S A s.heap H locs) (hl : lv_has ls 7 [(0, .ref b), (1, .ref (ad 0 0)), (2, .ref om), (3, .ref qo), (4, .int iv)])
  (hend : ∀ (x1 : Nat → Nat → Int32) (y1 : Nat → Nat → Nat) (g1 : Nat → Nat → Nat → Int32) (f1 : Nat → Int64) (xm1 : Nat → Int32) (gm1 : Nat → Nat → Int32) (bc2 bs2 k1 n1 : Nat) (H1 : Heap) (locs1 : List Loc) (ls1 : Array Slot), K x1 y1 g1 f1 xm1 gm1 bc2 bs2 → k1 + bc2 ≤ 601024 → n1 + bs2 ≤ 7293034 → va_P D vwCl (lw2 ad wd cI cB cP cT cJ cIm cZ qo om adm x1 y1 g1 f1 xm1 gm1) H1 → va_D A (lw2 ad wd cI cB cP cT cJ cIm cZ qo om adm x1 y1 g1 f1 xm1 gm1) → va_S A s.heap H1 locs1 → lv_has ls1 7 [(0, .ref b), (1, .ref (ad 0 0)), (2, .ref om), (3, .ref qo), (4, .int iv)] → W p l e room_1 s m args below meth c H1 locs1 k1 n1 Q (F0 m 1350 ls1 [])) : W p l e room_1 s m args below meth c H locs cells slots Q (F0 m 757 ls []) := by
  obtain ⟨hFl, hFm, hX, hbl, hbA⟩ := hF
  have hFc : zFx p s m args c cL_law RL A D (cTy cI cB cP cT) (cX wd sk) 7 := ⟨hFl.1, hFl.2.1, hFl.2.2.1, hFl.2.2.2.1, hFl.2.2.2.2.1, hFl.2.2.2.2.2.1, hFl.2.2.2.2.2.2.1.sub [0, 1, 2, 3] rfl, cX_cl wd sk, hFl.2.2.2.2.2.2.2.2.1⟩
  have hx := hFl.1
  have hb := hFl.2.1
  have hts := hFl.2.2.2.2.1
  have hA := hFl.2.2.2.2.2.1
  have hK := hFl.2.2.2.2.2.2.1
  unfold wlc11 at h
  unfold lw2 at hP hD
  refine lv_aload_n (pc := 757) hx hb dL_law_757 rfl (lv_at hl 1 rfl) ?_
  obtain ⟨L0, hL0⟩ : ∃ L : va_W, L = mW [] om adm cIm cZ (xm, gm) := ⟨_, rfl⟩
  rw [← hL0] at hP hD
  refine lJi (pc := 758) (L := L0) (wc := cW [(qo, .inl (cJ, 1, .inr (.inl f)))] ad wd cI cB cP cT (x, y, g)) (Wd := (cW [(qo, .inl (cJ, 1, .inr (.inl f)))] ad wd cI cB cP cT)) hA hP hD hS (lV (L := L0) [] hFc (kX8_tooLate x y g h) (cwZ_X8_tooLate hts ⟨Nat.le_of_ble_eq_true rfl, Nat.le_of_ble_eq_true rfl⟩) (lRv (L := L0) hK hP (ci := 11) (q0 := 0) rfl rfl) hP hD hS rfl rfl hl.1 (Nat.le_of_ble_eq_true rfl) dL_law_758 ⟨by show _ ≤ (601024 : Nat); (try dsimp only); omega, by show _ ≤ (7293034 : Nat); (try dsimp only); omega⟩) (fun r0 u H locs h hP hD hS => ?_)
  rw [hL0] at hP hD
  obtain ⟨rfl, h⟩ := h
  have hP : va_P D vwCl (mW [] om adm cIm cZ (xm, gm) ++ cW [(qo, .inl (cJ, 1, .inr (.inl f)))] ad wd cI cB cP cT (x, y, g)) H := hP
  have hD : va_D A (mW [] om adm cIm cZ (xm, gm) ++ cW [(qo, .inl (cJ, 1, .inr (.inl f)))] ad wd cI cB cP cT (x, y, g)) := hD
  refine lv_aload_n (pc := 761) hx hb dL_law_761 rfl (lv_at hl 2 rfl) ?_
  have hP := zpermP List.perm_append_comm hP
  have hD := zpermD List.perm_append_comm hD
  obtain ⟨L1, hL1⟩ : ∃ L : va_W, L = cW [(qo, .inl (cJ, 1, .inr (.inl f)))] ad wd cI cB cP cT (x, y, g) := ⟨_, rfl⟩
  rw [← hL1] at hP hD
  refine lJi (pc := 762) (L := L1) (wc := mW [] om adm cIm cZ (xm, gm)) (Wd := (mW [] om adm cIm cZ)) hA hP hD hS (lV (L := L1) [] hFm (kX9_tooLate xm gm h) (cwZ_X9_tooLate hts ⟨Nat.le_of_ble_eq_true rfl, Nat.le_of_ble_eq_true rfl⟩) (lRv (L := L1) hK hP (ci := 12) (q0 := 0) rfl rfl) hP hD hS rfl rfl hl.1 (Nat.le_of_ble_eq_true rfl) dL_law_762 ⟨by show _ ≤ (601024 : Nat); (try dsimp only); omega, by show _ ≤ (7293034 : Nat); (try dsimp only); omega⟩) (fun r1 u H locs h hP hD hS => ?_)
  rw [hL1] at hP hD
  obtain ⟨xm1, gm1⟩ := u
  have hP : va_P D vwCl (cW [(qo, .inl (cJ, 1, .inr (.inl f)))] ad wd cI cB cP cT (x, y, g) ++ mW [] om adm cIm cZ (xm1, gm1)) H := hP
  have hD : va_D A (cW [(qo, .inl (cJ, 1, .inr (.inl f)))] ad wd cI cB cP cT (x, y, g) ++ mW [] om adm cIm cZ (xm1, gm1)) := hD
  have hP := zpermP List.perm_append_comm hP
  have hD := zpermD List.perm_append_comm hD
  refine lv_icmp_eq (pc := 765) (tgt := 1350) hx hb dL_law_765 (by decide) (fun c9 => ?_) (fun c9 => absurd h.1 c9)
  exact hend x y g f xm1 gm1 bc bs _ _ H locs ls h.2 (by (try dsimp only); omega) (by (try dsimp only); omega) hP hD hS (lv_sub hl [0, 1, 2, 3, 4] rfl)

set_option maxRecDepth 100000 in
set_option maxHeartbeats 1000000 in
theorem klc12 {iv : Int32} (hlf : l.stackTraces = false) (hF : lwF p s m args c A D wd sk cI cB cP cT cJ cIm cZ b L xs) (x : Nat → Nat → Int32) (y : Nat → Nat → Nat) (g : Nat → Nat → Nat → Int32) (f : Nat → Int64) (xm : Nat → Int32) (gm : Nat → Nat → Int32) (bc bs : Nat) {K : (Nat → Nat → Int32) → (Nat → Nat → Nat) → (Nat → Nat → Nat → Int32) → (Nat → Int64) → (Nat → Int32) → (Nat → Nat → Int32) → Nat → Nat → Prop} (h : wlc12 x y g f xm gm bc bs K) (hb1 : cells + bc ≤ 601024) (hb2 : slots + bs ≤ 7293034) (hP : va_P D vwCl (lw2 ad wd cI cB cP cT cJ cIm cZ qo om adm x y g f xm gm) H) (hD : va_D A (lw2 ad wd cI cB cP cT cJ cIm cZ qo om adm x y g f xm gm)) (hS : va_S A s.heap H locs) (hl : lv_has ls 7 [(0, .ref b), (1, .ref (ad 0 0)), (2, .ref om), (3, .ref qo), (4, .int iv)])
  (hend : ∀ (x1 : Nat → Nat → Int32) (y1 : Nat → Nat → Nat) (g1 : Nat → Nat → Nat → Int32) (f1 : Nat → Int64) (xm1 : Nat → Int32) (gm1 : Nat → Nat → Int32) (bc2 bs2 k1 n1 : Nat) (H1 : Heap) (locs1 : List Loc) (ls1 : Array Slot), K x1 y1 g1 f1 xm1 gm1 bc2 bs2 → k1 + bc2 ≤ 601024 → n1 + bs2 ≤ 7293034 → va_P D vwCl (lw2 ad wd cI cB cP cT cJ cIm cZ qo om adm x1 y1 g1 f1 xm1 gm1) H1 → va_D A (lw2 ad wd cI cB cP cT cJ cIm cZ qo om adm x1 y1 g1 f1 xm1 gm1) → va_S A s.heap H1 locs1 → lv_has ls1 7 [(0, .ref b), (1, .ref (ad 0 0)), (2, .ref om), (3, .ref qo), (4, .int iv)] → W p l e room_1 s m args below meth c H1 locs1 k1 n1 Q (F0 m 1350 ls1 [])) : W p l e room_1 s m args below meth c H locs cells slots Q (F0 m 770 ls []) := by
  obtain ⟨hFl, hFm, hX, hbl, hbA⟩ := hF
  have hFc : zFx p s m args c cL_law RL A D (cTy cI cB cP cT) (cX wd sk) 7 := ⟨hFl.1, hFl.2.1, hFl.2.2.1, hFl.2.2.2.1, hFl.2.2.2.2.1, hFl.2.2.2.2.2.1, hFl.2.2.2.2.2.2.1.sub [0, 1, 2, 3] rfl, cX_cl wd sk, hFl.2.2.2.2.2.2.2.2.1⟩
  have hx := hFl.1
  have hb := hFl.2.1
  have hts := hFl.2.2.2.2.1
  have hA := hFl.2.2.2.2.2.1
  have hK := hFl.2.2.2.2.2.2.1
  unfold wlc12 at h
  unfold lw2 at hP hD
  refine lv_aload_n (pc := 770) hx hb dL_law_770 rfl (lv_at hl 1 rfl) ?_
  obtain ⟨L0, hL0⟩ : ∃ L : va_W, L = mW [] om adm cIm cZ (xm, gm) := ⟨_, rfl⟩
  rw [← hL0] at hP hD
  refine lJi (pc := 771) (L := L0) (wc := cW [(qo, .inl (cJ, 1, .inr (.inl f)))] ad wd cI cB cP cT (x, y, g)) (Wd := (cW [(qo, .inl (cJ, 1, .inr (.inl f)))] ad wd cI cB cP cT)) hA hP hD hS (lV (L := L0) [] hFc (kX8_windows x y g h) (cwZ_X8_windows hts ⟨Nat.le_of_ble_eq_true rfl, Nat.le_of_ble_eq_true rfl⟩) (lRv (L := L0) hK hP (ci := 11) (q0 := 0) rfl rfl) hP hD hS rfl rfl hl.1 (Nat.le_of_ble_eq_true rfl) dL_law_771 ⟨by show _ ≤ (601024 : Nat); (try dsimp only); omega, by show _ ≤ (7293034 : Nat); (try dsimp only); omega⟩) (fun r0 u H locs h hP hD hS => ?_)
  rw [hL0] at hP hD
  obtain ⟨rfl, h⟩ := h
  have hP : va_P D vwCl (mW [] om adm cIm cZ (xm, gm) ++ cW [(qo, .inl (cJ, 1, .inr (.inl f)))] ad wd cI cB cP cT (x, y, g)) H := hP
  have hD : va_D A (mW [] om adm cIm cZ (xm, gm) ++ cW [(qo, .inl (cJ, 1, .inr (.inl f)))] ad wd cI cB cP cT (x, y, g)) := hD
  refine lv_aload_n (pc := 774) hx hb dL_law_774 rfl (lv_at hl 2 rfl) ?_
  have hP := zpermP List.perm_append_comm hP
  have hD := zpermD List.perm_append_comm hD
  obtain ⟨L1, hL1⟩ : ∃ L : va_W, L = cW [(qo, .inl (cJ, 1, .inr (.inl f)))] ad wd cI cB cP cT (x, y, g) := ⟨_, rfl⟩
  rw [← hL1] at hP hD
  refine lJi (pc := 775) (L := L1) (wc := mW [] om adm cIm cZ (xm, gm)) (Wd := (mW [] om adm cIm cZ)) hA hP hD hS (lV (L := L1) [] hFm (kX9_windows xm gm h) (cwZ_X9_windows hts ⟨Nat.le_of_ble_eq_true rfl, Nat.le_of_ble_eq_true rfl⟩) (lRv (L := L1) hK hP (ci := 12) (q0 := 0) rfl rfl) hP hD hS rfl rfl hl.1 (Nat.le_of_ble_eq_true rfl) dL_law_775 ⟨by show _ ≤ (601024 : Nat); (try dsimp only); omega, by show _ ≤ (7293034 : Nat); (try dsimp only); omega⟩) (fun r1 u H locs h hP hD hS => ?_)
  rw [hL1] at hP hD
  obtain ⟨xm1, gm1⟩ := u
  have hP : va_P D vwCl (cW [(qo, .inl (cJ, 1, .inr (.inl f)))] ad wd cI cB cP cT (x, y, g) ++ mW [] om adm cIm cZ (xm1, gm1)) H := hP
  have hD : va_D A (cW [(qo, .inl (cJ, 1, .inr (.inl f)))] ad wd cI cB cP cT (x, y, g) ++ mW [] om adm cIm cZ (xm1, gm1)) := hD
  have hP := zpermP List.perm_append_comm hP
  have hD := zpermD List.perm_append_comm hD
  refine lv_icmp_eq (pc := 778) (tgt := 1350) hx hb dL_law_778 (by decide) (fun c9 => ?_) (fun c9 => absurd h.1 c9)
  exact hend x y g f xm1 gm1 bc bs _ _ H locs ls h.2 (by (try dsimp only); omega) (by (try dsimp only); omega) hP hD hS (lv_sub hl [0, 1, 2, 3, 4] rfl)

set_option maxRecDepth 100000 in
set_option maxHeartbeats 1000000 in
theorem klc13 {iv : Int32} (hlf : l.stackTraces = false) (hF : lwF p s m args c A D wd sk cI cB cP cT cJ cIm cZ b L xs) (hi1 : vp_in (iv + 1) L) (hi2 : vp_in (iv + 2) L) (x : Nat → Nat → Int32) (y : Nat → Nat → Nat) (g : Nat → Nat → Nat → Int32) (f : Nat → Int64) (xm : Nat → Int32) (gm : Nat → Nat → Int32) (bc bs : Nat) {K : (Nat → Nat → Int32) → (Nat → Nat → Nat) → (Nat → Nat → Nat → Int32) → (Nat → Int64) → (Nat → Int32) → (Nat → Nat → Int32) → Nat → Nat → Prop} (h : wlc13 x y g f xm gm (xs (iv + 1).toNatClampNeg) (xs (iv + 2).toNatClampNeg) bc bs K) (hb1 : cells + bc ≤ 601024) (hb2 : slots + bs ≤ 7293034) (hP : va_P D vwCl (lw2 ad wd cI cB cP cT cJ cIm cZ qo om adm x y g f xm gm) H) (hD : va_D A (lw2 ad wd cI cB cP cT cJ cIm cZ qo om adm x y g f xm gm)) (hS : va_S A s.heap H locs) (hl : lv_has ls 7 [(0, .ref b), (1, .ref (ad 0 0)), (2, .ref om), (3, .ref qo), (4, .int iv)])
  (hend : ∀ (x1 : Nat → Nat → Int32) (y1 : Nat → Nat → Nat) (g1 : Nat → Nat → Nat → Int32) (f1 : Nat → Int64) (xm1 : Nat → Int32) (gm1 : Nat → Nat → Int32) (bc2 bs2 k1 n1 : Nat) (H1 : Heap) (locs1 : List Loc) (ls1 : Array Slot), K x1 y1 g1 f1 xm1 gm1 bc2 bs2 → k1 + bc2 ≤ 601024 → n1 + bs2 ≤ 7293034 → va_P D vwCl (lw2 ad wd cI cB cP cT cJ cIm cZ qo om adm x1 y1 g1 f1 xm1 gm1) H1 → va_D A (lw2 ad wd cI cB cP cT cJ cIm cZ qo om adm x1 y1 g1 f1 xm1 gm1) → va_S A s.heap H1 locs1 → lv_has ls1 7 [(0, .ref b), (1, .ref (ad 0 0)), (2, .ref om), (3, .ref qo), (4, .int iv)] → W p l e room_1 s m args below meth c H1 locs1 k1 n1 Q (F0 m 1350 ls1 [])) : W p l e room_1 s m args below meth c H locs cells slots Q (F0 m 783 ls []) := by
  obtain ⟨hFl, hFm, hX, hbl, hbA⟩ := hF
  have hFc : zFx p s m args c cL_law RL A D (cTy cI cB cP cT) (cX wd sk) 7 := ⟨hFl.1, hFl.2.1, hFl.2.2.1, hFl.2.2.2.1, hFl.2.2.2.2.1, hFl.2.2.2.2.2.1, hFl.2.2.2.2.2.2.1.sub [0, 1, 2, 3] rfl, cX_cl wd sk, hFl.2.2.2.2.2.2.2.2.1⟩
  have hx := hFl.1
  have hb := hFl.2.1
  have hts := hFl.2.2.2.2.1
  have hA := hFl.2.2.2.2.2.1
  have hK := hFl.2.2.2.2.2.2.1
  unfold wlc13 at h
  unfold lw2 at hP hD
  refine lv_aload_n (pc := 783) hx hb dL_law_783 rfl (lv_at hl 1 rfl) ?_
  refine lv_aload_n (pc := 784) hx hb dL_law_784 rfl (lv_at hl 0 rfl) ?_
  refine lv_iload (pc := 785) hx hb dL_law_785 (lv_at hl 4 rfl) ?_
  refine lv_iconst (pc := 787) (v := 1) hx hb dL_law_787 (by decide) ?_
  refine lv_iadd (pc := 788) hx hb dL_law_788 ?_
  refine va_sld (pc := 789) hx hb hX hbl hbA hS hi1 dL_law_789 ?_
  refine lv_aload_n (pc := 790) hx hb dL_law_790 rfl (lv_at hl 0 rfl) ?_
  refine lv_iload (pc := 791) hx hb dL_law_791 (lv_at hl 4 rfl) ?_
  refine lv_iconst (pc := 793) (v := 2) hx hb dL_law_793 (by decide) ?_
  refine lv_iadd (pc := 794) hx hb dL_law_794 ?_
  refine va_sld (pc := 795) hx hb hX hbl hbA hS hi2 dL_law_795 ?_
  refine lv_aload_n (pc := 796) hx hb dL_law_796 rfl (lv_at hl 3 rfl) ?_
  obtain ⟨kc, ks, bc2, bs2, eC, eS, h⟩ := h
  obtain ⟨L0, hL0⟩ : ∃ L : va_W, L = mW [] om adm cIm cZ (xm, gm) := ⟨_, rfl⟩
  rw [← hL0] at hP hD
  refine lJi (pc := 797) (L := L0) (wc := cW [(qo, .inl (cJ, 1, .inr (.inl f)))] ad wd cI cB cP cT (x, y, g)) (Wd := (fun w : cS × (Nat → Int64) => cW [(qo, .inl (cJ, 1, .inr (.inl w.2)))] ad wd cI cB cP cT w.1)) hA hP hD hS (lS (L := L0) [.ref (ad 0 0), .int (xs (iv + 1).toNatClampNeg), .int (xs (iv + 2).toNatClampNeg), .ref qo] hFl (kL_window x y g f (xs (iv + 1).toNatClampNeg) (xs (iv + 2).toNatClampNeg) kc ks hlf h) (cwZ_L_window hts ⟨Nat.le_of_ble_eq_true rfl, Nat.le_of_ble_eq_true rfl⟩) hP hD hS rfl rfl hl.1 (Nat.le_of_ble_eq_true rfl) dL_law_797 ⟨by show _ ≤ (601024 : Nat); (try dsimp only); omega, by show _ ≤ (7293034 : Nat); (try dsimp only); omega⟩) (fun r0 u H locs h hP hD hS => ?_)
  rw [hL0] at hP hD
  obtain ⟨⟨x1, y1, g1⟩, f1⟩ := u
  have hP : va_P D vwCl (mW [] om adm cIm cZ (xm, gm) ++ cW [(qo, .inl (cJ, 1, .inr (.inl f1)))] ad wd cI cB cP cT (x1, y1, g1)) H := hP
  have hD : va_D A (mW [] om adm cIm cZ (xm, gm) ++ cW [(qo, .inl (cJ, 1, .inr (.inl f1)))] ad wd cI cB cP cT (x1, y1, g1)) := hD
  refine lv_istore (pc := 800) (lv' := [(5, .int r0), (0, .ref b), (1, .ref (ad 0 0)), (2, .ref om), (3, .ref qo), (4, .int iv)]) hx hb dL_law_800 hl (by decide) rfl (fun ls hl => ?_)
  refine lv_aload_n (pc := 802) hx hb dL_law_802 rfl (lv_at hl 3 rfl) ?_
  refine lv_aload_n (pc := 803) hx hb dL_law_803 rfl (lv_at hl 1 rfl) ?_
  refine lv_iload (pc := 804) hx hb dL_law_804 (lv_at hl 5 rfl) ?_
  refine lv_iconst (pc := 806) (v := 1) hx hb dL_law_806 (by decide) ?_
  refine lv_iadd (pc := 807) hx hb dL_law_807 ?_
  refine va_sld (pc := 808) hx hb hX hbl hbA hS hi1 dL_law_808 ?_
  refine lv_aload_n (pc := 809) hx hb dL_law_809 rfl (lv_at hl 1 rfl) ?_
  refine lv_iload (pc := 810) hx hb dL_law_810 (lv_at hl 5 rfl) ?_
  refine lv_iconst (pc := 812) (v := 2) hx hb dL_law_812 (by decide) ?_
  refine lv_iadd (pc := 813) hx hb dL_law_813 ?_
  refine va_sld (pc := 814) hx hb hX hbl hbA hS hi2 dL_law_814 ?_
  have hP := zpermP List.perm_append_comm hP
  have hD := zpermD List.perm_append_comm hD
  obtain ⟨L1, hL1⟩ : ∃ L : va_W, L = cW [(qo, .inl (cJ, 1, .inr (.inl f1)))] ad wd cI cB cP cT (x1, y1, g1) := ⟨_, rfl⟩
  rw [← hL1] at hP hD
  refine lJi (pc := 815) (L := L1) (wc := mW [] om adm cIm cZ (xm, gm)) (Wd := (mW [] om adm cIm cZ)) hA hP hD hS (lV (L := L1) [.int (xs (iv + 1).toNatClampNeg), .int (xs (iv + 2).toNatClampNeg)] hFm (kX9_window xm gm (xs (iv + 1).toNatClampNeg) (xs (iv + 2).toNatClampNeg) h) (cwZ_X9_window hts ⟨Nat.le_of_ble_eq_true rfl, Nat.le_of_ble_eq_true rfl⟩) (lRv (L := L1) hK hP (ci := 12) (q0 := 0) rfl rfl) hP hD hS rfl rfl hl.1 (Nat.le_of_ble_eq_true rfl) dL_law_815 ⟨by show _ ≤ (601024 : Nat); (try dsimp only); omega, by show _ ≤ (7293034 : Nat); (try dsimp only); omega⟩) (fun r1 u H locs h hP hD hS => ?_)
  rw [hL1] at hP hD
  obtain ⟨xm1, gm1⟩ := u
  have hP : va_P D vwCl (cW [(qo, .inl (cJ, 1, .inr (.inl f1)))] ad wd cI cB cP cT (x1, y1, g1) ++ mW [] om adm cIm cZ (xm1, gm1)) H := hP
  have hD : va_D A (cW [(qo, .inl (cJ, 1, .inr (.inl f1)))] ad wd cI cB cP cT (x1, y1, g1) ++ mW [] om adm cIm cZ (xm1, gm1)) := hD
  refine lv_istore (pc := 818) (lv' := [(6, .int r1), (5, .int r0), (0, .ref b), (1, .ref (ad 0 0)), (2, .ref om), (3, .ref qo), (4, .int iv)]) hx hb dL_law_818 hl (by decide) rfl (fun ls hl => ?_)
  refine lv_aload_n (pc := 820) hx hb dL_law_820 rfl (lv_at hl 4 rfl) ?_
  obtain ⟨L2, hL2⟩ : ∃ L : va_W, L = cW [(qo, .inl (cJ, 1, .inr (.inl f1)))] ad wd cI cB cP cT (x1, y1, g1) := ⟨_, rfl⟩
  rw [← hL2] at hP hD
  refine lJi (pc := 821) (L := L2) (wc := mW [] om adm cIm cZ (xm1, gm1)) (Wd := (mW [] om adm cIm cZ)) hA hP hD hS (lV (L := L2) [] hFm (kX9_thrown xm1 gm1 h) (cwZ_X9_thrown hts ⟨Nat.le_of_ble_eq_true rfl, Nat.le_of_ble_eq_true rfl⟩) (lRv (L := L2) hK hP (ci := 12) (q0 := 0) rfl rfl) hP hD hS rfl rfl hl.1 (Nat.le_of_ble_eq_true rfl) dL_law_821 ⟨by show _ ≤ (601024 : Nat); (try dsimp only); omega, by show _ ≤ (7293034 : Nat); (try dsimp only); omega⟩) (fun r2 u H locs h hP hD hS => ?_)
  rw [hL2] at hP hD
  obtain ⟨rfl, h⟩ := h
  have hP : va_P D vwCl (cW [(qo, .inl (cJ, 1, .inr (.inl f1)))] ad wd cI cB cP cT (x1, y1, g1) ++ mW [] om adm cIm cZ (xm1, gm1)) H := hP
  have hD : va_D A (cW [(qo, .inl (cJ, 1, .inr (.inl f1)))] ad wd cI cB cP cT (x1, y1, g1) ++ mW [] om adm cIm cZ (xm1, gm1)) := hD
  have hP := zpermP List.perm_append_comm hP
  have hD := zpermD List.perm_append_comm hD
  refine lv_iload (pc := 824) hx hb dL_law_824 (lv_at hl 1 rfl) ?_
  refine lv_icmp_eq (pc := 826) (tgt := 831) hx hb dL_law_826 (by decide) (fun c9 => ?_) (fun c9 => absurd h.1 c9)
  refine lv_iload (pc := 831) hx hb dL_law_831 (lv_at hl 1 rfl) ?_
  refine lv_if_ne (pc := 833) (tgt := 848) hx hb dL_law_833 (by decide) (fun c9 => ?_) (fun c9 => ?_)
  · refine lv_goto (pc := 848) (tgt := 1350) hx hb dL_law_848 (by decide) ?_
    exact hend x1 y1 g1 f1 xm1 gm1 bc2 bs2 _ _ H locs ls h.2.2 (by (try dsimp only); omega) (by (try dsimp only); omega) hP hD hS (lv_sub hl [2, 3, 4, 5, 6] rfl)
  · refine lv_aload_n (pc := 836) hx hb dL_law_836 rfl (lv_at hl 5 rfl) ?_
    refine lv_iconst (pc := 837) (v := 0) hx hb dL_law_837 (by decide) ?_
    refine va_lald (pc := 838) (i := 0) hx hb hK (zrightP hP) 56 4 (lA ..) rfl (vp_in_iff.mpr (by decide)) dL_law_838 ?_
    refine lv_iload (pc := 839) hx hb dL_law_839 (lv_at hl 0 rfl) ?_
    refine lv_i2l (pc := 841) hx hb dL_law_841 rfl ?_
    refine W.lcmp (pc := 842) hx hb dL_law_842 ?_
    refine lv_if_eq (pc := 843) (tgt := 848) hx hb dL_law_843 (by decide) (fun c8 => ?_) (fun c8 => absurd (lgc0 (h.2.1 c9)) c8)
    refine lv_goto (pc := 848) (tgt := 1350) hx hb dL_law_848 (by decide) ?_
    exact hend x1 y1 g1 f1 xm1 gm1 bc2 bs2 _ _ H locs ls h.2.2 (by (try dsimp only); omega) (by (try dsimp only); omega) hP hD hS (lv_sub hl [2, 3, 4, 5, 6] rfl)

set_option maxRecDepth 100000 in
set_option maxHeartbeats 1000000 in
theorem klc14 {iv : Int32} (hlf : l.stackTraces = false) (hF : lwF p s m args c A D wd sk cI cB cP cT cJ cIm cZ b L xs) (x : Nat → Nat → Int32) (y : Nat → Nat → Nat) (g : Nat → Nat → Nat → Int32) (f : Nat → Int64) (xm : Nat → Int32) (gm : Nat → Nat → Int32) (bc bs : Nat) {K : (Nat → Nat → Int32) → (Nat → Nat → Nat) → (Nat → Nat → Nat → Int32) → (Nat → Int64) → (Nat → Int32) → (Nat → Nat → Int32) → Nat → Nat → Prop} (h : wlc14 x y g f xm gm bc bs K) (hb1 : cells + bc ≤ 601024) (hb2 : slots + bs ≤ 7293034) (hP : va_P D vwCl (lw2 ad wd cI cB cP cT cJ cIm cZ qo om adm x y g f xm gm) H) (hD : va_D A (lw2 ad wd cI cB cP cT cJ cIm cZ qo om adm x y g f xm gm)) (hS : va_S A s.heap H locs) (hl : lv_has ls 7 [(0, .ref b), (1, .ref (ad 0 0)), (2, .ref om), (3, .ref qo), (4, .int iv)])
  (hend : ∀ (x1 : Nat → Nat → Int32) (y1 : Nat → Nat → Nat) (g1 : Nat → Nat → Nat → Int32) (f1 : Nat → Int64) (xm1 : Nat → Int32) (gm1 : Nat → Nat → Int32) (bc2 bs2 k1 n1 : Nat) (H1 : Heap) (locs1 : List Loc) (ls1 : Array Slot), K x1 y1 g1 f1 xm1 gm1 bc2 bs2 → k1 + bc2 ≤ 601024 → n1 + bs2 ≤ 7293034 → va_P D vwCl (lw2 ad wd cI cB cP cT cJ cIm cZ qo om adm x1 y1 g1 f1 xm1 gm1) H1 → va_D A (lw2 ad wd cI cB cP cT cJ cIm cZ qo om adm x1 y1 g1 f1 xm1 gm1) → va_S A s.heap H1 locs1 → lv_has ls1 7 [(0, .ref b), (1, .ref (ad 0 0)), (2, .ref om), (3, .ref qo), (4, .int iv)] → W p l e room_1 s m args below meth c H1 locs1 k1 n1 Q (F0 m 1350 ls1 [])) : W p l e room_1 s m args below meth c H locs cells slots Q (F0 m 851 ls []) := by
  obtain ⟨hFl, hFm, hX, hbl, hbA⟩ := hF
  have hFc : zFx p s m args c cL_law RL A D (cTy cI cB cP cT) (cX wd sk) 7 := ⟨hFl.1, hFl.2.1, hFl.2.2.1, hFl.2.2.2.1, hFl.2.2.2.2.1, hFl.2.2.2.2.2.1, hFl.2.2.2.2.2.2.1.sub [0, 1, 2, 3] rfl, cX_cl wd sk, hFl.2.2.2.2.2.2.2.2.1⟩
  have hx := hFl.1
  have hb := hFl.2.1
  have hts := hFl.2.2.2.2.1
  have hA := hFl.2.2.2.2.2.1
  have hK := hFl.2.2.2.2.2.2.1
  unfold wlc14 at h
  unfold lw2 at hP hD
  refine lv_aload_n (pc := 851) hx hb dL_law_851 rfl (lv_at hl 1 rfl) ?_
  obtain ⟨L0, hL0⟩ : ∃ L : va_W, L = mW [] om adm cIm cZ (xm, gm) := ⟨_, rfl⟩
  rw [← hL0] at hP hD
  refine lJi (pc := 852) (L := L0) (wc := cW [(qo, .inl (cJ, 1, .inr (.inl f)))] ad wd cI cB cP cT (x, y, g)) (Wd := (cW [(qo, .inl (cJ, 1, .inr (.inl f)))] ad wd cI cB cP cT)) hA hP hD hS (lV (L := L0) [] hFc (kX8_results x y g h) (cwZ_X8_results hts ⟨Nat.le_of_ble_eq_true rfl, Nat.le_of_ble_eq_true rfl⟩) (lRv (L := L0) hK hP (ci := 11) (q0 := 0) rfl rfl) hP hD hS rfl rfl hl.1 (Nat.le_of_ble_eq_true rfl) dL_law_852 ⟨by show _ ≤ (601024 : Nat); (try dsimp only); omega, by show _ ≤ (7293034 : Nat); (try dsimp only); omega⟩) (fun r0 u H locs h hP hD hS => ?_)
  rw [hL0] at hP hD
  obtain ⟨rfl, h⟩ := h
  have hP : va_P D vwCl (mW [] om adm cIm cZ (xm, gm) ++ cW [(qo, .inl (cJ, 1, .inr (.inl f)))] ad wd cI cB cP cT (x, y, g)) H := hP
  have hD : va_D A (mW [] om adm cIm cZ (xm, gm) ++ cW [(qo, .inl (cJ, 1, .inr (.inl f)))] ad wd cI cB cP cT (x, y, g)) := hD
  refine lv_aload_n (pc := 855) hx hb dL_law_855 rfl (lv_at hl 2 rfl) ?_
  have hP := zpermP List.perm_append_comm hP
  have hD := zpermD List.perm_append_comm hD
  obtain ⟨L1, hL1⟩ : ∃ L : va_W, L = cW [(qo, .inl (cJ, 1, .inr (.inl f)))] ad wd cI cB cP cT (x, y, g) := ⟨_, rfl⟩
  rw [← hL1] at hP hD
  refine lJi (pc := 856) (L := L1) (wc := mW [] om adm cIm cZ (xm, gm)) (Wd := (mW [] om adm cIm cZ)) hA hP hD hS (lV (L := L1) [] hFm (kX9_results xm gm h) (cwZ_X9_results hts ⟨Nat.le_of_ble_eq_true rfl, Nat.le_of_ble_eq_true rfl⟩) (lRv (L := L1) hK hP (ci := 12) (q0 := 0) rfl rfl) hP hD hS rfl rfl hl.1 (Nat.le_of_ble_eq_true rfl) dL_law_856 ⟨by show _ ≤ (601024 : Nat); (try dsimp only); omega, by show _ ≤ (7293034 : Nat); (try dsimp only); omega⟩) (fun r1 u H locs h hP hD hS => ?_)
  rw [hL1] at hP hD
  obtain ⟨xm1, gm1⟩ := u
  have hP : va_P D vwCl (cW [(qo, .inl (cJ, 1, .inr (.inl f)))] ad wd cI cB cP cT (x, y, g) ++ mW [] om adm cIm cZ (xm1, gm1)) H := hP
  have hD : va_D A (cW [(qo, .inl (cJ, 1, .inr (.inl f)))] ad wd cI cB cP cT (x, y, g) ++ mW [] om adm cIm cZ (xm1, gm1)) := hD
  have hP := zpermP List.perm_append_comm hP
  have hD := zpermD List.perm_append_comm hD
  refine lv_icmp_eq (pc := 859) (tgt := 1350) hx hb dL_law_859 (by decide) (fun c9 => ?_) (fun c9 => absurd h.1 c9)
  exact hend x y g f xm1 gm1 bc bs _ _ H locs ls h.2 (by (try dsimp only); omega) (by (try dsimp only); omega) hP hD hS (lv_sub hl [0, 1, 2, 3, 4] rfl)

set_option maxRecDepth 100000 in
set_option maxHeartbeats 1000000 in
theorem klc15 {iv : Int32} (hlf : l.stackTraces = false) (hF : lwF p s m args c A D wd sk cI cB cP cT cJ cIm cZ b L xs) (x : Nat → Nat → Int32) (y : Nat → Nat → Nat) (g : Nat → Nat → Nat → Int32) (f : Nat → Int64) (xm : Nat → Int32) (gm : Nat → Nat → Int32) (bc bs : Nat) {K : (Nat → Nat → Int32) → (Nat → Nat → Nat) → (Nat → Nat → Nat → Int32) → (Nat → Int64) → (Nat → Int32) → (Nat → Nat → Int32) → Nat → Nat → Prop} (h : wlc15 x y g f xm gm bc bs K) (hb1 : cells + bc ≤ 601024) (hb2 : slots + bs ≤ 7293034) (hP : va_P D vwCl (lw2 ad wd cI cB cP cT cJ cIm cZ qo om adm x y g f xm gm) H) (hD : va_D A (lw2 ad wd cI cB cP cT cJ cIm cZ qo om adm x y g f xm gm)) (hS : va_S A s.heap H locs) (hl : lv_has ls 7 [(0, .ref b), (1, .ref (ad 0 0)), (2, .ref om), (3, .ref qo), (4, .int iv)])
  (hend : ∀ (x1 : Nat → Nat → Int32) (y1 : Nat → Nat → Nat) (g1 : Nat → Nat → Nat → Int32) (f1 : Nat → Int64) (xm1 : Nat → Int32) (gm1 : Nat → Nat → Int32) (bc2 bs2 k1 n1 : Nat) (H1 : Heap) (locs1 : List Loc) (ls1 : Array Slot), K x1 y1 g1 f1 xm1 gm1 bc2 bs2 → k1 + bc2 ≤ 601024 → n1 + bs2 ≤ 7293034 → va_P D vwCl (lw2 ad wd cI cB cP cT cJ cIm cZ qo om adm x1 y1 g1 f1 xm1 gm1) H1 → va_D A (lw2 ad wd cI cB cP cT cJ cIm cZ qo om adm x1 y1 g1 f1 xm1 gm1) → va_S A s.heap H1 locs1 → lv_has ls1 7 [(0, .ref b), (1, .ref (ad 0 0)), (2, .ref om), (3, .ref qo), (4, .int iv)] → W p l e room_1 s m args below meth c H1 locs1 k1 n1 Q (F0 m 1350 ls1 [])) : W p l e room_1 s m args below meth c H locs cells slots Q (F0 m 864 ls []) := by
  obtain ⟨hFl, hFm, hX, hbl, hbA⟩ := hF
  have hFc : zFx p s m args c cL_law RL A D (cTy cI cB cP cT) (cX wd sk) 7 := ⟨hFl.1, hFl.2.1, hFl.2.2.1, hFl.2.2.2.1, hFl.2.2.2.2.1, hFl.2.2.2.2.2.1, hFl.2.2.2.2.2.2.1.sub [0, 1, 2, 3] rfl, cX_cl wd sk, hFl.2.2.2.2.2.2.2.2.1⟩
  have hx := hFl.1
  have hb := hFl.2.1
  have hts := hFl.2.2.2.2.1
  have hA := hFl.2.2.2.2.2.1
  have hK := hFl.2.2.2.2.2.2.1
  unfold wlc15 at h
  unfold lw2 at hP hD
  refine lv_aload_n (pc := 864) hx hb dL_law_864 rfl (lv_at hl 1 rfl) ?_
  obtain ⟨L0, hL0⟩ : ∃ L : va_W, L = mW [] om adm cIm cZ (xm, gm) := ⟨_, rfl⟩
  rw [← hL0] at hP hD
  refine lJi (pc := 865) (L := L0) (wc := cW [(qo, .inl (cJ, 1, .inr (.inl f)))] ad wd cI cB cP cT (x, y, g)) (Wd := (cW [(qo, .inl (cJ, 1, .inr (.inl f)))] ad wd cI cB cP cT)) hA hP hD hS (lV (L := L0) [] hFc (kX8_committed x y g h) (cwZ_X8_committed hts ⟨Nat.le_of_ble_eq_true rfl, Nat.le_of_ble_eq_true rfl⟩) (lRv (L := L0) hK hP (ci := 11) (q0 := 0) rfl rfl) hP hD hS rfl rfl hl.1 (Nat.le_of_ble_eq_true rfl) dL_law_865 ⟨by show _ ≤ (601024 : Nat); (try dsimp only); omega, by show _ ≤ (7293034 : Nat); (try dsimp only); omega⟩) (fun r0 u H locs h hP hD hS => ?_)
  rw [hL0] at hP hD
  obtain ⟨rfl, h⟩ := h
  have hP : va_P D vwCl (mW [] om adm cIm cZ (xm, gm) ++ cW [(qo, .inl (cJ, 1, .inr (.inl f)))] ad wd cI cB cP cT (x, y, g)) H := hP
  have hD : va_D A (mW [] om adm cIm cZ (xm, gm) ++ cW [(qo, .inl (cJ, 1, .inr (.inl f)))] ad wd cI cB cP cT (x, y, g)) := hD
  refine lv_aload_n (pc := 868) hx hb dL_law_868 rfl (lv_at hl 2 rfl) ?_
  have hP := zpermP List.perm_append_comm hP
  have hD := zpermD List.perm_append_comm hD
  obtain ⟨L1, hL1⟩ : ∃ L : va_W, L = cW [(qo, .inl (cJ, 1, .inr (.inl f)))] ad wd cI cB cP cT (x, y, g) := ⟨_, rfl⟩
  rw [← hL1] at hP hD
  refine lJi (pc := 869) (L := L1) (wc := mW [] om adm cIm cZ (xm, gm)) (Wd := (mW [] om adm cIm cZ)) hA hP hD hS (lV (L := L1) [] hFm (kX9_committed xm gm h) (cwZ_X9_committed hts ⟨Nat.le_of_ble_eq_true rfl, Nat.le_of_ble_eq_true rfl⟩) (lRv (L := L1) hK hP (ci := 12) (q0 := 0) rfl rfl) hP hD hS rfl rfl hl.1 (Nat.le_of_ble_eq_true rfl) dL_law_869 ⟨by show _ ≤ (601024 : Nat); (try dsimp only); omega, by show _ ≤ (7293034 : Nat); (try dsimp only); omega⟩) (fun r1 u H locs h hP hD hS => ?_)
  rw [hL1] at hP hD
  obtain ⟨xm1, gm1⟩ := u
  have hP : va_P D vwCl (cW [(qo, .inl (cJ, 1, .inr (.inl f)))] ad wd cI cB cP cT (x, y, g) ++ mW [] om adm cIm cZ (xm1, gm1)) H := hP
  have hD : va_D A (cW [(qo, .inl (cJ, 1, .inr (.inl f)))] ad wd cI cB cP cT (x, y, g) ++ mW [] om adm cIm cZ (xm1, gm1)) := hD
  have hP := zpermP List.perm_append_comm hP
  have hD := zpermD List.perm_append_comm hD
  refine lv_icmp_eq (pc := 872) (tgt := 1350) hx hb dL_law_872 (by decide) (fun c9 => ?_) (fun c9 => absurd h.1 c9)
  exact hend x y g f xm1 gm1 bc bs _ _ H locs ls h.2 (by (try dsimp only); omega) (by (try dsimp only); omega) hP hD hS (lv_sub hl [0, 1, 2, 3, 4] rfl)

set_option maxRecDepth 100000 in
set_option maxHeartbeats 1000000 in
theorem klc16 {iv : Int32} (hlf : l.stackTraces = false) (hF : lwF p s m args c A D wd sk cI cB cP cT cJ cIm cZ b L xs) (hi1 : vp_in (iv + 1) L) (hi2 : vp_in (iv + 2) L) (x : Nat → Nat → Int32) (y : Nat → Nat → Nat) (g : Nat → Nat → Nat → Int32) (f : Nat → Int64) (xm : Nat → Int32) (gm : Nat → Nat → Int32) (bc bs : Nat) {K : (Nat → Nat → Int32) → (Nat → Nat → Nat) → (Nat → Nat → Nat → Int32) → (Nat → Int64) → (Nat → Int32) → (Nat → Nat → Int32) → Nat → Nat → Prop} (h : wlc16 x y g f xm gm (xs (iv + 1).toNatClampNeg) (xs (iv + 2).toNatClampNeg) bc bs K) (hb1 : cells + bc ≤ 601024) (hb2 : slots + bs ≤ 7293034) (hP : va_P D vwCl (lw2 ad wd cI cB cP cT cJ cIm cZ qo om adm x y g f xm gm) H) (hD : va_D A (lw2 ad wd cI cB cP cT cJ cIm cZ qo om adm x y g f xm gm)) (hS : va_S A s.heap H locs) (hl : lv_has ls 7 [(0, .ref b), (1, .ref (ad 0 0)), (2, .ref om), (3, .ref qo), (4, .int iv)])
  (hend : ∀ (x1 : Nat → Nat → Int32) (y1 : Nat → Nat → Nat) (g1 : Nat → Nat → Nat → Int32) (f1 : Nat → Int64) (xm1 : Nat → Int32) (gm1 : Nat → Nat → Int32) (bc2 bs2 k1 n1 : Nat) (H1 : Heap) (locs1 : List Loc) (ls1 : Array Slot), K x1 y1 g1 f1 xm1 gm1 bc2 bs2 → k1 + bc2 ≤ 601024 → n1 + bs2 ≤ 7293034 → va_P D vwCl (lw2 ad wd cI cB cP cT cJ cIm cZ qo om adm x1 y1 g1 f1 xm1 gm1) H1 → va_D A (lw2 ad wd cI cB cP cT cJ cIm cZ qo om adm x1 y1 g1 f1 xm1 gm1) → va_S A s.heap H1 locs1 → lv_has ls1 7 [(0, .ref b), (1, .ref (ad 0 0)), (2, .ref om), (3, .ref qo), (4, .int iv)] → W p l e room_1 s m args below meth c H1 locs1 k1 n1 Q (F0 m 1350 ls1 [])) : W p l e room_1 s m args below meth c H locs cells slots Q (F0 m 877 ls []) := by
  obtain ⟨hFl, hFm, hX, hbl, hbA⟩ := hF
  have hFc : zFx p s m args c cL_law RL A D (cTy cI cB cP cT) (cX wd sk) 7 := ⟨hFl.1, hFl.2.1, hFl.2.2.1, hFl.2.2.2.1, hFl.2.2.2.2.1, hFl.2.2.2.2.2.1, hFl.2.2.2.2.2.2.1.sub [0, 1, 2, 3] rfl, cX_cl wd sk, hFl.2.2.2.2.2.2.2.2.1⟩
  have hx := hFl.1
  have hb := hFl.2.1
  have hts := hFl.2.2.2.2.1
  have hA := hFl.2.2.2.2.2.1
  have hK := hFl.2.2.2.2.2.2.1
  unfold wlc16 at h
  unfold lw2 at hP hD
  refine lv_aload_n (pc := 877) hx hb dL_law_877 rfl (lv_at hl 1 rfl) ?_
  refine lv_aload_n (pc := 878) hx hb dL_law_878 rfl (lv_at hl 0 rfl) ?_
  refine lv_iload (pc := 879) hx hb dL_law_879 (lv_at hl 4 rfl) ?_
  refine lv_iconst (pc := 881) (v := 1) hx hb dL_law_881 (by decide) ?_
  refine lv_iadd (pc := 882) hx hb dL_law_882 ?_
  refine va_sld (pc := 883) hx hb hX hbl hbA hS hi1 dL_law_883 ?_
  refine lv_aload_n (pc := 884) hx hb dL_law_884 rfl (lv_at hl 0 rfl) ?_
  refine lv_iload (pc := 885) hx hb dL_law_885 (lv_at hl 4 rfl) ?_
  refine lv_iconst (pc := 887) (v := 2) hx hb dL_law_887 (by decide) ?_
  refine lv_iadd (pc := 888) hx hb dL_law_888 ?_
  refine va_sld (pc := 889) hx hb hX hbl hbA hS hi2 dL_law_889 ?_
  refine lv_aload_n (pc := 890) hx hb dL_law_890 rfl (lv_at hl 3 rfl) ?_
  obtain ⟨kc, ks, bc2, bs2, eC, eS, h⟩ := h
  obtain ⟨L0, hL0⟩ : ∃ L : va_W, L = mW [] om adm cIm cZ (xm, gm) := ⟨_, rfl⟩
  rw [← hL0] at hP hD
  refine lJi (pc := 891) (L := L0) (wc := cW [(qo, .inl (cJ, 1, .inr (.inl f)))] ad wd cI cB cP cT (x, y, g)) (Wd := (fun w : cS × (Nat → Int64) => cW [(qo, .inl (cJ, 1, .inr (.inl w.2)))] ad wd cI cB cP cT w.1)) hA hP hD hS (lS (L := L0) [.ref (ad 0 0), .int (xs (iv + 1).toNatClampNeg), .int (xs (iv + 2).toNatClampNeg), .ref qo] hFl (kL_result x y g f (xs (iv + 1).toNatClampNeg) (xs (iv + 2).toNatClampNeg) kc ks hlf h) (cwZ_L_result hts ⟨Nat.le_of_ble_eq_true rfl, Nat.le_of_ble_eq_true rfl⟩) hP hD hS rfl rfl hl.1 (Nat.le_of_ble_eq_true rfl) dL_law_891 ⟨by show _ ≤ (601024 : Nat); (try dsimp only); omega, by show _ ≤ (7293034 : Nat); (try dsimp only); omega⟩) (fun r0 u H locs h hP hD hS => ?_)
  rw [hL0] at hP hD
  obtain ⟨⟨x1, y1, g1⟩, f1⟩ := u
  have hP : va_P D vwCl (mW [] om adm cIm cZ (xm, gm) ++ cW [(qo, .inl (cJ, 1, .inr (.inl f1)))] ad wd cI cB cP cT (x1, y1, g1)) H := hP
  have hD : va_D A (mW [] om adm cIm cZ (xm, gm) ++ cW [(qo, .inl (cJ, 1, .inr (.inl f1)))] ad wd cI cB cP cT (x1, y1, g1)) := hD
  refine lv_istore (pc := 894) (lv' := [(5, .int r0), (0, .ref b), (1, .ref (ad 0 0)), (2, .ref om), (3, .ref qo), (4, .int iv)]) hx hb dL_law_894 hl (by decide) rfl (fun ls hl => ?_)
  refine lv_aload_n (pc := 896) hx hb dL_law_896 rfl (lv_at hl 3 rfl) ?_
  refine lv_aload_n (pc := 897) hx hb dL_law_897 rfl (lv_at hl 1 rfl) ?_
  refine lv_iload (pc := 898) hx hb dL_law_898 (lv_at hl 5 rfl) ?_
  refine lv_iconst (pc := 900) (v := 1) hx hb dL_law_900 (by decide) ?_
  refine lv_iadd (pc := 901) hx hb dL_law_901 ?_
  refine va_sld (pc := 902) hx hb hX hbl hbA hS hi1 dL_law_902 ?_
  refine lv_aload_n (pc := 903) hx hb dL_law_903 rfl (lv_at hl 1 rfl) ?_
  refine lv_iload (pc := 904) hx hb dL_law_904 (lv_at hl 5 rfl) ?_
  refine lv_iconst (pc := 906) (v := 2) hx hb dL_law_906 (by decide) ?_
  refine lv_iadd (pc := 907) hx hb dL_law_907 ?_
  refine va_sld (pc := 908) hx hb hX hbl hbA hS hi2 dL_law_908 ?_
  have hP := zpermP List.perm_append_comm hP
  have hD := zpermD List.perm_append_comm hD
  obtain ⟨L1, hL1⟩ : ∃ L : va_W, L = cW [(qo, .inl (cJ, 1, .inr (.inl f1)))] ad wd cI cB cP cT (x1, y1, g1) := ⟨_, rfl⟩
  rw [← hL1] at hP hD
  refine lJi (pc := 909) (L := L1) (wc := mW [] om adm cIm cZ (xm, gm)) (Wd := (mW [] om adm cIm cZ)) hA hP hD hS (lV (L := L1) [.int (xs (iv + 1).toNatClampNeg), .int (xs (iv + 2).toNatClampNeg)] hFm (kX9_result xm gm (xs (iv + 1).toNatClampNeg) (xs (iv + 2).toNatClampNeg) h) (cwZ_X9_result hts ⟨Nat.le_of_ble_eq_true rfl, Nat.le_of_ble_eq_true rfl⟩) (lRv (L := L1) hK hP (ci := 12) (q0 := 0) rfl rfl) hP hD hS rfl rfl hl.1 (Nat.le_of_ble_eq_true rfl) dL_law_909 ⟨by show _ ≤ (601024 : Nat); (try dsimp only); omega, by show _ ≤ (7293034 : Nat); (try dsimp only); omega⟩) (fun r1 u H locs h hP hD hS => ?_)
  rw [hL1] at hP hD
  obtain ⟨xm1, gm1⟩ := u
  have hP : va_P D vwCl (cW [(qo, .inl (cJ, 1, .inr (.inl f1)))] ad wd cI cB cP cT (x1, y1, g1) ++ mW [] om adm cIm cZ (xm1, gm1)) H := hP
  have hD : va_D A (cW [(qo, .inl (cJ, 1, .inr (.inl f1)))] ad wd cI cB cP cT (x1, y1, g1) ++ mW [] om adm cIm cZ (xm1, gm1)) := hD
  refine lv_istore (pc := 912) (lv' := [(6, .int r1), (5, .int r0), (0, .ref b), (1, .ref (ad 0 0)), (2, .ref om), (3, .ref qo), (4, .int iv)]) hx hb dL_law_912 hl (by decide) rfl (fun ls hl => ?_)
  refine lv_aload_n (pc := 914) hx hb dL_law_914 rfl (lv_at hl 4 rfl) ?_
  obtain ⟨L2, hL2⟩ : ∃ L : va_W, L = cW [(qo, .inl (cJ, 1, .inr (.inl f1)))] ad wd cI cB cP cT (x1, y1, g1) := ⟨_, rfl⟩
  rw [← hL2] at hP hD
  refine lJi (pc := 915) (L := L2) (wc := mW [] om adm cIm cZ (xm1, gm1)) (Wd := (mW [] om adm cIm cZ)) hA hP hD hS (lV (L := L2) [] hFm (kX9_thrown xm1 gm1 h) (cwZ_X9_thrown hts ⟨Nat.le_of_ble_eq_true rfl, Nat.le_of_ble_eq_true rfl⟩) (lRv (L := L2) hK hP (ci := 12) (q0 := 0) rfl rfl) hP hD hS rfl rfl hl.1 (Nat.le_of_ble_eq_true rfl) dL_law_915 ⟨by show _ ≤ (601024 : Nat); (try dsimp only); omega, by show _ ≤ (7293034 : Nat); (try dsimp only); omega⟩) (fun r2 u H locs h hP hD hS => ?_)
  rw [hL2] at hP hD
  obtain ⟨rfl, h⟩ := h
  have hP : va_P D vwCl (cW [(qo, .inl (cJ, 1, .inr (.inl f1)))] ad wd cI cB cP cT (x1, y1, g1) ++ mW [] om adm cIm cZ (xm1, gm1)) H := hP
  have hD : va_D A (cW [(qo, .inl (cJ, 1, .inr (.inl f1)))] ad wd cI cB cP cT (x1, y1, g1) ++ mW [] om adm cIm cZ (xm1, gm1)) := hD
  have hP := zpermP List.perm_append_comm hP
  have hD := zpermD List.perm_append_comm hD
  refine lv_iload (pc := 918) hx hb dL_law_918 (lv_at hl 1 rfl) ?_
  refine lv_icmp_eq (pc := 920) (tgt := 925) hx hb dL_law_920 (by decide) (fun c9 => ?_) (fun c9 => absurd h.1 c9)
  refine lv_iload (pc := 925) hx hb dL_law_925 (lv_at hl 1 rfl) ?_
  refine lv_if_ne (pc := 927) (tgt := 942) hx hb dL_law_927 (by decide) (fun c9 => ?_) (fun c9 => ?_)
  · refine lv_goto (pc := 942) (tgt := 1350) hx hb dL_law_942 (by decide) ?_
    exact hend x1 y1 g1 f1 xm1 gm1 bc2 bs2 _ _ H locs ls h.2.2 (by (try dsimp only); omega) (by (try dsimp only); omega) hP hD hS (lv_sub hl [2, 3, 4, 5, 6] rfl)
  · refine lv_aload_n (pc := 930) hx hb dL_law_930 rfl (lv_at hl 5 rfl) ?_
    refine lv_iconst (pc := 931) (v := 0) hx hb dL_law_931 (by decide) ?_
    refine va_lald (pc := 932) (i := 0) hx hb hK (zrightP hP) 56 4 (lA ..) rfl (vp_in_iff.mpr (by decide)) dL_law_932 ?_
    refine lv_iload (pc := 933) hx hb dL_law_933 (lv_at hl 0 rfl) ?_
    refine lv_i2l (pc := 935) hx hb dL_law_935 rfl ?_
    refine W.lcmp (pc := 936) hx hb dL_law_936 ?_
    refine lv_if_eq (pc := 937) (tgt := 942) hx hb dL_law_937 (by decide) (fun c8 => ?_) (fun c8 => absurd (lgc0 (h.2.1 c9)) c8)
    refine lv_goto (pc := 942) (tgt := 1350) hx hb dL_law_942 (by decide) ?_
    exact hend x1 y1 g1 f1 xm1 gm1 bc2 bs2 _ _ H locs ls h.2.2 (by (try dsimp only); omega) (by (try dsimp only); omega) hP hD hS (lv_sub hl [2, 3, 4, 5, 6] rfl)

set_option maxRecDepth 100000 in
set_option maxHeartbeats 1000000 in
theorem klc17 {iv : Int32} (hlf : l.stackTraces = false) (hF : lwF p s m args c A D wd sk cI cB cP cT cJ cIm cZ b L xs) (hi1 : vp_in (iv + 1) L) (hi2 : vp_in (iv + 2) L) (x : Nat → Nat → Int32) (y : Nat → Nat → Nat) (g : Nat → Nat → Nat → Int32) (f : Nat → Int64) (xm : Nat → Int32) (gm : Nat → Nat → Int32) (bc bs : Nat) {K : (Nat → Nat → Int32) → (Nat → Nat → Nat) → (Nat → Nat → Nat → Int32) → (Nat → Int64) → (Nat → Int32) → (Nat → Nat → Int32) → Nat → Nat → Prop} (h : wlc17 x y g f xm gm (xs (iv + 1).toNatClampNeg) (xs (iv + 2).toNatClampNeg) bc bs K) (hb1 : cells + bc ≤ 601024) (hb2 : slots + bs ≤ 7293034) (hP : va_P D vwCl (lw2 ad wd cI cB cP cT cJ cIm cZ qo om adm x y g f xm gm) H) (hD : va_D A (lw2 ad wd cI cB cP cT cJ cIm cZ qo om adm x y g f xm gm)) (hS : va_S A s.heap H locs) (hl : lv_has ls 7 [(0, .ref b), (1, .ref (ad 0 0)), (2, .ref om), (3, .ref qo), (4, .int iv)])
  (hend : ∀ (x1 : Nat → Nat → Int32) (y1 : Nat → Nat → Nat) (g1 : Nat → Nat → Nat → Int32) (f1 : Nat → Int64) (xm1 : Nat → Int32) (gm1 : Nat → Nat → Int32) (bc2 bs2 k1 n1 : Nat) (H1 : Heap) (locs1 : List Loc) (ls1 : Array Slot), K x1 y1 g1 f1 xm1 gm1 bc2 bs2 → k1 + bc2 ≤ 601024 → n1 + bs2 ≤ 7293034 → va_P D vwCl (lw2 ad wd cI cB cP cT cJ cIm cZ qo om adm x1 y1 g1 f1 xm1 gm1) H1 → va_D A (lw2 ad wd cI cB cP cT cJ cIm cZ qo om adm x1 y1 g1 f1 xm1 gm1) → va_S A s.heap H1 locs1 → lv_has ls1 7 [(0, .ref b), (1, .ref (ad 0 0)), (2, .ref om), (3, .ref qo), (4, .int iv)] → W p l e room_1 s m args below meth c H1 locs1 k1 n1 Q (F0 m 1350 ls1 [])) : W p l e room_1 s m args below meth c H locs cells slots Q (F0 m 945 ls []) := by
  obtain ⟨hFl, hFm, hX, hbl, hbA⟩ := hF
  have hFc : zFx p s m args c cL_law RL A D (cTy cI cB cP cT) (cX wd sk) 7 := ⟨hFl.1, hFl.2.1, hFl.2.2.1, hFl.2.2.2.1, hFl.2.2.2.2.1, hFl.2.2.2.2.2.1, hFl.2.2.2.2.2.2.1.sub [0, 1, 2, 3] rfl, cX_cl wd sk, hFl.2.2.2.2.2.2.2.2.1⟩
  have hx := hFl.1
  have hb := hFl.2.1
  have hts := hFl.2.2.2.2.1
  have hA := hFl.2.2.2.2.2.1
  have hK := hFl.2.2.2.2.2.2.1
  unfold wlc17 at h
  unfold lw2 at hP hD
  refine lv_aload_n (pc := 945) hx hb dL_law_945 rfl (lv_at hl 1 rfl) ?_
  refine lv_aload_n (pc := 946) hx hb dL_law_946 rfl (lv_at hl 0 rfl) ?_
  refine lv_iload (pc := 947) hx hb dL_law_947 (lv_at hl 4 rfl) ?_
  refine lv_iconst (pc := 949) (v := 1) hx hb dL_law_949 (by decide) ?_
  refine lv_iadd (pc := 950) hx hb dL_law_950 ?_
  refine va_sld (pc := 951) hx hb hX hbl hbA hS hi1 dL_law_951 ?_
  refine lv_aload_n (pc := 952) hx hb dL_law_952 rfl (lv_at hl 0 rfl) ?_
  refine lv_iload (pc := 953) hx hb dL_law_953 (lv_at hl 4 rfl) ?_
  refine lv_iconst (pc := 955) (v := 2) hx hb dL_law_955 (by decide) ?_
  refine lv_iadd (pc := 956) hx hb dL_law_956 ?_
  refine va_sld (pc := 957) hx hb hX hbl hbA hS hi2 dL_law_957 ?_
  refine lv_aload_n (pc := 958) hx hb dL_law_958 rfl (lv_at hl 3 rfl) ?_
  obtain ⟨kc, ks, bc2, bs2, eC, eS, h⟩ := h
  obtain ⟨L0, hL0⟩ : ∃ L : va_W, L = mW [] om adm cIm cZ (xm, gm) := ⟨_, rfl⟩
  rw [← hL0] at hP hD
  refine lJi (pc := 959) (L := L0) (wc := cW [(qo, .inl (cJ, 1, .inr (.inl f)))] ad wd cI cB cP cT (x, y, g)) (Wd := (fun w : cS × (Nat → Int64) => cW [(qo, .inl (cJ, 1, .inr (.inl w.2)))] ad wd cI cB cP cT w.1)) hA hP hD hS (lS (L := L0) [.ref (ad 0 0), .int (xs (iv + 1).toNatClampNeg), .int (xs (iv + 2).toNatClampNeg), .ref qo] hFl (kL_total x y g f (xs (iv + 1).toNatClampNeg) (xs (iv + 2).toNatClampNeg) kc ks hlf h) (cwZ_L_total hts ⟨Nat.le_of_ble_eq_true rfl, Nat.le_of_ble_eq_true rfl⟩) hP hD hS rfl rfl hl.1 (Nat.le_of_ble_eq_true rfl) dL_law_959 ⟨by show _ ≤ (601024 : Nat); (try dsimp only); omega, by show _ ≤ (7293034 : Nat); (try dsimp only); omega⟩) (fun r0 u H locs h hP hD hS => ?_)
  rw [hL0] at hP hD
  obtain ⟨⟨x1, y1, g1⟩, f1⟩ := u
  have hP : va_P D vwCl (mW [] om adm cIm cZ (xm, gm) ++ cW [(qo, .inl (cJ, 1, .inr (.inl f1)))] ad wd cI cB cP cT (x1, y1, g1)) H := hP
  have hD : va_D A (mW [] om adm cIm cZ (xm, gm) ++ cW [(qo, .inl (cJ, 1, .inr (.inl f1)))] ad wd cI cB cP cT (x1, y1, g1)) := hD
  refine lv_istore (pc := 962) (lv' := [(5, .int r0), (0, .ref b), (1, .ref (ad 0 0)), (2, .ref om), (3, .ref qo), (4, .int iv)]) hx hb dL_law_962 hl (by decide) rfl (fun ls hl => ?_)
  refine lv_aload_n (pc := 964) hx hb dL_law_964 rfl (lv_at hl 3 rfl) ?_
  refine lv_aload_n (pc := 965) hx hb dL_law_965 rfl (lv_at hl 1 rfl) ?_
  refine lv_iload (pc := 966) hx hb dL_law_966 (lv_at hl 5 rfl) ?_
  refine lv_iconst (pc := 968) (v := 1) hx hb dL_law_968 (by decide) ?_
  refine lv_iadd (pc := 969) hx hb dL_law_969 ?_
  refine va_sld (pc := 970) hx hb hX hbl hbA hS hi1 dL_law_970 ?_
  refine lv_aload_n (pc := 971) hx hb dL_law_971 rfl (lv_at hl 1 rfl) ?_
  refine lv_iload (pc := 972) hx hb dL_law_972 (lv_at hl 5 rfl) ?_
  refine lv_iconst (pc := 974) (v := 2) hx hb dL_law_974 (by decide) ?_
  refine lv_iadd (pc := 975) hx hb dL_law_975 ?_
  refine va_sld (pc := 976) hx hb hX hbl hbA hS hi2 dL_law_976 ?_
  have hP := zpermP List.perm_append_comm hP
  have hD := zpermD List.perm_append_comm hD
  obtain ⟨L1, hL1⟩ : ∃ L : va_W, L = cW [(qo, .inl (cJ, 1, .inr (.inl f1)))] ad wd cI cB cP cT (x1, y1, g1) := ⟨_, rfl⟩
  rw [← hL1] at hP hD
  refine lJi (pc := 977) (L := L1) (wc := mW [] om adm cIm cZ (xm, gm)) (Wd := (mW [] om adm cIm cZ)) hA hP hD hS (lV (L := L1) [.int (xs (iv + 1).toNatClampNeg), .int (xs (iv + 2).toNatClampNeg)] hFm (kX9_total xm gm (xs (iv + 1).toNatClampNeg) (xs (iv + 2).toNatClampNeg) h) (cwZ_X9_total hts ⟨Nat.le_of_ble_eq_true rfl, Nat.le_of_ble_eq_true rfl⟩) (lRv (L := L1) hK hP (ci := 12) (q0 := 0) rfl rfl) hP hD hS rfl rfl hl.1 (Nat.le_of_ble_eq_true rfl) dL_law_977 ⟨by show _ ≤ (601024 : Nat); (try dsimp only); omega, by show _ ≤ (7293034 : Nat); (try dsimp only); omega⟩) (fun r1 u H locs h hP hD hS => ?_)
  rw [hL1] at hP hD
  obtain ⟨xm1, gm1⟩ := u
  have hP : va_P D vwCl (cW [(qo, .inl (cJ, 1, .inr (.inl f1)))] ad wd cI cB cP cT (x1, y1, g1) ++ mW [] om adm cIm cZ (xm1, gm1)) H := hP
  have hD : va_D A (cW [(qo, .inl (cJ, 1, .inr (.inl f1)))] ad wd cI cB cP cT (x1, y1, g1) ++ mW [] om adm cIm cZ (xm1, gm1)) := hD
  refine lv_istore (pc := 980) (lv' := [(6, .int r1), (5, .int r0), (0, .ref b), (1, .ref (ad 0 0)), (2, .ref om), (3, .ref qo), (4, .int iv)]) hx hb dL_law_980 hl (by decide) rfl (fun ls hl => ?_)
  refine lv_aload_n (pc := 982) hx hb dL_law_982 rfl (lv_at hl 4 rfl) ?_
  obtain ⟨L2, hL2⟩ : ∃ L : va_W, L = cW [(qo, .inl (cJ, 1, .inr (.inl f1)))] ad wd cI cB cP cT (x1, y1, g1) := ⟨_, rfl⟩
  rw [← hL2] at hP hD
  refine lJi (pc := 983) (L := L2) (wc := mW [] om adm cIm cZ (xm1, gm1)) (Wd := (mW [] om adm cIm cZ)) hA hP hD hS (lV (L := L2) [] hFm (kX9_thrown xm1 gm1 h) (cwZ_X9_thrown hts ⟨Nat.le_of_ble_eq_true rfl, Nat.le_of_ble_eq_true rfl⟩) (lRv (L := L2) hK hP (ci := 12) (q0 := 0) rfl rfl) hP hD hS rfl rfl hl.1 (Nat.le_of_ble_eq_true rfl) dL_law_983 ⟨by show _ ≤ (601024 : Nat); (try dsimp only); omega, by show _ ≤ (7293034 : Nat); (try dsimp only); omega⟩) (fun r2 u H locs h hP hD hS => ?_)
  rw [hL2] at hP hD
  obtain ⟨rfl, h⟩ := h
  have hP : va_P D vwCl (cW [(qo, .inl (cJ, 1, .inr (.inl f1)))] ad wd cI cB cP cT (x1, y1, g1) ++ mW [] om adm cIm cZ (xm1, gm1)) H := hP
  have hD : va_D A (cW [(qo, .inl (cJ, 1, .inr (.inl f1)))] ad wd cI cB cP cT (x1, y1, g1) ++ mW [] om adm cIm cZ (xm1, gm1)) := hD
  have hP := zpermP List.perm_append_comm hP
  have hD := zpermD List.perm_append_comm hD
  refine lv_iload (pc := 986) hx hb dL_law_986 (lv_at hl 1 rfl) ?_
  refine lv_icmp_eq (pc := 988) (tgt := 993) hx hb dL_law_988 (by decide) (fun c9 => ?_) (fun c9 => absurd h.1 c9)
  refine lv_iload (pc := 993) hx hb dL_law_993 (lv_at hl 1 rfl) ?_
  refine lv_if_ne (pc := 995) (tgt := 1010) hx hb dL_law_995 (by decide) (fun c9 => ?_) (fun c9 => ?_)
  · refine lv_goto (pc := 1010) (tgt := 1350) hx hb dL_law_1010 (by decide) ?_
    exact hend x1 y1 g1 f1 xm1 gm1 bc2 bs2 _ _ H locs ls h.2.2 (by (try dsimp only); omega) (by (try dsimp only); omega) hP hD hS (lv_sub hl [2, 3, 4, 5, 6] rfl)
  · refine lv_aload_n (pc := 998) hx hb dL_law_998 rfl (lv_at hl 5 rfl) ?_
    refine lv_iconst (pc := 999) (v := 0) hx hb dL_law_999 (by decide) ?_
    refine va_lald (pc := 1000) (i := 0) hx hb hK (zrightP hP) 56 4 (lA ..) rfl (vp_in_iff.mpr (by decide)) dL_law_1000 ?_
    refine lv_iload (pc := 1001) hx hb dL_law_1001 (lv_at hl 0 rfl) ?_
    refine lv_i2l (pc := 1003) hx hb dL_law_1003 rfl ?_
    refine W.lcmp (pc := 1004) hx hb dL_law_1004 ?_
    refine lv_if_eq (pc := 1005) (tgt := 1010) hx hb dL_law_1005 (by decide) (fun c8 => ?_) (fun c8 => absurd (lgc0 (h.2.1 c9)) c8)
    refine lv_goto (pc := 1010) (tgt := 1350) hx hb dL_law_1010 (by decide) ?_
    exact hend x1 y1 g1 f1 xm1 gm1 bc2 bs2 _ _ H locs ls h.2.2 (by (try dsimp only); omega) (by (try dsimp only); omega) hP hD hS (lv_sub hl [2, 3, 4, 5, 6] rfl)

set_option maxRecDepth 100000 in
set_option maxHeartbeats 1000000 in
theorem klc18 {iv : Int32} (hlf : l.stackTraces = false) (hF : lwF p s m args c A D wd sk cI cB cP cT cJ cIm cZ b L xs) (hi1 : vp_in (iv + 1) L) (hi2 : vp_in (iv + 2) L) (x : Nat → Nat → Int32) (y : Nat → Nat → Nat) (g : Nat → Nat → Nat → Int32) (f : Nat → Int64) (xm : Nat → Int32) (gm : Nat → Nat → Int32) (bc bs : Nat) {K : (Nat → Nat → Int32) → (Nat → Nat → Nat) → (Nat → Nat → Nat → Int32) → (Nat → Int64) → (Nat → Int32) → (Nat → Nat → Int32) → Nat → Nat → Prop} (h : wlc18 x y g f xm gm (xs (iv + 1).toNatClampNeg) (xs (iv + 2).toNatClampNeg) bc bs K) (hb1 : cells + bc ≤ 601024) (hb2 : slots + bs ≤ 7293034) (hP : va_P D vwCl (lw2 ad wd cI cB cP cT cJ cIm cZ qo om adm x y g f xm gm) H) (hD : va_D A (lw2 ad wd cI cB cP cT cJ cIm cZ qo om adm x y g f xm gm)) (hS : va_S A s.heap H locs) (hl : lv_has ls 7 [(0, .ref b), (1, .ref (ad 0 0)), (2, .ref om), (3, .ref qo), (4, .int iv)])
  (hend : ∀ (x1 : Nat → Nat → Int32) (y1 : Nat → Nat → Nat) (g1 : Nat → Nat → Nat → Int32) (f1 : Nat → Int64) (xm1 : Nat → Int32) (gm1 : Nat → Nat → Int32) (bc2 bs2 k1 n1 : Nat) (H1 : Heap) (locs1 : List Loc) (ls1 : Array Slot), K x1 y1 g1 f1 xm1 gm1 bc2 bs2 → k1 + bc2 ≤ 601024 → n1 + bs2 ≤ 7293034 → va_P D vwCl (lw2 ad wd cI cB cP cT cJ cIm cZ qo om adm x1 y1 g1 f1 xm1 gm1) H1 → va_D A (lw2 ad wd cI cB cP cT cJ cIm cZ qo om adm x1 y1 g1 f1 xm1 gm1) → va_S A s.heap H1 locs1 → lv_has ls1 7 [(0, .ref b), (1, .ref (ad 0 0)), (2, .ref om), (3, .ref qo), (4, .int iv)] → W p l e room_1 s m args below meth c H1 locs1 k1 n1 Q (F0 m 1350 ls1 [])) : W p l e room_1 s m args below meth c H locs cells slots Q (F0 m 1013 ls []) := by
  obtain ⟨hFl, hFm, hX, hbl, hbA⟩ := hF
  have hFc : zFx p s m args c cL_law RL A D (cTy cI cB cP cT) (cX wd sk) 7 := ⟨hFl.1, hFl.2.1, hFl.2.2.1, hFl.2.2.2.1, hFl.2.2.2.2.1, hFl.2.2.2.2.2.1, hFl.2.2.2.2.2.2.1.sub [0, 1, 2, 3] rfl, cX_cl wd sk, hFl.2.2.2.2.2.2.2.2.1⟩
  have hx := hFl.1
  have hb := hFl.2.1
  have hts := hFl.2.2.2.2.1
  have hA := hFl.2.2.2.2.2.1
  have hK := hFl.2.2.2.2.2.2.1
  unfold wlc18 at h
  unfold lw2 at hP hD
  refine lv_aload_n (pc := 1013) hx hb dL_law_1013 rfl (lv_at hl 1 rfl) ?_
  refine lv_aload_n (pc := 1014) hx hb dL_law_1014 rfl (lv_at hl 0 rfl) ?_
  refine lv_iload (pc := 1015) hx hb dL_law_1015 (lv_at hl 4 rfl) ?_
  refine lv_iconst (pc := 1017) (v := 1) hx hb dL_law_1017 (by decide) ?_
  refine lv_iadd (pc := 1018) hx hb dL_law_1018 ?_
  refine va_sld (pc := 1019) hx hb hX hbl hbA hS hi1 dL_law_1019 ?_
  refine lv_aload_n (pc := 1020) hx hb dL_law_1020 rfl (lv_at hl 0 rfl) ?_
  refine lv_iload (pc := 1021) hx hb dL_law_1021 (lv_at hl 4 rfl) ?_
  refine lv_iconst (pc := 1023) (v := 2) hx hb dL_law_1023 (by decide) ?_
  refine lv_iadd (pc := 1024) hx hb dL_law_1024 ?_
  refine va_sld (pc := 1025) hx hb hX hbl hbA hS hi2 dL_law_1025 ?_
  refine lv_aload_n (pc := 1026) hx hb dL_law_1026 rfl (lv_at hl 3 rfl) ?_
  obtain ⟨kc, ks, bc2, bs2, eC, eS, h⟩ := h
  obtain ⟨L0, hL0⟩ : ∃ L : va_W, L = mW [] om adm cIm cZ (xm, gm) := ⟨_, rfl⟩
  rw [← hL0] at hP hD
  refine lJi (pc := 1027) (L := L0) (wc := cW [(qo, .inl (cJ, 1, .inr (.inl f)))] ad wd cI cB cP cT (x, y, g)) (Wd := (fun w : cS × (Nat → Int64) => cW [(qo, .inl (cJ, 1, .inr (.inl w.2)))] ad wd cI cB cP cT w.1)) hA hP hD hS (lS (L := L0) [.ref (ad 0 0), .int (xs (iv + 1).toNatClampNeg), .int (xs (iv + 2).toNatClampNeg), .ref qo] hFl (kL_totalAnew x y g f (xs (iv + 1).toNatClampNeg) (xs (iv + 2).toNatClampNeg) kc ks hlf h) (cwZ_L_totalAnew hts ⟨Nat.le_of_ble_eq_true rfl, Nat.le_of_ble_eq_true rfl⟩) hP hD hS rfl rfl hl.1 (Nat.le_of_ble_eq_true rfl) dL_law_1027 ⟨by show _ ≤ (601024 : Nat); (try dsimp only); omega, by show _ ≤ (7293034 : Nat); (try dsimp only); omega⟩) (fun r0 u H locs h hP hD hS => ?_)
  rw [hL0] at hP hD
  obtain ⟨⟨x1, y1, g1⟩, f1⟩ := u
  have hP : va_P D vwCl (mW [] om adm cIm cZ (xm, gm) ++ cW [(qo, .inl (cJ, 1, .inr (.inl f1)))] ad wd cI cB cP cT (x1, y1, g1)) H := hP
  have hD : va_D A (mW [] om adm cIm cZ (xm, gm) ++ cW [(qo, .inl (cJ, 1, .inr (.inl f1)))] ad wd cI cB cP cT (x1, y1, g1)) := hD
  refine lv_istore (pc := 1030) (lv' := [(5, .int r0), (0, .ref b), (1, .ref (ad 0 0)), (2, .ref om), (3, .ref qo), (4, .int iv)]) hx hb dL_law_1030 hl (by decide) rfl (fun ls hl => ?_)
  refine lv_aload_n (pc := 1032) hx hb dL_law_1032 rfl (lv_at hl 3 rfl) ?_
  refine lv_aload_n (pc := 1033) hx hb dL_law_1033 rfl (lv_at hl 1 rfl) ?_
  refine lv_iload (pc := 1034) hx hb dL_law_1034 (lv_at hl 5 rfl) ?_
  refine lv_iconst (pc := 1036) (v := 1) hx hb dL_law_1036 (by decide) ?_
  refine lv_iadd (pc := 1037) hx hb dL_law_1037 ?_
  refine va_sld (pc := 1038) hx hb hX hbl hbA hS hi1 dL_law_1038 ?_
  refine lv_aload_n (pc := 1039) hx hb dL_law_1039 rfl (lv_at hl 1 rfl) ?_
  refine lv_iload (pc := 1040) hx hb dL_law_1040 (lv_at hl 5 rfl) ?_
  refine lv_iconst (pc := 1042) (v := 2) hx hb dL_law_1042 (by decide) ?_
  refine lv_iadd (pc := 1043) hx hb dL_law_1043 ?_
  refine va_sld (pc := 1044) hx hb hX hbl hbA hS hi2 dL_law_1044 ?_
  have hP := zpermP List.perm_append_comm hP
  have hD := zpermD List.perm_append_comm hD
  obtain ⟨L1, hL1⟩ : ∃ L : va_W, L = cW [(qo, .inl (cJ, 1, .inr (.inl f1)))] ad wd cI cB cP cT (x1, y1, g1) := ⟨_, rfl⟩
  rw [← hL1] at hP hD
  refine lJi (pc := 1045) (L := L1) (wc := mW [] om adm cIm cZ (xm, gm)) (Wd := (mW [] om adm cIm cZ)) hA hP hD hS (lV (L := L1) [.int (xs (iv + 1).toNatClampNeg), .int (xs (iv + 2).toNatClampNeg)] hFm (kX9_totalAnew xm gm (xs (iv + 1).toNatClampNeg) (xs (iv + 2).toNatClampNeg) h) (cwZ_X9_totalAnew hts ⟨Nat.le_of_ble_eq_true rfl, Nat.le_of_ble_eq_true rfl⟩) (lRv (L := L1) hK hP (ci := 12) (q0 := 0) rfl rfl) hP hD hS rfl rfl hl.1 (Nat.le_of_ble_eq_true rfl) dL_law_1045 ⟨by show _ ≤ (601024 : Nat); (try dsimp only); omega, by show _ ≤ (7293034 : Nat); (try dsimp only); omega⟩) (fun r1 u H locs h hP hD hS => ?_)
  rw [hL1] at hP hD
  obtain ⟨xm1, gm1⟩ := u
  have hP : va_P D vwCl (cW [(qo, .inl (cJ, 1, .inr (.inl f1)))] ad wd cI cB cP cT (x1, y1, g1) ++ mW [] om adm cIm cZ (xm1, gm1)) H := hP
  have hD : va_D A (cW [(qo, .inl (cJ, 1, .inr (.inl f1)))] ad wd cI cB cP cT (x1, y1, g1) ++ mW [] om adm cIm cZ (xm1, gm1)) := hD
  refine lv_istore (pc := 1048) (lv' := [(6, .int r1), (5, .int r0), (0, .ref b), (1, .ref (ad 0 0)), (2, .ref om), (3, .ref qo), (4, .int iv)]) hx hb dL_law_1048 hl (by decide) rfl (fun ls hl => ?_)
  refine lv_aload_n (pc := 1050) hx hb dL_law_1050 rfl (lv_at hl 4 rfl) ?_
  obtain ⟨L2, hL2⟩ : ∃ L : va_W, L = cW [(qo, .inl (cJ, 1, .inr (.inl f1)))] ad wd cI cB cP cT (x1, y1, g1) := ⟨_, rfl⟩
  rw [← hL2] at hP hD
  refine lJi (pc := 1051) (L := L2) (wc := mW [] om adm cIm cZ (xm1, gm1)) (Wd := (mW [] om adm cIm cZ)) hA hP hD hS (lV (L := L2) [] hFm (kX9_thrown xm1 gm1 h) (cwZ_X9_thrown hts ⟨Nat.le_of_ble_eq_true rfl, Nat.le_of_ble_eq_true rfl⟩) (lRv (L := L2) hK hP (ci := 12) (q0 := 0) rfl rfl) hP hD hS rfl rfl hl.1 (Nat.le_of_ble_eq_true rfl) dL_law_1051 ⟨by show _ ≤ (601024 : Nat); (try dsimp only); omega, by show _ ≤ (7293034 : Nat); (try dsimp only); omega⟩) (fun r2 u H locs h hP hD hS => ?_)
  rw [hL2] at hP hD
  obtain ⟨rfl, h⟩ := h
  have hP : va_P D vwCl (cW [(qo, .inl (cJ, 1, .inr (.inl f1)))] ad wd cI cB cP cT (x1, y1, g1) ++ mW [] om adm cIm cZ (xm1, gm1)) H := hP
  have hD : va_D A (cW [(qo, .inl (cJ, 1, .inr (.inl f1)))] ad wd cI cB cP cT (x1, y1, g1) ++ mW [] om adm cIm cZ (xm1, gm1)) := hD
  have hP := zpermP List.perm_append_comm hP
  have hD := zpermD List.perm_append_comm hD
  refine lv_iload (pc := 1054) hx hb dL_law_1054 (lv_at hl 1 rfl) ?_
  refine lv_icmp_eq (pc := 1056) (tgt := 1061) hx hb dL_law_1056 (by decide) (fun c9 => ?_) (fun c9 => absurd h.1 c9)
  refine lv_iload (pc := 1061) hx hb dL_law_1061 (lv_at hl 1 rfl) ?_
  refine lv_if_ne (pc := 1063) (tgt := 1078) hx hb dL_law_1063 (by decide) (fun c9 => ?_) (fun c9 => ?_)
  · refine lv_goto (pc := 1078) (tgt := 1350) hx hb dL_law_1078 (by decide) ?_
    exact hend x1 y1 g1 f1 xm1 gm1 bc2 bs2 _ _ H locs ls h.2.2 (by (try dsimp only); omega) (by (try dsimp only); omega) hP hD hS (lv_sub hl [2, 3, 4, 5, 6] rfl)
  · refine lv_aload_n (pc := 1066) hx hb dL_law_1066 rfl (lv_at hl 5 rfl) ?_
    refine lv_iconst (pc := 1067) (v := 0) hx hb dL_law_1067 (by decide) ?_
    refine va_lald (pc := 1068) (i := 0) hx hb hK (zrightP hP) 56 4 (lA ..) rfl (vp_in_iff.mpr (by decide)) dL_law_1068 ?_
    refine lv_iload (pc := 1069) hx hb dL_law_1069 (lv_at hl 0 rfl) ?_
    refine lv_i2l (pc := 1071) hx hb dL_law_1071 rfl ?_
    refine W.lcmp (pc := 1072) hx hb dL_law_1072 ?_
    refine lv_if_eq (pc := 1073) (tgt := 1078) hx hb dL_law_1073 (by decide) (fun c8 => ?_) (fun c8 => absurd (lgc0 (h.2.1 c9)) c8)
    refine lv_goto (pc := 1078) (tgt := 1350) hx hb dL_law_1078 (by decide) ?_
    exact hend x1 y1 g1 f1 xm1 gm1 bc2 bs2 _ _ H locs ls h.2.2 (by (try dsimp only); omega) (by (try dsimp only); omega) hP hD hS (lv_sub hl [2, 3, 4, 5, 6] rfl)

set_option maxRecDepth 100000 in
set_option maxHeartbeats 1000000 in
theorem klc19 {iv : Int32} (hlf : l.stackTraces = false) (hF : lwF p s m args c A D wd sk cI cB cP cT cJ cIm cZ b L xs) (x : Nat → Nat → Int32) (y : Nat → Nat → Nat) (g : Nat → Nat → Nat → Int32) (f : Nat → Int64) (xm : Nat → Int32) (gm : Nat → Nat → Int32) (bc bs : Nat) {K : (Nat → Nat → Int32) → (Nat → Nat → Nat) → (Nat → Nat → Nat → Int32) → (Nat → Int64) → (Nat → Int32) → (Nat → Nat → Int32) → Nat → Nat → Prop} (h : wlc19 x y g f xm gm bc bs K) (hb1 : cells + bc ≤ 601024) (hb2 : slots + bs ≤ 7293034) (hP : va_P D vwCl (lw2 ad wd cI cB cP cT cJ cIm cZ qo om adm x y g f xm gm) H) (hD : va_D A (lw2 ad wd cI cB cP cT cJ cIm cZ qo om adm x y g f xm gm)) (hS : va_S A s.heap H locs) (hl : lv_has ls 7 [(0, .ref b), (1, .ref (ad 0 0)), (2, .ref om), (3, .ref qo), (4, .int iv)])
  (hend : ∀ (x1 : Nat → Nat → Int32) (y1 : Nat → Nat → Nat) (g1 : Nat → Nat → Nat → Int32) (f1 : Nat → Int64) (xm1 : Nat → Int32) (gm1 : Nat → Nat → Int32) (bc2 bs2 k1 n1 : Nat) (H1 : Heap) (locs1 : List Loc) (ls1 : Array Slot), K x1 y1 g1 f1 xm1 gm1 bc2 bs2 → k1 + bc2 ≤ 601024 → n1 + bs2 ≤ 7293034 → va_P D vwCl (lw2 ad wd cI cB cP cT cJ cIm cZ qo om adm x1 y1 g1 f1 xm1 gm1) H1 → va_D A (lw2 ad wd cI cB cP cT cJ cIm cZ qo om adm x1 y1 g1 f1 xm1 gm1) → va_S A s.heap H1 locs1 → lv_has ls1 7 [(0, .ref b), (1, .ref (ad 0 0)), (2, .ref om), (3, .ref qo), (4, .int iv)] → W p l e room_1 s m args below meth c H1 locs1 k1 n1 Q (F0 m 1350 ls1 [])) : W p l e room_1 s m args below meth c H locs cells slots Q (F0 m 1081 ls []) := by
  obtain ⟨hFl, hFm, hX, hbl, hbA⟩ := hF
  have hFc : zFx p s m args c cL_law RL A D (cTy cI cB cP cT) (cX wd sk) 7 := ⟨hFl.1, hFl.2.1, hFl.2.2.1, hFl.2.2.2.1, hFl.2.2.2.2.1, hFl.2.2.2.2.2.1, hFl.2.2.2.2.2.2.1.sub [0, 1, 2, 3] rfl, cX_cl wd sk, hFl.2.2.2.2.2.2.2.2.1⟩
  have hx := hFl.1
  have hb := hFl.2.1
  have hts := hFl.2.2.2.2.1
  have hA := hFl.2.2.2.2.2.1
  have hK := hFl.2.2.2.2.2.2.1
  unfold wlc19 at h
  unfold lw2 at hP hD
  refine lv_aload_n (pc := 1081) hx hb dL_law_1081 rfl (lv_at hl 1 rfl) ?_
  refine lv_aload_n (pc := 1082) hx hb dL_law_1082 rfl (lv_at hl 3 rfl) ?_
  obtain ⟨kc, ks, bc2, bs2, eC, eS, h⟩ := h
  obtain ⟨L0, hL0⟩ : ∃ L : va_W, L = mW [] om adm cIm cZ (xm, gm) := ⟨_, rfl⟩
  rw [← hL0] at hP hD
  refine lJi (pc := 1083) (L := L0) (wc := cW [(qo, .inl (cJ, 1, .inr (.inl f)))] ad wd cI cB cP cT (x, y, g)) (Wd := (fun w : cS × (Nat → Int64) => cW [(qo, .inl (cJ, 1, .inr (.inl w.2)))] ad wd cI cB cP cT w.1)) hA hP hD hS (lS (L := L0) [.ref (ad 0 0), .ref qo] hFl (kL_barrier x y g f kc ks hlf h) (cwZ_L_barrier hts ⟨Nat.le_of_ble_eq_true rfl, Nat.le_of_ble_eq_true rfl⟩) hP hD hS rfl rfl hl.1 (Nat.le_of_ble_eq_true rfl) dL_law_1083 ⟨by show _ ≤ (601024 : Nat); (try dsimp only); omega, by show _ ≤ (7293034 : Nat); (try dsimp only); omega⟩) (fun r0 u H locs h hP hD hS => ?_)
  rw [hL0] at hP hD
  obtain ⟨⟨x1, y1, g1⟩, f1⟩ := u
  have hP : va_P D vwCl (mW [] om adm cIm cZ (xm, gm) ++ cW [(qo, .inl (cJ, 1, .inr (.inl f1)))] ad wd cI cB cP cT (x1, y1, g1)) H := hP
  have hD : va_D A (mW [] om adm cIm cZ (xm, gm) ++ cW [(qo, .inl (cJ, 1, .inr (.inl f1)))] ad wd cI cB cP cT (x1, y1, g1)) := hD
  refine lv_istore (pc := 1086) (lv' := [(5, .int r0), (0, .ref b), (1, .ref (ad 0 0)), (2, .ref om), (3, .ref qo), (4, .int iv)]) hx hb dL_law_1086 hl (by decide) rfl (fun ls hl => ?_)
  refine lv_aload_n (pc := 1088) hx hb dL_law_1088 rfl (lv_at hl 3 rfl) ?_
  have hP := zpermP List.perm_append_comm hP
  have hD := zpermD List.perm_append_comm hD
  obtain ⟨L1, hL1⟩ : ∃ L : va_W, L = cW [(qo, .inl (cJ, 1, .inr (.inl f1)))] ad wd cI cB cP cT (x1, y1, g1) := ⟨_, rfl⟩
  rw [← hL1] at hP hD
  refine lJi (pc := 1089) (L := L1) (wc := mW [] om adm cIm cZ (xm, gm)) (Wd := (mW [] om adm cIm cZ)) hA hP hD hS (lV (L := L1) [] hFm (kX9_barrier xm gm h) (cwZ_X9_barrier hts ⟨Nat.le_of_ble_eq_true rfl, Nat.le_of_ble_eq_true rfl⟩) (lRv (L := L1) hK hP (ci := 12) (q0 := 0) rfl rfl) hP hD hS rfl rfl hl.1 (Nat.le_of_ble_eq_true rfl) dL_law_1089 ⟨by show _ ≤ (601024 : Nat); (try dsimp only); omega, by show _ ≤ (7293034 : Nat); (try dsimp only); omega⟩) (fun r1 u H locs h hP hD hS => ?_)
  rw [hL1] at hP hD
  obtain ⟨xm1, gm1⟩ := u
  have hP : va_P D vwCl (cW [(qo, .inl (cJ, 1, .inr (.inl f1)))] ad wd cI cB cP cT (x1, y1, g1) ++ mW [] om adm cIm cZ (xm1, gm1)) H := hP
  have hD : va_D A (cW [(qo, .inl (cJ, 1, .inr (.inl f1)))] ad wd cI cB cP cT (x1, y1, g1) ++ mW [] om adm cIm cZ (xm1, gm1)) := hD
  refine lv_istore (pc := 1092) (lv' := [(6, .int r1), (5, .int r0), (0, .ref b), (1, .ref (ad 0 0)), (2, .ref om), (3, .ref qo), (4, .int iv)]) hx hb dL_law_1092 hl (by decide) rfl (fun ls hl => ?_)
  refine lv_aload_n (pc := 1094) hx hb dL_law_1094 rfl (lv_at hl 4 rfl) ?_
  obtain ⟨L2, hL2⟩ : ∃ L : va_W, L = cW [(qo, .inl (cJ, 1, .inr (.inl f1)))] ad wd cI cB cP cT (x1, y1, g1) := ⟨_, rfl⟩
  rw [← hL2] at hP hD
  refine lJi (pc := 1095) (L := L2) (wc := mW [] om adm cIm cZ (xm1, gm1)) (Wd := (mW [] om adm cIm cZ)) hA hP hD hS (lV (L := L2) [] hFm (kX9_thrown xm1 gm1 h) (cwZ_X9_thrown hts ⟨Nat.le_of_ble_eq_true rfl, Nat.le_of_ble_eq_true rfl⟩) (lRv (L := L2) hK hP (ci := 12) (q0 := 0) rfl rfl) hP hD hS rfl rfl hl.1 (Nat.le_of_ble_eq_true rfl) dL_law_1095 ⟨by show _ ≤ (601024 : Nat); (try dsimp only); omega, by show _ ≤ (7293034 : Nat); (try dsimp only); omega⟩) (fun r2 u H locs h hP hD hS => ?_)
  rw [hL2] at hP hD
  obtain ⟨rfl, h⟩ := h
  have hP : va_P D vwCl (cW [(qo, .inl (cJ, 1, .inr (.inl f1)))] ad wd cI cB cP cT (x1, y1, g1) ++ mW [] om adm cIm cZ (xm1, gm1)) H := hP
  have hD : va_D A (cW [(qo, .inl (cJ, 1, .inr (.inl f1)))] ad wd cI cB cP cT (x1, y1, g1) ++ mW [] om adm cIm cZ (xm1, gm1)) := hD
  have hP := zpermP List.perm_append_comm hP
  have hD := zpermD List.perm_append_comm hD
  refine lv_iload (pc := 1098) hx hb dL_law_1098 (lv_at hl 1 rfl) ?_
  refine lv_icmp_eq (pc := 1100) (tgt := 1105) hx hb dL_law_1100 (by decide) (fun c9 => ?_) (fun c9 => absurd h.1 c9)
  refine lv_iload (pc := 1105) hx hb dL_law_1105 (lv_at hl 1 rfl) ?_
  refine lv_if_ne (pc := 1107) (tgt := 1122) hx hb dL_law_1107 (by decide) (fun c9 => ?_) (fun c9 => ?_)
  · refine lv_goto (pc := 1122) (tgt := 1350) hx hb dL_law_1122 (by decide) ?_
    exact hend x1 y1 g1 f1 xm1 gm1 bc2 bs2 _ _ H locs ls h.2.2 (by (try dsimp only); omega) (by (try dsimp only); omega) hP hD hS (lv_sub hl [2, 3, 4, 5, 6] rfl)
  · refine lv_aload_n (pc := 1110) hx hb dL_law_1110 rfl (lv_at hl 5 rfl) ?_
    refine lv_iconst (pc := 1111) (v := 0) hx hb dL_law_1111 (by decide) ?_
    refine va_lald (pc := 1112) (i := 0) hx hb hK (zrightP hP) 56 4 (lA ..) rfl (vp_in_iff.mpr (by decide)) dL_law_1112 ?_
    refine lv_iload (pc := 1113) hx hb dL_law_1113 (lv_at hl 0 rfl) ?_
    refine lv_i2l (pc := 1115) hx hb dL_law_1115 rfl ?_
    refine W.lcmp (pc := 1116) hx hb dL_law_1116 ?_
    refine lv_if_eq (pc := 1117) (tgt := 1122) hx hb dL_law_1117 (by decide) (fun c8 => ?_) (fun c8 => absurd (lgc0 (h.2.1 c9)) c8)
    refine lv_goto (pc := 1122) (tgt := 1350) hx hb dL_law_1122 (by decide) ?_
    exact hend x1 y1 g1 f1 xm1 gm1 bc2 bs2 _ _ H locs ls h.2.2 (by (try dsimp only); omega) (by (try dsimp only); omega) hP hD hS (lv_sub hl [2, 3, 4, 5, 6] rfl)

set_option maxRecDepth 100000 in
set_option maxHeartbeats 1000000 in
theorem klc20 {iv : Int32} (hlf : l.stackTraces = false) (hF : lwF p s m args c A D wd sk cI cB cP cT cJ cIm cZ b L xs) (hi1 : vp_in (iv + 1) L) (x : Nat → Nat → Int32) (y : Nat → Nat → Nat) (g : Nat → Nat → Nat → Int32) (f : Nat → Int64) (xm : Nat → Int32) (gm : Nat → Nat → Int32) (bc bs : Nat) {K : (Nat → Nat → Int32) → (Nat → Nat → Nat) → (Nat → Nat → Nat → Int32) → (Nat → Int64) → (Nat → Int32) → (Nat → Nat → Int32) → Nat → Nat → Prop} (h : wlc20 x y g f xm gm (xs (iv + 1).toNatClampNeg) bc bs K) (hb1 : cells + bc ≤ 601024) (hb2 : slots + bs ≤ 7293034) (hP : va_P D vwCl (lw2 ad wd cI cB cP cT cJ cIm cZ qo om adm x y g f xm gm) H) (hD : va_D A (lw2 ad wd cI cB cP cT cJ cIm cZ qo om adm x y g f xm gm)) (hS : va_S A s.heap H locs) (hl : lv_has ls 7 [(0, .ref b), (1, .ref (ad 0 0)), (2, .ref om), (3, .ref qo), (4, .int iv)])
  (hend : ∀ (x1 : Nat → Nat → Int32) (y1 : Nat → Nat → Nat) (g1 : Nat → Nat → Nat → Int32) (f1 : Nat → Int64) (xm1 : Nat → Int32) (gm1 : Nat → Nat → Int32) (bc2 bs2 k1 n1 : Nat) (H1 : Heap) (locs1 : List Loc) (ls1 : Array Slot), K x1 y1 g1 f1 xm1 gm1 bc2 bs2 → k1 + bc2 ≤ 601024 → n1 + bs2 ≤ 7293034 → va_P D vwCl (lw2 ad wd cI cB cP cT cJ cIm cZ qo om adm x1 y1 g1 f1 xm1 gm1) H1 → va_D A (lw2 ad wd cI cB cP cT cJ cIm cZ qo om adm x1 y1 g1 f1 xm1 gm1) → va_S A s.heap H1 locs1 → lv_has ls1 7 [(0, .ref b), (1, .ref (ad 0 0)), (2, .ref om), (3, .ref qo), (4, .int iv)] → W p l e room_1 s m args below meth c H1 locs1 k1 n1 Q (F0 m 1350 ls1 [])) : W p l e room_1 s m args below meth c H locs cells slots Q (F0 m 1125 ls []) := by
  obtain ⟨hFl, hFm, hX, hbl, hbA⟩ := hF
  have hFc : zFx p s m args c cL_law RL A D (cTy cI cB cP cT) (cX wd sk) 7 := ⟨hFl.1, hFl.2.1, hFl.2.2.1, hFl.2.2.2.1, hFl.2.2.2.2.1, hFl.2.2.2.2.2.1, hFl.2.2.2.2.2.2.1.sub [0, 1, 2, 3] rfl, cX_cl wd sk, hFl.2.2.2.2.2.2.2.2.1⟩
  have hx := hFl.1
  have hb := hFl.2.1
  have hts := hFl.2.2.2.2.1
  have hA := hFl.2.2.2.2.2.1
  have hK := hFl.2.2.2.2.2.2.1
  unfold wlc20 at h
  unfold lw2 at hP hD
  refine lv_aload_n (pc := 1125) hx hb dL_law_1125 rfl (lv_at hl 1 rfl) ?_
  refine lv_aload_n (pc := 1126) hx hb dL_law_1126 rfl (lv_at hl 0 rfl) ?_
  refine lv_iload (pc := 1127) hx hb dL_law_1127 (lv_at hl 4 rfl) ?_
  refine lv_iconst (pc := 1129) (v := 1) hx hb dL_law_1129 (by decide) ?_
  refine lv_iadd (pc := 1130) hx hb dL_law_1130 ?_
  refine va_sld (pc := 1131) hx hb hX hbl hbA hS hi1 dL_law_1131 ?_
  refine lv_aload_n (pc := 1132) hx hb dL_law_1132 rfl (lv_at hl 3 rfl) ?_
  obtain ⟨kc, ks, bc2, bs2, eC, eS, h⟩ := h
  obtain ⟨L0, hL0⟩ : ∃ L : va_W, L = mW [] om adm cIm cZ (xm, gm) := ⟨_, rfl⟩
  rw [← hL0] at hP hD
  refine lJi (pc := 1133) (L := L0) (wc := cW [(qo, .inl (cJ, 1, .inr (.inl f)))] ad wd cI cB cP cT (x, y, g)) (Wd := (fun w : cS × (Nat → Int64) => cW [(qo, .inl (cJ, 1, .inr (.inl w.2)))] ad wd cI cB cP cT w.1)) hA hP hD hS (lS (L := L0) [.ref (ad 0 0), .int (xs (iv + 1).toNatClampNeg), .ref qo] hFl (kL_complete x y g f (xs (iv + 1).toNatClampNeg) kc ks hlf h) (cwZ_L_complete hts ⟨Nat.le_of_ble_eq_true rfl, Nat.le_of_ble_eq_true rfl⟩) hP hD hS rfl rfl hl.1 (Nat.le_of_ble_eq_true rfl) dL_law_1133 ⟨by show _ ≤ (601024 : Nat); (try dsimp only); omega, by show _ ≤ (7293034 : Nat); (try dsimp only); omega⟩) (fun r0 u H locs h hP hD hS => ?_)
  rw [hL0] at hP hD
  obtain ⟨⟨x1, y1, g1⟩, f1⟩ := u
  have hP : va_P D vwCl (mW [] om adm cIm cZ (xm, gm) ++ cW [(qo, .inl (cJ, 1, .inr (.inl f1)))] ad wd cI cB cP cT (x1, y1, g1)) H := hP
  have hD : va_D A (mW [] om adm cIm cZ (xm, gm) ++ cW [(qo, .inl (cJ, 1, .inr (.inl f1)))] ad wd cI cB cP cT (x1, y1, g1)) := hD
  refine lv_istore (pc := 1136) (lv' := [(5, .int r0), (0, .ref b), (1, .ref (ad 0 0)), (2, .ref om), (3, .ref qo), (4, .int iv)]) hx hb dL_law_1136 hl (by decide) rfl (fun ls hl => ?_)
  refine lv_aload_n (pc := 1138) hx hb dL_law_1138 rfl (lv_at hl 3 rfl) ?_
  refine lv_aload_n (pc := 1139) hx hb dL_law_1139 rfl (lv_at hl 1 rfl) ?_
  refine lv_iload (pc := 1140) hx hb dL_law_1140 (lv_at hl 5 rfl) ?_
  refine lv_iconst (pc := 1142) (v := 1) hx hb dL_law_1142 (by decide) ?_
  refine lv_iadd (pc := 1143) hx hb dL_law_1143 ?_
  refine va_sld (pc := 1144) hx hb hX hbl hbA hS hi1 dL_law_1144 ?_
  have hP := zpermP List.perm_append_comm hP
  have hD := zpermD List.perm_append_comm hD
  obtain ⟨L1, hL1⟩ : ∃ L : va_W, L = cW [(qo, .inl (cJ, 1, .inr (.inl f1)))] ad wd cI cB cP cT (x1, y1, g1) := ⟨_, rfl⟩
  rw [← hL1] at hP hD
  refine lJi (pc := 1145) (L := L1) (wc := mW [] om adm cIm cZ (xm, gm)) (Wd := (mW [] om adm cIm cZ)) hA hP hD hS (lV (L := L1) [.int (xs (iv + 1).toNatClampNeg)] hFm (kX9_complete xm gm (xs (iv + 1).toNatClampNeg) h) (cwZ_X9_complete hts ⟨Nat.le_of_ble_eq_true rfl, Nat.le_of_ble_eq_true rfl⟩) (lRv (L := L1) hK hP (ci := 12) (q0 := 0) rfl rfl) hP hD hS rfl rfl hl.1 (Nat.le_of_ble_eq_true rfl) dL_law_1145 ⟨by show _ ≤ (601024 : Nat); (try dsimp only); omega, by show _ ≤ (7293034 : Nat); (try dsimp only); omega⟩) (fun r1 u H locs h hP hD hS => ?_)
  rw [hL1] at hP hD
  obtain ⟨xm1, gm1⟩ := u
  have hP : va_P D vwCl (cW [(qo, .inl (cJ, 1, .inr (.inl f1)))] ad wd cI cB cP cT (x1, y1, g1) ++ mW [] om adm cIm cZ (xm1, gm1)) H := hP
  have hD : va_D A (cW [(qo, .inl (cJ, 1, .inr (.inl f1)))] ad wd cI cB cP cT (x1, y1, g1) ++ mW [] om adm cIm cZ (xm1, gm1)) := hD
  refine lv_istore (pc := 1148) (lv' := [(6, .int r1), (5, .int r0), (0, .ref b), (1, .ref (ad 0 0)), (2, .ref om), (3, .ref qo), (4, .int iv)]) hx hb dL_law_1148 hl (by decide) rfl (fun ls hl => ?_)
  refine lv_aload_n (pc := 1150) hx hb dL_law_1150 rfl (lv_at hl 4 rfl) ?_
  obtain ⟨L2, hL2⟩ : ∃ L : va_W, L = cW [(qo, .inl (cJ, 1, .inr (.inl f1)))] ad wd cI cB cP cT (x1, y1, g1) := ⟨_, rfl⟩
  rw [← hL2] at hP hD
  refine lJi (pc := 1151) (L := L2) (wc := mW [] om adm cIm cZ (xm1, gm1)) (Wd := (mW [] om adm cIm cZ)) hA hP hD hS (lV (L := L2) [] hFm (kX9_thrown xm1 gm1 h) (cwZ_X9_thrown hts ⟨Nat.le_of_ble_eq_true rfl, Nat.le_of_ble_eq_true rfl⟩) (lRv (L := L2) hK hP (ci := 12) (q0 := 0) rfl rfl) hP hD hS rfl rfl hl.1 (Nat.le_of_ble_eq_true rfl) dL_law_1151 ⟨by show _ ≤ (601024 : Nat); (try dsimp only); omega, by show _ ≤ (7293034 : Nat); (try dsimp only); omega⟩) (fun r2 u H locs h hP hD hS => ?_)
  rw [hL2] at hP hD
  obtain ⟨rfl, h⟩ := h
  have hP : va_P D vwCl (cW [(qo, .inl (cJ, 1, .inr (.inl f1)))] ad wd cI cB cP cT (x1, y1, g1) ++ mW [] om adm cIm cZ (xm1, gm1)) H := hP
  have hD : va_D A (cW [(qo, .inl (cJ, 1, .inr (.inl f1)))] ad wd cI cB cP cT (x1, y1, g1) ++ mW [] om adm cIm cZ (xm1, gm1)) := hD
  have hP := zpermP List.perm_append_comm hP
  have hD := zpermD List.perm_append_comm hD
  refine lv_iload (pc := 1154) hx hb dL_law_1154 (lv_at hl 1 rfl) ?_
  refine lv_icmp_eq (pc := 1156) (tgt := 1161) hx hb dL_law_1156 (by decide) (fun c9 => ?_) (fun c9 => absurd h.1 c9)
  refine lv_iload (pc := 1161) hx hb dL_law_1161 (lv_at hl 1 rfl) ?_
  refine lv_if_ne (pc := 1163) (tgt := 1178) hx hb dL_law_1163 (by decide) (fun c9 => ?_) (fun c9 => ?_)
  · refine lv_goto (pc := 1178) (tgt := 1350) hx hb dL_law_1178 (by decide) ?_
    exact hend x1 y1 g1 f1 xm1 gm1 bc2 bs2 _ _ H locs ls h.2.2 (by (try dsimp only); omega) (by (try dsimp only); omega) hP hD hS (lv_sub hl [2, 3, 4, 5, 6] rfl)
  · refine lv_aload_n (pc := 1166) hx hb dL_law_1166 rfl (lv_at hl 5 rfl) ?_
    refine lv_iconst (pc := 1167) (v := 0) hx hb dL_law_1167 (by decide) ?_
    refine va_lald (pc := 1168) (i := 0) hx hb hK (zrightP hP) 56 4 (lA ..) rfl (vp_in_iff.mpr (by decide)) dL_law_1168 ?_
    refine lv_iload (pc := 1169) hx hb dL_law_1169 (lv_at hl 0 rfl) ?_
    refine lv_i2l (pc := 1171) hx hb dL_law_1171 rfl ?_
    refine W.lcmp (pc := 1172) hx hb dL_law_1172 ?_
    refine lv_if_eq (pc := 1173) (tgt := 1178) hx hb dL_law_1173 (by decide) (fun c8 => ?_) (fun c8 => absurd (lgc0 (h.2.1 c9)) c8)
    refine lv_goto (pc := 1178) (tgt := 1350) hx hb dL_law_1178 (by decide) ?_
    exact hend x1 y1 g1 f1 xm1 gm1 bc2 bs2 _ _ H locs ls h.2.2 (by (try dsimp only); omega) (by (try dsimp only); omega) hP hD hS (lv_sub hl [2, 3, 4, 5, 6] rfl)

set_option maxRecDepth 100000 in
set_option maxHeartbeats 1000000 in
theorem klc21 {iv : Int32} (hlf : l.stackTraces = false) (hF : lwF p s m args c A D wd sk cI cB cP cT cJ cIm cZ b L xs) (x : Nat → Nat → Int32) (y : Nat → Nat → Nat) (g : Nat → Nat → Nat → Int32) (f : Nat → Int64) (xm : Nat → Int32) (gm : Nat → Nat → Int32) (bc bs : Nat) {K : (Nat → Nat → Int32) → (Nat → Nat → Nat) → (Nat → Nat → Nat → Int32) → (Nat → Int64) → (Nat → Int32) → (Nat → Nat → Int32) → Nat → Nat → Prop} (h : wlc21 x y g f xm gm bc bs K) (hb1 : cells + bc ≤ 601024) (hb2 : slots + bs ≤ 7293034) (hP : va_P D vwCl (lw2 ad wd cI cB cP cT cJ cIm cZ qo om adm x y g f xm gm) H) (hD : va_D A (lw2 ad wd cI cB cP cT cJ cIm cZ qo om adm x y g f xm gm)) (hS : va_S A s.heap H locs) (hl : lv_has ls 7 [(0, .ref b), (1, .ref (ad 0 0)), (2, .ref om), (3, .ref qo), (4, .int iv)])
  (hend : ∀ (x1 : Nat → Nat → Int32) (y1 : Nat → Nat → Nat) (g1 : Nat → Nat → Nat → Int32) (f1 : Nat → Int64) (xm1 : Nat → Int32) (gm1 : Nat → Nat → Int32) (bc2 bs2 k1 n1 : Nat) (H1 : Heap) (locs1 : List Loc) (ls1 : Array Slot), K x1 y1 g1 f1 xm1 gm1 bc2 bs2 → k1 + bc2 ≤ 601024 → n1 + bs2 ≤ 7293034 → va_P D vwCl (lw2 ad wd cI cB cP cT cJ cIm cZ qo om adm x1 y1 g1 f1 xm1 gm1) H1 → va_D A (lw2 ad wd cI cB cP cT cJ cIm cZ qo om adm x1 y1 g1 f1 xm1 gm1) → va_S A s.heap H1 locs1 → lv_has ls1 7 [(0, .ref b), (1, .ref (ad 0 0)), (2, .ref om), (3, .ref qo), (4, .int iv)] → W p l e room_1 s m args below meth c H1 locs1 k1 n1 Q (F0 m 1350 ls1 [])) : W p l e room_1 s m args below meth c H locs cells slots Q (F0 m 1181 ls []) := by
  obtain ⟨hFl, hFm, hX, hbl, hbA⟩ := hF
  have hFc : zFx p s m args c cL_law RL A D (cTy cI cB cP cT) (cX wd sk) 7 := ⟨hFl.1, hFl.2.1, hFl.2.2.1, hFl.2.2.2.1, hFl.2.2.2.2.1, hFl.2.2.2.2.2.1, hFl.2.2.2.2.2.2.1.sub [0, 1, 2, 3] rfl, cX_cl wd sk, hFl.2.2.2.2.2.2.2.2.1⟩
  have hx := hFl.1
  have hb := hFl.2.1
  have hts := hFl.2.2.2.2.1
  have hA := hFl.2.2.2.2.2.1
  have hK := hFl.2.2.2.2.2.2.1
  unfold wlc21 at h
  unfold lw2 at hP hD
  refine lv_aload_n (pc := 1181) hx hb dL_law_1181 rfl (lv_at hl 1 rfl) ?_
  obtain ⟨L0, hL0⟩ : ∃ L : va_W, L = mW [] om adm cIm cZ (xm, gm) := ⟨_, rfl⟩
  rw [← hL0] at hP hD
  refine lJi (pc := 1182) (L := L0) (wc := cW [(qo, .inl (cJ, 1, .inr (.inl f)))] ad wd cI cB cP cT (x, y, g)) (Wd := (cW [(qo, .inl (cJ, 1, .inr (.inl f)))] ad wd cI cB cP cT)) hA hP hD hS (lV (L := L0) [] hFc (kX8_doubtful x y g h) (cwZ_X8_doubtful hts ⟨Nat.le_of_ble_eq_true rfl, Nat.le_of_ble_eq_true rfl⟩) (lRv (L := L0) hK hP (ci := 11) (q0 := 0) rfl rfl) hP hD hS rfl rfl hl.1 (Nat.le_of_ble_eq_true rfl) dL_law_1182 ⟨by show _ ≤ (601024 : Nat); (try dsimp only); omega, by show _ ≤ (7293034 : Nat); (try dsimp only); omega⟩) (fun r0 u H locs h hP hD hS => ?_)
  rw [hL0] at hP hD
  obtain ⟨rfl, h⟩ := h
  have hP : va_P D vwCl (mW [] om adm cIm cZ (xm, gm) ++ cW [(qo, .inl (cJ, 1, .inr (.inl f)))] ad wd cI cB cP cT (x, y, g)) H := hP
  have hD : va_D A (mW [] om adm cIm cZ (xm, gm) ++ cW [(qo, .inl (cJ, 1, .inr (.inl f)))] ad wd cI cB cP cT (x, y, g)) := hD
  refine lv_aload_n (pc := 1185) hx hb dL_law_1185 rfl (lv_at hl 2 rfl) ?_
  have hP := zpermP List.perm_append_comm hP
  have hD := zpermD List.perm_append_comm hD
  obtain ⟨L1, hL1⟩ : ∃ L : va_W, L = cW [(qo, .inl (cJ, 1, .inr (.inl f)))] ad wd cI cB cP cT (x, y, g) := ⟨_, rfl⟩
  rw [← hL1] at hP hD
  refine lJi (pc := 1186) (L := L1) (wc := mW [] om adm cIm cZ (xm, gm)) (Wd := (mW [] om adm cIm cZ)) hA hP hD hS (lV (L := L1) [] hFm (kX9_doubtful xm gm h) (cwZ_X9_doubtful hts ⟨Nat.le_of_ble_eq_true rfl, Nat.le_of_ble_eq_true rfl⟩) (lRv (L := L1) hK hP (ci := 12) (q0 := 0) rfl rfl) hP hD hS rfl rfl hl.1 (Nat.le_of_ble_eq_true rfl) dL_law_1186 ⟨by show _ ≤ (601024 : Nat); (try dsimp only); omega, by show _ ≤ (7293034 : Nat); (try dsimp only); omega⟩) (fun r1 u H locs h hP hD hS => ?_)
  rw [hL1] at hP hD
  obtain ⟨xm1, gm1⟩ := u
  have hP : va_P D vwCl (cW [(qo, .inl (cJ, 1, .inr (.inl f)))] ad wd cI cB cP cT (x, y, g) ++ mW [] om adm cIm cZ (xm1, gm1)) H := hP
  have hD : va_D A (cW [(qo, .inl (cJ, 1, .inr (.inl f)))] ad wd cI cB cP cT (x, y, g) ++ mW [] om adm cIm cZ (xm1, gm1)) := hD
  have hP := zpermP List.perm_append_comm hP
  have hD := zpermD List.perm_append_comm hD
  refine lv_icmp_eq (pc := 1189) (tgt := 1350) hx hb dL_law_1189 (by decide) (fun c9 => ?_) (fun c9 => absurd h.1 c9)
  exact hend x y g f xm1 gm1 bc bs _ _ H locs ls h.2 (by (try dsimp only); omega) (by (try dsimp only); omega) hP hD hS (lv_sub hl [0, 1, 2, 3, 4] rfl)

set_option maxRecDepth 100000 in
set_option maxHeartbeats 1000000 in
theorem klc22 {iv : Int32} (hlf : l.stackTraces = false) (hF : lwF p s m args c A D wd sk cI cB cP cT cJ cIm cZ b L xs) (x : Nat → Nat → Int32) (y : Nat → Nat → Nat) (g : Nat → Nat → Nat → Int32) (f : Nat → Int64) (xm : Nat → Int32) (gm : Nat → Nat → Int32) (bc bs : Nat) {K : (Nat → Nat → Int32) → (Nat → Nat → Nat) → (Nat → Nat → Nat → Int32) → (Nat → Int64) → (Nat → Int32) → (Nat → Nat → Int32) → Nat → Nat → Prop} (h : wlc22 x y g f xm gm bc bs K) (hb1 : cells + bc ≤ 601024) (hb2 : slots + bs ≤ 7293034) (hP : va_P D vwCl (lw2 ad wd cI cB cP cT cJ cIm cZ qo om adm x y g f xm gm) H) (hD : va_D A (lw2 ad wd cI cB cP cT cJ cIm cZ qo om adm x y g f xm gm)) (hS : va_S A s.heap H locs) (hl : lv_has ls 7 [(0, .ref b), (1, .ref (ad 0 0)), (2, .ref om), (3, .ref qo), (4, .int iv)])
  (hend : ∀ (x1 : Nat → Nat → Int32) (y1 : Nat → Nat → Nat) (g1 : Nat → Nat → Nat → Int32) (f1 : Nat → Int64) (xm1 : Nat → Int32) (gm1 : Nat → Nat → Int32) (bc2 bs2 k1 n1 : Nat) (H1 : Heap) (locs1 : List Loc) (ls1 : Array Slot), K x1 y1 g1 f1 xm1 gm1 bc2 bs2 → k1 + bc2 ≤ 601024 → n1 + bs2 ≤ 7293034 → va_P D vwCl (lw2 ad wd cI cB cP cT cJ cIm cZ qo om adm x1 y1 g1 f1 xm1 gm1) H1 → va_D A (lw2 ad wd cI cB cP cT cJ cIm cZ qo om adm x1 y1 g1 f1 xm1 gm1) → va_S A s.heap H1 locs1 → lv_has ls1 7 [(0, .ref b), (1, .ref (ad 0 0)), (2, .ref om), (3, .ref qo), (4, .int iv)] → W p l e room_1 s m args below meth c H1 locs1 k1 n1 Q (F0 m 1350 ls1 [])) : W p l e room_1 s m args below meth c H locs cells slots Q (F0 m 1194 ls []) := by
  obtain ⟨hFl, hFm, hX, hbl, hbA⟩ := hF
  have hFc : zFx p s m args c cL_law RL A D (cTy cI cB cP cT) (cX wd sk) 7 := ⟨hFl.1, hFl.2.1, hFl.2.2.1, hFl.2.2.2.1, hFl.2.2.2.2.1, hFl.2.2.2.2.2.1, hFl.2.2.2.2.2.2.1.sub [0, 1, 2, 3] rfl, cX_cl wd sk, hFl.2.2.2.2.2.2.2.2.1⟩
  have hx := hFl.1
  have hb := hFl.2.1
  have hts := hFl.2.2.2.2.1
  have hA := hFl.2.2.2.2.2.1
  have hK := hFl.2.2.2.2.2.2.1
  unfold wlc22 at h
  unfold lw2 at hP hD
  refine lv_aload_n (pc := 1194) hx hb dL_law_1194 rfl (lv_at hl 1 rfl) ?_
  refine lv_aload_n (pc := 1195) hx hb dL_law_1195 rfl (lv_at hl 3 rfl) ?_
  obtain ⟨kc, ks, bc2, bs2, eC, eS, h⟩ := h
  obtain ⟨L0, hL0⟩ : ∃ L : va_W, L = mW [] om adm cIm cZ (xm, gm) := ⟨_, rfl⟩
  rw [← hL0] at hP hD
  refine lJi (pc := 1196) (L := L0) (wc := cW [(qo, .inl (cJ, 1, .inr (.inl f)))] ad wd cI cB cP cT (x, y, g)) (Wd := (fun w : cS × (Nat → Int64) => cW [(qo, .inl (cJ, 1, .inr (.inl w.2)))] ad wd cI cB cP cT w.1)) hA hP hD hS (lS (L := L0) [.ref (ad 0 0), .ref qo] hFl (kL_crash x y g f kc ks hlf h) (cwZ_L_crash hts ⟨Nat.le_of_ble_eq_true rfl, Nat.le_of_ble_eq_true rfl⟩) hP hD hS rfl rfl hl.1 (Nat.le_of_ble_eq_true rfl) dL_law_1196 ⟨by show _ ≤ (601024 : Nat); (try dsimp only); omega, by show _ ≤ (7293034 : Nat); (try dsimp only); omega⟩) (fun r0 u H locs h hP hD hS => ?_)
  rw [hL0] at hP hD
  obtain ⟨⟨x1, y1, g1⟩, f1⟩ := u
  have hP : va_P D vwCl (mW [] om adm cIm cZ (xm, gm) ++ cW [(qo, .inl (cJ, 1, .inr (.inl f1)))] ad wd cI cB cP cT (x1, y1, g1)) H := hP
  have hD : va_D A (mW [] om adm cIm cZ (xm, gm) ++ cW [(qo, .inl (cJ, 1, .inr (.inl f1)))] ad wd cI cB cP cT (x1, y1, g1)) := hD
  refine lv_istore (pc := 1199) (lv' := [(5, .int r0), (0, .ref b), (1, .ref (ad 0 0)), (2, .ref om), (3, .ref qo), (4, .int iv)]) hx hb dL_law_1199 hl (by decide) rfl (fun ls hl => ?_)
  refine lv_aload_n (pc := 1201) hx hb dL_law_1201 rfl (lv_at hl 3 rfl) ?_
  have hP := zpermP List.perm_append_comm hP
  have hD := zpermD List.perm_append_comm hD
  obtain ⟨L1, hL1⟩ : ∃ L : va_W, L = cW [(qo, .inl (cJ, 1, .inr (.inl f1)))] ad wd cI cB cP cT (x1, y1, g1) := ⟨_, rfl⟩
  rw [← hL1] at hP hD
  refine lJi (pc := 1202) (L := L1) (wc := mW [] om adm cIm cZ (xm, gm)) (Wd := (mW [] om adm cIm cZ)) hA hP hD hS (lV (L := L1) [] hFm (kX9_crash xm gm h) (cwZ_X9_crash hts ⟨Nat.le_of_ble_eq_true rfl, Nat.le_of_ble_eq_true rfl⟩) (lRv (L := L1) hK hP (ci := 12) (q0 := 0) rfl rfl) hP hD hS rfl rfl hl.1 (Nat.le_of_ble_eq_true rfl) dL_law_1202 ⟨by show _ ≤ (601024 : Nat); (try dsimp only); omega, by show _ ≤ (7293034 : Nat); (try dsimp only); omega⟩) (fun r1 u H locs h hP hD hS => ?_)
  rw [hL1] at hP hD
  obtain ⟨xm1, gm1⟩ := u
  have hP : va_P D vwCl (cW [(qo, .inl (cJ, 1, .inr (.inl f1)))] ad wd cI cB cP cT (x1, y1, g1) ++ mW [] om adm cIm cZ (xm1, gm1)) H := hP
  have hD : va_D A (cW [(qo, .inl (cJ, 1, .inr (.inl f1)))] ad wd cI cB cP cT (x1, y1, g1) ++ mW [] om adm cIm cZ (xm1, gm1)) := hD
  refine lv_istore (pc := 1205) (lv' := [(6, .int r1), (5, .int r0), (0, .ref b), (1, .ref (ad 0 0)), (2, .ref om), (3, .ref qo), (4, .int iv)]) hx hb dL_law_1205 hl (by decide) rfl (fun ls hl => ?_)
  refine lv_aload_n (pc := 1207) hx hb dL_law_1207 rfl (lv_at hl 4 rfl) ?_
  obtain ⟨L2, hL2⟩ : ∃ L : va_W, L = cW [(qo, .inl (cJ, 1, .inr (.inl f1)))] ad wd cI cB cP cT (x1, y1, g1) := ⟨_, rfl⟩
  rw [← hL2] at hP hD
  refine lJi (pc := 1208) (L := L2) (wc := mW [] om adm cIm cZ (xm1, gm1)) (Wd := (mW [] om adm cIm cZ)) hA hP hD hS (lV (L := L2) [] hFm (kX9_thrown xm1 gm1 h) (cwZ_X9_thrown hts ⟨Nat.le_of_ble_eq_true rfl, Nat.le_of_ble_eq_true rfl⟩) (lRv (L := L2) hK hP (ci := 12) (q0 := 0) rfl rfl) hP hD hS rfl rfl hl.1 (Nat.le_of_ble_eq_true rfl) dL_law_1208 ⟨by show _ ≤ (601024 : Nat); (try dsimp only); omega, by show _ ≤ (7293034 : Nat); (try dsimp only); omega⟩) (fun r2 u H locs h hP hD hS => ?_)
  rw [hL2] at hP hD
  obtain ⟨rfl, h⟩ := h
  have hP : va_P D vwCl (cW [(qo, .inl (cJ, 1, .inr (.inl f1)))] ad wd cI cB cP cT (x1, y1, g1) ++ mW [] om adm cIm cZ (xm1, gm1)) H := hP
  have hD : va_D A (cW [(qo, .inl (cJ, 1, .inr (.inl f1)))] ad wd cI cB cP cT (x1, y1, g1) ++ mW [] om adm cIm cZ (xm1, gm1)) := hD
  have hP := zpermP List.perm_append_comm hP
  have hD := zpermD List.perm_append_comm hD
  refine lv_iload (pc := 1211) hx hb dL_law_1211 (lv_at hl 1 rfl) ?_
  refine lv_icmp_eq (pc := 1213) (tgt := 1218) hx hb dL_law_1213 (by decide) (fun c9 => ?_) (fun c9 => absurd h.1 c9)
  refine lv_iload (pc := 1218) hx hb dL_law_1218 (lv_at hl 1 rfl) ?_
  refine lv_if_ne (pc := 1220) (tgt := 1235) hx hb dL_law_1220 (by decide) (fun c9 => ?_) (fun c9 => ?_)
  · refine lv_goto (pc := 1235) (tgt := 1350) hx hb dL_law_1235 (by decide) ?_
    exact hend x1 y1 g1 f1 xm1 gm1 bc2 bs2 _ _ H locs ls h.2.2 (by (try dsimp only); omega) (by (try dsimp only); omega) hP hD hS (lv_sub hl [2, 3, 4, 5, 6] rfl)
  · refine lv_aload_n (pc := 1223) hx hb dL_law_1223 rfl (lv_at hl 5 rfl) ?_
    refine lv_iconst (pc := 1224) (v := 0) hx hb dL_law_1224 (by decide) ?_
    refine va_lald (pc := 1225) (i := 0) hx hb hK (zrightP hP) 56 4 (lA ..) rfl (vp_in_iff.mpr (by decide)) dL_law_1225 ?_
    refine lv_iload (pc := 1226) hx hb dL_law_1226 (lv_at hl 0 rfl) ?_
    refine lv_i2l (pc := 1228) hx hb dL_law_1228 rfl ?_
    refine W.lcmp (pc := 1229) hx hb dL_law_1229 ?_
    refine lv_if_eq (pc := 1230) (tgt := 1235) hx hb dL_law_1230 (by decide) (fun c8 => ?_) (fun c8 => absurd (lgc0 (h.2.1 c9)) c8)
    refine lv_goto (pc := 1235) (tgt := 1350) hx hb dL_law_1235 (by decide) ?_
    exact hend x1 y1 g1 f1 xm1 gm1 bc2 bs2 _ _ H locs ls h.2.2 (by (try dsimp only); omega) (by (try dsimp only); omega) hP hD hS (lv_sub hl [2, 3, 4, 5, 6] rfl)

set_option maxRecDepth 100000 in
set_option maxHeartbeats 1000000 in
theorem klc23 {iv : Int32} (hlf : l.stackTraces = false) (hF : lwF p s m args c A D wd sk cI cB cP cT cJ cIm cZ b L xs) (hi1 : vp_in (iv + 1) L) (x : Nat → Nat → Int32) (y : Nat → Nat → Nat) (g : Nat → Nat → Nat → Int32) (f : Nat → Int64) (xm : Nat → Int32) (gm : Nat → Nat → Int32) (bc bs : Nat) {K : (Nat → Nat → Int32) → (Nat → Nat → Nat) → (Nat → Nat → Nat → Int32) → (Nat → Int64) → (Nat → Int32) → (Nat → Nat → Int32) → Nat → Nat → Prop} (h : wlc23 x y g f xm gm (xs (iv + 1).toNatClampNeg) bc bs K) (hb1 : cells + bc ≤ 601024) (hb2 : slots + bs ≤ 7293034) (hP : va_P D vwCl (lw2 ad wd cI cB cP cT cJ cIm cZ qo om adm x y g f xm gm) H) (hD : va_D A (lw2 ad wd cI cB cP cT cJ cIm cZ qo om adm x y g f xm gm)) (hS : va_S A s.heap H locs) (hl : lv_has ls 7 [(0, .ref b), (1, .ref (ad 0 0)), (2, .ref om), (3, .ref qo), (4, .int iv)])
  (hend : ∀ (x1 : Nat → Nat → Int32) (y1 : Nat → Nat → Nat) (g1 : Nat → Nat → Nat → Int32) (f1 : Nat → Int64) (xm1 : Nat → Int32) (gm1 : Nat → Nat → Int32) (bc2 bs2 k1 n1 : Nat) (H1 : Heap) (locs1 : List Loc) (ls1 : Array Slot), K x1 y1 g1 f1 xm1 gm1 bc2 bs2 → k1 + bc2 ≤ 601024 → n1 + bs2 ≤ 7293034 → va_P D vwCl (lw2 ad wd cI cB cP cT cJ cIm cZ qo om adm x1 y1 g1 f1 xm1 gm1) H1 → va_D A (lw2 ad wd cI cB cP cT cJ cIm cZ qo om adm x1 y1 g1 f1 xm1 gm1) → va_S A s.heap H1 locs1 → lv_has ls1 7 [(0, .ref b), (1, .ref (ad 0 0)), (2, .ref om), (3, .ref qo), (4, .int iv)] → W p l e room_1 s m args below meth c H1 locs1 k1 n1 Q (F0 m 1350 ls1 [])) : W p l e room_1 s m args below meth c H locs cells slots Q (F0 m 1238 ls []) := by
  obtain ⟨hFl, hFm, hX, hbl, hbA⟩ := hF
  have hFc : zFx p s m args c cL_law RL A D (cTy cI cB cP cT) (cX wd sk) 7 := ⟨hFl.1, hFl.2.1, hFl.2.2.1, hFl.2.2.2.1, hFl.2.2.2.2.1, hFl.2.2.2.2.2.1, hFl.2.2.2.2.2.2.1.sub [0, 1, 2, 3] rfl, cX_cl wd sk, hFl.2.2.2.2.2.2.2.2.1⟩
  have hx := hFl.1
  have hb := hFl.2.1
  have hts := hFl.2.2.2.2.1
  have hA := hFl.2.2.2.2.2.1
  have hK := hFl.2.2.2.2.2.2.1
  unfold wlc23 at h
  unfold lw2 at hP hD
  refine lv_aload_n (pc := 1238) hx hb dL_law_1238 rfl (lv_at hl 1 rfl) ?_
  refine lv_aload_n (pc := 1239) hx hb dL_law_1239 rfl (lv_at hl 0 rfl) ?_
  refine lv_iload (pc := 1240) hx hb dL_law_1240 (lv_at hl 4 rfl) ?_
  refine lv_iconst (pc := 1242) (v := 1) hx hb dL_law_1242 (by decide) ?_
  refine lv_iadd (pc := 1243) hx hb dL_law_1243 ?_
  refine va_sld (pc := 1244) hx hb hX hbl hbA hS hi1 dL_law_1244 ?_
  refine lv_aload_n (pc := 1245) hx hb dL_law_1245 rfl (lv_at hl 3 rfl) ?_
  obtain ⟨kc, ks, bc2, bs2, eC, eS, h⟩ := h
  obtain ⟨L0, hL0⟩ : ∃ L : va_W, L = mW [] om adm cIm cZ (xm, gm) := ⟨_, rfl⟩
  rw [← hL0] at hP hD
  refine lJi (pc := 1246) (L := L0) (wc := cW [(qo, .inl (cJ, 1, .inr (.inl f)))] ad wd cI cB cP cT (x, y, g)) (Wd := (fun w : cS × (Nat → Int64) => cW [(qo, .inl (cJ, 1, .inr (.inl w.2)))] ad wd cI cB cP cT w.1)) hA hP hD hS (lS (L := L0) [.ref (ad 0 0), .int (xs (iv + 1).toNatClampNeg), .ref qo] hFl (kL_workers x y g f (xs (iv + 1).toNatClampNeg) kc ks hlf h) (cwZ_L_workers hts ⟨Nat.le_of_ble_eq_true rfl, Nat.le_of_ble_eq_true rfl⟩) hP hD hS rfl rfl hl.1 (Nat.le_of_ble_eq_true rfl) dL_law_1246 ⟨by show _ ≤ (601024 : Nat); (try dsimp only); omega, by show _ ≤ (7293034 : Nat); (try dsimp only); omega⟩) (fun r0 u H locs h hP hD hS => ?_)
  rw [hL0] at hP hD
  obtain ⟨⟨x1, y1, g1⟩, f1⟩ := u
  have hP : va_P D vwCl (mW [] om adm cIm cZ (xm, gm) ++ cW [(qo, .inl (cJ, 1, .inr (.inl f1)))] ad wd cI cB cP cT (x1, y1, g1)) H := hP
  have hD : va_D A (mW [] om adm cIm cZ (xm, gm) ++ cW [(qo, .inl (cJ, 1, .inr (.inl f1)))] ad wd cI cB cP cT (x1, y1, g1)) := hD
  refine lv_istore (pc := 1249) (lv' := [(5, .int r0), (0, .ref b), (1, .ref (ad 0 0)), (2, .ref om), (3, .ref qo), (4, .int iv)]) hx hb dL_law_1249 hl (by decide) rfl (fun ls hl => ?_)
  refine lv_aload_n (pc := 1251) hx hb dL_law_1251 rfl (lv_at hl 3 rfl) ?_
  refine lv_aload_n (pc := 1252) hx hb dL_law_1252 rfl (lv_at hl 1 rfl) ?_
  refine lv_iload (pc := 1253) hx hb dL_law_1253 (lv_at hl 5 rfl) ?_
  refine lv_iconst (pc := 1255) (v := 1) hx hb dL_law_1255 (by decide) ?_
  refine lv_iadd (pc := 1256) hx hb dL_law_1256 ?_
  refine va_sld (pc := 1257) hx hb hX hbl hbA hS hi1 dL_law_1257 ?_
  have hP := zpermP List.perm_append_comm hP
  have hD := zpermD List.perm_append_comm hD
  obtain ⟨L1, hL1⟩ : ∃ L : va_W, L = cW [(qo, .inl (cJ, 1, .inr (.inl f1)))] ad wd cI cB cP cT (x1, y1, g1) := ⟨_, rfl⟩
  rw [← hL1] at hP hD
  refine lJi (pc := 1258) (L := L1) (wc := mW [] om adm cIm cZ (xm, gm)) (Wd := (mW [] om adm cIm cZ)) hA hP hD hS (lV (L := L1) [.int (xs (iv + 1).toNatClampNeg)] hFm (kX9_workers xm gm (xs (iv + 1).toNatClampNeg) h) (cwZ_X9_workers hts ⟨Nat.le_of_ble_eq_true rfl, Nat.le_of_ble_eq_true rfl⟩) (lRv (L := L1) hK hP (ci := 12) (q0 := 0) rfl rfl) hP hD hS rfl rfl hl.1 (Nat.le_of_ble_eq_true rfl) dL_law_1258 ⟨by show _ ≤ (601024 : Nat); (try dsimp only); omega, by show _ ≤ (7293034 : Nat); (try dsimp only); omega⟩) (fun r1 u H locs h hP hD hS => ?_)
  rw [hL1] at hP hD
  obtain ⟨xm1, gm1⟩ := u
  have hP : va_P D vwCl (cW [(qo, .inl (cJ, 1, .inr (.inl f1)))] ad wd cI cB cP cT (x1, y1, g1) ++ mW [] om adm cIm cZ (xm1, gm1)) H := hP
  have hD : va_D A (cW [(qo, .inl (cJ, 1, .inr (.inl f1)))] ad wd cI cB cP cT (x1, y1, g1) ++ mW [] om adm cIm cZ (xm1, gm1)) := hD
  refine lv_istore (pc := 1261) (lv' := [(6, .int r1), (5, .int r0), (0, .ref b), (1, .ref (ad 0 0)), (2, .ref om), (3, .ref qo), (4, .int iv)]) hx hb dL_law_1261 hl (by decide) rfl (fun ls hl => ?_)
  refine lv_aload_n (pc := 1263) hx hb dL_law_1263 rfl (lv_at hl 4 rfl) ?_
  obtain ⟨L2, hL2⟩ : ∃ L : va_W, L = cW [(qo, .inl (cJ, 1, .inr (.inl f1)))] ad wd cI cB cP cT (x1, y1, g1) := ⟨_, rfl⟩
  rw [← hL2] at hP hD
  refine lJi (pc := 1264) (L := L2) (wc := mW [] om adm cIm cZ (xm1, gm1)) (Wd := (mW [] om adm cIm cZ)) hA hP hD hS (lV (L := L2) [] hFm (kX9_thrown xm1 gm1 h) (cwZ_X9_thrown hts ⟨Nat.le_of_ble_eq_true rfl, Nat.le_of_ble_eq_true rfl⟩) (lRv (L := L2) hK hP (ci := 12) (q0 := 0) rfl rfl) hP hD hS rfl rfl hl.1 (Nat.le_of_ble_eq_true rfl) dL_law_1264 ⟨by show _ ≤ (601024 : Nat); (try dsimp only); omega, by show _ ≤ (7293034 : Nat); (try dsimp only); omega⟩) (fun r2 u H locs h hP hD hS => ?_)
  rw [hL2] at hP hD
  obtain ⟨rfl, h⟩ := h
  have hP : va_P D vwCl (cW [(qo, .inl (cJ, 1, .inr (.inl f1)))] ad wd cI cB cP cT (x1, y1, g1) ++ mW [] om adm cIm cZ (xm1, gm1)) H := hP
  have hD : va_D A (cW [(qo, .inl (cJ, 1, .inr (.inl f1)))] ad wd cI cB cP cT (x1, y1, g1) ++ mW [] om adm cIm cZ (xm1, gm1)) := hD
  have hP := zpermP List.perm_append_comm hP
  have hD := zpermD List.perm_append_comm hD
  refine lv_iload (pc := 1267) hx hb dL_law_1267 (lv_at hl 1 rfl) ?_
  refine lv_icmp_eq (pc := 1269) (tgt := 1274) hx hb dL_law_1269 (by decide) (fun c9 => ?_) (fun c9 => absurd h.1 c9)
  refine lv_iload (pc := 1274) hx hb dL_law_1274 (lv_at hl 1 rfl) ?_
  refine lv_if_ne (pc := 1276) (tgt := 1291) hx hb dL_law_1276 (by decide) (fun c9 => ?_) (fun c9 => ?_)
  · refine lv_goto (pc := 1291) (tgt := 1350) hx hb dL_law_1291 (by decide) ?_
    exact hend x1 y1 g1 f1 xm1 gm1 bc2 bs2 _ _ H locs ls h.2.2 (by (try dsimp only); omega) (by (try dsimp only); omega) hP hD hS (lv_sub hl [2, 3, 4, 5, 6] rfl)
  · refine lv_aload_n (pc := 1279) hx hb dL_law_1279 rfl (lv_at hl 5 rfl) ?_
    refine lv_iconst (pc := 1280) (v := 0) hx hb dL_law_1280 (by decide) ?_
    refine va_lald (pc := 1281) (i := 0) hx hb hK (zrightP hP) 56 4 (lA ..) rfl (vp_in_iff.mpr (by decide)) dL_law_1281 ?_
    refine lv_iload (pc := 1282) hx hb dL_law_1282 (lv_at hl 0 rfl) ?_
    refine lv_i2l (pc := 1284) hx hb dL_law_1284 rfl ?_
    refine W.lcmp (pc := 1285) hx hb dL_law_1285 ?_
    refine lv_if_eq (pc := 1286) (tgt := 1291) hx hb dL_law_1286 (by decide) (fun c8 => ?_) (fun c8 => absurd (lgc0 (h.2.1 c9)) c8)
    refine lv_goto (pc := 1291) (tgt := 1350) hx hb dL_law_1291 (by decide) ?_
    exact hend x1 y1 g1 f1 xm1 gm1 bc2 bs2 _ _ H locs ls h.2.2 (by (try dsimp only); omega) (by (try dsimp only); omega) hP hD hS (lv_sub hl [2, 3, 4, 5, 6] rfl)

set_option maxRecDepth 100000 in
set_option maxHeartbeats 1000000 in
theorem klc24 {iv : Int32} (hlf : l.stackTraces = false) (hF : lwF p s m args c A D wd sk cI cB cP cT cJ cIm cZ b L xs) (hi1 : vp_in (iv + 1) L) (x : Nat → Nat → Int32) (y : Nat → Nat → Nat) (g : Nat → Nat → Nat → Int32) (f : Nat → Int64) (xm : Nat → Int32) (gm : Nat → Nat → Int32) (bc bs : Nat) {K : (Nat → Nat → Int32) → (Nat → Nat → Nat) → (Nat → Nat → Nat → Int32) → (Nat → Int64) → (Nat → Int32) → (Nat → Nat → Int32) → Nat → Nat → Prop} (h : wlc24 x y g f xm gm (xs (iv + 1).toNatClampNeg) bc bs K) (hb1 : cells + bc ≤ 601024) (hb2 : slots + bs ≤ 7293034) (hP : va_P D vwCl (lw2 ad wd cI cB cP cT cJ cIm cZ qo om adm x y g f xm gm) H) (hD : va_D A (lw2 ad wd cI cB cP cT cJ cIm cZ qo om adm x y g f xm gm)) (hS : va_S A s.heap H locs) (hl : lv_has ls 7 [(0, .ref b), (1, .ref (ad 0 0)), (2, .ref om), (3, .ref qo), (4, .int iv)])
  (hend : ∀ (x1 : Nat → Nat → Int32) (y1 : Nat → Nat → Nat) (g1 : Nat → Nat → Nat → Int32) (f1 : Nat → Int64) (xm1 : Nat → Int32) (gm1 : Nat → Nat → Int32) (bc2 bs2 k1 n1 : Nat) (H1 : Heap) (locs1 : List Loc) (ls1 : Array Slot), K x1 y1 g1 f1 xm1 gm1 bc2 bs2 → k1 + bc2 ≤ 601024 → n1 + bs2 ≤ 7293034 → va_P D vwCl (lw2 ad wd cI cB cP cT cJ cIm cZ qo om adm x1 y1 g1 f1 xm1 gm1) H1 → va_D A (lw2 ad wd cI cB cP cT cJ cIm cZ qo om adm x1 y1 g1 f1 xm1 gm1) → va_S A s.heap H1 locs1 → lv_has ls1 7 [(0, .ref b), (1, .ref (ad 0 0)), (2, .ref om), (3, .ref qo), (4, .int iv)] → W p l e room_1 s m args below meth c H1 locs1 k1 n1 Q (F0 m 1350 ls1 [])) : W p l e room_1 s m args below meth c H locs cells slots Q (F0 m 1294 ls []) := by
  obtain ⟨hFl, hFm, hX, hbl, hbA⟩ := hF
  have hFc : zFx p s m args c cL_law RL A D (cTy cI cB cP cT) (cX wd sk) 7 := ⟨hFl.1, hFl.2.1, hFl.2.2.1, hFl.2.2.2.1, hFl.2.2.2.2.1, hFl.2.2.2.2.2.1, hFl.2.2.2.2.2.2.1.sub [0, 1, 2, 3] rfl, cX_cl wd sk, hFl.2.2.2.2.2.2.2.2.1⟩
  have hx := hFl.1
  have hb := hFl.2.1
  have hts := hFl.2.2.2.2.1
  have hA := hFl.2.2.2.2.2.1
  have hK := hFl.2.2.2.2.2.2.1
  unfold wlc24 at h
  unfold lw2 at hP hD
  refine lv_aload_n (pc := 1294) hx hb dL_law_1294 rfl (lv_at hl 1 rfl) ?_
  refine lv_aload_n (pc := 1295) hx hb dL_law_1295 rfl (lv_at hl 0 rfl) ?_
  refine lv_iload (pc := 1296) hx hb dL_law_1296 (lv_at hl 4 rfl) ?_
  refine lv_iconst (pc := 1298) (v := 1) hx hb dL_law_1298 (by decide) ?_
  refine lv_iadd (pc := 1299) hx hb dL_law_1299 ?_
  refine va_sld (pc := 1300) hx hb hX hbl hbA hS hi1 dL_law_1300 ?_
  refine lv_aload_n (pc := 1301) hx hb dL_law_1301 rfl (lv_at hl 3 rfl) ?_
  obtain ⟨kc, ks, bc2, bs2, eC, eS, h⟩ := h
  obtain ⟨L0, hL0⟩ : ∃ L : va_W, L = mW [] om adm cIm cZ (xm, gm) := ⟨_, rfl⟩
  rw [← hL0] at hP hD
  refine lJi (pc := 1302) (L := L0) (wc := cW [(qo, .inl (cJ, 1, .inr (.inl f)))] ad wd cI cB cP cT (x, y, g)) (Wd := (fun w : cS × (Nat → Int64) => cW [(qo, .inl (cJ, 1, .inr (.inl w.2)))] ad wd cI cB cP cT w.1)) hA hP hD hS (lS (L := L0) [.ref (ad 0 0), .int (xs (iv + 1).toNatClampNeg), .ref qo] hFl (kL_load x y g f (xs (iv + 1).toNatClampNeg) kc ks hlf h) (cwZ_L_load hts ⟨Nat.le_of_ble_eq_true rfl, Nat.le_of_ble_eq_true rfl⟩) hP hD hS rfl rfl hl.1 (Nat.le_of_ble_eq_true rfl) dL_law_1302 ⟨by show _ ≤ (601024 : Nat); (try dsimp only); omega, by show _ ≤ (7293034 : Nat); (try dsimp only); omega⟩) (fun r0 u H locs h hP hD hS => ?_)
  rw [hL0] at hP hD
  obtain ⟨⟨x1, y1, g1⟩, f1⟩ := u
  have hP : va_P D vwCl (mW [] om adm cIm cZ (xm, gm) ++ cW [(qo, .inl (cJ, 1, .inr (.inl f1)))] ad wd cI cB cP cT (x1, y1, g1)) H := hP
  have hD : va_D A (mW [] om adm cIm cZ (xm, gm) ++ cW [(qo, .inl (cJ, 1, .inr (.inl f1)))] ad wd cI cB cP cT (x1, y1, g1)) := hD
  refine lv_istore (pc := 1305) (lv' := [(5, .int r0), (0, .ref b), (1, .ref (ad 0 0)), (2, .ref om), (3, .ref qo), (4, .int iv)]) hx hb dL_law_1305 hl (by decide) rfl (fun ls hl => ?_)
  refine lv_aload_n (pc := 1307) hx hb dL_law_1307 rfl (lv_at hl 3 rfl) ?_
  refine lv_aload_n (pc := 1308) hx hb dL_law_1308 rfl (lv_at hl 1 rfl) ?_
  refine lv_iload (pc := 1309) hx hb dL_law_1309 (lv_at hl 5 rfl) ?_
  refine lv_iconst (pc := 1311) (v := 1) hx hb dL_law_1311 (by decide) ?_
  refine lv_iadd (pc := 1312) hx hb dL_law_1312 ?_
  refine va_sld (pc := 1313) hx hb hX hbl hbA hS hi1 dL_law_1313 ?_
  have hP := zpermP List.perm_append_comm hP
  have hD := zpermD List.perm_append_comm hD
  obtain ⟨L1, hL1⟩ : ∃ L : va_W, L = cW [(qo, .inl (cJ, 1, .inr (.inl f1)))] ad wd cI cB cP cT (x1, y1, g1) := ⟨_, rfl⟩
  rw [← hL1] at hP hD
  refine lJi (pc := 1314) (L := L1) (wc := mW [] om adm cIm cZ (xm, gm)) (Wd := (mW [] om adm cIm cZ)) hA hP hD hS (lV (L := L1) [.int (xs (iv + 1).toNatClampNeg)] hFm (kX9_load xm gm (xs (iv + 1).toNatClampNeg) h) (cwZ_X9_load hts ⟨Nat.le_of_ble_eq_true rfl, Nat.le_of_ble_eq_true rfl⟩) (lRv (L := L1) hK hP (ci := 12) (q0 := 0) rfl rfl) hP hD hS rfl rfl hl.1 (Nat.le_of_ble_eq_true rfl) dL_law_1314 ⟨by show _ ≤ (601024 : Nat); (try dsimp only); omega, by show _ ≤ (7293034 : Nat); (try dsimp only); omega⟩) (fun r1 u H locs h hP hD hS => ?_)
  rw [hL1] at hP hD
  obtain ⟨xm1, gm1⟩ := u
  have hP : va_P D vwCl (cW [(qo, .inl (cJ, 1, .inr (.inl f1)))] ad wd cI cB cP cT (x1, y1, g1) ++ mW [] om adm cIm cZ (xm1, gm1)) H := hP
  have hD : va_D A (cW [(qo, .inl (cJ, 1, .inr (.inl f1)))] ad wd cI cB cP cT (x1, y1, g1) ++ mW [] om adm cIm cZ (xm1, gm1)) := hD
  refine lv_istore (pc := 1317) (lv' := [(6, .int r1), (5, .int r0), (0, .ref b), (1, .ref (ad 0 0)), (2, .ref om), (3, .ref qo), (4, .int iv)]) hx hb dL_law_1317 hl (by decide) rfl (fun ls hl => ?_)
  refine lv_aload_n (pc := 1319) hx hb dL_law_1319 rfl (lv_at hl 4 rfl) ?_
  obtain ⟨L2, hL2⟩ : ∃ L : va_W, L = cW [(qo, .inl (cJ, 1, .inr (.inl f1)))] ad wd cI cB cP cT (x1, y1, g1) := ⟨_, rfl⟩
  rw [← hL2] at hP hD
  refine lJi (pc := 1320) (L := L2) (wc := mW [] om adm cIm cZ (xm1, gm1)) (Wd := (mW [] om adm cIm cZ)) hA hP hD hS (lV (L := L2) [] hFm (kX9_thrown xm1 gm1 h) (cwZ_X9_thrown hts ⟨Nat.le_of_ble_eq_true rfl, Nat.le_of_ble_eq_true rfl⟩) (lRv (L := L2) hK hP (ci := 12) (q0 := 0) rfl rfl) hP hD hS rfl rfl hl.1 (Nat.le_of_ble_eq_true rfl) dL_law_1320 ⟨by show _ ≤ (601024 : Nat); (try dsimp only); omega, by show _ ≤ (7293034 : Nat); (try dsimp only); omega⟩) (fun r2 u H locs h hP hD hS => ?_)
  rw [hL2] at hP hD
  obtain ⟨rfl, h⟩ := h
  have hP : va_P D vwCl (cW [(qo, .inl (cJ, 1, .inr (.inl f1)))] ad wd cI cB cP cT (x1, y1, g1) ++ mW [] om adm cIm cZ (xm1, gm1)) H := hP
  have hD : va_D A (cW [(qo, .inl (cJ, 1, .inr (.inl f1)))] ad wd cI cB cP cT (x1, y1, g1) ++ mW [] om adm cIm cZ (xm1, gm1)) := hD
  have hP := zpermP List.perm_append_comm hP
  have hD := zpermD List.perm_append_comm hD
  refine lv_iload (pc := 1323) hx hb dL_law_1323 (lv_at hl 1 rfl) ?_
  refine lv_icmp_eq (pc := 1325) (tgt := 1330) hx hb dL_law_1325 (by decide) (fun c9 => ?_) (fun c9 => absurd h.1 c9)
  refine lv_iload (pc := 1330) hx hb dL_law_1330 (lv_at hl 1 rfl) ?_
  refine lv_if_ne (pc := 1332) (tgt := 1347) hx hb dL_law_1332 (by decide) (fun c9 => ?_) (fun c9 => ?_)
  · refine lv_goto (pc := 1347) (tgt := 1350) hx hb dL_law_1347 (by decide) ?_
    exact hend x1 y1 g1 f1 xm1 gm1 bc2 bs2 _ _ H locs ls h.2.2 (by (try dsimp only); omega) (by (try dsimp only); omega) hP hD hS (lv_sub hl [2, 3, 4, 5, 6] rfl)
  · refine lv_aload_n (pc := 1335) hx hb dL_law_1335 rfl (lv_at hl 5 rfl) ?_
    refine lv_iconst (pc := 1336) (v := 0) hx hb dL_law_1336 (by decide) ?_
    refine va_lald (pc := 1337) (i := 0) hx hb hK (zrightP hP) 56 4 (lA ..) rfl (vp_in_iff.mpr (by decide)) dL_law_1337 ?_
    refine lv_iload (pc := 1338) hx hb dL_law_1338 (lv_at hl 0 rfl) ?_
    refine lv_i2l (pc := 1340) hx hb dL_law_1340 rfl ?_
    refine W.lcmp (pc := 1341) hx hb dL_law_1341 ?_
    refine lv_if_eq (pc := 1342) (tgt := 1347) hx hb dL_law_1342 (by decide) (fun c8 => ?_) (fun c8 => absurd (lgc0 (h.2.1 c9)) c8)
    refine lv_goto (pc := 1347) (tgt := 1350) hx hb dL_law_1347 (by decide) ?_
    exact hend x1 y1 g1 f1 xm1 gm1 bc2 bs2 _ _ H locs ls h.2.2 (by (try dsimp only); omega) (by (try dsimp only); omega) hP hD hS (lv_sub hl [2, 3, 4, 5, 6] rfl)

end LWC
