/-! ===== the order of a world's cells is free; cells may be let go ===== -/
theorem zpermP {D : va_G} {cl : List vw_C} {ws ws' : va_W} {H : Heap} (h : ws.Perm ws') (hP : va_P D cl ws H) : va_P D cl ws' H := by
  intro k q hq
  obtain ⟨j, hj⟩ := List.mem_iff_getElem?.mp (h.mem_iff.mpr (List.mem_of_getElem? hq))
  exact hP j q hj
theorem znodup {A : Nat → Prop} {ws : va_W} (hD : va_D A ws) : (ws.map Prod.fst).Nodup := by
  refine List.pairwise_iff_getElem.mpr fun i j hi hj hij => ?_
  rw [List.length_map] at hi hj
  rw [List.getElem_map, List.getElem_map]
  intro e
  have := hD.1 i j ws[i] ws[j] (List.getElem?_eq_getElem hi) (List.getElem?_eq_getElem hj) e
  omega
theorem zdnod {A : Nat → Prop} {ws : va_W} (h1 : (ws.map Prod.fst).Nodup) (h2 : ∀ q ∈ ws, A q.1) : va_D A ws := by
  refine ⟨fun i j p q hi hj e => ?_, fun k q hq => h2 q (List.mem_of_getElem? hq)⟩
  obtain ⟨hi1, hi2⟩ := List.getElem?_eq_some_iff.mp hi
  obtain ⟨hj1, hj2⟩ := List.getElem?_eq_some_iff.mp hj
  have h3 := List.pairwise_iff_getElem.mp h1
  rcases Nat.lt_trichotomy i j with h | h | h
  · have := h3 i j (by rw [List.length_map]; exact hi1) (by rw [List.length_map]; exact hj1) h
    rw [List.getElem_map, List.getElem_map, hi2, hj2] at this
    exact absurd e this
  · exact h
  · have := h3 j i (by rw [List.length_map]; exact hj1) (by rw [List.length_map]; exact hi1) h
    rw [List.getElem_map, List.getElem_map, hi2, hj2] at this
    exact absurd e.symm this
theorem zpermD {A : Nat → Prop} {ws ws' : va_W} (h : ws.Perm ws') (hD : va_D A ws) : va_D A ws' :=
  zdnod (((h.map Prod.fst).nodup_iff).mp (znodup hD)) (fun q hq => by
    obtain ⟨j, hj⟩ := List.mem_iff_getElem?.mp (h.mem_iff.mpr hq)
    exact hD.2 j q hj)
theorem zleftP {D : va_G} {cl : List vw_C} {L wc : va_W} {H : Heap} (hP : va_P D cl (L ++ wc) H) : va_P D cl L H := fun k q hq => hP k q (by rw [List.getElem?_append_left (List.getElem?_eq_some_iff.mp hq).1]; exact hq)
theorem zleftD {A : Nat → Prop} {L wc : va_W} (hD : va_D A (L ++ wc)) : va_D A L :=
  ⟨fun i j p q hi hj e => hD.1 i j p q (by rw [List.getElem?_append_left (List.getElem?_eq_some_iff.mp hi).1]; exact hi) (by rw [List.getElem?_append_left (List.getElem?_eq_some_iff.mp hj).1]; exact hj) e, fun k q hq => hD.2 k q (by rw [List.getElem?_append_left (List.getElem?_eq_some_iff.mp hq).1]; exact hq)⟩
theorem pSwap {L E : va_W} {a b : Nat × va_E} : ((L ++ (E ++ [a])) ++ [b]).Perm ((L ++ (E ++ [b])) ++ [a]) := by
  rw [List.append_assoc, List.append_assoc, List.append_assoc, List.append_assoc]
  exact List.Perm.append_left L (List.Perm.append_left E (List.Perm.swap b a []))
theorem pFront {L E : va_W} {a b : Nat × va_E} : ((L ++ (E ++ [b])) ++ [a]).Perm (L ++ ([b, a] ++ E)) := by
  rw [List.append_assoc, List.append_assoc]
  exact List.Perm.append_left L List.perm_append_comm
theorem pBack {L X E : va_W} : (L ++ (X ++ E)).Perm ((L ++ E) ++ X) := by
  rw [List.append_assoc]
  exact List.Perm.append_left L List.perm_append_comm
/-- a new query, of a state: at the places of kind 1 -/
def qx (x : Nat → Nat → Int32) : Nat → Nat → Int32 := va_up (va_up (va_up (va_up (va_up (va_up (va_up x 8 (va_up (x 8) 1 0)) 9 (va_up (x 9) 1 0)) 10 (va_up (x 10) 1 1)) 11 (va_up (x 11) 1 1)) 12 (va_up (x 12) 1 0)) 20 (va_up (x 20) 0 0)) 21 (va_up (x 21) 0 0)
def qy (y : Nat → Nat → Nat) : Nat → Nat → Nat := va_up (va_up (va_up (va_up y 3 (va_up (y 3) 1 0)) 4 (va_up (y 4) 1 3)) 5 (va_up (y 5) 1 8)) 6 (va_up (y 6) 1 12)
theorem qcv (E : va_W) (ad : Nat → Nat → Nat) (wd : Nat → Nat) (cI cB cP cT : ClassId) (x : Nat → Nat → Int32) (y : Nat → Nat → Nat) (g : Nat → Nat → Nat → Int32) (rr rq : Nat) : cwL ad wd cI cB cP cT x y g ++ ([(rq, .inr (6, [.ref (wd 0), .ref (wd 3), .int 0, .int 0, .ref (wd 8), .int 1, .int 1, .int 0, .ref (wd 12)])), (rr, .inr (7, [.ref (ad 1 0), .ref rq, .int 0, .int 0]))] ++ E) = cV E ad wd cI cB cP cT rr rq (qx x, qy y, g) := rfl
def sx (x : Nat → Nat → Int32) : Nat → Nat → Int32 := (va_up (va_up (va_up (va_up (va_up x 8 (va_up (x 8) 0 (x 8 1))) 9 (va_up (x 9) 0 (x 9 1))) 10 (va_up (x 10) 0 (x 10 1))) 11 (va_up (x 11) 0 (x 11 1))) 12 (va_up (x 12) 0 (x 12 1)))
def sy (rq : Nat) (y : Nat → Nat → Nat) : Nat → Nat → Nat := (va_up (va_up (va_up (va_up (va_up y 2 (va_up (y 2) 0 rq)) 3 (va_up (y 3) 0 (y 3 1))) 4 (va_up (y 4) 0 (y 4 1))) 5 (va_up (y 5) 0 (y 5 1))) 6 (va_up (y 6) 0 (y 6 1)))
theorem cU_setq (ad : Nat → Nat → Nat) (wd : Nat → Nat) (cI cB cP cT : ClassId) (x : Nat → Nat → Int32) (y : Nat → Nat → Nat) (g : Nat → Nat → Nat → Int32) (rq : Nat) : ((cwL ad wd cI cB cP cT x y g).set 3 (ad 2 0, .inr (4, [.ref (ad 3 0), .ref (ad 5 3), .ref (ad 5 4), .ref (ad 6 0), .ref rq]))).set 53 (rq, .inr (6, [.ref (wd (y 3 1)), .ref (wd (y 4 1)), .int (x 8 1), .int (x 9 1), .ref (wd (y 5 1)), .int (x 10 1), .int (x 11 1), .int (x 12 1), .ref (wd (y 6 1))])) = cwL ad wd cI cB cP cT (sx x) (sy rq y) g := rfl
section KG
variable {p : Program} {l : Launch} {e : Env} {R : Room} {s : State} {m : MethodId} {args : Array Value} {below : List Frame} {meth : Method} {c : Code} {H : Heap} {locs : List Loc} {cells slots : Nat} {Q : State → Prop} {A : Nat → Prop} {D : va_G} {cc : ByteArray} {pc nL index : Nat} {ls : Array Slot} {rest : List Value} {own host : String} {E : va_W} {ad : Nat → Nat → Nat} {wd sk : Nat → Nat} {cI cB cP cT : ClassId} {x : Nat → Nat → Int32} {y : Nat → Nat → Nat} {g : Nat → Nat → Nat → Int32} {rr rq : Nat}
theorem c_setq (hF : zFx p s m args c cc own A D (cTy cI cB cP cT) (cX wd sk) nL) (hP : va_P D vwCl (cW ([(rq, .inr (6, [.ref (wd (y 3 1)), .ref (wd (y 4 1)), .int (x 8 1), .int (x 9 1), .ref (wd (y 5 1)), .int (x 10 1), .int (x 11 1), .int (x 12 1), .ref (wd (y 6 1))]))] ++ E) ad wd cI cB cP cT (x, y, g)) H) (hD : va_D A (cW ([(rq, .inr (6, [.ref (wd (y 3 1)), .ref (wd (y 4 1)), .int (x 8 1), .int (x 9 1), .ref (wd (y 5 1)), .int (x 10 1), .int (x 11 1), .int (x 12 1), .ref (wd (y 6 1))]))] ++ E) ad wd cI cB cP cT (x, y, g))) (hS : va_S A s.heap H locs) (hlk : Cond.fieldLinkNest own index RX0 "query" "LStreamloom$Query;" host ∈ wNest) (hdg : decode cc pc = .ok (.putfield index, 3)) (kk : ∀ (H1 : Heap) (locs1 : List Loc), va_P D vwCl (cW E ad wd cI cB cP cT (sx x, sy rq y, g)) H1 → va_D A (cW E ad wd cI cB cP cT (sx x, sy rq y, g)) → va_S A s.heap H1 locs1 → W p l e R s m args below meth c H1 locs1 cells slots Q (F0 m (pc + 3) ls rest)) : W p l e R s m args below meth c H locs cells slots Q (F0 m pc ls (.ref rq :: .ref (ad 2 0) :: rest)) := by
  obtain ⟨hx, hb, hml, hown, hts, hA, hK, hXc, hXs⟩ := hF
  refine va_putN (D := D) (ci := 4) (v := .ref rq) (ty := tyX0 4) (C := RX0) (T := TX0) (N := 5) hx hb hts uwX0 tyX0 tyX0_ok nmX0 hown hK hP hD hS 3 (cA_L ..) rfl 4 (by decide) (va_Nw.use rfl (hXs.1 _ hlk)) (fun _ h9 => h9) rfl (tyX0_ok 4 (by decide)) rfl rfl (Nat.le_of_ble_eq_true rfl) hdg (fun H1 locs1 a1 a2 a3 => kk H1 locs1 ?_ ?_ a3)
  · have b1 : va_P D vwCl ((cwL ad wd cI cB cP cT x y g ++ (([(rq, .inr (6, [.ref (wd (y 3 1)), .ref (wd (y 4 1)), .int (x 8 1), .int (x 9 1), .ref (wd (y 5 1)), .int (x 10 1), .int (x 11 1), .int (x 12 1), .ref (wd (y 6 1))]))] : va_W) ++ E)).set 3 (ad 2 0, .inr (4, [.ref (ad 3 0), .ref (ad 5 3), .ref (ad 5 4), .ref (ad 6 0), .ref rq]))) H1 := a1
    rw [List.set_append_left _ _ (by rw [cwL_len]; omega)] at b1
    have b2 := zdropP (k0 := 53) (by rw [List.length_set, cwL_len]; omega) (zpermP (List.Perm.append_left _ List.perm_append_comm) b1)
    rw [cU_setq ad wd cI cB cP cT x y g] at b2
    exact b2
  · have b1 : va_D A ((cwL ad wd cI cB cP cT x y g ++ (([(rq, .inr (6, [.ref (wd (y 3 1)), .ref (wd (y 4 1)), .int (x 8 1), .int (x 9 1), .ref (wd (y 5 1)), .int (x 10 1), .int (x 11 1), .int (x 12 1), .ref (wd (y 6 1))]))] : va_W) ++ E)).set 3 (ad 2 0, .inr (4, [.ref (ad 3 0), .ref (ad 5 3), .ref (ad 5 4), .ref (ad 6 0), .ref rq]))) := a2
    rw [List.set_append_left _ _ (by rw [cwL_len]; omega)] at b1
    have b2 := zdropD (k0 := 53) (by rw [List.length_set, cwL_len]; omega) (zpermD (List.Perm.append_left _ List.perm_append_comm) b1)
    rw [cU_setq ad wd cI cB cP cT x y g] at b2
    exact b2
end KG

theorem cwX8_J4_append_cf468 {R : Room} {s : State} {args : Array Value} {rm : Room} (hts : ∀ w ∈ wAll, w.before args s = true) (hR : rm.frames + 1 ≤ R.frames ∧ 8 + (2 + 11) + rm.locals ≤ R.locals) : CallW R s args RX8 RJ4 48 yJ4_append_cf468 cJ4_append_cf468 2 (some (.object "java/lang/StringBuilder")) (zws yJ4_append_cf468 cJ4_append_cf468 2 (some (.object "java/lang/StringBuilder"))) rm rm.cells rm.slots 1 := zCW hts (zin 871 (by decide +kernel) (by decide +kernel)) (zin 872 (by decide +kernel) (by decide +kernel)) (zin 873 (by decide +kernel) (by decide +kernel)) (inJ4) (zin 874 (by decide +kernel) (by decide +kernel)) (by decide +kernel) hR
theorem cwX8_J4_length_8abf5 {R : Room} {s : State} {args : Array Value} {rm : Room} (hts : ∀ w ∈ wAll, w.before args s = true) (hR : rm.frames + 1 ≤ R.frames ∧ 8 + (1 + 11) + rm.locals ≤ R.locals) : CallW R s args RX8 RJ4 41 yJ4_length_8abf5 cJ4_length_8abf5 1 (some .int) (zws yJ4_length_8abf5 cJ4_length_8abf5 1 (some .int)) rm rm.cells rm.slots 0 := zCW hts (zin 354 (by decide +kernel) (by decide +kernel)) (zin 355 (by decide +kernel) (by decide +kernel)) (zin 356 (by decide +kernel) (by decide +kernel)) (inJ4) (zin 357 (by decide +kernel) (by decide +kernel)) (by decide +kernel) hR
theorem cwX8_J4_setLength_d00df {R : Room} {s : State} {args : Array Value} {rm : Room} (hts : ∀ w ∈ wAll, w.before args s = true) (hR : rm.frames + 1 ≤ R.frames ∧ 8 + (2 + 11) + rm.locals ≤ R.locals) : CallW R s args RX8 RJ4 52 yJ4_setLength_d00df cJ4_setLength_d00df 2 none (zws yJ4_setLength_d00df cJ4_setLength_d00df 2 none) rm rm.cells rm.slots 1 := zCW hts (zin 361 (by decide +kernel) (by decide +kernel)) (zin 362 (by decide +kernel) (by decide +kernel)) (zin 363 (by decide +kernel) (by decide +kernel)) (inJ4) (zin 364 (by decide +kernel) (by decide +kernel)) (by decide +kernel) hR
