/-! ===== the order of a world's cells is free; cells may be let go ===== -/
theorem zpermP {D : va_G} {cl : List vw_C} {ws ws' : va_W} {H : Heap} (h : ws.Perm ws') (hP : va_P D cl ws H) : va_P D cl ws' H := by
  intro k q hq
  obtain ⟨j, hj⟩ := List.mem_iff_getElem?.mp (h.mem_iff.mpr (List.mem_of_getElem? hq))
  exact hP j q hj
theorem znodup {A : Nat → Prop} {ws : va_W} (hD : va_D A ws) : (ws.map Prod.fst).Nodup := by
  refine List.pairwise_iff_getElem.mpr fun i j hi hj hij => ?_
  rw [List.length_map] at hi hj
  rw [List.getElem_map, List.getElem_map]
  intro e
  have := hD.1 i j ws[i] ws[j] (List.getElem?_eq_getElem hi) (List.getElem?_eq_getElem hj) e
  omega
theorem zdnod {A : Nat → Prop} {ws : va_W} (h1 : (ws.map Prod.fst).Nodup) (h2 : ∀ q ∈ ws, A q.1) : va_D A ws := by
  refine ⟨fun i j p q hi hj e => ?_, fun k q hq => h2 q (List.mem_of_getElem? hq)⟩
  obtain ⟨hi1, hi2⟩ := List.getElem?_eq_some_iff.mp hi
  obtain ⟨hj1, hj2⟩ := List.getElem?_eq_some_iff.mp hj
  have h3 := List.pairwise_iff_getElem.mp h1
  rcases Nat.lt_trichotomy i j with h | h | h
  · have := h3 i j (by rw [List.length_map]; exact hi1) (by rw [List.length_map]; exact hj1) h
    rw [List.getElem_map, List.getElem_map, hi2, hj2] at this
    exact absurd e this
  · exact h
  · have := h3 j i (by rw [List.length_map]; exact hj1) (by rw [List.length_map]; exact hi1) h
    rw [List.getElem_map, List.getElem_map, hi2, hj2] at this
    exact absurd e.symm this
theorem zpermD {A : Nat → Prop} {ws ws' : va_W} (h : ws.Perm ws') (hD : va_D A ws) : va_D A ws' :=
  zdnod (((h.map Prod.fst).nodup_iff).mp (znodup hD)) (fun q hq => by
    obtain ⟨j, hj⟩ := List.mem_iff_getElem?.mp (h.mem_iff.mpr hq)
    exact hD.2 j q hj)
theorem zleftP {D : va_G} {cl : List vw_C} {L wc : va_W} {H : Heap} (hP : va_P D cl (L ++ wc) H) : va_P D cl L H := fun k q hq => hP k q (by rw [List.getElem?_append_left (List.getElem?_eq_some_iff.mp hq).1]; exact hq)
theorem zleftD {A : Nat → Prop} {L wc : va_W} (hD : va_D A (L ++ wc)) : va_D A L :=
  ⟨fun i j p q hi hj e => hD.1 i j p q (by rw [List.getElem?_append_left (List.getElem?_eq_some_iff.mp hi).1]; exact hi) (by rw [List.getElem?_append_left (List.getElem?_eq_some_iff.mp hj).1]; exact hj) e, fun k q hq => hD.2 k q (by rw [List.getElem?_append_left (List.getElem?_eq_some_iff.mp hq).1]; exact hq)⟩
theorem pSwap {L E : va_W} {a b : Nat × va_E} : ((L ++ (E ++ [a])) ++ [b]).Perm ((L ++ (E ++ [b])) ++ [a]) := by
  rw [List.append_assoc, List.append_assoc, List.append_assoc, List.append_assoc]
  exact List.Perm.append_left L (List.Perm.append_left E (List.Perm.swap b a []))
theorem pFront {L E : va_W} {a b : Nat × va_E} : ((L ++ (E ++ [b])) ++ [a]).Perm (L ++ ([b, a] ++ E)) := by
  rw [List.append_assoc, List.append_assoc]
  exact List.Perm.append_left L List.perm_append_comm
theorem pMid {L E : va_W} {a b : Nat × va_E} : (L ++ ([a, b] ++ E)).Perm ((L ++ ([a] ++ E)) ++ [b]) := by
  rw [List.append_assoc]
  exact List.Perm.append_left L (List.Perm.cons a (List.perm_append_comm (l₁ := [b]) (l₂ := E)))
theorem pBack {L X E : va_W} : (L ++ (X ++ E)).Perm ((L ++ E) ++ X) := by
  rw [List.append_assoc]
  exact List.Perm.append_left L List.perm_append_comm
/-- a new query, of a state: at the places of kind 1 -/
def qx (x : Nat → Nat → Int32) : Nat → Nat → Int32 := va_up (va_up (va_up (va_up (va_up (va_up (va_up x 8 (va_up (x 8) 1 0)) 9 (va_up (x 9) 1 0)) 10 (va_up (x 10) 1 1)) 11 (va_up (x 11) 1 1)) 12 (va_up (x 12) 1 0)) 20 (va_up (x 20) 0 0)) 21 (va_up (x 21) 0 0)
def qy (y : Nat → Nat → Nat) : Nat → Nat → Nat := va_up (va_up (va_up (va_up y 3 (va_up (y 3) 1 0)) 4 (va_up (y 4) 1 3)) 5 (va_up (y 5) 1 8)) 6 (va_up (y 6) 1 12)
theorem qcv (E : va_W) (ad : Nat → Nat → Nat) (wd : Nat → Nat) (cI cB cP cT : ClassId) (x : Nat → Nat → Int32) (y : Nat → Nat → Nat) (g : Nat → Nat → Nat → Int32) (rr rq : Nat) : cwL ad wd cI cB cP cT x y g ++ ([(rq, .inr (6, [.ref (wd 0), .ref (wd 3), .int 0, .int 0, .ref (wd 8), .int 1, .int 1, .int 0, .ref (wd 12)])), (rr, .inr (7, [.ref (ad 1 0), .ref rq, .int 0, .int 0]))] ++ E) = cV E ad wd cI cB cP cT rr rq (qx x, qy y, g) := rfl
theorem zswapP {E : va_W} {ad : Nat → Nat → Nat} {wd : Nat → Nat} {cI cB cP cT : ClassId} {x : Nat → Nat → Int32} {y : Nat → Nat → Nat} {g : Nat → Nat → Nat → Int32} {D : va_G} {H : Heap} {a b : Nat × va_E} (h : va_P D vwCl (cW (E ++ [a]) ad wd cI cB cP cT (x, y, g) ++ [b]) H) : va_P D vwCl (cW (E ++ [b]) ad wd cI cB cP cT (x, y, g) ++ [a]) H := by
  unfold cW cw at h ⊢
  exact zpermP pSwap h
theorem zoutP {E : va_W} {ad : Nat → Nat → Nat} {wd : Nat → Nat} {cI cB cP cT : ClassId} {x : Nat → Nat → Int32} {y : Nat → Nat → Nat} {g : Nat → Nat → Nat → Int32} {D : va_G} {H : Heap} {a : Nat × va_E} (h : va_P D vwCl (cW E ad wd cI cB cP cT (x, y, g) ++ [a]) H) : va_P D vwCl (cW (E ++ [a]) ad wd cI cB cP cT (x, y, g)) H := by
  unfold cW cw at h ⊢
  rw [List.append_assoc] at h
  exact h
theorem zinP {E : va_W} {ad : Nat → Nat → Nat} {wd : Nat → Nat} {cI cB cP cT : ClassId} {x : Nat → Nat → Int32} {y : Nat → Nat → Nat} {g : Nat → Nat → Nat → Int32} {D : va_G} {H : Heap} {a : Nat × va_E} (h : va_P D vwCl (cW (E ++ [a]) ad wd cI cB cP cT (x, y, g)) H) : va_P D vwCl (cW E ad wd cI cB cP cT (x, y, g) ++ [a]) H := by
  unfold cW cw at h ⊢
  rw [List.append_assoc]
  exact h
theorem zfrontP {E : va_W} {ad : Nat → Nat → Nat} {wd : Nat → Nat} {cI cB cP cT : ClassId} {x : Nat → Nat → Int32} {y : Nat → Nat → Nat} {g : Nat → Nat → Nat → Int32} {D : va_G} {H : Heap} {rr rq : Nat} (h : va_P D vwCl (cW (E ++ [(rq, .inr (6, [.ref (wd 0), .ref (wd 3), .int 0, .int 0, .ref (wd 8), .int 1, .int 1, .int 0, .ref (wd 12)]))]) ad wd cI cB cP cT (x, y, g) ++ [(rr, .inr (7, [.ref (ad 1 0), .ref rq, .int 0, .int 0]))]) H) : va_P D vwCl (cV E ad wd cI cB cP cT rr rq (qx x, qy y, g)) H := by
  rw [← qcv]
  unfold cW cw at h
  exact zpermP pFront h
theorem zswapD {E : va_W} {ad : Nat → Nat → Nat} {wd : Nat → Nat} {cI cB cP cT : ClassId} {x : Nat → Nat → Int32} {y : Nat → Nat → Nat} {g : Nat → Nat → Nat → Int32} {A : Nat → Prop} {a b : Nat × va_E} (h : va_D A (cW (E ++ [a]) ad wd cI cB cP cT (x, y, g) ++ [b])) : va_D A (cW (E ++ [b]) ad wd cI cB cP cT (x, y, g) ++ [a]) := by
  unfold cW cw at h ⊢
  exact zpermD pSwap h
theorem zoutD {E : va_W} {ad : Nat → Nat → Nat} {wd : Nat → Nat} {cI cB cP cT : ClassId} {x : Nat → Nat → Int32} {y : Nat → Nat → Nat} {g : Nat → Nat → Nat → Int32} {A : Nat → Prop} {a : Nat × va_E} (h : va_D A (cW E ad wd cI cB cP cT (x, y, g) ++ [a])) : va_D A (cW (E ++ [a]) ad wd cI cB cP cT (x, y, g)) := by
  unfold cW cw at h ⊢
  rw [List.append_assoc] at h
  exact h
theorem zinD {E : va_W} {ad : Nat → Nat → Nat} {wd : Nat → Nat} {cI cB cP cT : ClassId} {x : Nat → Nat → Int32} {y : Nat → Nat → Nat} {g : Nat → Nat → Nat → Int32} {A : Nat → Prop} {a : Nat × va_E} (h : va_D A (cW (E ++ [a]) ad wd cI cB cP cT (x, y, g))) : va_D A (cW E ad wd cI cB cP cT (x, y, g) ++ [a]) := by
  unfold cW cw at h ⊢
  rw [List.append_assoc]
  exact h
theorem zfrontD {E : va_W} {ad : Nat → Nat → Nat} {wd : Nat → Nat} {cI cB cP cT : ClassId} {x : Nat → Nat → Int32} {y : Nat → Nat → Nat} {g : Nat → Nat → Nat → Int32} {A : Nat → Prop} {rr rq : Nat} (h : va_D A (cW (E ++ [(rq, .inr (6, [.ref (wd 0), .ref (wd 3), .int 0, .int 0, .ref (wd 8), .int 1, .int 1, .int 0, .ref (wd 12)]))]) ad wd cI cB cP cT (x, y, g) ++ [(rr, .inr (7, [.ref (ad 1 0), .ref rq, .int 0, .int 0]))])) : va_D A (cV E ad wd cI cB cP cT rr rq (qx x, qy y, g)) := by
  rw [← qcv]
  unfold cW cw at h
  exact zpermD pFront h
def sx (xq x : Nat → Nat → Int32) : Nat → Nat → Int32 := (va_up (va_up (va_up (va_up (va_up x 8 (va_up (x 8) 0 (xq 8 1))) 9 (va_up (x 9) 0 (xq 9 1))) 10 (va_up (x 10) 0 (xq 10 1))) 11 (va_up (x 11) 0 (xq 11 1))) 12 (va_up (x 12) 0 (xq 12 1)))
def sy (rq : Nat) (yq y : Nat → Nat → Nat) : Nat → Nat → Nat := (va_up (va_up (va_up (va_up (va_up y 2 (va_up (y 2) 0 rq)) 3 (va_up (y 3) 0 (yq 3 1))) 4 (va_up (y 4) 0 (yq 4 1))) 5 (va_up (y 5) 0 (yq 5 1))) 6 (va_up (y 6) 0 (yq 6 1)))
theorem cU_setq (ad : Nat → Nat → Nat) (wd : Nat → Nat) (cI cB cP cT : ClassId) (x : Nat → Nat → Int32) (y : Nat → Nat → Nat) (g : Nat → Nat → Nat → Int32) (rq : Nat) (xq : Nat → Nat → Int32) (yq : Nat → Nat → Nat) : ((cwL ad wd cI cB cP cT x y g).set 3 (ad 2 0, .inr (4, [.ref (ad 3 0), .ref (ad 5 3), .ref (ad 5 4), .ref (ad 6 0), .ref rq]))).set 53 (rq, .inr (6, [.ref (wd (yq 3 1)), .ref (wd (yq 4 1)), .int (xq 8 1), .int (xq 9 1), .ref (wd (yq 5 1)), .int (xq 10 1), .int (xq 11 1), .int (xq 12 1), .ref (wd (yq 6 1))])) = cwL ad wd cI cB cP cT (sx xq x) (sy rq yq y) g := rfl
theorem zVdropP {E : va_W} {ad : Nat → Nat → Nat} {wd : Nat → Nat} {cI cB cP cT : ClassId} {rr rq : Nat} {x : Nat → Nat → Int32} {y : Nat → Nat → Nat} {g : Nat → Nat → Nat → Int32} {D : va_G} {H : Heap} (h : va_P D vwCl (cV E ad wd cI cB cP cT rr rq (x, y, g)) H) : va_P D vwCl (cW E ad wd cI cB cP cT (x, y, g)) H :=
  zleftP (zpermP (pBack (L := cwL ad wd cI cB cP cT x y g) (X := cExt ad wd rr rq x y) (E := E)) h)
theorem zVdropD {E : va_W} {ad : Nat → Nat → Nat} {wd : Nat → Nat} {cI cB cP cT : ClassId} {rr rq : Nat} {x : Nat → Nat → Int32} {y : Nat → Nat → Nat} {g : Nat → Nat → Nat → Int32} {A : Nat → Prop} (h : va_D A (cV E ad wd cI cB cP cT rr rq (x, y, g))) : va_D A (cW E ad wd cI cB cP cT (x, y, g)) :=
  zleftD (zpermD (pBack (L := cwL ad wd cI cB cP cT x y g) (X := cExt ad wd rr rq x y) (E := E)) h)
theorem zVdropRP {E : va_W} {ad : Nat → Nat → Nat} {wd : Nat → Nat} {cI cB cP cT : ClassId} {rr rq : Nat} {x : Nat → Nat → Int32} {y : Nat → Nat → Nat} {g : Nat → Nat → Nat → Int32} {D : va_G} {H : Heap} (h : va_P D vwCl (cV E ad wd cI cB cP cT rr rq (x, y, g)) H) : va_P D vwCl (cW ([(rq, .inr (6, [.ref (wd (y 3 1)), .ref (wd (y 4 1)), .int (x 8 1), .int (x 9 1), .ref (wd (y 5 1)), .int (x 10 1), .int (x 11 1), .int (x 12 1), .ref (wd (y 6 1))]))] ++ E) ad wd cI cB cP cT (x, y, g)) H :=
  zleftP (zpermP (pMid (L := cwL ad wd cI cB cP cT x y g) (E := E) (a := (rq, .inr (6, [.ref (wd (y 3 1)), .ref (wd (y 4 1)), .int (x 8 1), .int (x 9 1), .ref (wd (y 5 1)), .int (x 10 1), .int (x 11 1), .int (x 12 1), .ref (wd (y 6 1))]))) (b := (rr, .inr (7, [.ref (ad 1 0), .ref rq, .int (x 20 0), .int (x 21 0)])))) h)
theorem zVdropRD {E : va_W} {ad : Nat → Nat → Nat} {wd : Nat → Nat} {cI cB cP cT : ClassId} {rr rq : Nat} {x : Nat → Nat → Int32} {y : Nat → Nat → Nat} {g : Nat → Nat → Nat → Int32} {A : Nat → Prop} (h : va_D A (cV E ad wd cI cB cP cT rr rq (x, y, g))) : va_D A (cW ([(rq, .inr (6, [.ref (wd (y 3 1)), .ref (wd (y 4 1)), .int (x 8 1), .int (x 9 1), .ref (wd (y 5 1)), .int (x 10 1), .int (x 11 1), .int (x 12 1), .ref (wd (y 6 1))]))] ++ E) ad wd cI cB cP cT (x, y, g)) :=
  zleftD (zpermD (pMid (L := cwL ad wd cI cB cP cT x y g) (E := E) (a := (rq, .inr (6, [.ref (wd (y 3 1)), .ref (wd (y 4 1)), .int (x 8 1), .int (x 9 1), .ref (wd (y 5 1)), .int (x 10 1), .int (x 11 1), .int (x 12 1), .ref (wd (y 6 1))]))) (b := (rr, .inr (7, [.ref (ad 1 0), .ref rq, .int (x 20 0), .int (x 21 0)])))) h)
section KG
variable {p : Program} {l : Launch} {e : Env} {R : Room} {s : State} {m : MethodId} {args : Array Value} {below : List Frame} {meth : Method} {c : Code} {H : Heap} {locs : List Loc} {cells slots : Nat} {Q : State → Prop} {A : Nat → Prop} {D : va_G} {cc : ByteArray} {pc nL index : Nat} {ls : Array Slot} {rest : List Value} {own host : String} {E : va_W} {ad : Nat → Nat → Nat} {wd sk : Nat → Nat} {cI cB cP cT : ClassId} {x : Nat → Nat → Int32} {y : Nat → Nat → Nat} {g : Nat → Nat → Nat → Int32} {rr rq : Nat} {xq : Nat → Nat → Int32} {yq : Nat → Nat → Nat}
theorem cG_X8_text (hF : zFx p s m args c cc own A D (cTy cI cB cP cT) (cX wd sk) nL) (hP : va_P D vwCl (cW E ad wd cI cB cP cT (x, y, g)) H) (hlk : Cond.fieldLink own index RX8 "text" "Ljava/lang/StringBuilder;" ∈ wAll) (hdg : decode cc pc = .ok (.getfield index, 3)) (kk : W p l e R s m args below meth c H locs cells slots Q (F0 m (pc + 3) ls (.ref (ad 1 0) :: rest))) : W p l e R s m args below meth c H locs cells slots Q (F0 m pc ls (.ref (ad 0 0) :: rest)) := by
  obtain ⟨hx, hb, hml, hown, hts, hA, hK, hXc, hXs⟩ := hF
  exact va_get (D := D) (ci := 11) (C := RX8) (T := TX8) (N := 5) hx hb hts uwX8 hown hK hP 0 (cA_S ..) rfl 0 (by decide) (hts _ hlk) (fun _ h9 => h9) rfl hdg kk
theorem cU9_15 (E : va_W) (ad : Nat → Nat → Nat) (wd : Nat → Nat) (cI cB cP cT : ClassId) (x : Nat → Nat → Int32) (y : Nat → Nat → Nat) (g : Nat → Nat → Nat → Int32) (v : Int32) : (cW E ad wd cI cB cP cT (x, y, g)).set 0 (ad 0 0, .inr (11, [.ref (ad 1 0), .ref (ad 2 0), .ref (ad 9 0), .int v, .int (x 16 0)])) = cW E ad wd cI cB cP cT (va_up x 15 (va_up (x 15) 0 v), y, g) := rfl
theorem cP_X8_isPlanned (hF : zFx p s m args c cc own A D (cTy cI cB cP cT) (cX wd sk) nL) (hP : va_P D vwCl (cW E ad wd cI cB cP cT (x, y, g)) H) (hD : va_D A (cW E ad wd cI cB cP cT (x, y, g))) (hS : va_S A s.heap H locs) (hlk : Cond.fieldLink own index RX8 "isPlanned" "Z" ∈ wAll) {v : Int32} (hv : narrow .boolean (.int v) = .int v) (hv2 : fits .boolean (.int v) = true) (hdg : decode cc pc = .ok (.putfield index, 3)) (kk : ∀ (H1 : Heap) (locs1 : List Loc), va_P D vwCl (cW E ad wd cI cB cP cT (va_up x 15 (va_up (x 15) 0 v), y, g)) H1 → va_D A (cW E ad wd cI cB cP cT (va_up x 15 (va_up (x 15) 0 v), y, g)) → va_S A s.heap H1 locs1 → W p l e R s m args below meth c H1 locs1 cells slots Q (F0 m (pc + 3) ls rest)) : W p l e R s m args below meth c H locs cells slots Q (F0 m pc ls (.int v :: .ref (ad 0 0) :: rest)) := by
  obtain ⟨hx, hb, hml, hown, hts, hA, hK, hXc, hXs⟩ := hF
  exact va_put (D := D) (ci := 11) (v := .int v) (ty := tyX8 3) (C := RX8) (T := TX8) (N := 5) hx hb hts uwX8 tyX8 tyX8_ok nmX8 hown hK hP hD hS 0 (cA_S ..) rfl 3 (by decide) (hts _ hlk) (fun _ h9 => h9) rfl (tyX8_ok 3 (by decide)) hv hv2 (Nat.le_of_ble_eq_true rfl) hdg (fun H1 locs1 a1 a2 a3 => kk H1 locs1 (by rw [← cU9_15]; exact a1) (by rw [← cU9_15]; exact a2) a3)
theorem c_setq (hF : zFx p s m args c cc own A D (cTy cI cB cP cT) (cX wd sk) nL) (hP : va_P D vwCl (cW ([(rq, .inr (6, [.ref (wd (yq 3 1)), .ref (wd (yq 4 1)), .int (xq 8 1), .int (xq 9 1), .ref (wd (yq 5 1)), .int (xq 10 1), .int (xq 11 1), .int (xq 12 1), .ref (wd (yq 6 1))]))] ++ E) ad wd cI cB cP cT (x, y, g)) H) (hD : va_D A (cW ([(rq, .inr (6, [.ref (wd (yq 3 1)), .ref (wd (yq 4 1)), .int (xq 8 1), .int (xq 9 1), .ref (wd (yq 5 1)), .int (xq 10 1), .int (xq 11 1), .int (xq 12 1), .ref (wd (yq 6 1))]))] ++ E) ad wd cI cB cP cT (x, y, g))) (hS : va_S A s.heap H locs) (hlk : Cond.fieldLinkNest own index RX0 "query" "LStreamloom$Query;" host ∈ wNest) (hdg : decode cc pc = .ok (.putfield index, 3)) (kk : ∀ (H1 : Heap) (locs1 : List Loc), va_P D vwCl (cW E ad wd cI cB cP cT (sx xq x, sy rq yq y, g)) H1 → va_D A (cW E ad wd cI cB cP cT (sx xq x, sy rq yq y, g)) → va_S A s.heap H1 locs1 → W p l e R s m args below meth c H1 locs1 cells slots Q (F0 m (pc + 3) ls rest)) : W p l e R s m args below meth c H locs cells slots Q (F0 m pc ls (.ref rq :: .ref (ad 2 0) :: rest)) := by
  obtain ⟨hx, hb, hml, hown, hts, hA, hK, hXc, hXs⟩ := hF
  refine va_putN (D := D) (ci := 4) (v := .ref rq) (ty := tyX0 4) (C := RX0) (T := TX0) (N := 5) hx hb hts uwX0 tyX0 tyX0_ok nmX0 hown hK hP hD hS 3 (cA_L ..) rfl 4 (by decide) (va_Nw.use rfl (hXs.1 _ hlk)) (fun _ h9 => h9) rfl (tyX0_ok 4 (by decide)) rfl rfl (Nat.le_of_ble_eq_true rfl) hdg (fun H1 locs1 a1 a2 a3 => kk H1 locs1 ?_ ?_ a3)
  · have b1 : va_P D vwCl ((cwL ad wd cI cB cP cT x y g ++ (([(rq, .inr (6, [.ref (wd (yq 3 1)), .ref (wd (yq 4 1)), .int (xq 8 1), .int (xq 9 1), .ref (wd (yq 5 1)), .int (xq 10 1), .int (xq 11 1), .int (xq 12 1), .ref (wd (yq 6 1))]))] : va_W) ++ E)).set 3 (ad 2 0, .inr (4, [.ref (ad 3 0), .ref (ad 5 3), .ref (ad 5 4), .ref (ad 6 0), .ref rq]))) H1 := a1
    rw [List.set_append_left _ _ (by rw [cwL_len]; omega)] at b1
    have b2 := zdropP (k0 := 53) (by rw [List.length_set, cwL_len]; omega) (zpermP (List.Perm.append_left _ List.perm_append_comm) b1)
    rw [cU_setq ad wd cI cB cP cT x y g] at b2
    exact b2
  · have b1 : va_D A ((cwL ad wd cI cB cP cT x y g ++ (([(rq, .inr (6, [.ref (wd (yq 3 1)), .ref (wd (yq 4 1)), .int (xq 8 1), .int (xq 9 1), .ref (wd (yq 5 1)), .int (xq 10 1), .int (xq 11 1), .int (xq 12 1), .ref (wd (yq 6 1))]))] : va_W) ++ E)).set 3 (ad 2 0, .inr (4, [.ref (ad 3 0), .ref (ad 5 3), .ref (ad 5 4), .ref (ad 6 0), .ref rq]))) := a2
    rw [List.set_append_left _ _ (by rw [cwL_len]; omega)] at b1
    have b2 := zdropD (k0 := 53) (by rw [List.length_set, cwL_len]; omega) (zpermD (List.Perm.append_left _ List.perm_append_comm) b1)
    rw [cU_setq ad wd cI cB cP cT x y g] at b2
    exact b2
end KG

theorem cwX8_J4_append_cf468 {R : Room} {s : State} {args : Array Value} {rm : Room} (hts : ∀ w ∈ wAll, w.before args s = true) (hR : rm.frames + 1 ≤ R.frames ∧ 8 + (2 + 11) + rm.locals ≤ R.locals) : CallW R s args RX8 RJ4 48 yJ4_append_cf468 cJ4_append_cf468 2 (some (.object "java/lang/StringBuilder")) (zws yJ4_append_cf468 cJ4_append_cf468 2 (some (.object "java/lang/StringBuilder"))) rm rm.cells rm.slots 1 := zCW hts (zin 428 (by decide +kernel) (by decide +kernel)) (zin 429 (by decide +kernel) (by decide +kernel)) (zin 430 (by decide +kernel) (by decide +kernel)) (inJ4) (zin 431 (by decide +kernel) (by decide +kernel)) (by decide +kernel) hR
theorem cwX8_J4_length_8abf5 {R : Room} {s : State} {args : Array Value} {rm : Room} (hts : ∀ w ∈ wAll, w.before args s = true) (hR : rm.frames + 1 ≤ R.frames ∧ 8 + (1 + 11) + rm.locals ≤ R.locals) : CallW R s args RX8 RJ4 41 yJ4_length_8abf5 cJ4_length_8abf5 1 (some .int) (zws yJ4_length_8abf5 cJ4_length_8abf5 1 (some .int)) rm rm.cells rm.slots 0 := zCW hts (zin 406 (by decide +kernel) (by decide +kernel)) (zin 407 (by decide +kernel) (by decide +kernel)) (zin 408 (by decide +kernel) (by decide +kernel)) (inJ4) (zin 409 (by decide +kernel) (by decide +kernel)) (by decide +kernel) hR
theorem cwX8_J4_setLength_d00df {R : Room} {s : State} {args : Array Value} {rm : Room} (hts : ∀ w ∈ wAll, w.before args s = true) (hR : rm.frames + 1 ≤ R.frames ∧ 8 + (2 + 11) + rm.locals ≤ R.locals) : CallW R s args RX8 RJ4 52 yJ4_setLength_d00df cJ4_setLength_d00df 2 none (zws yJ4_setLength_d00df cJ4_setLength_d00df 2 none) rm rm.cells rm.slots 1 := zCW hts (zin 664 (by decide +kernel) (by decide +kernel)) (zin 665 (by decide +kernel) (by decide +kernel)) (zin 666 (by decide +kernel) (by decide +kernel)) (inJ4) (zin 667 (by decide +kernel) (by decide +kernel)) (by decide +kernel) hR
theorem cwX8_X0_beginAnew {R : Room} {s : State} {args : Array Value} {rm : Room} (hts : ∀ w ∈ wAll, w.before args s = true) (hR : rm.frames + 1 ≤ R.frames ∧ 8 + (1 + 11) + rm.locals ≤ R.locals) : CallW R s args RX8 RX0 79 yX0_beginAnew cX0_beginAnew 1 none (zws yX0_beginAnew cX0_beginAnew 1 none) rm rm.cells rm.slots 0 := zCW hts (zin 862 (by decide +kernel) (by decide +kernel)) (zin 863 (by decide +kernel) (by decide +kernel)) (zin 864 (by decide +kernel) (by decide +kernel)) (inX0) (zin 865 (by decide +kernel) (by decide +kernel)) (by decide +kernel) hR
theorem cwX8_X2_canFollow {R : Room} {s : State} {args : Array Value} {rm : Room} (hts : ∀ w ∈ wAll, w.before args s = true) (hR : rm.frames + 1 ≤ R.frames ∧ 8 + (2 + 11) + rm.locals ≤ R.locals) : CallW R s args RX8 RX2 75 yX2_canFollow cX2_canFollow 2 (some .boolean) (zws yX2_canFollow cX2_canFollow 2 (some .boolean)) rm rm.cells rm.slots 1 := zCW hts (zin 660 (by decide +kernel) (by decide +kernel)) (zin 661 (by decide +kernel) (by decide +kernel)) (zin 662 (by decide +kernel) (by decide +kernel)) (inX2) (zin 663 (by decide +kernel) (by decide +kernel)) (by decide +kernel) hR
theorem cwX8_X2_isFit {R : Room} {s : State} {args : Array Value} {rm : Room} (hts : ∀ w ∈ wAll, w.before args s = true) (hR : rm.frames + 1 ≤ R.frames ∧ 8 + (1 + 11) + rm.locals ≤ R.locals) : CallW R s args RX8 RX2 67 yX2_isFit cX2_isFit 1 (some .boolean) (zws yX2_isFit cX2_isFit 1 (some .boolean)) rm rm.cells rm.slots 0 := zCW hts (zin 655 (by decide +kernel) (by decide +kernel)) (zin 656 (by decide +kernel) (by decide +kernel)) (zin 657 (by decide +kernel) (by decide +kernel)) (inX2) (zin 658 (by decide +kernel) (by decide +kernel)) (by decide +kernel) hR
theorem cwX8_X3_readAll {R : Room} {s : State} {args : Array Value} {rm : Room} (hts : ∀ w ∈ wAll, w.before args s = true) (hR : rm.frames + 1 ≤ R.frames ∧ 8 + (3 + 11) + rm.locals ≤ R.locals) : CallW R s args RX8 RX3 64 yX3_readAll cX3_readAll 3 (some .int) (zws yX3_readAll cX3_readAll 3 (some .int)) rm rm.cells rm.slots 0 := zCW hts (zin 554 (by decide +kernel) (by decide +kernel)) (zin 555 (by decide +kernel) (by decide +kernel)) (zin 556 (by decide +kernel) (by decide +kernel)) (inX3) (zin 557 (by decide +kernel) (by decide +kernel)) (by decide +kernel) hR
theorem cwX8_X5_beginAnew {R : Room} {s : State} {args : Array Value} {rm : Room} (hts : ∀ w ∈ wAll, w.before args s = true) (hR : rm.frames + 1 ≤ R.frames ∧ 8 + (1 + 11) + rm.locals ≤ R.locals) : CallW R s args RX8 RX5 82 yX5_beginAnew cX5_beginAnew 1 none (zws yX5_beginAnew cX5_beginAnew 1 none) rm rm.cells rm.slots 0 := zCW hts (zin 875 (by decide +kernel) (by decide +kernel)) (zin 876 (by decide +kernel) (by decide +kernel)) (zin 877 (by decide +kernel) (by decide +kernel)) (inX5) (zin 878 (by decide +kernel) (by decide +kernel)) (by decide +kernel) hR
theorem miX8_60 : Cond.methodLinkNest RX8 60 yX2_init "Streamloom" ∈ wNest := zinN 536 (by decide +kernel) rfl
theorem miX8_61 : Cond.methodLink RX8 61 yX3_init ∈ wAll := zin 537 (by decide +kernel) (by decide +kernel)
theorem imX3_init : Cond.instanceMethod yX3_init ∈ wAll := (zin 538 (by decide +kernel) (by decide +kernel))
theorem icX3_init : Cond.code yX3_init cX3_init 3 none ∈ wAll := zin 539 (by decide +kernel) (by decide +kernel)
theorem clX8_56 : Cond.classLink RX8 56 RX3 ∈ wAll := (zin 533 (by decide +kernel) (by decide +kernel))
theorem clX8_58 : Cond.classLink RX8 58 RX2 ∈ wAll := (zin 535 (by decide +kernel) (by decide +kernel))
theorem insX3 : Cond.instantiable RX3 4 ∈ wAll := (zin 534 (by decide +kernel) (by decide +kernel))
