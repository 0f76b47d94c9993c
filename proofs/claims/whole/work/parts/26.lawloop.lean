def wStep (xs : Nat → Int32) (iv : Int32) (j : Nat) (x : Nat → Nat → Int32) (y : Nat → Nat → Nat) (g : Nat → Nat → Nat → Int32) (f : Nat → Int64) (xm : Nat → Int32) (gm : Nat → Nat → Int32) (bc bs : Nat) (K : (Nat → Nat → Int32) → (Nat → Nat → Nat) → (Nat → Nat → Nat → Int32) → (Nat → Int64) → (Nat → Int32) → (Nat → Nat → Int32) → Nat → Nat → Prop) : Prop := match j with
  | 0 => wlc0 x y g f xm gm (((xs (iv + 1).toNatClampNeg).toUInt32 % 65536).toInt32) bc bs K
  | 1 => wlc1 x y g f xm gm bc bs K
  | 2 => wlc2 x y g f xm gm bc bs K
  | 3 => wlc3 x y g f xm gm (if (xs (iv + 1).toNatClampNeg) = 0 then 0 else 1) bc bs K
  | 4 => wlc4 x y g f xm gm (xs (iv + 1).toNatClampNeg) (xs (iv + 2).toNatClampNeg) (xs (iv + 3).toNatClampNeg) (xs (iv + 4).toNatClampNeg) bc bs K
  | 5 => wlc5 x y g f xm gm (xs (iv + 1).toNatClampNeg) (xs (iv + 2).toNatClampNeg) bc bs K
  | 6 => wlc6 x y g f xm gm (xs (iv + 1).toNatClampNeg) (if (xs (iv + 2).toNatClampNeg) = 0 then 0 else 1) bc bs K
  | 7 => wlc7 x y g f xm gm (xs (iv + 1).toNatClampNeg) (xs (iv + 2).toNatClampNeg) (xs (iv + 3).toNatClampNeg) bc bs K
  | 8 => wlc8 x y g f xm gm (xs (iv + 1).toNatClampNeg) bc bs K
  | 9 => wlc9 x y g f xm gm bc bs K
  | 10 => wlc10 x y g f xm gm (xs (iv + 1).toNatClampNeg) bc bs K
  | 11 => wlc11 x y g f xm gm bc bs K
  | 12 => wlc12 x y g f xm gm bc bs K
  | 13 => wlc13 x y g f xm gm (xs (iv + 1).toNatClampNeg) (xs (iv + 2).toNatClampNeg) bc bs K
  | 14 => wlc14 x y g f xm gm bc bs K
  | 15 => wlc15 x y g f xm gm bc bs K
  | 16 => wlc16 x y g f xm gm (xs (iv + 1).toNatClampNeg) (xs (iv + 2).toNatClampNeg) bc bs K
  | 17 => wlc17 x y g f xm gm (xs (iv + 1).toNatClampNeg) (xs (iv + 2).toNatClampNeg) bc bs K
  | 18 => wlc18 x y g f xm gm (xs (iv + 1).toNatClampNeg) (xs (iv + 2).toNatClampNeg) bc bs K
  | 19 => wlc19 x y g f xm gm bc bs K
  | 20 => wlc20 x y g f xm gm (xs (iv + 1).toNatClampNeg) bc bs K
  | 21 => wlc21 x y g f xm gm bc bs K
  | 22 => wlc22 x y g f xm gm bc bs K
  | 23 => wlc23 x y g f xm gm (xs (iv + 1).toNatClampNeg) bc bs K
  | 24 => wlc24 x y g f xm gm (xs (iv + 1).toNatClampNeg) bc bs K
  | _ => K x y g f xm gm bc bs
section LWL
variable {p : Program} {l : Launch} {e : Env} {s : State} {m : MethodId} {below : List Frame} {meth : Method} {c : Code} {A : Nat → Prop} {D : va_G} {ad : Nat → Nat → Nat} {wd sk : Nat → Nat} {cI cB cP cT cJ cIm cZ : ClassId} {qo om b L : Nat} {adm : Nat → Nat} {xs : Nat → Int32}
set_option maxRecDepth 100000 in
set_option maxHeartbeats 4000000 in
theorem law_loop (hlf : l.stackTraces = false) (hF : lwF p s m #[Value.ref b] c A D wd sk cI cB cP cT cJ cIm cZ b L xs) (hA0 : ∀ q, A q → s.heap.size ≤ q) (hr : meth.sig.returnType = ret) (hlocks : meth.locks = false) (hL : L ≤ 2560) (I : Nat → (Nat → Nat → Int32) → (Nat → Nat → Nat) → (Nat → Nat → Nat → Int32) → (Nat → Int64) → (Nat → Int32) → (Nat → Nat → Int32) → Nat → Nat → Prop)
  (hI : ∀ (i : Nat) (x : Nat → Nat → Int32) (y : Nat → Nat → Nat) (g : Nat → Nat → Nat → Int32) (f : Nat → Int64) (xm : Nat → Int32) (gm : Nat → Nat → Int32) (bc bs : Nat), i + 5 ≤ L → I i x y g f xm gm bc bs → ∀ j : Nat, j < 32 → xs (nI i).toNatClampNeg &&& 31 = nI j → wStep xs (nI i) j x y g f xm gm bc bs (I (i + 5))) :
  ∀ (n i : Nat), L + 5 < i + n → i ≤ L + 4 → ∀ (x : Nat → Nat → Int32) (y : Nat → Nat → Nat) (g : Nat → Nat → Nat → Int32) (f : Nat → Int64) (xm : Nat → Int32) (gm : Nat → Nat → Int32) (bc bs : Nat), I i x y g f xm gm bc bs → ∀ (k1 n1 : Nat) (H : Heap) (locs : List Loc) (ls : Array Slot), k1 + bc ≤ 601024 → n1 + bs ≤ 7293034 → va_P D vwCl (lw2 ad wd cI cB cP cT cJ cIm cZ qo om adm x y g f xm gm) H → va_D A (lw2 ad wd cI cB cP cT cJ cIm cZ qo om adm x y g f xm gm) → va_S A s.heap H locs → lv_has ls 7 [(0, .ref b), (1, .ref (ad 0 0)), (2, .ref om), (3, .ref qo), (4, .int (nI i))] → W p l e room_1 s m #[Value.ref b] below meth c H locs k1 n1 (lw_Z below #[Value.ref b] s) (F0 m 23 ls []) := by
  intro n
  induction n with
  | zero => intro i h1 h2; omega
  | succ n ih =>
    intro i h1 h2 x y g f xm gm bc bs hi k1 n1 H locs ls hk hn hP hD hS hl
    have hF0 := hF
    obtain ⟨hFl, hFm, hX, hbl, hbA⟩ := hF
    have hx := hFl.1
    have hb := hFl.2.1
    refine lv_iload (pc := 23) hx hb dL_law_23 (lv_at hl 4 rfl) ?_
    refine lv_aload_n (pc := 25) hx hb dL_law_25 rfl (lv_at hl 0 rfl) ?_
    refine va_slen (pc := 26) hx hb hX hbl hbA hS dL_law_26 ?_
    refine lv_iconst (pc := 27) (v := 5) hx hb dL_law_27 (by decide) ?_
    refine lv_isub (pc := 28) hx hb dL_law_28 ?_
    have hc : (Int32.ofNat L - 5 < nI i) ↔ L < i + 5 := by
      rw [show Int32.ofNat L = nI L from rfl, show (5 : Int32) = nI 5 from rfl, Int32.lt_iff_toInt_lt, pk_sub_toInt (by omega) (by omega), nI_toInt (by omega)]
      omega
    refine lv_icmp_gt (pc := 29) (tgt := 1356) hx hb dL_law_29 (by decide) (fun c9 => ?_) (fun c9 => ?_)
    · refine lv_iconst (pc := 1356) (v := 1) hx hb dL_law_1356 (by decide) ?_
      refine va_forget (fun q hq => hA0 _ (hS.2.2 q hq)) ?_
      refine W.widen (k := 601024) (n := 7293034) (by omega) (by omega) ?_
      exact lw_ret (pc := 1357) hx hb hr hlocks dL_law_1357
    · have h5 : i + 5 ≤ L := by rw [hc] at c9; omega
      refine lv_aload_n (pc := 32) hx hb dL_law_32 rfl (lv_at hl 0 rfl) ?_
      refine lv_iload (pc := 33) hx hb dL_law_33 (lv_at hl 4 rfl) ?_
      refine va_sld (pc := 35) hx hb hX hbl hbA hS (nI_in (by omega) (by omega)) dL_law_35 ?_
      refine lv_bipush (pc := 36) (v := 31) hx hb dL_law_36 (by decide) ?_
      refine lv_iand (pc := 38) hx hb dL_law_38 ?_
      obtain ⟨j, hj, ej⟩ := pk_andE (xs (nI i).toNatClampNeg) (m := 31) 5 (by decide)
      have h := hI i x y g f xm gm bc bs h5 hi j hj ej
      rw [ej]
      have hi1 : vp_in (nI i + 1) L := by
        rw [show (1 : Int32) = nI 1 from rfl, nI_add]
        exact nI_in (by omega) (by omega)
      have hi2 : vp_in (nI i + 2) L := by
        rw [show (2 : Int32) = nI 2 from rfl, nI_add]
        exact nI_in (by omega) (by omega)
      have hi3 : vp_in (nI i + 3) L := by
        rw [show (3 : Int32) = nI 3 from rfl, nI_add]
        exact nI_in (by omega) (by omega)
      have hi4 : vp_in (nI i + 4) L := by
        rw [show (4 : Int32) = nI 4 from rfl, nI_add]
        exact nI_in (by omega) (by omega)
      have hend : ∀ (x1 : Nat → Nat → Int32) (y1 : Nat → Nat → Nat) (g1 : Nat → Nat → Nat → Int32) (f1 : Nat → Int64) (xm1 : Nat → Int32) (gm1 : Nat → Nat → Int32) (bc2 bs2 k1 n1 : Nat) (H1 : Heap) (locs1 : List Loc) (ls1 : Array Slot), I (i + 5) x1 y1 g1 f1 xm1 gm1 bc2 bs2 → k1 + bc2 ≤ 601024 → n1 + bs2 ≤ 7293034 → va_P D vwCl (lw2 ad wd cI cB cP cT cJ cIm cZ qo om adm x1 y1 g1 f1 xm1 gm1) H1 → va_D A (lw2 ad wd cI cB cP cT cJ cIm cZ qo om adm x1 y1 g1 f1 xm1 gm1) → va_S A s.heap H1 locs1 → lv_has ls1 7 [(0, .ref b), (1, .ref (ad 0 0)), (2, .ref om), (3, .ref qo), (4, .int (nI i))] → W p l e room_1 s m #[Value.ref b] below meth c H1 locs1 k1 n1 (lw_Z below #[Value.ref b] s) (F0 m 1350 ls1 []) := by
        intro x1 y1 g1 f1 xm1 gm1 bc2 bs2 k1 n1 H1 locs1 ls1 hi1 hk1 hn1 hP1 hD1 hS1 hl1
        refine lv_iinc (pc := 1350) (v := nI (i + 5)) (lv' := [(4, .int (nI (i + 5))), (0, .ref b), (1, .ref (ad 0 0)), (2, .ref om), (3, .ref qo)]) hx hb dL_law_1350 hl1 (k := 4) rfl (by rw [show Int32.ofInt 5 = nI 5 from by decide]; exact nI_add i 5) (by decide) rfl (fun ls hl => ?_)
        refine lv_goto (pc := 1353) (tgt := 23) hx hb dL_law_1353 (by decide) ?_
        exact ih (i + 5) (by omega) (by omega) x1 y1 g1 f1 xm1 gm1 bc2 bs2 hi1 _ _ _ _ _ hk1 hn1 hP1 hD1 hS1 (lv_sub hl [1, 2, 3, 4, 0] rfl)
      have hjs : j = 0 ∨ j = 1 ∨ j = 2 ∨ j = 3 ∨ j = 4 ∨ j = 5 ∨ j = 6 ∨ j = 7 ∨ j = 8 ∨ j = 9 ∨ j = 10 ∨ j = 11 ∨ j = 12 ∨ j = 13 ∨ j = 14 ∨ j = 15 ∨ j = 16 ∨ j = 17 ∨ j = 18 ∨ j = 19 ∨ j = 20 ∨ j = 21 ∨ j = 22 ∨ j = 23 ∨ j = 24 ∨ 24 < j := by omega
      rcases hjs with rfl | rfl | rfl | rfl | rfl | rfl | rfl | rfl | rfl | rfl | rfl | rfl | rfl | rfl | rfl | rfl | rfl | rfl | rfl | rfl | rfl | rfl | rfl | rfl | rfl | h25
      · refine lv_tableIn (pc := 39) (off := 113) (tgt := 152) hx hb dL_law_39 (by decide +kernel) (by decide +kernel) (by decide +kernel) (by decide) ?_
        exact klc0 hlf hF0 hi1 x y g f xm gm bc bs h hk hn hP hD hS hl hend
      · refine lv_tableIn (pc := 39) (off := 171) (tgt := 210) hx hb dL_law_39 (by decide +kernel) (by decide +kernel) (by decide +kernel) (by decide) ?_
        exact klc1 hlf hF0 x y g f xm gm bc bs h hk hn hP hD hS hl hend
      · refine lv_tableIn (pc := 39) (off := 184) (tgt := 223) hx hb dL_law_39 (by decide +kernel) (by decide +kernel) (by decide +kernel) (by decide) ?_
        exact klc2 hlf hF0 x y g f xm gm bc bs h hk hn hP hD hS hl hend
      · refine lv_tableIn (pc := 39) (off := 197) (tgt := 236) hx hb dL_law_39 (by decide +kernel) (by decide +kernel) (by decide +kernel) (by decide) ?_
        exact klc3 hlf hF0 hi1 x y g f xm gm bc bs h hk hn hP hD hS hl hend
      · refine lv_tableIn (pc := 39) (off := 269) (tgt := 308) hx hb dL_law_39 (by decide +kernel) (by decide +kernel) (by decide +kernel) (by decide) ?_
        exact klc4 hlf hF0 hi1 hi2 hi3 hi4 x y g f xm gm bc bs h hk hn hP hD hS hl hend
      · refine lv_tableIn (pc := 39) (off := 361) (tgt := 400) hx hb dL_law_39 (by decide +kernel) (by decide +kernel) (by decide +kernel) (by decide) ?_
        exact klc5 hlf hF0 hi1 hi2 x y g f xm gm bc bs h hk hn hP hD hS hl hend
      · refine lv_tableIn (pc := 39) (off := 429) (tgt := 468) hx hb dL_law_39 (by decide +kernel) (by decide +kernel) (by decide +kernel) (by decide) ?_
        exact klc6 hlf hF0 hi1 hi2 x y g f xm gm bc bs h hk hn hP hD hS hl hend
      · refine lv_tableIn (pc := 39) (off := 513) (tgt := 552) hx hb dL_law_39 (by decide +kernel) (by decide +kernel) (by decide +kernel) (by decide) ?_
        exact klc7 hlf hF0 hi1 hi2 hi3 x y g f xm gm bc bs h hk hn hP hD hS hl hend
      · refine lv_tableIn (pc := 39) (off := 593) (tgt := 632) hx hb dL_law_39 (by decide +kernel) (by decide +kernel) (by decide +kernel) (by decide) ?_
        exact klc8 hlf hF0 hi1 x y g f xm gm bc bs h hk hn hP hD hS hl hend
      · refine lv_tableIn (pc := 39) (off := 649) (tgt := 688) hx hb dL_law_39 (by decide +kernel) (by decide +kernel) (by decide +kernel) (by decide) ?_
        exact klc9 hlf hF0 x y g f xm gm bc bs h hk hn hP hD hS hl hend
      · refine lv_tableIn (pc := 39) (off := 662) (tgt := 701) hx hb dL_law_39 (by decide +kernel) (by decide +kernel) (by decide +kernel) (by decide) ?_
        exact klc10 hlf hF0 hi1 x y g f xm gm bc bs h hk hn hP hD hS hl hend
      · refine lv_tableIn (pc := 39) (off := 718) (tgt := 757) hx hb dL_law_39 (by decide +kernel) (by decide +kernel) (by decide +kernel) (by decide) ?_
        exact klc11 hlf hF0 x y g f xm gm bc bs h hk hn hP hD hS hl hend
      · refine lv_tableIn (pc := 39) (off := 731) (tgt := 770) hx hb dL_law_39 (by decide +kernel) (by decide +kernel) (by decide +kernel) (by decide) ?_
        exact klc12 hlf hF0 x y g f xm gm bc bs h hk hn hP hD hS hl hend
      · refine lv_tableIn (pc := 39) (off := 744) (tgt := 783) hx hb dL_law_39 (by decide +kernel) (by decide +kernel) (by decide +kernel) (by decide) ?_
        exact klc13 hlf hF0 hi1 hi2 x y g f xm gm bc bs h hk hn hP hD hS hl hend
      · refine lv_tableIn (pc := 39) (off := 812) (tgt := 851) hx hb dL_law_39 (by decide +kernel) (by decide +kernel) (by decide +kernel) (by decide) ?_
        exact klc14 hlf hF0 x y g f xm gm bc bs h hk hn hP hD hS hl hend
      · refine lv_tableIn (pc := 39) (off := 825) (tgt := 864) hx hb dL_law_39 (by decide +kernel) (by decide +kernel) (by decide +kernel) (by decide) ?_
        exact klc15 hlf hF0 x y g f xm gm bc bs h hk hn hP hD hS hl hend
      · refine lv_tableIn (pc := 39) (off := 838) (tgt := 877) hx hb dL_law_39 (by decide +kernel) (by decide +kernel) (by decide +kernel) (by decide) ?_
        exact klc16 hlf hF0 hi1 hi2 x y g f xm gm bc bs h hk hn hP hD hS hl hend
      · refine lv_tableIn (pc := 39) (off := 906) (tgt := 945) hx hb dL_law_39 (by decide +kernel) (by decide +kernel) (by decide +kernel) (by decide) ?_
        exact klc17 hlf hF0 hi1 hi2 x y g f xm gm bc bs h hk hn hP hD hS hl hend
      · refine lv_tableIn (pc := 39) (off := 974) (tgt := 1013) hx hb dL_law_39 (by decide +kernel) (by decide +kernel) (by decide +kernel) (by decide) ?_
        exact klc18 hlf hF0 hi1 hi2 x y g f xm gm bc bs h hk hn hP hD hS hl hend
      · refine lv_tableIn (pc := 39) (off := 1042) (tgt := 1081) hx hb dL_law_39 (by decide +kernel) (by decide +kernel) (by decide +kernel) (by decide) ?_
        exact klc19 hlf hF0 x y g f xm gm bc bs h hk hn hP hD hS hl hend
      · refine lv_tableIn (pc := 39) (off := 1086) (tgt := 1125) hx hb dL_law_39 (by decide +kernel) (by decide +kernel) (by decide +kernel) (by decide) ?_
        exact klc20 hlf hF0 hi1 x y g f xm gm bc bs h hk hn hP hD hS hl hend
      · refine lv_tableIn (pc := 39) (off := 1142) (tgt := 1181) hx hb dL_law_39 (by decide +kernel) (by decide +kernel) (by decide +kernel) (by decide) ?_
        exact klc21 hlf hF0 x y g f xm gm bc bs h hk hn hP hD hS hl hend
      · refine lv_tableIn (pc := 39) (off := 1155) (tgt := 1194) hx hb dL_law_39 (by decide +kernel) (by decide +kernel) (by decide +kernel) (by decide) ?_
        exact klc22 hlf hF0 x y g f xm gm bc bs h hk hn hP hD hS hl hend
      · refine lv_tableIn (pc := 39) (off := 1199) (tgt := 1238) hx hb dL_law_39 (by decide +kernel) (by decide +kernel) (by decide +kernel) (by decide) ?_
        exact klc23 hlf hF0 hi1 x y g f xm gm bc bs h hk hn hP hD hS hl hend
      · refine lv_tableIn (pc := 39) (off := 1255) (tgt := 1294) hx hb dL_law_39 (by decide +kernel) (by decide +kernel) (by decide +kernel) (by decide) ?_
        exact klc24 hlf hF0 hi1 x y g f xm gm bc bs h hk hn hP hD hS hl hend
      · refine lv_tableOut (pc := 39) (tgt := 1350) hx hb dL_law_39 (Or.inr (by rw [nI_toInt (by omega)]; omega)) (by decide) ?_
        have h : I (i + 5) x y g f xm gm bc bs := by
          have : ∃ d, j = d + 25 := ⟨j - 25, by omega⟩
          obtain ⟨d, rfl⟩ := this
          exact h
        exact hend x y g f xm gm bc bs _ _ _ _ _ h hk hn hP hD hS hl
end LWL
