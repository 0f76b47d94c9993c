theorem EXT.compl {S M d i} {p : Nat} (h : EXT S d) (hr : Rel S M d i) (hp : p < d.c) : EXT (cCompl S d.c p) (GD.mk d.n d.rd (d.c - (p + 1)) d.tk d.sz d.sl d.lt) := by
  obtain ⟨a0, a1, a2, a3, a4⟩ := h
  have hc5 := hr.sn.c5
  have h7 := hr.sn.y7
  obtain ⟨s1, s2, s3, s4, s5⟩ := cRot_same (p + 1) (cCpS S 1 (S.y 7 p)) (d.c - (p + 1)) 0
  obtain ⟨r1, r2, r3⟩ := cRot_spec (p + 1) d.c (by omega) (d.c - (p + 1)) 0 (cCpS S 1 (S.y 7 p)) (S.y 7) (by omega) hc5 (fun k hk => absurd hk (Nat.not_lt_zero k)) (fun k _ => rfl) (fun k hk => h7 k hk) (fun j k hj hk e => hr.sn.inj j k hj hk e)
  have eR : ∀ q, q ≠ 6 → (cCompl S d.c p).R q = S.R q := fun q hq => by
    unfold cCompl; rw [cX_R, s3]; exact cps_Rn S 1 (S.y 7 p) hq
  have eR6 : (cCompl S d.c p).R 6 = S.R (5 + S.y 7 p) := by
    unfold cCompl; rw [cX_R, s3]; exact cps_R S 1 (S.y 7 p)
  have ex : ∀ k b, k ≠ 13 → b ≠ 1 → (cCompl S d.c p).x k b = S.x k b := fun k b h1 h2 => by
    unfold cCompl; rw [cX_x _ _ (by omega), s1]; exact cps_xn S 1 (S.y 7 p) (.inl h2)
  have ex1 : ∀ k, 2 ≤ k → k ≤ 5 → (cCompl S d.c p).x k 1 = S.x k (S.y 7 p) := fun k h1 h2 => by
    unfold cCompl; rw [cX_x _ _ (by omega), s1]; exact cps_x S 1 (S.y 7 p) h1 h2
  have eg : ∀ b, b ≠ 1 → (cCompl S d.c p).g 1 b = S.g 1 b := fun b hb => by
    unfold cCompl; rw [cX_gg, s2]; exact cps_gn S 1 (S.y 7 p) (.inl hb)
  have eg1 : ∀ i, i < 3 → (cCompl S d.c p).g 1 1 i = S.g 1 (S.y 7 p) i := fun i hi => by
    unfold cCompl; rw [cX_gg, s2]; exact cps_g S 1 (S.y 7 p) (by omega) (by omega) hi
  have ey : ∀ k, k ≠ 7 → (cCompl S d.c p).y k = S.y k := fun k hk => by
    unfold cCompl; rw [cX_yy', s5 k hk]; rfl
  have ey7 : ∀ k, k < d.c - (p + 1) → (cCompl S d.c p).y 7 k = S.y 7 (k + (p + 1)) := fun k hk => by
    unfold cCompl; rw [cX_yy']; exact r1 k (by omega)
  have tk : ∀ (rd : Nat → Nat) (m : Nat), (∀ q, q < 3 → ((cCompl S d.c p).R q).take (rd q) = (S.R q).take (rd q)) ∧ ((cCompl S d.c p).R 4).take m = (S.R 4).take m := fun rd m => ⟨fun q hq => by rw [eR q (by omega)], by rw [eR 4 (by omega)]⟩
  refine ⟨?_, ?_, fun k hk => ?_, fun k hk => ?_, fun j k hjk hk => ?_⟩
  · unfold TS0 at a0 ⊢
    rw [ey 5 (by omega), ey 3 (by omega), eR 5 (by omega), ex 2 0 (by omega) (by omega), ex 12 0 (by omega) (by omega), ex 10 0 (by omega) (by omega), eR 4 (by omega)]
    rw [show EV (cCompl S d.c p) (GD.mk d.n d.rd (d.c - (p + 1)) d.tk d.sz d.sl d.lt).rd = EV S d.rd from EV_congr fun q hq => by rw [eR q (by omega)]]
    exact a0
  · exact (a2 p hp).mv eR6 (ex1 2 (by omega) (by omega)) (ex1 4 (by omega) (by omega)) eg1 (by rw [ey 3 (by omega)]) (by rw [ey 5 (by omega)]) (ex 10 0 (by omega) (by omega)) (by rw [ex 12 0 (by omega) (by omega)]; exact Int32.le_refl _) fun rd m _ => tk rd m
  · have hk : k < d.c - (p + 1) := hk
    rw [ey7 k hk]
    have := (h7 (k + (p + 1)) (by omega)).1
    exact (a2 (k + (p + 1)) (by omega)).mv (eR _ (by omega)) (ex 2 _ (by omega) (by omega)) (ex 4 _ (by omega) (by omega)) (fun i _ => by rw [eg _ (by omega)]) (by rw [ey 3 (by omega)]) (by rw [ey 5 (by omega)]) (ex 10 0 (by omega) (by omega)) (by rw [ex 12 0 (by omega) (by omega)]; exact Int32.le_refl _) fun rd m _ => tk rd m
  · have hk : k < d.c - (p + 1) := hk
    have := (h7 (k + (p + 1)) (by omega)).1
    rw [ey7 k hk, ex1 4 (by omega) (by omega), ex 4 _ (by omega) (by omega)]
    exact a4 p (k + (p + 1)) (by omega) (by omega)
  · have hk : k < d.c - (p + 1) := hk
    have := (h7 (k + (p + 1)) (by omega)).1
    have := (h7 (j + (p + 1)) (by omega)).1
    rw [ey7 k hk, ey7 j (by omega), ex 4 _ (by omega) (by omega), ex 4 _ (by omega) (by omega)]
    exact a4 (j + (p + 1)) (k + (p + 1)) (by omega) (by omega)
theorem TSF_nil {shape sz sl : Nat} {mk hz : Int32} {F : Int32 → Int32 → Option Int32} (hF : ∀ k b, F k b = none) : TSF shape sz sl [] mk hz F [] :=
  ⟨fun r h => absurd h List.not_mem_nil, fun _ r h => absurd h List.not_mem_nil, fun _ => ⟨fun r h => absurd h List.not_mem_nil, fun k j _ _ => ⟨by rw [hF]; split <;> rfl, fun _ => .inl (hF _ _)⟩⟩⟩
theorem EXT.anew {S d} {v : Int32} {rq : Nat} {Q : PQ} : EXT (S4 S v rq Q) ⟨d, fun _ => 0, 0, 0, Q.sz, Q.sl, Q.lt⟩ := by
  have R5 : (S4 S v rq Q).R 5 = [] := by rw [S4_R, if_pos (by omega)]
  have R4 : (S4 S v rq Q).R 4 = [] := by rw [S4_R, if_pos (by omega)]
  have R6 : (S4 S v rq Q).R 6 = [] := by rw [S4_R, if_pos (by omega)]
  refine ⟨?_, fun rd m hm => ?_, fun k hk => absurd hk (Nat.not_lt_zero k), fun k hk => absurd hk (Nat.not_lt_zero k), fun j k _ hk => absurd hk (Nat.not_lt_zero k)⟩
  · unfold TS0
    rw [R5, R4]
    refine TSF_nil fun k b => ?_
    unfold EV
    rfl
  · unfold TSa
    rw [R6, R4, List.take_nil]
    refine TSF_nil fun k b => ?_
    have hg : ∀ i, i < 3 → rd i = 0 := fun i hi => by
      obtain ⟨b1, b2⟩ := hm.1 i hi
      have e : (S4 S v rq Q).g 1 1 i = 0 := by unfold S4; exact cBeg_gi _ 1 hi
      rw [e] at b2
      exact (nI_inj (a := 0) (by omega) (by omega) b2).symm
    unfold EV
    rw [hg 0 (by omega), hg 1 (by omega), hg 2 (by omega)]
    rfl
theorem EXT.keep {S M d i} {v : Int32} {rq : Nat} {Q : PQ} (h : EXT S d) (hr : Rel S M d i) (h5 : M.x 5 = 1) (hF : Fol Q S d) (hl : Q.lt ≤ 99) : EXT (Sy (Sx S v Q) rq Q) (GD.mk d.n d.rd d.c d.tk d.sz d.sl Q.lt) := by
  obtain ⟨f1, f2, f3, f4, f5⟩ := hF
  have hQ := hr.pl.q h5
  have hlt : Q.lt ≤ d.lt := Nat.not_lt.1 f5
  have ex : ∀ k i, ¬ (8 ≤ k ∧ k ≤ 12 ∧ i = 0) → ¬ (18 ≤ k ∧ k ≤ 19) → (Sy (Sx S v Q) rq Q).x k i = S.x k i := fun k i a b => Sxy_x S v rq Q a b
  obtain ⟨⟨-, -, x10, -, x12⟩, -⟩ := Sx_q S v Q
  have e10 : (Sy (Sx S v Q) rq Q).x 10 0 = S.x 10 0 := by rw [Sy_x, x10, f3, hQ.zc]
  have e12 : (Sy (Sx S v Q) rq Q).x 12 0 = nI Q.lt := by rw [Sy_x, x12]
  obtain ⟨y3, -, y5, -⟩ := Sy_q (Sx S v Q) rq Q
  rw [f1] at y3
  rw [f2] at y5
  have hz : ∀ a : Int32, -100 ≤ a.toInt ∧ a.toInt ≤ 999 → a - S.x 12 0 ≤ a - (Sy (Sx S v Q) rq Q).x 12 0 := fun a ha => by
    rw [e12, hQ.lc, i_le, mkRange ha hQ.l2, mkRange ha hl]
    omega
  have hR := Sxy_R S v rq Q
  have hg := Sxy_g S v rq Q
  have ey7 : (Sy (Sx S v Q) rq Q).y 7 = S.y 7 := funext fun k => Sxy_y S v rq Q (by omega)
  refine h.kept hr ?_ rfl rfl rfl (fun q _ => by rw [hR]) ⟨[], by rw [hR, List.append_nil]⟩ (fun p _ n _ => by rw [hR]) (fun a _ => ex 2 a (by omega) (by omega)) (fun a _ => ex 4 a (by omega) (by omega)) e10 ?_ y3 y5 ey7 (fun a _ => by rw [hg])
  · have := h.1
    unfold TS0 at this ⊢
    rw [y5, y3, hR, ex 2 0 (by omega) (by omega), e10, show EV (Sy (Sx S v Q) rq Q) (GD.mk d.n d.rd d.c d.tk d.sz d.sl Q.lt).rd = EV S d.rd from EV_congr fun p _ => by rw [hR]]
    exact this.hz (hz _ hr.st0.mr)
  · exact fun a ha => hz _ ha
