abbrev GD : Type := (Nat → Nat) × (Nat → Nat) × (Nat) × (Nat) × (Nat) × (Nat) × (Nat)
abbrev GD.mk (a0 : Nat → Nat) (a1 : Nat → Nat) (a2 : Nat) (a3 : Nat) (a4 : Nat) (a5 : Nat) (a6 : Nat) : GD := (a0, a1, a2, a3, a4, a5, a6)
abbrev GD.n (S : GD) : Nat → Nat := Prod.fst S
abbrev GD.rd (S : GD) : Nat → Nat := Prod.fst (Prod.snd S)
abbrev GD.c (S : GD) : Nat := Prod.fst (Prod.snd (Prod.snd S))
abbrev GD.tk (S : GD) : Nat := Prod.fst (Prod.snd (Prod.snd (Prod.snd S)))
abbrev GD.sz (S : GD) : Nat := Prod.fst (Prod.snd (Prod.snd (Prod.snd (Prod.snd S))))
abbrev GD.sl (S : GD) : Nat := Prod.fst (Prod.snd (Prod.snd (Prod.snd (Prod.snd (Prod.snd S)))))
abbrev GD.lt (S : GD) : Nat := (Prod.snd (Prod.snd (Prod.snd (Prod.snd (Prod.snd (Prod.snd S))))))
theorem GD.mk_n (a0 : Nat → Nat) (a1 : Nat → Nat) (a2 : Nat) (a3 : Nat) (a4 : Nat) (a5 : Nat) (a6 : Nat) : (GD.mk a0 a1 a2 a3 a4 a5 a6).n = a0 := rfl
theorem GD.mk_rd (a0 : Nat → Nat) (a1 : Nat → Nat) (a2 : Nat) (a3 : Nat) (a4 : Nat) (a5 : Nat) (a6 : Nat) : (GD.mk a0 a1 a2 a3 a4 a5 a6).rd = a1 := rfl
theorem GD.mk_c (a0 : Nat → Nat) (a1 : Nat → Nat) (a2 : Nat) (a3 : Nat) (a4 : Nat) (a5 : Nat) (a6 : Nat) : (GD.mk a0 a1 a2 a3 a4 a5 a6).c = a2 := rfl
theorem GD.mk_tk (a0 : Nat → Nat) (a1 : Nat → Nat) (a2 : Nat) (a3 : Nat) (a4 : Nat) (a5 : Nat) (a6 : Nat) : (GD.mk a0 a1 a2 a3 a4 a5 a6).tk = a3 := rfl
theorem GD.mk_sz (a0 : Nat → Nat) (a1 : Nat → Nat) (a2 : Nat) (a3 : Nat) (a4 : Nat) (a5 : Nat) (a6 : Nat) : (GD.mk a0 a1 a2 a3 a4 a5 a6).sz = a4 := rfl
theorem GD.mk_sl (a0 : Nat → Nat) (a1 : Nat → Nat) (a2 : Nat) (a3 : Nat) (a4 : Nat) (a5 : Nat) (a6 : Nat) : (GD.mk a0 a1 a2 a3 a4 a5 a6).sl = a5 := rfl
theorem GD.mk_lt (a0 : Nat → Nat) (a1 : Nat → Nat) (a2 : Nat) (a3 : Nat) (a4 : Nat) (a5 : Nat) (a6 : Nat) : (GD.mk a0 a1 a2 a3 a4 a5 a6).lt = a6 := rfl
theorem GD.mk_eta (S : GD) : GD.mk S.n S.rd S.c S.tk S.sz S.sl S.lt = S := rfl
abbrev TX (S : CS) (M : MS) (n : Nat) : Prop := (n ≤ 60) ∧ (M.x 0 = nI n) ∧ (S.x 19 0 = nI n) ∧ (S.x 17 0 = 0) ∧ (n ≤ S.y 9 0) ∧ (16 ≤ S.y 9 0) ∧ (S.y 9 0 = 16 ∨ S.y 9 0 = 34 ∨ S.y 9 0 = 70) ∧ (∀ i, ∃ c : Nat, c < 127 ∧ S.g 3 0 i = nI c) ∧ (∀ i, i < n → M.g 4 i = S.g 3 0 i ∧ ∃ c : Nat, 32 ≤ c ∧ c < 127 ∧ M.g 4 i = nI c)
theorem TX.n60 {S : CS} {M : MS} {n : Nat} (h_ : TX S M n) : n ≤ 60 := h_.1
theorem TX.m0 {S : CS} {M : MS} {n : Nat} (h_ : TX S M n) : M.x 0 = nI n := h_.2.1
theorem TX.s19 {S : CS} {M : MS} {n : Nat} (h_ : TX S M n) : S.x 19 0 = nI n := h_.2.2.1
theorem TX.s17 {S : CS} {M : MS} {n : Nat} (h_ : TX S M n) : S.x 17 0 = 0 := h_.2.2.2.1
theorem TX.cap {S : CS} {M : MS} {n : Nat} (h_ : TX S M n) : n ≤ S.y 9 0 := h_.2.2.2.2.1
theorem TX.c16 {S : CS} {M : MS} {n : Nat} (h_ : TX S M n) : 16 ≤ S.y 9 0 := h_.2.2.2.2.2.1
theorem TX.c70 {S : CS} {M : MS} {n : Nat} (h_ : TX S M n) : S.y 9 0 = 16 ∨ S.y 9 0 = 34 ∨ S.y 9 0 = 70 := h_.2.2.2.2.2.2.1
theorem TX.by_ {S : CS} {M : MS} {n : Nat} (h_ : TX S M n) : ∀ i, ∃ c : Nat, c < 127 ∧ S.g 3 0 i = nI c := h_.2.2.2.2.2.2.2.1
theorem TX.ch {S : CS} {M : MS} {n : Nat} (h_ : TX S M n) : ∀ i, i < n → M.g 4 i = S.g 3 0 i ∧ ∃ c : Nat, 32 ≤ c ∧ c < 127 ∧ M.g 4 i = nI c := h_.2.2.2.2.2.2.2.2
abbrev EVR (S : CS) (M : MS) (n rd : Nat → Nat) : Prop := (∀ p, p < 3 → (S.R p).length = n p) ∧ (∀ p, p < 3 → M.g 9 p = nI (n p)) ∧ (n 0 + n 1 + n 2 ≤ 300) ∧ (M.x 8 = nI (n 0 + n 1 + n 2)) ∧ (∀ p, p < 3 → ∀ r, r < n p → ∃ k t : Nat, k < 8 ∧ t < 1000 ∧ ((S.R p).getD r pz) 0 = nI k ∧ M.g 10 (300 * p + r) = nI k ∧ ((S.R p).getD r pz) 1 = nI t ∧ M.g 11 (300 * p + r) = nI t ∧ ((S.R p).getD r pz) 2 = M.g 12 (300 * p + r)) ∧ (∀ p, p < 3 → rd p ≤ n p) ∧ (∀ p, p < 3 → ∀ r, r < rd p → ((S.R p).getD r pz) 3 = M.g 13 (300 * p + r) ∧ (M.g 13 (300 * p + r) = 0 ∨ M.g 13 (300 * p + r) = 1) ∧ ((S.R p).getD r pz) 4 = mIts M (M.g 14 (300 * p + r)) ∧ ((S.R p).getD r pz) 5 = M.g 15 (300 * p + r) - M.g 16 (300 * p + r) ∧ -100 ≤ (M.g 15 (300 * p + r)).toInt ∧ (M.g 15 (300 * p + r)).toInt ≤ 999 ∧ 0 ≤ (M.g 16 (300 * p + r)).toInt ∧ (M.g 16 (300 * p + r)).toInt ≤ 99)
theorem EVR.len {S : CS} {M : MS} {n rd : Nat → Nat} (h_ : EVR S M n rd) : ∀ p, p < 3 → (S.R p).length = n p := h_.1
theorem EVR.cnt {S : CS} {M : MS} {n rd : Nat → Nat} (h_ : EVR S M n rd) : ∀ p, p < 3 → M.g 9 p = nI (n p) := h_.2.1
theorem EVR.tot {S : CS} {M : MS} {n rd : Nat → Nat} (h_ : EVR S M n rd) : n 0 + n 1 + n 2 ≤ 300 := h_.2.2.1
theorem EVR.m8 {S : CS} {M : MS} {n rd : Nat → Nat} (h_ : EVR S M n rd) : M.x 8 = nI (n 0 + n 1 + n 2) := h_.2.2.2.1
theorem EVR.row {S : CS} {M : MS} {n rd : Nat → Nat} (h_ : EVR S M n rd) : ∀ p, p < 3 → ∀ r, r < n p → ∃ k t : Nat, k < 8 ∧ t < 1000 ∧ ((S.R p).getD r pz) 0 = nI k ∧ M.g 10 (300 * p + r) = nI k ∧ ((S.R p).getD r pz) 1 = nI t ∧ M.g 11 (300 * p + r) = nI t ∧ ((S.R p).getD r pz) 2 = M.g 12 (300 * p + r) := h_.2.2.2.2.1
theorem EVR.rdn {S : CS} {M : MS} {n rd : Nat → Nat} (h_ : EVR S M n rd) : ∀ p, p < 3 → rd p ≤ n p := h_.2.2.2.2.2.1
theorem EVR.done {S : CS} {M : MS} {n rd : Nat → Nat} (h_ : EVR S M n rd) : ∀ p, p < 3 → ∀ r, r < rd p → ((S.R p).getD r pz) 3 = M.g 13 (300 * p + r) ∧ (M.g 13 (300 * p + r) = 0 ∨ M.g 13 (300 * p + r) = 1) ∧ ((S.R p).getD r pz) 4 = mIts M (M.g 14 (300 * p + r)) ∧ ((S.R p).getD r pz) 5 = M.g 15 (300 * p + r) - M.g 16 (300 * p + r) ∧ -100 ≤ (M.g 15 (300 * p + r)).toInt ∧ (M.g 15 (300 * p + r)).toInt ≤ 999 ∧ 0 ≤ (M.g 16 (300 * p + r)).toInt ∧ (M.g 16 (300 * p + r)).toInt ≤ 99 := h_.2.2.2.2.2.2
abbrev TBR (S : CS) (M : MS) : Prop := ((S.R 3).length ≤ 60) ∧ (M.x 19 = nI (S.R 3).length) ∧ (∀ r, r < (S.R 3).length → ((S.R 3).getD r pz) 0 = M.g 20 r ∧ ((S.R 3).getD r pz) 1 = M.g 21 r ∧ ((S.R 3).getD r pz) 2 = M.g 22 r ∧ ∃ t : Nat, t < 1000 ∧ M.g 21 r = nI t)
theorem TBR.n60 {S : CS} {M : MS} (h_ : TBR S M) : (S.R 3).length ≤ 60 := h_.1
theorem TBR.m19 {S : CS} {M : MS} (h_ : TBR S M) : M.x 19 = nI (S.R 3).length := h_.2.1
theorem TBR.row {S : CS} {M : MS} (h_ : TBR S M) : ∀ r, r < (S.R 3).length → ((S.R 3).getD r pz) 0 = M.g 20 r ∧ ((S.R 3).getD r pz) 1 = M.g 21 r ∧ ((S.R 3).getD r pz) 2 = M.g 22 r ∧ ∃ t : Nat, t < 1000 ∧ M.g 21 r = nI t := h_.2.2
abbrev STR (S : CS) (M : MS) (sz : Nat) (ses : Bool) (a p : Nat) (rd : Nat → Nat) (m : Nat) : Prop := (WR sz ses (S.R (5 + a)) (M.V p)) ∧ (S.x 2 a = M.g 25 p) ∧ (-100 ≤ (S.x 2 a).toInt ∧ (S.x 2 a).toInt ≤ 999) ∧ (S.x 3 a = M.g 26 p) ∧ (∀ i, i < 3 → S.g 1 a i = nI (rd i) ∧ M.g 23 (3 * p + i) = nI (rd i)) ∧ (∀ i, i < 3 → rd i ≠ 0 → S.g 2 a i = M.g 24 (3 * p + i) ∧ ∃ q : Nat, q < 1000 ∧ S.g 2 a i = nI q) ∧ (∀ i, i < 3 → rd i = 0 → M.g 24 (3 * p + i) = -1) ∧ (M.g 27 p = nI m) ∧ (a ≠ 0 → S.x 4 a = nI m) ∧ ((M.V p).length ≤ 4 * (rd 0 + rd 1 + rd 2)) ∧ (pW (M.V p) + m ≤ 8 * (rd 0 + rd 1 + rd 2))
theorem STR.wr {S : CS} {M : MS} {sz : Nat} {ses : Bool} {a p : Nat} {rd : Nat → Nat} {m : Nat} (h_ : STR S M sz ses a p rd m) : WR sz ses (S.R (5 + a)) (M.V p) := h_.1
theorem STR.mkk {S : CS} {M : MS} {sz : Nat} {ses : Bool} {a p : Nat} {rd : Nat → Nat} {m : Nat} (h_ : STR S M sz ses a p rd m) : S.x 2 a = M.g 25 p := h_.2.1
theorem STR.mr {S : CS} {M : MS} {sz : Nat} {ses : Bool} {a p : Nat} {rd : Nat → Nat} {m : Nat} (h_ : STR S M sz ses a p rd m) : -100 ≤ (S.x 2 a).toInt ∧ (S.x 2 a).toInt ≤ 999 := h_.2.2.1
theorem STR.lc {S : CS} {M : MS} {sz : Nat} {ses : Bool} {a p : Nat} {rd : Nat → Nat} {m : Nat} (h_ : STR S M sz ses a p rd m) : S.x 3 a = M.g 26 p := h_.2.2.2.1
theorem STR.rs {S : CS} {M : MS} {sz : Nat} {ses : Bool} {a p : Nat} {rd : Nat → Nat} {m : Nat} (h_ : STR S M sz ses a p rd m) : ∀ i, i < 3 → S.g 1 a i = nI (rd i) ∧ M.g 23 (3 * p + i) = nI (rd i) := h_.2.2.2.2.1
theorem STR.gr {S : CS} {M : MS} {sz : Nat} {ses : Bool} {a p : Nat} {rd : Nat → Nat} {m : Nat} (h_ : STR S M sz ses a p rd m) : ∀ i, i < 3 → rd i ≠ 0 → S.g 2 a i = M.g 24 (3 * p + i) ∧ ∃ q : Nat, q < 1000 ∧ S.g 2 a i = nI q := h_.2.2.2.2.2.1
theorem STR.g0 {S : CS} {M : MS} {sz : Nat} {ses : Bool} {a p : Nat} {rd : Nat → Nat} {m : Nat} (h_ : STR S M sz ses a p rd m) : ∀ i, i < 3 → rd i = 0 → M.g 24 (3 * p + i) = -1 := h_.2.2.2.2.2.2.1
theorem STR.m27 {S : CS} {M : MS} {sz : Nat} {ses : Bool} {a p : Nat} {rd : Nat → Nat} {m : Nat} (h_ : STR S M sz ses a p rd m) : M.g 27 p = nI m := h_.2.2.2.2.2.2.2.1
theorem STR.x4 {S : CS} {M : MS} {sz : Nat} {ses : Bool} {a p : Nat} {rd : Nat → Nat} {m : Nat} (h_ : STR S M sz ses a p rd m) : a ≠ 0 → S.x 4 a = nI m := h_.2.2.2.2.2.2.2.2.1
theorem STR.cw {S : CS} {M : MS} {sz : Nat} {ses : Bool} {a p : Nat} {rd : Nat → Nat} {m : Nat} (h_ : STR S M sz ses a p rd m) : (M.V p).length ≤ 4 * (rd 0 + rd 1 + rd 2) := h_.2.2.2.2.2.2.2.2.2.1
theorem STR.pt {S : CS} {M : MS} {sz : Nat} {ses : Bool} {a p : Nat} {rd : Nat → Nat} {m : Nat} (h_ : STR S M sz ses a p rd m) : pW (M.V p) + m ≤ 8 * (rd 0 + rd 1 + rd 2) := h_.2.2.2.2.2.2.2.2.2.2
abbrev PLR (S : CS) (M : MS) (d : GD) : Prop := (M.x 5 = 0 ∨ M.x 5 = 1) ∧ (S.x 15 0 = M.x 5) ∧ (M.x 5 = 1 → QR S M d.sz d.sl d.lt) ∧ (M.x 5 = 0 → d.c = 0 ∧ M.V 5 = [] ∧ M.V 6 = [] ∧ ∀ i, d.rd i = 0)
theorem PLR.b {S : CS} {M : MS} {d : GD} (h_ : PLR S M d) : M.x 5 = 0 ∨ M.x 5 = 1 := h_.1
theorem PLR.s15 {S : CS} {M : MS} {d : GD} (h_ : PLR S M d) : S.x 15 0 = M.x 5 := h_.2.1
theorem PLR.q {S : CS} {M : MS} {d : GD} (h_ : PLR S M d) : M.x 5 = 1 → QR S M d.sz d.sl d.lt := h_.2.2.1
theorem PLR.z {S : CS} {M : MS} {d : GD} (h_ : PLR S M d) : M.x 5 = 0 → d.c = 0 ∧ M.V 5 = [] ∧ M.V 6 = [] ∧ ∀ i, d.rd i = 0 := h_.2.2.2
abbrev SNR (S : CS) (M : MS) (d : GD) : Prop := (d.c ≤ 5) ∧ (S.x 13 0 = nI d.c) ∧ (M.x 35 = nI d.c) ∧ (S.x 14 0 = nI d.tk) ∧ (M.x 37 = nI d.tk) ∧ (∀ k, k < 5 → 2 ≤ S.y 7 k ∧ S.y 7 k < 7) ∧ (∀ j k, j < 5 → k < 5 → S.y 7 j = S.y 7 k → j = k) ∧ (∀ k, k < d.c → ∃ v : Nat, v < d.tk ∧ S.x 5 (S.y 7 k) = nI v ∧ M.g 36 k = nI v) ∧ (∀ j k, j < k → k < d.c → (S.x 5 (S.y 7 j)).toInt < (S.x 5 (S.y 7 k)).toInt)
theorem SNR.c5 {S : CS} {M : MS} {d : GD} (h_ : SNR S M d) : d.c ≤ 5 := h_.1
theorem SNR.s13 {S : CS} {M : MS} {d : GD} (h_ : SNR S M d) : S.x 13 0 = nI d.c := h_.2.1
theorem SNR.m35 {S : CS} {M : MS} {d : GD} (h_ : SNR S M d) : M.x 35 = nI d.c := h_.2.2.1
theorem SNR.s14 {S : CS} {M : MS} {d : GD} (h_ : SNR S M d) : S.x 14 0 = nI d.tk := h_.2.2.2.1
theorem SNR.m37 {S : CS} {M : MS} {d : GD} (h_ : SNR S M d) : M.x 37 = nI d.tk := h_.2.2.2.2.1
theorem SNR.y7 {S : CS} {M : MS} {d : GD} (h_ : SNR S M d) : ∀ k, k < 5 → 2 ≤ S.y 7 k ∧ S.y 7 k < 7 := h_.2.2.2.2.2.1
theorem SNR.inj {S : CS} {M : MS} {d : GD} (h_ : SNR S M d) : ∀ j k, j < 5 → k < 5 → S.y 7 j = S.y 7 k → j = k := h_.2.2.2.2.2.2.1
theorem SNR.num {S : CS} {M : MS} {d : GD} (h_ : SNR S M d) : ∀ k, k < d.c → ∃ v : Nat, v < d.tk ∧ S.x 5 (S.y 7 k) = nI v ∧ M.g 36 k = nI v := h_.2.2.2.2.2.2.2.1
theorem SNR.inc {S : CS} {M : MS} {d : GD} (h_ : SNR S M d) : ∀ j k, j < k → k < d.c → (S.x 5 (S.y 7 j)).toInt < (S.x 5 (S.y 7 k)).toInt := h_.2.2.2.2.2.2.2.2
abbrev Rel (S : CS) (M : MS) (d : GD) (i : Nat) : Prop := (∃ n, TX S M n) ∧ (EVR S M d.n d.rd) ∧ (TBR S M) ∧ (∀ p, p < 3 → S.x 6 p = M.g 17 p ∧ 0 ≤ (S.x 6 p).toInt ∧ (S.x 6 p).toInt ≤ 99) ∧ (∀ p, p < 3 → S.x 7 p = M.g 18 p) ∧ (PLR S M d) ∧ (S.R 4 = M.T) ∧ (STR S M d.sz (decide (S.y 5 0 = 10)) 0 6 d.rd M.T.length) ∧ (∃ rd m, STR S M d.sz (decide (S.y 5 0 = 10)) 1 5 rd m ∧ (∀ i, rd i ≤ d.rd i) ∧ m ≤ M.T.length) ∧ (SNR S M d) ∧ (∀ k, k < d.c → ∃ rd m, STR S M d.sz (decide (S.y 5 0 = 10)) (S.y 7 k) k rd m ∧ (∀ i, rd i ≤ d.rd i) ∧ m ≤ M.T.length) ∧ (d.tk ≤ i) ∧ (S.x 16 0 = M.x 43 ∧ 1 ≤ (M.x 43).toInt ∧ (M.x 43).toInt ≤ 4)
theorem Rel.tx {S : CS} {M : MS} {d : GD} {i : Nat} (h_ : Rel S M d i) : ∃ n, TX S M n := h_.1
theorem Rel.ev {S : CS} {M : MS} {d : GD} {i : Nat} (h_ : Rel S M d i) : EVR S M d.n d.rd := h_.2.1
theorem Rel.tb {S : CS} {M : MS} {d : GD} {i : Nat} (h_ : Rel S M d i) : TBR S M := h_.2.2.1
theorem Rel.lag {S : CS} {M : MS} {d : GD} {i : Nat} (h_ : Rel S M d i) : ∀ p, p < 3 → S.x 6 p = M.g 17 p ∧ 0 ≤ (S.x 6 p).toInt ∧ (S.x 6 p).toInt ≤ 99 := h_.2.2.2.1
theorem Rel.idle {S : CS} {M : MS} {d : GD} {i : Nat} (h_ : Rel S M d i) : ∀ p, p < 3 → S.x 7 p = M.g 18 p := h_.2.2.2.2.1
theorem Rel.pl {S : CS} {M : MS} {d : GD} {i : Nat} (h_ : Rel S M d i) : PLR S M d := h_.2.2.2.2.2.1
theorem Rel.tt {S : CS} {M : MS} {d : GD} {i : Nat} (h_ : Rel S M d i) : S.R 4 = M.T := h_.2.2.2.2.2.2.1
theorem Rel.st0 {S : CS} {M : MS} {d : GD} {i : Nat} (h_ : Rel S M d i) : STR S M d.sz (decide (S.y 5 0 = 10)) 0 6 d.rd M.T.length := h_.2.2.2.2.2.2.2.1
theorem Rel.st1 {S : CS} {M : MS} {d : GD} {i : Nat} (h_ : Rel S M d i) : ∃ rd m, STR S M d.sz (decide (S.y 5 0 = 10)) 1 5 rd m ∧ (∀ i, rd i ≤ d.rd i) ∧ m ≤ M.T.length := h_.2.2.2.2.2.2.2.2.1
theorem Rel.sn {S : CS} {M : MS} {d : GD} {i : Nat} (h_ : Rel S M d i) : SNR S M d := h_.2.2.2.2.2.2.2.2.2.1
theorem Rel.std {S : CS} {M : MS} {d : GD} {i : Nat} (h_ : Rel S M d i) : ∀ k, k < d.c → ∃ rd m, STR S M d.sz (decide (S.y 5 0 = 10)) (S.y 7 k) k rd m ∧ (∀ i, rd i ≤ d.rd i) ∧ m ≤ M.T.length := h_.2.2.2.2.2.2.2.2.2.2.1
theorem Rel.tki {S : CS} {M : MS} {d : GD} {i : Nat} (h_ : Rel S M d i) : d.tk ≤ i := h_.2.2.2.2.2.2.2.2.2.2.2.1
theorem Rel.wk {S : CS} {M : MS} {d : GD} {i : Nat} (h_ : Rel S M d i) : S.x 16 0 = M.x 43 ∧ 1 ≤ (M.x 43).toInt ∧ (M.x 43).toInt ≤ 4 := h_.2.2.2.2.2.2.2.2.2.2.2.2
abbrev BG (S : CS) (i bc bs : Nat) : Prop := (557056 + (2560 - i) ≤ bc + pSum S.cap) ∧ (2 * 557056 + 20 * (2560 - i) ≤ bs + 2 * pSum S.cap)
theorem BG.c {S : CS} {i bc bs : Nat} (h_ : BG S i bc bs) : 557056 + (2560 - i) ≤ bc + pSum S.cap := h_.1
theorem BG.s {S : CS} {i bc bs : Nat} (h_ : BG S i bc bs) : 2 * 557056 + 20 * (2560 - i) ≤ bs + 2 * pSum S.cap := h_.2
def lInv (i : Nat) (x : Nat → Nat → Int32) (y : Nat → Nat → Nat) (g : Nat → Nat → Nat → Int32) (f : Nat → Int64) (xm : Nat → Int32) (gm : Nat → Nat → Int32) (bc bs : Nat) : Prop :=
  ∃ S M d, RC S x y g ∧ RM M xm gm ∧ Rel S M d i ∧ BG S i bc bs
def mX (M : MS) (k : Nat) (v : Int32) : MS := (MS.mk (va_up M.x k v) M.g M.V M.T)
theorem RM.X {M x g} (h : RM M x g) (k : Nat) (v : Int32) : RM (mX M k v) (va_up x k v) g :=
  ⟨by rw [h.hx]; rfl, h.hg, h.n28, h.len, h.win, h.bo, h.tl, h.n27, h.res⟩
theorem QR.ofx {S M sz sl lt} (h : QR S M sz sl lt) {M' : MS} (e : M'.g 6 = M.g 6) : QR S M' sz sl lt := by
  refine ⟨?_, ?_, ?_, ?_, ?_, ?_, ?_, ?_, ?_, ?_, ?_, ?_, ?_, ?_, ?_, ?_, ?_, ?_, ?_, ?_, ?_, ?_, ?_, ?_, ?_, ?_⟩
  all_goals try rw [e]
  · exact h.f0
  · exact h.f2
  · exact h.c0
  · exact h.c1
  · exact h.c2
  · exact h.lim
  · exact h.jn
  · exact h.jb
  · exact h.sh
  · exact h.sh1
  · exact h.sh2
  · exact h.zm
  · exact h.zc
  · exact h.z1
  · exact h.z2
  · exact h.sc
  · exact h.s1
  · exact h.s2
  · exact h.s9
  · exact h.s8
  · exact h.lm
  · exact h.lc
  · exact h.l2
  · exact h.m
  · exact h.m1
  · exact h.m2
theorem Rel.thrown {S M d i} (h : Rel S M d i) (v : Int32) : Rel S (mX M 44 v) d i := by
  have ex : ∀ k, k ≠ 44 → (mX M 44 v).x k = M.x k := fun k hk => by simp only [CS.mk_R, CS.mk_cap, CS.mk_x, CS.mk_y, CS.mk_g, CS.mk_eta, MS.mk_x, MS.mk_g, MS.mk_V, MS.mk_T, MS.mk_eta, GD.mk_n, GD.mk_rd, GD.mk_c, GD.mk_tk, GD.mk_sz, GD.mk_sl, GD.mk_lt, GD.mk_eta, mX, p_un _ _ hk]
  refine ⟨?_, ?_, ?_, h.lag, h.idle, ?_, h.tt, ?_, ?_, ?_, ?_, h.tki, ?_⟩
  · obtain ⟨n, t⟩ := h.tx
    exact ⟨n, t.n60, by rw [ex 0 (by decide)]; exact t.m0, t.s19, t.s17, t.cap, t.c16, t.c70, t.by_, t.ch⟩
  · exact ⟨h.ev.len, h.ev.cnt, h.ev.tot, by rw [ex 8 (by decide)]; exact h.ev.m8, h.ev.row, h.ev.rdn, h.ev.done⟩
  · exact ⟨h.tb.n60, by rw [ex 19 (by decide)]; exact h.tb.m19, h.tb.row⟩
  · exact ⟨by rw [ex 5 (by decide)]; exact h.pl.b, by rw [ex 5 (by decide)]; exact h.pl.s15, by rw [ex 5 (by decide)]; exact fun e => (h.pl.q e).ofx rfl, by rw [ex 5 (by decide)]; exact h.pl.z⟩
  · exact ⟨h.st0.wr, h.st0.mkk, h.st0.mr, h.st0.lc, h.st0.rs, h.st0.gr, h.st0.g0, h.st0.m27, h.st0.x4, h.st0.cw, h.st0.pt⟩
  · obtain ⟨rd, m, s, a, b⟩ := h.st1
    exact ⟨rd, m, ⟨s.wr, s.mkk, s.mr, s.lc, s.rs, s.gr, s.g0, s.m27, s.x4, s.cw, s.pt⟩, a, b⟩
  · exact ⟨h.sn.c5, h.sn.s13, by rw [ex 35 (by decide)]; exact h.sn.m35, h.sn.s14, by rw [ex 37 (by decide)]; exact h.sn.m37, h.sn.y7, h.sn.inj, h.sn.num, h.sn.inc⟩
  · intro k hk
    obtain ⟨rd, m, s, a, b⟩ := h.std k hk
    exact ⟨rd, m, ⟨s.wr, s.mkk, s.mr, s.lc, s.rs, s.gr, s.g0, s.m27, s.x4, s.cw, s.pt⟩, a, b⟩
  · rw [ex 43 (by decide)]; exact h.wk
theorem Rel.later {S M d i j} (h : Rel S M d i) (hij : i ≤ j) : Rel S M d j :=
  ⟨h.tx, h.ev, h.tb, h.lag, h.idle, h.pl, h.tt, h.st0, h.st1, h.sn, h.std, Nat.le_trans h.tki hij, h.wk⟩
theorem RC.capM {S x y g} (h : RC S x y g) : pSum S.cap ≤ 557056 := by
  have f : ∀ q, q < 12 → S.cap q ≤ 8192 * pwq q := fun q hq => (h.rows q hq).cm
  have h0 := f 0 (by omega); have h1 := f 1 (by omega); have h2 := f 2 (by omega); have h3 := f 3 (by omega)
  have h4 := f 4 (by omega); have h5 := f 5 (by omega); have h6 := f 6 (by omega); have h7 := f 7 (by omega)
  have h8 := f 8 (by omega); have h9 := f 9 (by omega); have h10 := f 10 (by omega); have h11 := f 11 (by omega)
  simp only [CS.mk_R, CS.mk_cap, CS.mk_x, CS.mk_y, CS.mk_g, CS.mk_eta, MS.mk_x, MS.mk_g, MS.mk_V, MS.mk_T, MS.mk_eta, GD.mk_n, GD.mk_rd, GD.mk_c, GD.mk_tk, GD.mk_sz, GD.mk_sl, GD.mk_lt, GD.mk_eta, pwq] at h0 h1 h2 h3 h4 h5 h6 h7 h8 h9 h10 h11
  simp at h0 h1 h2 h3 h4 h5 h6 h7 h8 h9 h10 h11
  unfold pSum
  omega
theorem BG.call {S T : CS} {i bc bs : Nat} (h : BG S i bc bs) (hm : pSum S.cap ≤ pSum T.cap) (hT : pSum T.cap ≤ 557056) (hi : i + 5 ≤ 2560) : ∃ kc ks b2 s2 : Nat, kc + b2 ≤ bc ∧ ks + s2 ≤ bs ∧ 5 ≤ kc ∧ 100 ≤ ks ∧ cOK S T (kc - 5) (ks - 100) ∧ BG T (i + 5) b2 s2 := by
  have := h.c
  have := h.s
  refine ⟨5 + (pSum T.cap - pSum S.cap), 100 + 2 * (pSum T.cap - pSum S.cap), bc - (5 + (pSum T.cap - pSum S.cap)), bs - (100 + 2 * (pSum T.cap - pSum S.cap)), by omega, by omega, by omega, by omega, ⟨by omega, by omega⟩, ⟨by omega, by omega⟩⟩
theorem p_of {a : Int32} {n : Nat} (hn : n < 2 ^ 31) (h : (0 : Int32) ≤ a ∧ a < nI n) : ∃ k : Nat, k < n ∧ a = nI k := by
  rw [i_le, i_lt, nI_toInt hn] at h
  obtain ⟨j, hj, e⟩ := nI_of (x := a) (by rw [i_lt]; have := h.1; omega)
  refine ⟨j, ?_, e⟩
  rw [e, nI_toInt hj] at h
  omega
theorem exc {S M d i x y g xm gm bc bs f} (hi : i + 5 ≤ 2560) (hc : RC S x y g) (hm : RM M xm gm) (hr : Rel S M d i) (hb : BG S i bc bs) (v : Int32) : lInv (i + 5) x y g f (va_up xm 44 v) gm (bc - 5) (bs - 100) := by
  have := hb.c
  have := hb.s
  have := hc.capM
  exact ⟨S, mX M 44 v, d, hc, hm.X 44 v, (hr.thrown v).later (by omega), ⟨by omega, by omega⟩⟩
theorem BG.min {S i bc bs} (h : BG S i bc bs) (hc : pSum S.cap ≤ 557056) (hi : i + 5 ≤ 2560) : 5 ≤ bc ∧ 100 ≤ bs := by
  have := h.c
  have := h.s
  omega
theorem k_outside {a : Int32} {n : Nat} (hn : n < 2 ^ 31) {Φ : Int32 → Prop} (h0 : ∀ k, k < n → a = nI k → Φ 0) (h1 : ¬ ((0 : Int32) ≤ a ∧ a < nI n) → Φ 1) : wX8_isOutside a (nI n) Φ := by
  unfold wX8_isOutside
  refine ⟨fun e => h1 fun q => by have := q.1; rw [i_le] at this; rw [i_lt] at e; omega, fun e => ⟨fun e2 => ?_, fun e2 => h1 fun q => e2 q.2⟩⟩
  obtain ⟨k, hk, e3⟩ := p_of hn ⟨Int32.not_lt.1 e, e2⟩
  exact h0 k hk e3
theorem outside_both {a : Int32} {n : Nat} (hn : n < 2 ^ 31) : ((0 : Int32) ≤ a ∧ a < nI n) ∨ ¬ ((0 : Int32) ≤ a ∧ a < nI n) := Classical.em _
theorem p_notout {k n : Nat} (hk : k < n) (hn : n < 2 ^ 31) : (0 : Int32) ≤ nI k ∧ nI k < nI n := by
  rw [i_le, i_lt, nI_toInt (by omega), nI_toInt hn]
  exact ⟨Int.natCast_nonneg k, by omega⟩
theorem upL0 (f : Nat → Int64) (v : Int64) : vp_updL f (0 : Int32).toNatClampNeg v (0 : Int32).toNatClampNeg = v := by simp [CS.mk_R, CS.mk_cap, CS.mk_x, CS.mk_y, CS.mk_g, CS.mk_eta, MS.mk_x, MS.mk_g, MS.mk_V, MS.mk_T, MS.mk_eta, GD.mk_n, GD.mk_rd, GD.mk_c, GD.mk_tk, GD.mk_sz, GD.mk_sl, GD.mk_lt, GD.mk_eta, vp_updL]
theorem p_out {a : Int32} {n : Nat} (hn : n < 2 ^ 31) : (∃ k, k < n ∧ a = nI k) ∨ ¬ ((0 : Int32) ≤ a ∧ a < nI n) := by
  rcases Classical.em ((0 : Int32) ≤ a ∧ a < nI n) with h | h
  · exact .inl (p_of hn h)
  · exact .inr h
theorem k_in {n k : Nat} (hk : k < n) (hn : n < 2 ^ 31) {Φ : Int32 → Prop} (h : Φ 0) : wX8_isOutside (nI k) (nI n) Φ := k_outside hn (fun _ _ _ => h) (fun q => absurd (p_notout hk hn) q)
theorem k_out {n : Nat} {a : Int32} (hn : n < 2 ^ 31) (ha : ¬ ((0 : Int32) ≤ a ∧ a < nI n)) {Φ : Int32 → Prop} (h : Φ 1) : wX8_isOutside a (nI n) Φ := k_outside hn (fun k hk e => absurd (e ▸ p_notout hk hn) ha) (fun _ => h)
theorem ite0 {P Q : Prop} (h : P) : ((0 : Int32) = 0 → P) ∧ (¬ (0 : Int32) = 0 → Q) := ⟨fun _ => h, fun c => absurd rfl c⟩
theorem ite1 {P Q : Prop} (h : Q) : ((1 : Int32) = 0 → P) ∧ (¬ (1 : Int32) = 0 → Q) := ⟨fun c => absurd c (by decide), fun _ => h⟩
theorem BG.same {S T i bc bs} (h : BG S i bc bs) (e : T.cap = S.cap) (hc : pSum S.cap ≤ 557056) (hi : i + 5 ≤ 2560) : BG T (i + 5) (bc - 5) (bs - 100) := by
  have := h.c
  have := h.s
  exact ⟨by rw [e]; omega, by rw [e]; omega⟩
theorem lagB {S M d i} (h : Rel S M d i) {p : Nat} {v : Int32} (hp : p < 3) (hv : 0 ≤ v.toInt ∧ v.toInt ≤ 99) : ∀ q, q < 3 → (uX S 6 p v).x 6 q = (mG M 17 p v).g 17 q ∧ 0 ≤ ((uX S 6 p v).x 6 q).toInt ∧ ((uX S 6 p v).x 6 q).toInt ≤ 99 := fun q hq => by
  simp only [CS.mk_R, CS.mk_cap, CS.mk_x, CS.mk_y, CS.mk_g, CS.mk_eta, MS.mk_x, MS.mk_g, MS.mk_V, MS.mk_T, MS.mk_eta, GD.mk_n, GD.mk_rd, GD.mk_c, GD.mk_tk, GD.mk_sz, GD.mk_sl, GD.mk_lt, GD.mk_eta, uX, mG, p_ug]
  unfold va_up upd
  by_cases e : q = p
  · rw [if_pos e, if_pos e]; exact ⟨rfl, hv⟩
  · rw [if_neg e, if_neg e]; exact h.lag q hq
theorem QR.bnd {S M sz sl lt} (h : QR S M sz sl lt) {p : Nat} {v : Int32} : QR (uX S 6 p v) (mG M 17 p v) sz sl lt :=
  ⟨h.f0, h.f2, h.c0, h.c1, h.c2, h.lim, h.jn, h.jb, h.sh, h.sh1, h.sh2, h.zm, h.zc, h.z1, h.z2, h.sc, h.s1, h.s2, h.s9, h.s8, h.lm, h.lc, h.l2, h.m, h.m1, h.m2⟩
theorem Rel.bound {S M d i} (h : Rel S M d i) {p : Nat} {v : Int32} (hp : p < 3) (hv : 0 ≤ v.toInt ∧ v.toInt ≤ 99) : Rel (uX S 6 p v) (mG M 17 p v) d i :=
  ⟨h.tx.elim fun n t => ⟨n, ⟨t.n60, t.m0, t.s19, t.s17, t.cap, t.c16, t.c70, t.by_, t.ch⟩⟩, ⟨h.ev.len, h.ev.cnt, h.ev.tot, h.ev.m8, h.ev.row, h.ev.rdn, h.ev.done⟩, ⟨h.tb.n60, h.tb.m19, h.tb.row⟩, lagB h hp hv, h.idle, ⟨h.pl.b, h.pl.s15, fun e => QR.bnd (h.pl.q e), h.pl.z⟩, h.tt, ⟨h.st0.wr, h.st0.mkk, h.st0.mr, h.st0.lc, h.st0.rs, h.st0.gr, h.st0.g0, h.st0.m27, h.st0.x4, h.st0.cw, h.st0.pt⟩, h.st1.elim fun rd s => s.elim fun m s => ⟨rd, m, ⟨s.1.wr, s.1.mkk, s.1.mr, s.1.lc, s.1.rs, s.1.gr, s.1.g0, s.1.m27, s.1.x4, s.1.cw, s.1.pt⟩, s.2⟩, ⟨h.sn.c5, h.sn.s13, h.sn.m35, h.sn.s14, h.sn.m37, h.sn.y7, h.sn.inj, h.sn.num, h.sn.inc⟩, fun k hk => (h.std k hk).elim fun rd s => s.elim fun m s => ⟨rd, m, ⟨s.1.wr, s.1.mkk, s.1.mr, s.1.lc, s.1.rs, s.1.gr, s.1.g0, s.1.m27, s.1.x4, s.1.cw, s.1.pt⟩, s.2⟩, h.tki, h.wk⟩
theorem nI_m1 {n : Nat} (h : n < 2 ^ 31) : (nI n - 1).toInt = (n : Int) - 1 := by
  rw [i_sub, nI_toInt h]
  · rfl
  · rw [nI_toInt h]; show _ ≤ (n : Int) - 1; omega
  · rw [nI_toInt h]; show (n : Int) - 1 < _; omega
theorem WR.key {sz ses W V} (h : WR sz ses W V) (k : Int32) : (W.filter fun r => r 0 == k) = V.filter fun r => r 0 == k := by
  cases ses with
  | true => exact h.met _ k fun r hr => by simpa using hr
  | false =>
    have hp : (W.filter fun r => r 0 == k).Perm (V.filter fun r => r 0 == k) := h.perm.filter _
    have h1 : (W.filter fun r => r 0 == k).Pairwise kLt := by
      refine (h.sW.filter _).imp_of_mem fun {r s} hr hs hlt => ?_
      have hr2 := h.rows r (h.perm.mem_iff.1 (List.mem_filter.1 hr).1)
      have hs2 := h.rows s (h.perm.mem_iff.1 (List.mem_filter.1 hs).1)
      have h0 : r 0 = s 0 := by
        have a := (List.mem_filter.1 hr).2
        have b := (List.mem_filter.1 hs).2
        simp only [CS.mk_R, CS.mk_cap, CS.mk_x, CS.mk_y, CS.mk_g, CS.mk_eta, MS.mk_x, MS.mk_g, MS.mk_V, MS.mk_T, MS.mk_eta, GD.mk_n, GD.mk_rd, GD.mk_c, GD.mk_tk, GD.mk_sz, GD.mk_sl, GD.mk_lt, GD.mk_eta, beq_iff_eq] at a b
        rw [a, b]
      obtain ⟨_, b1, e1, _, c1, d1, _, f1, l1, g1, s1, _⟩ := hr2
      obtain ⟨_, b2, e2, _, c2, d2, _, f2, l2, g2, s2, _⟩ := hs2
      have q1 := s1 rfl
      have q2 := s2 rfl
      refine .inr ⟨h0, ?_⟩
      have h0' := congrArg Int32.toInt h0
      unfold pLt at hlt
      rw [c1, c2, d1, d2] at hlt
      rw [c1, c2]
      simp only [CS.mk_R, CS.mk_cap, CS.mk_x, CS.mk_y, CS.mk_g, CS.mk_eta, MS.mk_x, MS.mk_g, MS.mk_V, MS.mk_T, MS.mk_eta, GD.mk_n, GD.mk_rd, GD.mk_c, GD.mk_tk, GD.mk_sz, GD.mk_sl, GD.mk_lt, GD.mk_eta, i_lt, i_eq] at hlt ⊢
      rw [nI_toInt (by omega), nI_toInt (by omega), nI_toInt (by omega), nI_toInt (by omega)] at hlt
      rw [nI_toInt (by omega), nI_toInt (by omega)]
      omega
    refine List.Perm.eq_of_pairwise (le := kLt) (fun a b _ _ hab hba => ?_) h1 (h.sV.filter _) hp
    unfold kLt at hab hba
    simp only [CS.mk_R, CS.mk_cap, CS.mk_x, CS.mk_y, CS.mk_g, CS.mk_eta, MS.mk_x, MS.mk_g, MS.mk_V, MS.mk_T, MS.mk_eta, GD.mk_n, GD.mk_rd, GD.mk_c, GD.mk_tk, GD.mk_sz, GD.mk_sl, GD.mk_lt, GD.mk_eta, i_lt, i_eq] at hab hba
    omega
theorem p_part {R : pRow → pRow → Prop} {p : pRow → Bool} : ∀ (V : List pRow), V.Pairwise R → (∀ r s, r ∈ V → s ∈ V → R r s → p s = true → p r = true) → V = V.filter p ++ V.filter fun r => !p r := by
  intro V
  induction V with
  | nil => intro _ _; rfl
  | cons r V ih =>
    intro h hp
    obtain ⟨h1, h2⟩ := List.pairwise_cons.1 h
    have hi := ih h2 fun a b ha hb => hp a b (List.mem_cons_of_mem _ ha) (List.mem_cons_of_mem _ hb)
    rw [List.filter_cons, List.filter_cons]
    by_cases c : p r = true
    · rw [if_pos c, if_neg (by simp [CS.mk_R, CS.mk_cap, CS.mk_x, CS.mk_y, CS.mk_g, CS.mk_eta, MS.mk_x, MS.mk_g, MS.mk_V, MS.mk_T, MS.mk_eta, GD.mk_n, GD.mk_rd, GD.mk_c, GD.mk_tk, GD.mk_sz, GD.mk_sl, GD.mk_lt, GD.mk_eta, c]), List.cons_append, ← hi]
    · have e : V.filter p = [] := List.filter_eq_nil_iff.2 fun s hs q => c (hp r s List.mem_cons_self (List.mem_cons_of_mem _ hs) (h1 s hs) q)
      rw [if_neg c, if_pos (by simp [CS.mk_R, CS.mk_cap, CS.mk_x, CS.mk_y, CS.mk_g, CS.mk_eta, MS.mk_x, MS.mk_g, MS.mk_V, MS.mk_T, MS.mk_eta, GD.mk_n, GD.mk_rd, GD.mk_c, GD.mk_tk, GD.mk_sz, GD.mk_sl, GD.mk_lt, GD.mk_eta, c]), e, List.nil_append, List.filter_eq_self.2 fun s hs => ?_]
      cases q : p s
      · rfl
      · exact absurd (hp r s List.mem_cons_self (List.mem_cons_of_mem _ hs) (h1 s hs) q) c
theorem p_keys : ∀ (m k : Nat) (V : List pRow), k + m ≤ 8 → V.Pairwise kLt → (∀ r, r ∈ V → ∃ j : Nat, k ≤ j ∧ j < k + m ∧ r 0 = nI j) → pKeys V k m = V := by
  intro m
  induction m with
  | zero =>
    intro k V _ _ h
    cases V with
    | nil => rfl
    | cons r V => obtain ⟨j, h1, h2, _⟩ := h r List.mem_cons_self; omega
  | succ m ih =>
    intro k V hk hs h
    have e1 : pKeys V k (m + 1) = (V.filter fun r => r 0 == nI k) ++ pKeys V (k + 1) m := by unfold pKeys; rw [List.range'_succ, List.flatMap_cons]
    have e2 : pKeys V (k + 1) m = pKeys (V.filter fun r => !(r 0 == nI k)) (k + 1) m := by
      unfold pKeys
      rw [List.flatMap_def, List.flatMap_def]
      congr 1
      refine List.map_congr_left fun j hj => ?_
      rw [List.mem_range'_1] at hj
      rw [List.filter_filter]
      refine List.filter_congr fun r _ => ?_
      cases q : (r 0 == nI j)
      · rfl
      · have : r 0 = nI j := by simpa using q
        have hne : ¬ nI j = nI k := fun e => by rw [nI_eq (by omega) (by omega)] at e; omega
        rw [this]; simp [CS.mk_R, CS.mk_cap, CS.mk_x, CS.mk_y, CS.mk_g, CS.mk_eta, MS.mk_x, MS.mk_g, MS.mk_V, MS.mk_T, MS.mk_eta, GD.mk_n, GD.mk_rd, GD.mk_c, GD.mk_tk, GD.mk_sz, GD.mk_sl, GD.mk_lt, GD.mk_eta, hne]
    rw [e1, e2, ih (k + 1) (V.filter fun r => !(r 0 == nI k)) (by omega) (hs.filter _) (fun r hr => ?_)]
    · refine (p_part (R := kLt) (p := fun r => r 0 == nI k) V hs fun r s hr hs2 hrs q => ?_).symm
      have hs0 : s 0 = nI k := by simpa using q
      obtain ⟨j, h1, h2, h3⟩ := h r hr
      unfold kLt at hrs
      rw [hs0, h3] at hrs
      have : j = k := by
        simp only [CS.mk_R, CS.mk_cap, CS.mk_x, CS.mk_y, CS.mk_g, CS.mk_eta, MS.mk_x, MS.mk_g, MS.mk_V, MS.mk_T, MS.mk_eta, GD.mk_n, GD.mk_rd, GD.mk_c, GD.mk_tk, GD.mk_sz, GD.mk_sl, GD.mk_lt, GD.mk_eta, i_lt, i_eq] at hrs
        rw [nI_toInt (by omega), nI_toInt (by omega)] at hrs
        omega
      rw [h3, this]; simp
    · have hr1 := (List.mem_filter.1 hr).1
      have hr2 := (List.mem_filter.1 hr).2
      obtain ⟨j, h1, h2, h3⟩ := h r hr1
      refine ⟨j, ?_, by omega, h3⟩
      rcases Nat.lt_or_ge k j with e | e
      · omega
      · have : j = k := by omega
        rw [h3, this] at hr2
        simp at hr2
theorem WR.keys {sz ses W V} (h : WR sz ses W V) : pKeys W 0 8 = V := by
  have e : pKeys W 0 8 = pKeys V 0 8 := by
    unfold pKeys
    rw [List.flatMap_def, List.flatMap_def]
    congr 1
    exact List.map_congr_left fun j _ => h.key (nI j)
  rw [e]
  refine p_keys 8 0 V (by omega) h.sV fun r hr => ?_
  obtain ⟨k, _, _, e, _, _, hk, _⟩ := h.rows r hr
  exact ⟨k, by omega, by omega, e⟩
