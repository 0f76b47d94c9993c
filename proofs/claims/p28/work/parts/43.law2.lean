def jL_queries_605 (Φ : Int32 → (Nat → Nat → Int32) → (Nat → Nat → Nat) → (Nat → Nat → Nat → Int32) → (Nat → Int32) → (Nat → Int32) → Prop) (x : Nat → Nat → Int32) (y : Nat → Nat → Nat) (g : Nat → Nat → Nat → Int32) (qf cf : Nat → Int32) (v1 : Int32) (v4 : Int32) (s1 : Int32) (s2 : Int32) (s3 : Int32) (s4 : Int32) (s5 : Int32) (bc bs : Nat) : Prop := ((((v1 / 21600) - (v1 / 21600) / 2 * 2) = 0 → (∃ kc_622 ks_622 bc_622 bs_622 : Nat, kc_622 + bc_622 ≤ bc ∧ ks_622 + bs_622 ≤ bs ∧ (wL_types x y g qf cf s1 s2 s3 s4 s5 32 0 kc_622 ks_622 (fun x_622 y_622 g_622 qf_622 cf_622 => ((v4 = 0 ∨ v4 = 1) ∧ (Φ v4 x_622 y_622 g_622 qf_622 cf_622)))))) ∧ (¬ ((v1 / 21600) - (v1 / 21600) / 2 * 2) = 0 → (∃ kc_622 ks_622 bc_622 bs_622 : Nat, kc_622 + bc_622 ≤ bc ∧ ks_622 + bs_622 ≤ bs ∧ (wL_types x y g qf cf s1 s2 s3 s4 s5 0 0 kc_622 ks_622 (fun x_622 y_622 g_622 qf_622 cf_622 => ((v4 = 0 ∨ v4 = 1) ∧ (Φ v4 x_622 y_622 g_622 qf_622 cf_622)))))))
def jL_queries_579 (Φ : Int32 → (Nat → Nat → Int32) → (Nat → Nat → Nat) → (Nat → Nat → Nat → Int32) → (Nat → Int32) → (Nat → Int32) → Prop) (x : Nat → Nat → Int32) (y : Nat → Nat → Nat) (g : Nat → Nat → Nat → Int32) (qf cf : Nat → Int32) (v1 : Int32) (v4 : Int32) (s1 : Int32) (s2 : Int32) (s3 : Int32) (s4 : Int32) (bc bs : Nat) : Prop := (((qf 5) = 1 → (jL_queries_605 Φ x y g qf cf v1 v4 s1 s2 s3 s4 119 bc bs)) ∧ (¬ (qf 5) = 1 → (((qf 5) = 2 → (jL_queries_605 Φ x y g qf cf v1 v4 s1 s2 s3 s4 102 bc bs)) ∧ (¬ (qf 5) = 2 → (jL_queries_605 Φ x y g qf cf v1 v4 s1 s2 s3 s4 107 bc bs)))))
def jL_queries_553 (Φ : Int32 → (Nat → Nat → Int32) → (Nat → Nat → Nat) → (Nat → Nat → Nat → Int32) → (Nat → Int32) → (Nat → Int32) → Prop) (x : Nat → Nat → Int32) (y : Nat → Nat → Nat) (g : Nat → Nat → Nat → Int32) (qf cf : Nat → Int32) (v1 : Int32) (v4 : Int32) (s1 : Int32) (s2 : Int32) (s3 : Int32) (bc bs : Nat) : Prop := (((qf 5) = 1 → (jL_queries_579 Φ x y g qf cf v1 v4 s1 s2 s3 101 bc bs)) ∧ (¬ (qf 5) = 1 → (((qf 5) = 2 → (jL_queries_579 Φ x y g qf cf v1 v4 s1 s2 s3 102 bc bs)) ∧ (¬ (qf 5) = 2 → (jL_queries_579 Φ x y g qf cf v1 v4 s1 s2 s3 99 bc bs)))))
def jL_queries_527 (Φ : Int32 → (Nat → Nat → Int32) → (Nat → Nat → Nat) → (Nat → Nat → Nat → Int32) → (Nat → Int32) → (Nat → Int32) → Prop) (x : Nat → Nat → Int32) (y : Nat → Nat → Nat) (g : Nat → Nat → Nat → Int32) (qf cf : Nat → Int32) (v1 : Int32) (v4 : Int32) (s1 : Int32) (s2 : Int32) (bc bs : Nat) : Prop := (((qf 5) = 1 → (jL_queries_553 Φ x y g qf cf v1 v4 s1 s2 110 bc bs)) ∧ (¬ (qf 5) = 1 → (((qf 5) = 2 → (jL_queries_553 Φ x y g qf cf v1 v4 s1 s2 105 bc bs)) ∧ (¬ (qf 5) = 2 → (jL_queries_553 Φ x y g qf cf v1 v4 s1 s2 97 bc bs)))))
def jL_queries_482 (Φ : Int32 → (Nat → Nat → Int32) → (Nat → Nat → Nat) → (Nat → Nat → Nat → Int32) → (Nat → Int32) → (Nat → Int32) → Prop) (x : Nat → Nat → Int32) (y : Nat → Nat → Nat) (g : Nat → Nat → Nat → Int32) (qf cf : Nat → Int32) (v1 : Int32) (v2 : Int32) (v4 : Int32) (bc bs : Nat) : Prop := (∀ qf_491 : Nat → Int32, qf_491 = (upd qf 5 ((v2 / 12960) - (v2 / 12960) / 4 * 4)) → (((qf_491 5) ≤ 0 → ((v4 = 0 ∨ v4 = 1) ∧ (Φ v4 x y g qf_491 cf))) ∧ (¬ (qf_491 5) ≤ 0 → (((qf_491 5) = 1 → (jL_queries_527 Φ x y g qf_491 cf v1 v4 32 97 bc bs)) ∧ (¬ (qf_491 5) = 1 → (((qf_491 5) = 2 → (jL_queries_527 Φ x y g qf_491 cf v1 v4 32 100 bc bs)) ∧ (¬ (qf_491 5) = 2 → (jL_queries_527 Φ x y g qf_491 cf v1 v4 32 98 bc bs))))))))
def jL_queries_458 (Φ : Int32 → (Nat → Nat → Int32) → (Nat → Nat → Nat) → (Nat → Nat → Nat → Int32) → (Nat → Int32) → (Nat → Int32) → Prop) (x : Nat → Nat → Int32) (y : Nat → Nat → Nat) (g : Nat → Nat → Nat → Int32) (qf cf : Nat → Int32) (v1 : Int32) (v2 : Int32) (v4 : Int32) (bc bs : Nat) : Prop := (∃ kc_472 ks_472 bc_472 bs_472 : Nat, kc_472 + bc_472 ≤ bc ∧ ks_472 + bs_472 ≤ bs ∧ (wL_types x y g qf cf 32 108 97 116 101 32 0 kc_472 ks_472 (fun x_472 y_472 g_472 qf_472 cf_472 => (∃ kc_479 ks_479 bc_479 bs_479 : Nat, kc_479 + bc_479 ≤ bc_472 ∧ ks_479 + bs_479 ≤ bs_472 ∧ (wL_figures x_472 y_472 g_472 qf_472 cf_472 (qf_472 4) kc_479 ks_479 (fun x_479 y_479 g_479 qf_479 cf_479 => (jL_queries_482 Φ x_479 y_479 g_479 qf_479 cf_479 v1 v2 v4 bc_479 bs_479)))))))
def jL_queries_440 (Φ : Int32 → (Nat → Nat → Int32) → (Nat → Nat → Nat) → (Nat → Nat → Nat → Int32) → (Nat → Int32) → (Nat → Int32) → Prop) (x : Nat → Nat → Int32) (y : Nat → Nat → Nat) (g : Nat → Nat → Nat → Int32) (qf cf : Nat → Int32) (v1 : Int32) (v2 : Int32) (v4 : Int32) (s1 : Int32) (s2 : Int32) (bc bs : Nat) : Prop := (vp_in s1 7 ∧ (∀ qf_440 : Nat → Int32, qf_440 = (upd qf s1.toNatClampNeg s2) → ((0 < (qf_440 4) → (jL_queries_458 Φ x y g qf_440 cf v1 v2 v4 bc bs)) ∧ (¬ 0 < (qf_440 4) → ((((v2 / 216) - (v2 / 216) / 3 * 3) = 1 → (jL_queries_458 Φ x y g qf_440 cf v1 v2 v4 bc bs)) ∧ (¬ ((v2 / 216) - (v2 / 216) / 3 * 3) = 1 → (jL_queries_482 Φ x y g qf_440 cf v1 v2 v4 bc bs)))))))
def jL_queries_416 (Φ : Int32 → (Nat → Nat → Int32) → (Nat → Nat → Nat) → (Nat → Nat → Nat → Int32) → (Nat → Int32) → (Nat → Int32) → Prop) (x : Nat → Nat → Int32) (y : Nat → Nat → Nat) (g : Nat → Nat → Nat → Int32) (qf cf : Nat → Int32) (v1 : Int32) (v2 : Int32) (v4 : Int32) (bc bs : Nat) : Prop := ((((v2 / 216) - (v2 / 216) / 3 * 3) = 0 → (jL_queries_440 Φ x y g qf cf v1 v2 v4 4 0 bc bs)) ∧ (¬ ((v2 / 216) - (v2 / 216) / 3 * 3) = 0 → (jL_queries_440 Φ x y g qf cf v1 v2 v4 4 ((v2 / 648) - (v2 / 648) / 20 * 20) bc bs)))
def jL_queries_414 (Φ : Int32 → (Nat → Nat → Int32) → (Nat → Nat → Nat) → (Nat → Nat → Nat → Int32) → (Nat → Int32) → (Nat → Int32) → Prop) (x : Nat → Nat → Int32) (y : Nat → Nat → Nat) (g : Nat → Nat → Nat → Int32) (qf cf : Nat → Int32) (v1 : Int32) (v2 : Int32) (s0 : Int32) (bc bs : Nat) : Prop := (jL_queries_416 Φ x y g qf cf v1 v2 s0 bc bs)
def jL_queries_413 (Φ : Int32 → (Nat → Nat → Int32) → (Nat → Nat → Nat) → (Nat → Nat → Nat → Int32) → (Nat → Int32) → (Nat → Int32) → Prop) (x : Nat → Nat → Int32) (y : Nat → Nat → Nat) (g : Nat → Nat → Nat → Int32) (qf cf : Nat → Int32) (v1 : Int32) (v2 : Int32) (bc bs : Nat) : Prop := (jL_queries_414 Φ x y g qf cf v1 v2 0 bc bs)
def jL_queries_340 (Φ : Int32 → (Nat → Nat → Int32) → (Nat → Nat → Nat) → (Nat → Nat → Nat → Int32) → (Nat → Int32) → (Nat → Int32) → Prop) (x : Nat → Nat → Int32) (y : Nat → Nat → Nat) (g : Nat → Nat → Nat → Int32) (qf cf : Nat → Int32) (v1 : Int32) (v2 : Int32) (bc bs : Nat) : Prop := (∃ kc_344 ks_344 bc_344 bs_344 : Nat, kc_344 + bc_344 ≤ bc ∧ ks_344 + bs_344 ≤ bs ∧ (wL_figures x y g qf cf (qf 2) kc_344 ks_344 (fun x_344 y_344 g_344 qf_344 cf_344 => (((qf_344 1) = 1 → (∀ qf_368 : Nat → Int32, qf_368 = (upd qf_344 3 (1 + ((v2 / 36) - (v2 / 36) / 6 * 6))) → (∃ kc_378 ks_378 bc_378 bs_378 : Nat, kc_378 + bc_378 ≤ bc_344 ∧ ks_378 + bs_378 ≤ bs_344 ∧ (wL_types x_344 y_344 g_344 qf_368 cf_344 32 0 0 0 0 0 0 kc_378 ks_378 (fun x_378 y_378 g_378 qf_378 cf_378 => (∃ kc_385 ks_385 bc_385 bs_385 : Nat, kc_385 + bc_385 ≤ bc_378 ∧ ks_385 + bs_385 ≤ bs_378 ∧ (wL_figures x_378 y_378 g_378 qf_378 cf_378 (qf_378 3) kc_385 ks_385 (fun x_385 y_385 g_385 qf_385 cf_385 => (¬ (qf_385 3) = 0 ∧ ((((qf_385 2) - (qf_385 2) / (qf_385 3) * (qf_385 3)) = 0 → (((4 * (qf_385 3)) < (qf_385 2) → (jL_queries_413 Φ x_385 y_385 g_385 qf_385 cf_385 v1 v2 bc_385 bs_385)) ∧ (¬ (4 * (qf_385 3)) < (qf_385 2) → (jL_queries_414 Φ x_385 y_385 g_385 qf_385 cf_385 v1 v2 1 bc_385 bs_385)))) ∧ (¬ ((qf_385 2) - (qf_385 2) / (qf_385 3) * (qf_385 3)) = 0 → (jL_queries_413 Φ x_385 y_385 g_385 qf_385 cf_385 v1 v2 bc_385 bs_385)))))))))))) ∧ (¬ (qf_344 1) = 1 → (jL_queries_416 Φ x_344 y_344 g_344 qf_344 cf_344 v1 v2 1 bc_344 bs_344))))))
def jL_queries_223 (Φ : Int32 → (Nat → Nat → Int32) → (Nat → Nat → Nat) → (Nat → Nat → Nat → Int32) → (Nat → Int32) → (Nat → Int32) → Prop) (x : Nat → Nat → Int32) (y : Nat → Nat → Nat) (g : Nat → Nat → Nat → Int32) (qf cf : Nat → Int32) (v1 : Int32) (v2 : Int32) (bc bs : Nat) : Prop := (∀ qf_228 : Nat → Int32, qf_228 = (upd qf 1 (v2 - v2 / 3 * 3)) → (∀ qf_239 : Nat → Int32, qf_239 = (upd qf_228 2 (1 + ((v2 / 3) - (v2 / 3) / 12 * 12))) → (∀ qf_243 : Nat → Int32, qf_243 = (upd qf_239 3 0) → (((qf_243 1) = 0 → (∃ kc_264 ks_264 bc_264 bs_264 : Nat, kc_264 + bc_264 ≤ bc ∧ ks_264 + bs_264 ≤ bs ∧ (wL_types x y g qf_243 cf 102 105 120 101 100 32 0 kc_264 ks_264 (fun x_264 y_264 g_264 qf_264 cf_264 => (jL_queries_340 Φ x_264 y_264 g_264 qf_264 cf_264 v1 v2 bc_264 bs_264))))) ∧ (¬ (qf_243 1) = 0 → (((qf_243 1) = 1 → (∃ kc_292 ks_292 bc_292 bs_292 : Nat, kc_292 + bc_292 ≤ bc ∧ ks_292 + bs_292 ≤ bs ∧ (wL_types x y g qf_243 cf 115 108 105 100 105 110 103 kc_292 ks_292 (fun x_292 y_292 g_292 qf_292 cf_292 => (∃ kc_304 ks_304 bc_304 bs_304 : Nat, kc_304 + bc_304 ≤ bc_292 ∧ ks_304 + bs_304 ≤ bs_292 ∧ (wL_types x_292 y_292 g_292 qf_292 cf_292 32 0 0 0 0 0 0 kc_304 ks_304 (fun x_304 y_304 g_304 qf_304 cf_304 => (jL_queries_340 Φ x_304 y_304 g_304 qf_304 cf_304 v1 v2 bc_304 bs_304)))))))) ∧ (¬ (qf_243 1) = 1 → (∃ kc_325 ks_325 bc_325 bs_325 : Nat, kc_325 + bc_325 ≤ bc ∧ ks_325 + bs_325 ≤ bs ∧ (wL_types x y g qf_243 cf 115 101 115 115 105 111 110 kc_325 ks_325 (fun x_325 y_325 g_325 qf_325 cf_325 => (∃ kc_337 ks_337 bc_337 bs_337 : Nat, kc_337 + bc_337 ≤ bc_325 ∧ ks_337 + bs_337 ≤ bs_325 ∧ (wL_types x_325 y_325 g_325 qf_325 cf_325 32 0 0 0 0 0 0 kc_337 ks_337 (fun x_337 y_337 g_337 qf_337 cf_337 => (jL_queries_340 Φ x_337 y_337 g_337 qf_337 cf_337 v1 v2 bc_337 bs_337))))))))))))))
def jL_queries_197 (Φ : Int32 → (Nat → Nat → Int32) → (Nat → Nat → Nat) → (Nat → Nat → Nat → Int32) → (Nat → Int32) → (Nat → Int32) → Prop) (x : Nat → Nat → Int32) (y : Nat → Nat → Nat) (g : Nat → Nat → Nat → Int32) (qf cf : Nat → Int32) (v1 : Int32) (v2 : Int32) (bc bs : Nat) : Prop := ((((v1 / 10800) - (v1 / 10800) / 2 * 2) = 0 → (∃ kc_220 ks_220 bc_220 bs_220 : Nat, kc_220 + bc_220 ≤ bc ∧ ks_220 + bs_220 ≤ bs ∧ (wL_types x y g qf cf 106 111 105 110 32 0 0 kc_220 ks_220 (fun x_220 y_220 g_220 qf_220 cf_220 => (jL_queries_223 Φ x_220 y_220 g_220 qf_220 cf_220 v1 v2 bc_220 bs_220))))) ∧ (¬ ((v1 / 10800) - (v1 / 10800) / 2 * 2) = 0 → (jL_queries_223 Φ x y g qf cf v1 v2 bc bs)))
def jL_queries_189 (Φ : Int32 → (Nat → Nat → Int32) → (Nat → Nat → Nat) → (Nat → Nat → Nat → Int32) → (Nat → Int32) → (Nat → Int32) → Prop) (x : Nat → Nat → Int32) (y : Nat → Nat → Nat) (g : Nat → Nat → Nat → Int32) (qf cf : Nat → Int32) (v1 : Int32) (v2 : Int32) (s1 : Int32) (s2 : Int32) (bc bs : Nat) : Prop := (∃ kc_194 ks_194 bc_194 bs_194 : Nat, kc_194 + bc_194 ≤ bc ∧ ks_194 + bs_194 ≤ bs ∧ (wL_types x y g qf cf s1 s2 0 0 0 0 0 kc_194 ks_194 (fun x_194 y_194 g_194 qf_194 cf_194 => (jL_queries_197 Φ x_194 y_194 g_194 qf_194 cf_194 v1 v2 bc_194 bs_194))))
def jL_queries_155 (Φ : Int32 → (Nat → Nat → Int32) → (Nat → Nat → Nat) → (Nat → Nat → Nat → Int32) → (Nat → Int32) → (Nat → Int32) → Prop) (x : Nat → Nat → Int32) (y : Nat → Nat → Nat) (g : Nat → Nat → Nat → Int32) (qf cf : Nat → Int32) (v1 : Int32) (v2 : Int32) (s1 : Int32) (s2 : Int32) (s3 : Int32) (s4 : Int32) (s5 : Int32) (s6 : Int32) (bc bs : Nat) : Prop := (∃ kc_156 ks_156 bc_156 bs_156 : Nat, kc_156 + bc_156 ≤ bc ∧ ks_156 + bs_156 ≤ bs ∧ (wL_types x y g qf cf s1 s2 s3 s4 s5 s6 0 kc_156 ks_156 (fun x_156 y_156 g_156 qf_156 cf_156 => (∃ kc_167 ks_167 bc_167 bs_167 : Nat, kc_167 + bc_167 ≤ bc_156 ∧ ks_167 + bs_167 ≤ bs_156 ∧ (wL_figures x_156 y_156 g_156 qf_156 cf_156 ((v1 / 54) - (v1 / 54) / 100 * 100) kc_167 ks_167 (fun x_167 y_167 g_167 qf_167 cf_167 => ((((v1 / 5400) - (v1 / 5400) / 2 * 2) = 0 → (jL_queries_189 Φ x_167 y_167 g_167 qf_167 cf_167 v1 v2 32 32 bc_167 bs_167)) ∧ (¬ ((v1 / 5400) - (v1 / 5400) / 2 * 2) = 0 → (jL_queries_189 Φ x_167 y_167 g_167 qf_167 cf_167 v1 v2 32 0 bc_167 bs_167)))))))))
def jL_queries_108 (Φ : Int32 → (Nat → Nat → Int32) → (Nat → Nat → Nat) → (Nat → Nat → Nat → Int32) → (Nat → Int32) → (Nat → Int32) → Prop) (x : Nat → Nat → Int32) (y : Nat → Nat → Nat) (g : Nat → Nat → Nat → Int32) (qf cf : Nat → Int32) (v1 : Int32) (v2 : Int32) (s1 : Int32) (s2 : Int32) (s3 : Int32) (s4 : Int32) (s5 : Int32) (bc bs : Nat) : Prop := (∃ kc_111 ks_111 bc_111 bs_111 : Nat, kc_111 + bc_111 ≤ bc ∧ ks_111 + bs_111 ≤ bs ∧ (wL_types x y g qf cf s1 s2 s3 s4 s5 32 0 kc_111 ks_111 (fun x_111 y_111 g_111 qf_111 cf_111 => ((((v1 / 3) - (v1 / 3) / 3 * 3) = 0 → ((((v1 / 27) - (v1 / 27) / 2 * 2) = 0 → (jL_queries_155 Φ x_111 y_111 g_111 qf_111 cf_111 v1 v2 105 102 32 (60 + ((v1 / 9) - (v1 / 9) / 3 * 3)) 32 0 bc_111 bs_111)) ∧ (¬ ((v1 / 27) - (v1 / 27) / 2 * 2) = 0 → (jL_queries_155 Φ x_111 y_111 g_111 qf_111 cf_111 v1 v2 105 102 32 (60 + ((v1 / 9) - (v1 / 9) / 3 * 3)) 32 45 bc_111 bs_111)))) ∧ (¬ ((v1 / 3) - (v1 / 3) / 3 * 3) = 0 → (jL_queries_197 Φ x_111 y_111 g_111 qf_111 cf_111 v1 v2 bc_111 bs_111))))))
def jL_queries_95 (Φ : Int32 → (Nat → Nat → Int32) → (Nat → Nat → Nat) → (Nat → Nat → Nat → Int32) → (Nat → Int32) → (Nat → Int32) → Prop) (x : Nat → Nat → Int32) (y : Nat → Nat → Nat) (g : Nat → Nat → Nat → Int32) (qf cf : Nat → Int32) (v1 : Int32) (v2 : Int32) (s1 : Int32) (s2 : Int32) (s3 : Int32) (s4 : Int32) (bc bs : Nat) : Prop := (((qf 0) = 1 → (jL_queries_108 Φ x y g qf cf v1 v2 s1 s2 s3 s4 116 bc bs)) ∧ (¬ (qf 0) = 1 → (jL_queries_108 Φ x y g qf cf v1 v2 s1 s2 s3 s4 0 bc bs)))
def jL_queries_82 (Φ : Int32 → (Nat → Nat → Int32) → (Nat → Nat → Nat) → (Nat → Nat → Nat → Int32) → (Nat → Int32) → (Nat → Int32) → Prop) (x : Nat → Nat → Int32) (y : Nat → Nat → Nat) (g : Nat → Nat → Nat → Int32) (qf cf : Nat → Int32) (v1 : Int32) (v2 : Int32) (s1 : Int32) (s2 : Int32) (s3 : Int32) (bc bs : Nat) : Prop := (((qf 0) = 1 → (jL_queries_95 Φ x y g qf cf v1 v2 s1 s2 s3 110 bc bs)) ∧ (¬ (qf 0) = 1 → (jL_queries_95 Φ x y g qf cf v1 v2 s1 s2 s3 0 bc bs)))
def jL_queries_57 (Φ : Int32 → (Nat → Nat → Int32) → (Nat → Nat → Nat) → (Nat → Nat → Nat → Int32) → (Nat → Int32) → (Nat → Int32) → Prop) (x : Nat → Nat → Int32) (y : Nat → Nat → Nat) (g : Nat → Nat → Nat → Int32) (qf cf : Nat → Int32) (v1 : Int32) (v2 : Int32) (s1 : Int32) (s2 : Int32) (bc bs : Nat) : Prop := (((qf 0) = 0 → (jL_queries_82 Φ x y g qf cf v1 v2 s1 s2 109 bc bs)) ∧ (¬ (qf 0) = 0 → (((qf 0) = 1 → (jL_queries_82 Φ x y g qf cf v1 v2 s1 s2 117 bc bs)) ∧ (¬ (qf 0) = 1 → (jL_queries_82 Φ x y g qf cf v1 v2 s1 s2 120 bc bs)))))
def jL_queries_32 (Φ : Int32 → (Nat → Nat → Int32) → (Nat → Nat → Nat) → (Nat → Nat → Nat → Int32) → (Nat → Int32) → (Nat → Int32) → Prop) (x : Nat → Nat → Int32) (y : Nat → Nat → Nat) (g : Nat → Nat → Nat → Int32) (qf cf : Nat → Int32) (v1 : Int32) (v2 : Int32) (s1 : Int32) (bc bs : Nat) : Prop := (((qf 0) = 0 → (jL_queries_57 Φ x y g qf cf v1 v2 s1 117 bc bs)) ∧ (¬ (qf 0) = 0 → (((qf 0) = 1 → (jL_queries_57 Φ x y g qf cf v1 v2 s1 111 bc bs)) ∧ (¬ (qf 0) = 1 → (jL_queries_57 Φ x y g qf cf v1 v2 s1 97 bc bs)))))
def wL_queries (x : Nat → Nat → Int32) (y : Nat → Nat → Nat) (g : Nat → Nat → Nat → Int32) (qf cf : Nat → Int32) (a1 : Int32) (a2 : Int32) (bc bs : Nat) (Φ : Int32 → (Nat → Nat → Int32) → (Nat → Nat → Nat) → (Nat → Nat → Nat → Int32) → (Nat → Int32) → (Nat → Int32) → Prop) : Prop := (∀ qf_5 : Nat → Int32, qf_5 = (upd qf 0 (a1 - a1 / 3 * 3)) → (((qf_5 0) = 0 → (jL_queries_32 Φ x y g qf_5 cf a1 a2 115 bc bs)) ∧ (¬ (qf_5 0) = 0 → (((qf_5 0) = 1 → (jL_queries_32 Φ x y g qf_5 cf a1 a2 99 bc bs)) ∧ (¬ (qf_5 0) = 1 → (jL_queries_32 Φ x y g qf_5 cf a1 a2 109 bc bs))))))
set_option maxRecDepth 100000 in
set_option maxHeartbeats 4000000 in
theorem kL_queries {l : Launch} {D : va_G} {E : va_W} {qa ca : Nat} {ad : Nat → Nat → Nat} {wd sk : Nat → Nat} {cI cB cP cT : ClassId} {sz : Nat} (x0 : Nat → Nat → Int32) (y0 : Nat → Nat → Nat) (g0 : Nat → Nat → Nat → Int32) (qf0 cf0 : Nat → Int32) (a1 : Int32) (a2 : Int32) (BC BS : Nat) {Φ : Int32 → (Nat → Nat → Int32) → (Nat → Nat → Nat) → (Nat → Nat → Nat → Int32) → (Nat → Int32) → (Nat → Int32) → Prop} (hlf : l.stackTraces = false) (h : wL_queries x0 y0 g0 qf0 cf0 a1 a2 BC BS Φ) : Met l yL_queries (zws yL_queries cL_queries 5 (some .boolean)) { frames := 9, cells := BC, slots := BS, locals := 243 } (zPc D (cTy cI cB cP cT) (lX wd sk) (cW (LE qa ca cI qf0 cf0 E) ad wd cI cB cP cT (x0, y0, g0)) [.ref (ad 0 0), .int a1, .int a2, .ref qa] sz) (zQi D (cTy cI cB cP cT) (WL E qa ca ad wd cI cB cP cT) (fun r u => Φ r u.1.1 u.1.2.1 u.1.2.2 u.2.1 u.2.2) (cW (LE qa ca cI qf0 cf0 E) ad wd cI cB cP cT (x0, y0, g0)) sz) BC BS (va_A (cW (LE qa ca cI qf0 cf0 E) ad wd cI cB cP cT (x0, y0, g0)) sz) := by
  refine zMet (by decide) (Nat.le_of_ble_eq_true rfl) ?_
  intro p e s m args below meth c A hx hb hr hml hown hts hlocks hsz hAe hA hS hP hK hD hX ls hl
  subst hsz
  have hF : zFx p s m args c cL_queries RL A D (cTy cI cB cP cT) (lX wd sk) 5 := ⟨hx, hb, hml, hown, hts, hA, hK, lX_cl wd sk, hX⟩
  have hFc : zFx p s m args c cL_queries RL A D (cTy cI cB cP cT) (cX wd sk) 5 := ⟨hx, hb, hml, hown, hts, hA, hK, cX_cl wd sk, hX.1⟩
  have hl : lv_has ls 5 [(0, .ref (ad 0 0)), (1, .int a1), (2, .int a2), (3, .ref qa)] := hl
  have hB : 0 + BC ≤ BC ∧ 0 + BS ≤ BS := ⟨by omega, by omega⟩
  have J605 : ∀ (x : Nat → Nat → Int32) (y : Nat → Nat → Nat) (g : Nat → Nat → Nat → Int32) (qf cf : Nat → Int32) (v1 : Int32) (v4 : Int32) (s1 : Int32) (s2 : Int32) (s3 : Int32) (s4 : Int32) (s5 : Int32) (bc bs : Nat), jL_queries_605 Φ x y g qf cf v1 v4 s1 s2 s3 s4 s5 bc bs → ∀ (cells slots : Nat), (cells + bc ≤ BC ∧ slots + bs ≤ BS) → ∀ (H : Heap) (locs : List Loc) (ls : Array Slot), va_P D vwCl (cW (LE qa ca cI qf cf E) ad wd cI cB cP cT (x, y, g)) H → va_D A (cW (LE qa ca cI qf cf E) ad wd cI cB cP cT (x, y, g)) → va_S A s.heap H locs → lv_has ls 5 [(1, .int v1), (4, .int v4)] → W p l e { frames := 9, cells := BC, slots := BS, locals := 243 } s m args below meth c H locs cells slots (MQ below (zQi D (cTy cI cB cP cT) (WL E qa ca ad wd cI cB cP cT) (fun r u => Φ r u.1.1 u.1.2.1 u.1.2.2 u.2.1 u.2.2) (cW (LE qa ca cI qf0 cf0 E) ad wd cI cB cP cT (x0, y0, g0)) s.heap.size) args s BC BS (va_A (cW (LE qa ca cI qf0 cf0 E) ad wd cI cB cP cT (x0, y0, g0)) s.heap.size)) (F0 m 605 ls [.int s5, .int s4, .int s3, .int s2, .int s1, .ref (ad 0 0)]) := by
    intro x y g qf cf v1 v4 s1 s2 s3 s4 s5 bc bs h cells slots hB H locs ls hP hD hS hl
    unfold jL_queries_605 at h
    refine lv_iload_n (pc := 605) hx hb dL_queries_605 rfl (lv_at hl 0 rfl) ?_
    refine lv_sipush (pc := 606) (v := 21600) hx hb dL_queries_606 (by decide) ?_
    refine lv_idiv (pc := 609) hx hb dL_queries_609 (by decide) ?_
    refine lv_iconst (pc := 610) (v := 2) hx hb dL_queries_610 (by decide) ?_
    refine lv_irem (pc := 611) hx hb dL_queries_611 (by decide) ?_
    refine lv_if_ne (pc := 612) (tgt := 620) hx hb dL_queries_612 (by decide) (fun c_612 => ?_) (fun c_612 => ?_)
    · have h := h.2 c_612
      refine lv_iconst (pc := 620) (v := 0) hx hb dL_queries_620 (by decide) ?_
      refine lv_iconst (pc := 621) (v := 0) hx hb dL_queries_621 (by decide) ?_
      obtain ⟨kc_622, ks_622, bc_622, bs_622, ec_622, es_622, h⟩ := h
      refine zSv (pc := 622) (Wd := (WL E qa ca ad wd cI cB cP cT)) (u0 := ((x, y, g), qf, cf)) [.ref (ad 0 0), .int s1, .int s2, .int s3, .int s4, .int s5, .int 0, .int 0] hF (kL_types x y g qf cf s1 s2 s3 s4 s5 0 0 kc_622 ks_622 hlf h) (cwL_L_types hts ⟨Nat.le_of_ble_eq_true rfl, Nat.le_of_ble_eq_true rfl⟩) hP hD hS rfl rfl hl.1 (Nat.le_of_ble_eq_true rfl) dL_queries_622 ⟨by show _ ≤ BC; (try dsimp only); omega, by show _ ≤ BS; (try dsimp only); omega⟩ (fun u H locs h hP hD hS => ?_)
      obtain ⟨⟨x_622, y_622, g_622⟩, qf_622, cf_622⟩ := u
      have hP : va_P D vwCl (cW (LE qa ca cI qf_622 cf_622 E) ad wd cI cB cP cT (x_622, y_622, g_622)) H := hP
      have hD : va_D A (cW (LE qa ca cI qf_622 cf_622 E) ad wd cI cB cP cT (x_622, y_622, g_622)) := hD
      have hB : (cells + kc_622) + bc_622 ≤ BC ∧ (slots + ks_622) + bs_622 ≤ BS := ⟨by omega, by omega⟩
      refine lv_iload (pc := 625) hx hb dL_queries_625 (lv_at hl 1 rfl) ?_
      obtain ⟨hz_627, h⟩ := h
      exact zirV (pc := 627) (Wd := WL E qa ca ad wd cI cB cP cT) (u := ((x_622, y_622, g_622), qf_622, cf_622)) hx hb hr hlocks hAe hK hP hD hS (znB hz_627) dL_queries_627 (by (try dsimp only); omega) (by (try dsimp only); omega) h
    · have h := h.1 c_612
      refine lv_bipush (pc := 615) (v := 32) hx hb dL_queries_615 (by decide) ?_
      refine lv_goto (pc := 617) (tgt := 621) hx hb dL_queries_617 (by decide) ?_
      refine lv_iconst (pc := 621) (v := 0) hx hb dL_queries_621 (by decide) ?_
      obtain ⟨kc_622, ks_622, bc_622, bs_622, ec_622, es_622, h⟩ := h
      refine zSv (pc := 622) (Wd := (WL E qa ca ad wd cI cB cP cT)) (u0 := ((x, y, g), qf, cf)) [.ref (ad 0 0), .int s1, .int s2, .int s3, .int s4, .int s5, .int 32, .int 0] hF (kL_types x y g qf cf s1 s2 s3 s4 s5 32 0 kc_622 ks_622 hlf h) (cwL_L_types hts ⟨Nat.le_of_ble_eq_true rfl, Nat.le_of_ble_eq_true rfl⟩) hP hD hS rfl rfl hl.1 (Nat.le_of_ble_eq_true rfl) dL_queries_622 ⟨by show _ ≤ BC; (try dsimp only); omega, by show _ ≤ BS; (try dsimp only); omega⟩ (fun u H locs h hP hD hS => ?_)
      obtain ⟨⟨x_622, y_622, g_622⟩, qf_622, cf_622⟩ := u
      have hP : va_P D vwCl (cW (LE qa ca cI qf_622 cf_622 E) ad wd cI cB cP cT (x_622, y_622, g_622)) H := hP
      have hD : va_D A (cW (LE qa ca cI qf_622 cf_622 E) ad wd cI cB cP cT (x_622, y_622, g_622)) := hD
      have hB : (cells + kc_622) + bc_622 ≤ BC ∧ (slots + ks_622) + bs_622 ≤ BS := ⟨by omega, by omega⟩
      refine lv_iload (pc := 625) hx hb dL_queries_625 (lv_at hl 1 rfl) ?_
      obtain ⟨hz_627, h⟩ := h
      exact zirV (pc := 627) (Wd := WL E qa ca ad wd cI cB cP cT) (u := ((x_622, y_622, g_622), qf_622, cf_622)) hx hb hr hlocks hAe hK hP hD hS (znB hz_627) dL_queries_627 (by (try dsimp only); omega) (by (try dsimp only); omega) h
  have J579 : ∀ (x : Nat → Nat → Int32) (y : Nat → Nat → Nat) (g : Nat → Nat → Nat → Int32) (qf cf : Nat → Int32) (v1 : Int32) (v4 : Int32) (s1 : Int32) (s2 : Int32) (s3 : Int32) (s4 : Int32) (bc bs : Nat), jL_queries_579 Φ x y g qf cf v1 v4 s1 s2 s3 s4 bc bs → ∀ (cells slots : Nat), (cells + bc ≤ BC ∧ slots + bs ≤ BS) → ∀ (H : Heap) (locs : List Loc) (ls : Array Slot), va_P D vwCl (cW (LE qa ca cI qf cf E) ad wd cI cB cP cT (x, y, g)) H → va_D A (cW (LE qa ca cI qf cf E) ad wd cI cB cP cT (x, y, g)) → va_S A s.heap H locs → lv_has ls 5 [(1, .int v1), (3, .ref qa), (4, .int v4)] → W p l e { frames := 9, cells := BC, slots := BS, locals := 243 } s m args below meth c H locs cells slots (MQ below (zQi D (cTy cI cB cP cT) (WL E qa ca ad wd cI cB cP cT) (fun r u => Φ r u.1.1 u.1.2.1 u.1.2.2 u.2.1 u.2.2) (cW (LE qa ca cI qf0 cf0 E) ad wd cI cB cP cT (x0, y0, g0)) s.heap.size) args s BC BS (va_A (cW (LE qa ca cI qf0 cf0 E) ad wd cI cB cP cT (x0, y0, g0)) s.heap.size)) (F0 m 579 ls [.int s4, .int s3, .int s2, .int s1, .ref (ad 0 0)]) := by
    intro x y g qf cf v1 v4 s1 s2 s3 s4 bc bs h cells slots hB H locs ls hP hD hS hl
    unfold jL_queries_579 at h
    refine lv_aload_n (pc := 579) hx hb dL_queries_579 rfl (lv_at hl 1 rfl) ?_
    refine lv_iconst (pc := 580) (v := 5) hx hb dL_queries_580 (by decide) ?_
    refine lq_get (pc := 581) (v := (qf 5)) hF hP rfl (vp_in_iff.mpr (by decide)) dL_queries_581 ?_
    refine lv_iconst (pc := 582) (v := 1) hx hb dL_queries_582 (by decide) ?_
    refine lv_icmp_ne (pc := 583) (tgt := 591) hx hb dL_queries_583 (by decide) (fun c_583 => ?_) (fun c_583 => ?_)
    · have h := h.2 c_583
      refine lv_aload_n (pc := 591) hx hb dL_queries_591 rfl (lv_at hl 1 rfl) ?_
      refine lv_iconst (pc := 592) (v := 5) hx hb dL_queries_592 (by decide) ?_
      refine lq_get (pc := 593) (v := (qf 5)) hF hP rfl (vp_in_iff.mpr (by decide)) dL_queries_593 ?_
      refine lv_iconst (pc := 594) (v := 2) hx hb dL_queries_594 (by decide) ?_
      refine lv_icmp_ne (pc := 595) (tgt := 603) hx hb dL_queries_595 (by decide) (fun c_595 => ?_) (fun c_595 => ?_)
      · have h := h.2 c_595
        refine lv_bipush (pc := 603) (v := 107) hx hb dL_queries_603 (by decide) ?_
        exact J605 x y g qf cf v1 v4 s1 s2 s3 s4 107 bc bs h _ _ hB _ _ _ hP hD hS (lv_sub hl [0, 2] rfl)
      · have h := h.1 c_595
        refine lv_bipush (pc := 598) (v := 102) hx hb dL_queries_598 (by decide) ?_
        refine lv_goto (pc := 600) (tgt := 605) hx hb dL_queries_600 (by decide) ?_
        exact J605 x y g qf cf v1 v4 s1 s2 s3 s4 102 bc bs h _ _ hB _ _ _ hP hD hS (lv_sub hl [0, 2] rfl)
    · have h := h.1 c_583
      refine lv_bipush (pc := 586) (v := 119) hx hb dL_queries_586 (by decide) ?_
      refine lv_goto (pc := 588) (tgt := 605) hx hb dL_queries_588 (by decide) ?_
      exact J605 x y g qf cf v1 v4 s1 s2 s3 s4 119 bc bs h _ _ hB _ _ _ hP hD hS (lv_sub hl [0, 2] rfl)
  have J553 : ∀ (x : Nat → Nat → Int32) (y : Nat → Nat → Nat) (g : Nat → Nat → Nat → Int32) (qf cf : Nat → Int32) (v1 : Int32) (v4 : Int32) (s1 : Int32) (s2 : Int32) (s3 : Int32) (bc bs : Nat), jL_queries_553 Φ x y g qf cf v1 v4 s1 s2 s3 bc bs → ∀ (cells slots : Nat), (cells + bc ≤ BC ∧ slots + bs ≤ BS) → ∀ (H : Heap) (locs : List Loc) (ls : Array Slot), va_P D vwCl (cW (LE qa ca cI qf cf E) ad wd cI cB cP cT (x, y, g)) H → va_D A (cW (LE qa ca cI qf cf E) ad wd cI cB cP cT (x, y, g)) → va_S A s.heap H locs → lv_has ls 5 [(1, .int v1), (3, .ref qa), (4, .int v4)] → W p l e { frames := 9, cells := BC, slots := BS, locals := 243 } s m args below meth c H locs cells slots (MQ below (zQi D (cTy cI cB cP cT) (WL E qa ca ad wd cI cB cP cT) (fun r u => Φ r u.1.1 u.1.2.1 u.1.2.2 u.2.1 u.2.2) (cW (LE qa ca cI qf0 cf0 E) ad wd cI cB cP cT (x0, y0, g0)) s.heap.size) args s BC BS (va_A (cW (LE qa ca cI qf0 cf0 E) ad wd cI cB cP cT (x0, y0, g0)) s.heap.size)) (F0 m 553 ls [.int s3, .int s2, .int s1, .ref (ad 0 0)]) := by
    intro x y g qf cf v1 v4 s1 s2 s3 bc bs h cells slots hB H locs ls hP hD hS hl
    unfold jL_queries_553 at h
    refine lv_aload_n (pc := 553) hx hb dL_queries_553 rfl (lv_at hl 1 rfl) ?_
    refine lv_iconst (pc := 554) (v := 5) hx hb dL_queries_554 (by decide) ?_
    refine lq_get (pc := 555) (v := (qf 5)) hF hP rfl (vp_in_iff.mpr (by decide)) dL_queries_555 ?_
    refine lv_iconst (pc := 556) (v := 1) hx hb dL_queries_556 (by decide) ?_
    refine lv_icmp_ne (pc := 557) (tgt := 565) hx hb dL_queries_557 (by decide) (fun c_557 => ?_) (fun c_557 => ?_)
    · have h := h.2 c_557
      refine lv_aload_n (pc := 565) hx hb dL_queries_565 rfl (lv_at hl 1 rfl) ?_
      refine lv_iconst (pc := 566) (v := 5) hx hb dL_queries_566 (by decide) ?_
      refine lq_get (pc := 567) (v := (qf 5)) hF hP rfl (vp_in_iff.mpr (by decide)) dL_queries_567 ?_
      refine lv_iconst (pc := 568) (v := 2) hx hb dL_queries_568 (by decide) ?_
      refine lv_icmp_ne (pc := 569) (tgt := 577) hx hb dL_queries_569 (by decide) (fun c_569 => ?_) (fun c_569 => ?_)
      · have h := h.2 c_569
        refine lv_bipush (pc := 577) (v := 99) hx hb dL_queries_577 (by decide) ?_
        exact J579 x y g qf cf v1 v4 s1 s2 s3 99 bc bs h _ _ hB _ _ _ hP hD hS (lv_sub hl [0, 1, 2] rfl)
      · have h := h.1 c_569
        refine lv_bipush (pc := 572) (v := 102) hx hb dL_queries_572 (by decide) ?_
        refine lv_goto (pc := 574) (tgt := 579) hx hb dL_queries_574 (by decide) ?_
        exact J579 x y g qf cf v1 v4 s1 s2 s3 102 bc bs h _ _ hB _ _ _ hP hD hS (lv_sub hl [0, 1, 2] rfl)
    · have h := h.1 c_557
      refine lv_bipush (pc := 560) (v := 101) hx hb dL_queries_560 (by decide) ?_
      refine lv_goto (pc := 562) (tgt := 579) hx hb dL_queries_562 (by decide) ?_
      exact J579 x y g qf cf v1 v4 s1 s2 s3 101 bc bs h _ _ hB _ _ _ hP hD hS (lv_sub hl [0, 1, 2] rfl)
  have J527 : ∀ (x : Nat → Nat → Int32) (y : Nat → Nat → Nat) (g : Nat → Nat → Nat → Int32) (qf cf : Nat → Int32) (v1 : Int32) (v4 : Int32) (s1 : Int32) (s2 : Int32) (bc bs : Nat), jL_queries_527 Φ x y g qf cf v1 v4 s1 s2 bc bs → ∀ (cells slots : Nat), (cells + bc ≤ BC ∧ slots + bs ≤ BS) → ∀ (H : Heap) (locs : List Loc) (ls : Array Slot), va_P D vwCl (cW (LE qa ca cI qf cf E) ad wd cI cB cP cT (x, y, g)) H → va_D A (cW (LE qa ca cI qf cf E) ad wd cI cB cP cT (x, y, g)) → va_S A s.heap H locs → lv_has ls 5 [(1, .int v1), (3, .ref qa), (4, .int v4)] → W p l e { frames := 9, cells := BC, slots := BS, locals := 243 } s m args below meth c H locs cells slots (MQ below (zQi D (cTy cI cB cP cT) (WL E qa ca ad wd cI cB cP cT) (fun r u => Φ r u.1.1 u.1.2.1 u.1.2.2 u.2.1 u.2.2) (cW (LE qa ca cI qf0 cf0 E) ad wd cI cB cP cT (x0, y0, g0)) s.heap.size) args s BC BS (va_A (cW (LE qa ca cI qf0 cf0 E) ad wd cI cB cP cT (x0, y0, g0)) s.heap.size)) (F0 m 527 ls [.int s2, .int s1, .ref (ad 0 0)]) := by
    intro x y g qf cf v1 v4 s1 s2 bc bs h cells slots hB H locs ls hP hD hS hl
    unfold jL_queries_527 at h
    refine lv_aload_n (pc := 527) hx hb dL_queries_527 rfl (lv_at hl 1 rfl) ?_
    refine lv_iconst (pc := 528) (v := 5) hx hb dL_queries_528 (by decide) ?_
    refine lq_get (pc := 529) (v := (qf 5)) hF hP rfl (vp_in_iff.mpr (by decide)) dL_queries_529 ?_
    refine lv_iconst (pc := 530) (v := 1) hx hb dL_queries_530 (by decide) ?_
    refine lv_icmp_ne (pc := 531) (tgt := 539) hx hb dL_queries_531 (by decide) (fun c_531 => ?_) (fun c_531 => ?_)
    · have h := h.2 c_531
      refine lv_aload_n (pc := 539) hx hb dL_queries_539 rfl (lv_at hl 1 rfl) ?_
      refine lv_iconst (pc := 540) (v := 5) hx hb dL_queries_540 (by decide) ?_
      refine lq_get (pc := 541) (v := (qf 5)) hF hP rfl (vp_in_iff.mpr (by decide)) dL_queries_541 ?_
      refine lv_iconst (pc := 542) (v := 2) hx hb dL_queries_542 (by decide) ?_
      refine lv_icmp_ne (pc := 543) (tgt := 551) hx hb dL_queries_543 (by decide) (fun c_543 => ?_) (fun c_543 => ?_)
      · have h := h.2 c_543
        refine lv_bipush (pc := 551) (v := 97) hx hb dL_queries_551 (by decide) ?_
        exact J553 x y g qf cf v1 v4 s1 s2 97 bc bs h _ _ hB _ _ _ hP hD hS (lv_sub hl [0, 1, 2] rfl)
      · have h := h.1 c_543
        refine lv_bipush (pc := 546) (v := 105) hx hb dL_queries_546 (by decide) ?_
        refine lv_goto (pc := 548) (tgt := 553) hx hb dL_queries_548 (by decide) ?_
        exact J553 x y g qf cf v1 v4 s1 s2 105 bc bs h _ _ hB _ _ _ hP hD hS (lv_sub hl [0, 1, 2] rfl)
    · have h := h.1 c_531
      refine lv_bipush (pc := 534) (v := 110) hx hb dL_queries_534 (by decide) ?_
      refine lv_goto (pc := 536) (tgt := 553) hx hb dL_queries_536 (by decide) ?_
      exact J553 x y g qf cf v1 v4 s1 s2 110 bc bs h _ _ hB _ _ _ hP hD hS (lv_sub hl [0, 1, 2] rfl)
  have J482 : ∀ (x : Nat → Nat → Int32) (y : Nat → Nat → Nat) (g : Nat → Nat → Nat → Int32) (qf cf : Nat → Int32) (v1 : Int32) (v2 : Int32) (v4 : Int32) (bc bs : Nat), jL_queries_482 Φ x y g qf cf v1 v2 v4 bc bs → ∀ (cells slots : Nat), (cells + bc ≤ BC ∧ slots + bs ≤ BS) → ∀ (H : Heap) (locs : List Loc) (ls : Array Slot), va_P D vwCl (cW (LE qa ca cI qf cf E) ad wd cI cB cP cT (x, y, g)) H → va_D A (cW (LE qa ca cI qf cf E) ad wd cI cB cP cT (x, y, g)) → va_S A s.heap H locs → lv_has ls 5 [(0, .ref (ad 0 0)), (1, .int v1), (2, .int v2), (3, .ref qa), (4, .int v4)] → W p l e { frames := 9, cells := BC, slots := BS, locals := 243 } s m args below meth c H locs cells slots (MQ below (zQi D (cTy cI cB cP cT) (WL E qa ca ad wd cI cB cP cT) (fun r u => Φ r u.1.1 u.1.2.1 u.1.2.2 u.2.1 u.2.2) (cW (LE qa ca cI qf0 cf0 E) ad wd cI cB cP cT (x0, y0, g0)) s.heap.size) args s BC BS (va_A (cW (LE qa ca cI qf0 cf0 E) ad wd cI cB cP cT (x0, y0, g0)) s.heap.size)) (F0 m 482 ls []) := by
    intro x y g qf cf v1 v2 v4 bc bs h cells slots hB H locs ls hP hD hS hl
    unfold jL_queries_482 at h
    refine lv_aload_n (pc := 482) hx hb dL_queries_482 rfl (lv_at hl 3 rfl) ?_
    refine lv_iconst (pc := 483) (v := 5) hx hb dL_queries_483 (by decide) ?_
    refine lv_iload_n (pc := 484) hx hb dL_queries_484 rfl (lv_at hl 2 rfl) ?_
    refine lv_sipush (pc := 485) (v := 12960) hx hb dL_queries_485 (by decide) ?_
    refine lv_idiv (pc := 488) hx hb dL_queries_488 (by decide) ?_
    refine lv_iconst (pc := 489) (v := 4) hx hb dL_queries_489 (by decide) ?_
    refine lv_irem (pc := 490) hx hb dL_queries_490 (by decide) ?_
    obtain ⟨qf_491, e_qf_491⟩ : ∃ z : Nat → Int32, z = (upd qf 5 ((v2 / 12960) - (v2 / 12960) / 4 * 4)) := ⟨_, rfl⟩
    replace h := h qf_491 e_qf_491
    refine lq_set (pc := 491) (v := ((v2 / 12960) - (v2 / 12960) / 4 * 4)) (f := qf_491) hF hP hD hS e_qf_491.symm (vp_in_iff.mpr (by decide)) dL_queries_491 (fun H locs hP hD hS => ?_)
    refine lv_aload_n (pc := 492) hx hb dL_queries_492 rfl (lv_at hl 3 rfl) ?_
    refine lv_iconst (pc := 493) (v := 5) hx hb dL_queries_493 (by decide) ?_
    refine lq_get (pc := 494) (v := (qf_491 5)) hF hP rfl (vp_in_iff.mpr (by decide)) dL_queries_494 ?_
    refine lv_if_le (pc := 495) (tgt := 625) hx hb dL_queries_495 (by decide) (fun c_495 => ?_) (fun c_495 => ?_)
    · have h := h.1 c_495
      refine lv_iload (pc := 625) hx hb dL_queries_625 (lv_at hl 4 rfl) ?_
      obtain ⟨hz_627, h⟩ := h
      exact zirV (pc := 627) (Wd := WL E qa ca ad wd cI cB cP cT) (u := ((x, y, g), qf_491, cf)) hx hb hr hlocks hAe hK hP hD hS (znB hz_627) dL_queries_627 (by (try dsimp only); omega) (by (try dsimp only); omega) h
    · have h := h.2 c_495
      refine lv_aload_n (pc := 498) hx hb dL_queries_498 rfl (lv_at hl 0 rfl) ?_
      refine lv_bipush (pc := 499) (v := 32) hx hb dL_queries_499 (by decide) ?_
      refine lv_aload_n (pc := 501) hx hb dL_queries_501 rfl (lv_at hl 3 rfl) ?_
      refine lv_iconst (pc := 502) (v := 5) hx hb dL_queries_502 (by decide) ?_
      refine lq_get (pc := 503) (v := (qf_491 5)) hF hP rfl (vp_in_iff.mpr (by decide)) dL_queries_503 ?_
      refine lv_iconst (pc := 504) (v := 1) hx hb dL_queries_504 (by decide) ?_
      refine lv_icmp_ne (pc := 505) (tgt := 513) hx hb dL_queries_505 (by decide) (fun c_505 => ?_) (fun c_505 => ?_)
      · have h := h.2 c_505
        refine lv_aload_n (pc := 513) hx hb dL_queries_513 rfl (lv_at hl 3 rfl) ?_
        refine lv_iconst (pc := 514) (v := 5) hx hb dL_queries_514 (by decide) ?_
        refine lq_get (pc := 515) (v := (qf_491 5)) hF hP rfl (vp_in_iff.mpr (by decide)) dL_queries_515 ?_
        refine lv_iconst (pc := 516) (v := 2) hx hb dL_queries_516 (by decide) ?_
        refine lv_icmp_ne (pc := 517) (tgt := 525) hx hb dL_queries_517 (by decide) (fun c_517 => ?_) (fun c_517 => ?_)
        · have h := h.2 c_517
          refine lv_bipush (pc := 525) (v := 98) hx hb dL_queries_525 (by decide) ?_
          exact J527 x y g qf_491 cf v1 v4 32 98 bc bs h _ _ hB _ _ _ hP hD hS (lv_sub hl [1, 3, 4] rfl)
        · have h := h.1 c_517
          refine lv_bipush (pc := 520) (v := 100) hx hb dL_queries_520 (by decide) ?_
          refine lv_goto (pc := 522) (tgt := 527) hx hb dL_queries_522 (by decide) ?_
          exact J527 x y g qf_491 cf v1 v4 32 100 bc bs h _ _ hB _ _ _ hP hD hS (lv_sub hl [1, 3, 4] rfl)
      · have h := h.1 c_505
        refine lv_bipush (pc := 508) (v := 97) hx hb dL_queries_508 (by decide) ?_
        refine lv_goto (pc := 510) (tgt := 527) hx hb dL_queries_510 (by decide) ?_
        exact J527 x y g qf_491 cf v1 v4 32 97 bc bs h _ _ hB _ _ _ hP hD hS (lv_sub hl [1, 3, 4] rfl)
  have J458 : ∀ (x : Nat → Nat → Int32) (y : Nat → Nat → Nat) (g : Nat → Nat → Nat → Int32) (qf cf : Nat → Int32) (v1 : Int32) (v2 : Int32) (v4 : Int32) (bc bs : Nat), jL_queries_458 Φ x y g qf cf v1 v2 v4 bc bs → ∀ (cells slots : Nat), (cells + bc ≤ BC ∧ slots + bs ≤ BS) → ∀ (H : Heap) (locs : List Loc) (ls : Array Slot), va_P D vwCl (cW (LE qa ca cI qf cf E) ad wd cI cB cP cT (x, y, g)) H → va_D A (cW (LE qa ca cI qf cf E) ad wd cI cB cP cT (x, y, g)) → va_S A s.heap H locs → lv_has ls 5 [(0, .ref (ad 0 0)), (1, .int v1), (2, .int v2), (3, .ref qa), (4, .int v4)] → W p l e { frames := 9, cells := BC, slots := BS, locals := 243 } s m args below meth c H locs cells slots (MQ below (zQi D (cTy cI cB cP cT) (WL E qa ca ad wd cI cB cP cT) (fun r u => Φ r u.1.1 u.1.2.1 u.1.2.2 u.2.1 u.2.2) (cW (LE qa ca cI qf0 cf0 E) ad wd cI cB cP cT (x0, y0, g0)) s.heap.size) args s BC BS (va_A (cW (LE qa ca cI qf0 cf0 E) ad wd cI cB cP cT (x0, y0, g0)) s.heap.size)) (F0 m 458 ls []) := by
    intro x y g qf cf v1 v2 v4 bc bs h cells slots hB H locs ls hP hD hS hl
    unfold jL_queries_458 at h
    refine lv_aload_n (pc := 458) hx hb dL_queries_458 rfl (lv_at hl 0 rfl) ?_
    refine lv_bipush (pc := 459) (v := 32) hx hb dL_queries_459 (by decide) ?_
    refine lv_bipush (pc := 461) (v := 108) hx hb dL_queries_461 (by decide) ?_
    refine lv_bipush (pc := 463) (v := 97) hx hb dL_queries_463 (by decide) ?_
    refine lv_bipush (pc := 465) (v := 116) hx hb dL_queries_465 (by decide) ?_
    refine lv_bipush (pc := 467) (v := 101) hx hb dL_queries_467 (by decide) ?_
    refine lv_bipush (pc := 469) (v := 32) hx hb dL_queries_469 (by decide) ?_
    refine lv_iconst (pc := 471) (v := 0) hx hb dL_queries_471 (by decide) ?_
    obtain ⟨kc_472, ks_472, bc_472, bs_472, ec_472, es_472, h⟩ := h
    refine zSv (pc := 472) (Wd := (WL E qa ca ad wd cI cB cP cT)) (u0 := ((x, y, g), qf, cf)) [.ref (ad 0 0), .int 32, .int 108, .int 97, .int 116, .int 101, .int 32, .int 0] hF (kL_types x y g qf cf 32 108 97 116 101 32 0 kc_472 ks_472 hlf h) (cwL_L_types hts ⟨Nat.le_of_ble_eq_true rfl, Nat.le_of_ble_eq_true rfl⟩) hP hD hS rfl rfl hl.1 (Nat.le_of_ble_eq_true rfl) dL_queries_472 ⟨by show _ ≤ BC; (try dsimp only); omega, by show _ ≤ BS; (try dsimp only); omega⟩ (fun u H locs h hP hD hS => ?_)
    obtain ⟨⟨x_472, y_472, g_472⟩, qf_472, cf_472⟩ := u
    have hP : va_P D vwCl (cW (LE qa ca cI qf_472 cf_472 E) ad wd cI cB cP cT (x_472, y_472, g_472)) H := hP
    have hD : va_D A (cW (LE qa ca cI qf_472 cf_472 E) ad wd cI cB cP cT (x_472, y_472, g_472)) := hD
    have hB : (cells + kc_472) + bc_472 ≤ BC ∧ (slots + ks_472) + bs_472 ≤ BS := ⟨by omega, by omega⟩
    refine lv_aload_n (pc := 475) hx hb dL_queries_475 rfl (lv_at hl 0 rfl) ?_
    refine lv_aload_n (pc := 476) hx hb dL_queries_476 rfl (lv_at hl 3 rfl) ?_
    refine lv_iconst (pc := 477) (v := 4) hx hb dL_queries_477 (by decide) ?_
    refine lq_get (pc := 478) (v := (qf_472 4)) hF hP rfl (vp_in_iff.mpr (by decide)) dL_queries_478 ?_
    obtain ⟨kc_479, ks_479, bc_479, bs_479, ec_479, es_479, h⟩ := h
    refine zSv (pc := 479) (Wd := (WL E qa ca ad wd cI cB cP cT)) (u0 := ((x_472, y_472, g_472), qf_472, cf_472)) [.ref (ad 0 0), .int (qf_472 4)] hF (kL_figures x_472 y_472 g_472 qf_472 cf_472 (qf_472 4) kc_479 ks_479 hlf h) (cwL_L_figures hts ⟨Nat.le_of_ble_eq_true rfl, Nat.le_of_ble_eq_true rfl⟩) hP hD hS rfl rfl hl.1 (Nat.le_of_ble_eq_true rfl) dL_queries_479 ⟨by show _ ≤ BC; (try dsimp only); omega, by show _ ≤ BS; (try dsimp only); omega⟩ (fun u H locs h hP hD hS => ?_)
    obtain ⟨⟨x_479, y_479, g_479⟩, qf_479, cf_479⟩ := u
    have hP : va_P D vwCl (cW (LE qa ca cI qf_479 cf_479 E) ad wd cI cB cP cT (x_479, y_479, g_479)) H := hP
    have hD : va_D A (cW (LE qa ca cI qf_479 cf_479 E) ad wd cI cB cP cT (x_479, y_479, g_479)) := hD
    have hB : ((cells + kc_472) + kc_479) + bc_479 ≤ BC ∧ ((slots + ks_472) + ks_479) + bs_479 ≤ BS := ⟨by omega, by omega⟩
    exact J482 x_479 y_479 g_479 qf_479 cf_479 v1 v2 v4 bc_479 bs_479 h _ _ hB _ _ _ hP hD hS (lv_sub hl [0, 1, 2, 3, 4] rfl)
  have J440 : ∀ (x : Nat → Nat → Int32) (y : Nat → Nat → Nat) (g : Nat → Nat → Nat → Int32) (qf cf : Nat → Int32) (v1 : Int32) (v2 : Int32) (v4 : Int32) (s1 : Int32) (s2 : Int32) (bc bs : Nat), jL_queries_440 Φ x y g qf cf v1 v2 v4 s1 s2 bc bs → ∀ (cells slots : Nat), (cells + bc ≤ BC ∧ slots + bs ≤ BS) → ∀ (H : Heap) (locs : List Loc) (ls : Array Slot), va_P D vwCl (cW (LE qa ca cI qf cf E) ad wd cI cB cP cT (x, y, g)) H → va_D A (cW (LE qa ca cI qf cf E) ad wd cI cB cP cT (x, y, g)) → va_S A s.heap H locs → lv_has ls 5 [(0, .ref (ad 0 0)), (1, .int v1), (2, .int v2), (3, .ref qa), (4, .int v4)] → W p l e { frames := 9, cells := BC, slots := BS, locals := 243 } s m args below meth c H locs cells slots (MQ below (zQi D (cTy cI cB cP cT) (WL E qa ca ad wd cI cB cP cT) (fun r u => Φ r u.1.1 u.1.2.1 u.1.2.2 u.2.1 u.2.2) (cW (LE qa ca cI qf0 cf0 E) ad wd cI cB cP cT (x0, y0, g0)) s.heap.size) args s BC BS (va_A (cW (LE qa ca cI qf0 cf0 E) ad wd cI cB cP cT (x0, y0, g0)) s.heap.size)) (F0 m 440 ls [.int s2, .int s1, .ref qa]) := by
    intro x y g qf cf v1 v2 v4 s1 s2 bc bs h cells slots hB H locs ls hP hD hS hl
    unfold jL_queries_440 at h
    obtain ⟨hi_440, h⟩ := h
    obtain ⟨qf_440, e_qf_440⟩ : ∃ z : Nat → Int32, z = (upd qf s1.toNatClampNeg s2) := ⟨_, rfl⟩
    replace h := h qf_440 e_qf_440
    refine lq_set (pc := 440) (v := s2) (f := qf_440) hF hP hD hS e_qf_440.symm hi_440 dL_queries_440 (fun H locs hP hD hS => ?_)
    refine lv_aload_n (pc := 441) hx hb dL_queries_441 rfl (lv_at hl 3 rfl) ?_
    refine lv_iconst (pc := 442) (v := 4) hx hb dL_queries_442 (by decide) ?_
    refine lq_get (pc := 443) (v := (qf_440 4)) hF hP rfl (vp_in_iff.mpr (by decide)) dL_queries_443 ?_
    refine lv_if_gt (pc := 444) (tgt := 458) hx hb dL_queries_444 (by decide) (fun c_444 => ?_) (fun c_444 => ?_)
    · have h := h.1 c_444
      exact J458 x y g qf_440 cf v1 v2 v4 bc bs h _ _ hB _ _ _ hP hD hS (lv_sub hl [0, 1, 2, 3, 4] rfl)
    · have h := h.2 c_444
      refine lv_iload_n (pc := 447) hx hb dL_queries_447 rfl (lv_at hl 2 rfl) ?_
      refine lv_sipush (pc := 448) (v := 216) hx hb dL_queries_448 (by decide) ?_
      refine lv_idiv (pc := 451) hx hb dL_queries_451 (by decide) ?_
      refine lv_iconst (pc := 452) (v := 3) hx hb dL_queries_452 (by decide) ?_
      refine lv_irem (pc := 453) hx hb dL_queries_453 (by decide) ?_
      refine lv_iconst (pc := 454) (v := 1) hx hb dL_queries_454 (by decide) ?_
      refine lv_icmp_ne (pc := 455) (tgt := 482) hx hb dL_queries_455 (by decide) (fun c_455 => ?_) (fun c_455 => ?_)
      · have h := h.2 c_455
        exact J482 x y g qf_440 cf v1 v2 v4 bc bs h _ _ hB _ _ _ hP hD hS (lv_sub hl [0, 1, 2, 3, 4] rfl)
      · have h := h.1 c_455
        exact J458 x y g qf_440 cf v1 v2 v4 bc bs h _ _ hB _ _ _ hP hD hS (lv_sub hl [0, 1, 2, 3, 4] rfl)
  have J416 : ∀ (x : Nat → Nat → Int32) (y : Nat → Nat → Nat) (g : Nat → Nat → Nat → Int32) (qf cf : Nat → Int32) (v1 : Int32) (v2 : Int32) (v4 : Int32) (bc bs : Nat), jL_queries_416 Φ x y g qf cf v1 v2 v4 bc bs → ∀ (cells slots : Nat), (cells + bc ≤ BC ∧ slots + bs ≤ BS) → ∀ (H : Heap) (locs : List Loc) (ls : Array Slot), va_P D vwCl (cW (LE qa ca cI qf cf E) ad wd cI cB cP cT (x, y, g)) H → va_D A (cW (LE qa ca cI qf cf E) ad wd cI cB cP cT (x, y, g)) → va_S A s.heap H locs → lv_has ls 5 [(0, .ref (ad 0 0)), (1, .int v1), (2, .int v2), (3, .ref qa), (4, .int v4)] → W p l e { frames := 9, cells := BC, slots := BS, locals := 243 } s m args below meth c H locs cells slots (MQ below (zQi D (cTy cI cB cP cT) (WL E qa ca ad wd cI cB cP cT) (fun r u => Φ r u.1.1 u.1.2.1 u.1.2.2 u.2.1 u.2.2) (cW (LE qa ca cI qf0 cf0 E) ad wd cI cB cP cT (x0, y0, g0)) s.heap.size) args s BC BS (va_A (cW (LE qa ca cI qf0 cf0 E) ad wd cI cB cP cT (x0, y0, g0)) s.heap.size)) (F0 m 416 ls []) := by
    intro x y g qf cf v1 v2 v4 bc bs h cells slots hB H locs ls hP hD hS hl
    unfold jL_queries_416 at h
    refine lv_aload_n (pc := 416) hx hb dL_queries_416 rfl (lv_at hl 3 rfl) ?_
    refine lv_iconst (pc := 417) (v := 4) hx hb dL_queries_417 (by decide) ?_
    refine lv_iload_n (pc := 418) hx hb dL_queries_418 rfl (lv_at hl 2 rfl) ?_
    refine lv_sipush (pc := 419) (v := 216) hx hb dL_queries_419 (by decide) ?_
    refine lv_idiv (pc := 422) hx hb dL_queries_422 (by decide) ?_
    refine lv_iconst (pc := 423) (v := 3) hx hb dL_queries_423 (by decide) ?_
    refine lv_irem (pc := 424) hx hb dL_queries_424 (by decide) ?_
    refine lv_if_ne (pc := 425) (tgt := 432) hx hb dL_queries_425 (by decide) (fun c_425 => ?_) (fun c_425 => ?_)
    · have h := h.2 c_425
      refine lv_iload_n (pc := 432) hx hb dL_queries_432 rfl (lv_at hl 2 rfl) ?_
      refine lv_sipush (pc := 433) (v := 648) hx hb dL_queries_433 (by decide) ?_
      refine lv_idiv (pc := 436) hx hb dL_queries_436 (by decide) ?_
      refine lv_bipush (pc := 437) (v := 20) hx hb dL_queries_437 (by decide) ?_
      refine lv_irem (pc := 439) hx hb dL_queries_439 (by decide) ?_
      exact J440 x y g qf cf v1 v2 v4 4 ((v2 / 648) - (v2 / 648) / 20 * 20) bc bs h _ _ hB _ _ _ hP hD hS (lv_sub hl [0, 1, 2, 3, 4] rfl)
    · have h := h.1 c_425
      refine lv_iconst (pc := 428) (v := 0) hx hb dL_queries_428 (by decide) ?_
      refine lv_goto (pc := 429) (tgt := 440) hx hb dL_queries_429 (by decide) ?_
      exact J440 x y g qf cf v1 v2 v4 4 0 bc bs h _ _ hB _ _ _ hP hD hS (lv_sub hl [0, 1, 2, 3, 4] rfl)
  have J414 : ∀ (x : Nat → Nat → Int32) (y : Nat → Nat → Nat) (g : Nat → Nat → Nat → Int32) (qf cf : Nat → Int32) (v1 : Int32) (v2 : Int32) (s0 : Int32) (bc bs : Nat), jL_queries_414 Φ x y g qf cf v1 v2 s0 bc bs → ∀ (cells slots : Nat), (cells + bc ≤ BC ∧ slots + bs ≤ BS) → ∀ (H : Heap) (locs : List Loc) (ls : Array Slot), va_P D vwCl (cW (LE qa ca cI qf cf E) ad wd cI cB cP cT (x, y, g)) H → va_D A (cW (LE qa ca cI qf cf E) ad wd cI cB cP cT (x, y, g)) → va_S A s.heap H locs → lv_has ls 5 [(0, .ref (ad 0 0)), (1, .int v1), (2, .int v2), (3, .ref qa)] → W p l e { frames := 9, cells := BC, slots := BS, locals := 243 } s m args below meth c H locs cells slots (MQ below (zQi D (cTy cI cB cP cT) (WL E qa ca ad wd cI cB cP cT) (fun r u => Φ r u.1.1 u.1.2.1 u.1.2.2 u.2.1 u.2.2) (cW (LE qa ca cI qf0 cf0 E) ad wd cI cB cP cT (x0, y0, g0)) s.heap.size) args s BC BS (va_A (cW (LE qa ca cI qf0 cf0 E) ad wd cI cB cP cT (x0, y0, g0)) s.heap.size)) (F0 m 414 ls [.int s0]) := by
    intro x y g qf cf v1 v2 s0 bc bs h cells slots hB H locs ls hP hD hS hl
    unfold jL_queries_414 at h
    refine lv_istore (pc := 414) (lv' := [(4, .int s0), (0, .ref (ad 0 0)), (1, .int v1), (2, .int v2), (3, .ref qa)]) hx hb dL_queries_414 hl (by decide) rfl (fun ls hl => ?_)
    exact J416 x y g qf cf v1 v2 s0 bc bs h _ _ hB _ _ _ hP hD hS (lv_sub hl [1, 2, 3, 4, 0] rfl)
  have J413 : ∀ (x : Nat → Nat → Int32) (y : Nat → Nat → Nat) (g : Nat → Nat → Nat → Int32) (qf cf : Nat → Int32) (v1 : Int32) (v2 : Int32) (bc bs : Nat), jL_queries_413 Φ x y g qf cf v1 v2 bc bs → ∀ (cells slots : Nat), (cells + bc ≤ BC ∧ slots + bs ≤ BS) → ∀ (H : Heap) (locs : List Loc) (ls : Array Slot), va_P D vwCl (cW (LE qa ca cI qf cf E) ad wd cI cB cP cT (x, y, g)) H → va_D A (cW (LE qa ca cI qf cf E) ad wd cI cB cP cT (x, y, g)) → va_S A s.heap H locs → lv_has ls 5 [(0, .ref (ad 0 0)), (1, .int v1), (2, .int v2), (3, .ref qa)] → W p l e { frames := 9, cells := BC, slots := BS, locals := 243 } s m args below meth c H locs cells slots (MQ below (zQi D (cTy cI cB cP cT) (WL E qa ca ad wd cI cB cP cT) (fun r u => Φ r u.1.1 u.1.2.1 u.1.2.2 u.2.1 u.2.2) (cW (LE qa ca cI qf0 cf0 E) ad wd cI cB cP cT (x0, y0, g0)) s.heap.size) args s BC BS (va_A (cW (LE qa ca cI qf0 cf0 E) ad wd cI cB cP cT (x0, y0, g0)) s.heap.size)) (F0 m 413 ls []) := by
    intro x y g qf cf v1 v2 bc bs h cells slots hB H locs ls hP hD hS hl
    unfold jL_queries_413 at h
    refine lv_iconst (pc := 413) (v := 0) hx hb dL_queries_413 (by decide) ?_
    exact J414 x y g qf cf v1 v2 0 bc bs h _ _ hB _ _ _ hP hD hS (lv_sub hl [0, 1, 2, 3] rfl)
  have J340 : ∀ (x : Nat → Nat → Int32) (y : Nat → Nat → Nat) (g : Nat → Nat → Nat → Int32) (qf cf : Nat → Int32) (v1 : Int32) (v2 : Int32) (bc bs : Nat), jL_queries_340 Φ x y g qf cf v1 v2 bc bs → ∀ (cells slots : Nat), (cells + bc ≤ BC ∧ slots + bs ≤ BS) → ∀ (H : Heap) (locs : List Loc) (ls : Array Slot), va_P D vwCl (cW (LE qa ca cI qf cf E) ad wd cI cB cP cT (x, y, g)) H → va_D A (cW (LE qa ca cI qf cf E) ad wd cI cB cP cT (x, y, g)) → va_S A s.heap H locs → lv_has ls 5 [(0, .ref (ad 0 0)), (1, .int v1), (2, .int v2), (3, .ref qa)] → W p l e { frames := 9, cells := BC, slots := BS, locals := 243 } s m args below meth c H locs cells slots (MQ below (zQi D (cTy cI cB cP cT) (WL E qa ca ad wd cI cB cP cT) (fun r u => Φ r u.1.1 u.1.2.1 u.1.2.2 u.2.1 u.2.2) (cW (LE qa ca cI qf0 cf0 E) ad wd cI cB cP cT (x0, y0, g0)) s.heap.size) args s BC BS (va_A (cW (LE qa ca cI qf0 cf0 E) ad wd cI cB cP cT (x0, y0, g0)) s.heap.size)) (F0 m 340 ls []) := by
    intro x y g qf cf v1 v2 bc bs h cells slots hB H locs ls hP hD hS hl
    unfold jL_queries_340 at h
    refine lv_aload_n (pc := 340) hx hb dL_queries_340 rfl (lv_at hl 0 rfl) ?_
    refine lv_aload_n (pc := 341) hx hb dL_queries_341 rfl (lv_at hl 3 rfl) ?_
    refine lv_iconst (pc := 342) (v := 2) hx hb dL_queries_342 (by decide) ?_
    refine lq_get (pc := 343) (v := (qf 2)) hF hP rfl (vp_in_iff.mpr (by decide)) dL_queries_343 ?_
    obtain ⟨kc_344, ks_344, bc_344, bs_344, ec_344, es_344, h⟩ := h
    refine zSv (pc := 344) (Wd := (WL E qa ca ad wd cI cB cP cT)) (u0 := ((x, y, g), qf, cf)) [.ref (ad 0 0), .int (qf 2)] hF (kL_figures x y g qf cf (qf 2) kc_344 ks_344 hlf h) (cwL_L_figures hts ⟨Nat.le_of_ble_eq_true rfl, Nat.le_of_ble_eq_true rfl⟩) hP hD hS rfl rfl hl.1 (Nat.le_of_ble_eq_true rfl) dL_queries_344 ⟨by show _ ≤ BC; (try dsimp only); omega, by show _ ≤ BS; (try dsimp only); omega⟩ (fun u H locs h hP hD hS => ?_)
    obtain ⟨⟨x_344, y_344, g_344⟩, qf_344, cf_344⟩ := u
    have hP : va_P D vwCl (cW (LE qa ca cI qf_344 cf_344 E) ad wd cI cB cP cT (x_344, y_344, g_344)) H := hP
    have hD : va_D A (cW (LE qa ca cI qf_344 cf_344 E) ad wd cI cB cP cT (x_344, y_344, g_344)) := hD
    have hB : (cells + kc_344) + bc_344 ≤ BC ∧ (slots + ks_344) + bs_344 ≤ BS := ⟨by omega, by omega⟩
    refine lv_iconst (pc := 347) (v := 1) hx hb dL_queries_347 (by decide) ?_
    refine lv_istore (pc := 348) (lv' := [(4, .int 1), (0, .ref (ad 0 0)), (1, .int v1), (2, .int v2), (3, .ref qa)]) hx hb dL_queries_348 hl (by decide) rfl (fun ls hl => ?_)
    refine lv_aload_n (pc := 350) hx hb dL_queries_350 rfl (lv_at hl 4 rfl) ?_
    refine lv_iconst (pc := 351) (v := 1) hx hb dL_queries_351 (by decide) ?_
    refine lq_get (pc := 352) (v := (qf_344 1)) hF hP rfl (vp_in_iff.mpr (by decide)) dL_queries_352 ?_
    refine lv_iconst (pc := 353) (v := 1) hx hb dL_queries_353 (by decide) ?_
    refine lv_icmp_ne (pc := 354) (tgt := 416) hx hb dL_queries_354 (by decide) (fun c_354 => ?_) (fun c_354 => ?_)
    · have h := h.2 c_354
      exact J416 x_344 y_344 g_344 qf_344 cf_344 v1 v2 1 bc_344 bs_344 h _ _ hB _ _ _ hP hD hS (lv_sub hl [1, 2, 3, 4, 0] rfl)
    · have h := h.1 c_354
      refine lv_aload_n (pc := 357) hx hb dL_queries_357 rfl (lv_at hl 4 rfl) ?_
      refine lv_iconst (pc := 358) (v := 3) hx hb dL_queries_358 (by decide) ?_
      refine lv_iconst (pc := 359) (v := 1) hx hb dL_queries_359 (by decide) ?_
      refine lv_iload_n (pc := 360) hx hb dL_queries_360 rfl (lv_at hl 3 rfl) ?_
      refine lv_bipush (pc := 361) (v := 36) hx hb dL_queries_361 (by decide) ?_
      refine lv_idiv (pc := 363) hx hb dL_queries_363 (by decide) ?_
      refine lv_bipush (pc := 364) (v := 6) hx hb dL_queries_364 (by decide) ?_
      refine lv_irem (pc := 366) hx hb dL_queries_366 (by decide) ?_
      refine lv_iadd (pc := 367) hx hb dL_queries_367 ?_
      obtain ⟨qf_368, e_qf_368⟩ : ∃ z : Nat → Int32, z = (upd qf_344 3 (1 + ((v2 / 36) - (v2 / 36) / 6 * 6))) := ⟨_, rfl⟩
      replace h := h qf_368 e_qf_368
      refine lq_set (pc := 368) (v := (1 + ((v2 / 36) - (v2 / 36) / 6 * 6))) (f := qf_368) hF hP hD hS e_qf_368.symm (vp_in_iff.mpr (by decide)) dL_queries_368 (fun H locs hP hD hS => ?_)
      refine lv_aload_n (pc := 369) hx hb dL_queries_369 rfl (lv_at hl 1 rfl) ?_
      refine lv_bipush (pc := 370) (v := 32) hx hb dL_queries_370 (by decide) ?_
      refine lv_iconst (pc := 372) (v := 0) hx hb dL_queries_372 (by decide) ?_
      refine lv_iconst (pc := 373) (v := 0) hx hb dL_queries_373 (by decide) ?_
      refine lv_iconst (pc := 374) (v := 0) hx hb dL_queries_374 (by decide) ?_
      refine lv_iconst (pc := 375) (v := 0) hx hb dL_queries_375 (by decide) ?_
      refine lv_iconst (pc := 376) (v := 0) hx hb dL_queries_376 (by decide) ?_
      refine lv_iconst (pc := 377) (v := 0) hx hb dL_queries_377 (by decide) ?_
      obtain ⟨kc_378, ks_378, bc_378, bs_378, ec_378, es_378, h⟩ := h
      refine zSv (pc := 378) (Wd := (WL E qa ca ad wd cI cB cP cT)) (u0 := ((x_344, y_344, g_344), qf_368, cf_344)) [.ref (ad 0 0), .int 32, .int 0, .int 0, .int 0, .int 0, .int 0, .int 0] hF (kL_types x_344 y_344 g_344 qf_368 cf_344 32 0 0 0 0 0 0 kc_378 ks_378 hlf h) (cwL_L_types hts ⟨Nat.le_of_ble_eq_true rfl, Nat.le_of_ble_eq_true rfl⟩) hP hD hS rfl rfl hl.1 (Nat.le_of_ble_eq_true rfl) dL_queries_378 ⟨by show _ ≤ BC; (try dsimp only); omega, by show _ ≤ BS; (try dsimp only); omega⟩ (fun u H locs h hP hD hS => ?_)
      obtain ⟨⟨x_378, y_378, g_378⟩, qf_378, cf_378⟩ := u
      have hP : va_P D vwCl (cW (LE qa ca cI qf_378 cf_378 E) ad wd cI cB cP cT (x_378, y_378, g_378)) H := hP
      have hD : va_D A (cW (LE qa ca cI qf_378 cf_378 E) ad wd cI cB cP cT (x_378, y_378, g_378)) := hD
      have hB : ((cells + kc_344) + kc_378) + bc_378 ≤ BC ∧ ((slots + ks_344) + ks_378) + bs_378 ≤ BS := ⟨by omega, by omega⟩
      refine lv_aload_n (pc := 381) hx hb dL_queries_381 rfl (lv_at hl 1 rfl) ?_
      refine lv_aload_n (pc := 382) hx hb dL_queries_382 rfl (lv_at hl 4 rfl) ?_
      refine lv_iconst (pc := 383) (v := 3) hx hb dL_queries_383 (by decide) ?_
      refine lq_get (pc := 384) (v := (qf_378 3)) hF hP rfl (vp_in_iff.mpr (by decide)) dL_queries_384 ?_
      obtain ⟨kc_385, ks_385, bc_385, bs_385, ec_385, es_385, h⟩ := h
      refine zSv (pc := 385) (Wd := (WL E qa ca ad wd cI cB cP cT)) (u0 := ((x_378, y_378, g_378), qf_378, cf_378)) [.ref (ad 0 0), .int (qf_378 3)] hF (kL_figures x_378 y_378 g_378 qf_378 cf_378 (qf_378 3) kc_385 ks_385 hlf h) (cwL_L_figures hts ⟨Nat.le_of_ble_eq_true rfl, Nat.le_of_ble_eq_true rfl⟩) hP hD hS rfl rfl hl.1 (Nat.le_of_ble_eq_true rfl) dL_queries_385 ⟨by show _ ≤ BC; (try dsimp only); omega, by show _ ≤ BS; (try dsimp only); omega⟩ (fun u H locs h hP hD hS => ?_)
      obtain ⟨⟨x_385, y_385, g_385⟩, qf_385, cf_385⟩ := u
      have hP : va_P D vwCl (cW (LE qa ca cI qf_385 cf_385 E) ad wd cI cB cP cT (x_385, y_385, g_385)) H := hP
      have hD : va_D A (cW (LE qa ca cI qf_385 cf_385 E) ad wd cI cB cP cT (x_385, y_385, g_385)) := hD
      have hB : (((cells + kc_344) + kc_378) + kc_385) + bc_385 ≤ BC ∧ (((slots + ks_344) + ks_378) + ks_385) + bs_385 ≤ BS := ⟨by omega, by omega⟩
      refine lv_aload_n (pc := 388) hx hb dL_queries_388 rfl (lv_at hl 4 rfl) ?_
      refine lv_iconst (pc := 389) (v := 2) hx hb dL_queries_389 (by decide) ?_
      refine lq_get (pc := 390) (v := (qf_385 2)) hF hP rfl (vp_in_iff.mpr (by decide)) dL_queries_390 ?_
      refine lv_aload_n (pc := 391) hx hb dL_queries_391 rfl (lv_at hl 4 rfl) ?_
      refine lv_iconst (pc := 392) (v := 3) hx hb dL_queries_392 (by decide) ?_
      refine lq_get (pc := 393) (v := (qf_385 3)) hF hP rfl (vp_in_iff.mpr (by decide)) dL_queries_393 ?_
      obtain ⟨h0_394, h⟩ := h
      refine lv_irem (pc := 394) hx hb dL_queries_394 h0_394 ?_
      refine lv_if_ne (pc := 395) (tgt := 413) hx hb dL_queries_395 (by decide) (fun c_395 => ?_) (fun c_395 => ?_)
      · have h := h.2 c_395
        exact J413 x_385 y_385 g_385 qf_385 cf_385 v1 v2 bc_385 bs_385 h _ _ hB _ _ _ hP hD hS (lv_sub hl [1, 2, 3, 4] rfl)
      · have h := h.1 c_395
        refine lv_aload_n (pc := 398) hx hb dL_queries_398 rfl (lv_at hl 4 rfl) ?_
        refine lv_iconst (pc := 399) (v := 2) hx hb dL_queries_399 (by decide) ?_
        refine lq_get (pc := 400) (v := (qf_385 2)) hF hP rfl (vp_in_iff.mpr (by decide)) dL_queries_400 ?_
        refine lv_iconst (pc := 401) (v := 4) hx hb dL_queries_401 (by decide) ?_
        refine lv_aload_n (pc := 402) hx hb dL_queries_402 rfl (lv_at hl 4 rfl) ?_
        refine lv_iconst (pc := 403) (v := 3) hx hb dL_queries_403 (by decide) ?_
        refine lq_get (pc := 404) (v := (qf_385 3)) hF hP rfl (vp_in_iff.mpr (by decide)) dL_queries_404 ?_
        refine lv_imul (pc := 405) hx hb dL_queries_405 ?_
        refine lv_icmp_gt (pc := 406) (tgt := 413) hx hb dL_queries_406 (by decide) (fun c_406 => ?_) (fun c_406 => ?_)
        · have h := h.1 c_406
          exact J413 x_385 y_385 g_385 qf_385 cf_385 v1 v2 bc_385 bs_385 h _ _ hB _ _ _ hP hD hS (lv_sub hl [1, 2, 3, 4] rfl)
        · have h := h.2 c_406
          refine lv_iconst (pc := 409) (v := 1) hx hb dL_queries_409 (by decide) ?_
          refine lv_goto (pc := 410) (tgt := 414) hx hb dL_queries_410 (by decide) ?_
          exact J414 x_385 y_385 g_385 qf_385 cf_385 v1 v2 1 bc_385 bs_385 h _ _ hB _ _ _ hP hD hS (lv_sub hl [1, 2, 3, 4] rfl)
  have J223 : ∀ (x : Nat → Nat → Int32) (y : Nat → Nat → Nat) (g : Nat → Nat → Nat → Int32) (qf cf : Nat → Int32) (v1 : Int32) (v2 : Int32) (bc bs : Nat), jL_queries_223 Φ x y g qf cf v1 v2 bc bs → ∀ (cells slots : Nat), (cells + bc ≤ BC ∧ slots + bs ≤ BS) → ∀ (H : Heap) (locs : List Loc) (ls : Array Slot), va_P D vwCl (cW (LE qa ca cI qf cf E) ad wd cI cB cP cT (x, y, g)) H → va_D A (cW (LE qa ca cI qf cf E) ad wd cI cB cP cT (x, y, g)) → va_S A s.heap H locs → lv_has ls 5 [(0, .ref (ad 0 0)), (1, .int v1), (2, .int v2), (3, .ref qa)] → W p l e { frames := 9, cells := BC, slots := BS, locals := 243 } s m args below meth c H locs cells slots (MQ below (zQi D (cTy cI cB cP cT) (WL E qa ca ad wd cI cB cP cT) (fun r u => Φ r u.1.1 u.1.2.1 u.1.2.2 u.2.1 u.2.2) (cW (LE qa ca cI qf0 cf0 E) ad wd cI cB cP cT (x0, y0, g0)) s.heap.size) args s BC BS (va_A (cW (LE qa ca cI qf0 cf0 E) ad wd cI cB cP cT (x0, y0, g0)) s.heap.size)) (F0 m 223 ls []) := by
    intro x y g qf cf v1 v2 bc bs h cells slots hB H locs ls hP hD hS hl
    unfold jL_queries_223 at h
    refine lv_aload_n (pc := 223) hx hb dL_queries_223 rfl (lv_at hl 3 rfl) ?_
    refine lv_iconst (pc := 224) (v := 1) hx hb dL_queries_224 (by decide) ?_
    refine lv_iload_n (pc := 225) hx hb dL_queries_225 rfl (lv_at hl 2 rfl) ?_
    refine lv_iconst (pc := 226) (v := 3) hx hb dL_queries_226 (by decide) ?_
    refine lv_irem (pc := 227) hx hb dL_queries_227 (by decide) ?_
    obtain ⟨qf_228, e_qf_228⟩ : ∃ z : Nat → Int32, z = (upd qf 1 (v2 - v2 / 3 * 3)) := ⟨_, rfl⟩
    replace h := h qf_228 e_qf_228
    refine lq_set (pc := 228) (v := (v2 - v2 / 3 * 3)) (f := qf_228) hF hP hD hS e_qf_228.symm (vp_in_iff.mpr (by decide)) dL_queries_228 (fun H locs hP hD hS => ?_)
    refine lv_aload_n (pc := 229) hx hb dL_queries_229 rfl (lv_at hl 3 rfl) ?_
    refine lv_iconst (pc := 230) (v := 2) hx hb dL_queries_230 (by decide) ?_
    refine lv_iconst (pc := 231) (v := 1) hx hb dL_queries_231 (by decide) ?_
    refine lv_iload_n (pc := 232) hx hb dL_queries_232 rfl (lv_at hl 2 rfl) ?_
    refine lv_iconst (pc := 233) (v := 3) hx hb dL_queries_233 (by decide) ?_
    refine lv_idiv (pc := 234) hx hb dL_queries_234 (by decide) ?_
    refine lv_bipush (pc := 235) (v := 12) hx hb dL_queries_235 (by decide) ?_
    refine lv_irem (pc := 237) hx hb dL_queries_237 (by decide) ?_
    refine lv_iadd (pc := 238) hx hb dL_queries_238 ?_
    obtain ⟨qf_239, e_qf_239⟩ : ∃ z : Nat → Int32, z = (upd qf_228 2 (1 + ((v2 / 3) - (v2 / 3) / 12 * 12))) := ⟨_, rfl⟩
    replace h := h qf_239 e_qf_239
    refine lq_set (pc := 239) (v := (1 + ((v2 / 3) - (v2 / 3) / 12 * 12))) (f := qf_239) hF hP hD hS e_qf_239.symm (vp_in_iff.mpr (by decide)) dL_queries_239 (fun H locs hP hD hS => ?_)
    refine lv_aload_n (pc := 240) hx hb dL_queries_240 rfl (lv_at hl 3 rfl) ?_
    refine lv_iconst (pc := 241) (v := 3) hx hb dL_queries_241 (by decide) ?_
    refine lv_iconst (pc := 242) (v := 0) hx hb dL_queries_242 (by decide) ?_
    obtain ⟨qf_243, e_qf_243⟩ : ∃ z : Nat → Int32, z = (upd qf_239 3 0) := ⟨_, rfl⟩
    replace h := h qf_243 e_qf_243
    refine lq_set (pc := 243) (v := 0) (f := qf_243) hF hP hD hS e_qf_243.symm (vp_in_iff.mpr (by decide)) dL_queries_243 (fun H locs hP hD hS => ?_)
    refine lv_aload_n (pc := 244) hx hb dL_queries_244 rfl (lv_at hl 3 rfl) ?_
    refine lv_iconst (pc := 245) (v := 1) hx hb dL_queries_245 (by decide) ?_
    refine lq_get (pc := 246) (v := (qf_243 1)) hF hP rfl (vp_in_iff.mpr (by decide)) dL_queries_246 ?_
    refine lv_if_ne (pc := 247) (tgt := 270) hx hb dL_queries_247 (by decide) (fun c_247 => ?_) (fun c_247 => ?_)
    · have h := h.2 c_247
      refine lv_aload_n (pc := 270) hx hb dL_queries_270 rfl (lv_at hl 3 rfl) ?_
      refine lv_iconst (pc := 271) (v := 1) hx hb dL_queries_271 (by decide) ?_
      refine lq_get (pc := 272) (v := (qf_243 1)) hF hP rfl (vp_in_iff.mpr (by decide)) dL_queries_272 ?_
      refine lv_iconst (pc := 273) (v := 1) hx hb dL_queries_273 (by decide) ?_
      refine lv_icmp_ne (pc := 274) (tgt := 310) hx hb dL_queries_274 (by decide) (fun c_274 => ?_) (fun c_274 => ?_)
      · have h := h.2 c_274
        refine lv_aload_n (pc := 310) hx hb dL_queries_310 rfl (lv_at hl 0 rfl) ?_
        refine lv_bipush (pc := 311) (v := 115) hx hb dL_queries_311 (by decide) ?_
        refine lv_bipush (pc := 313) (v := 101) hx hb dL_queries_313 (by decide) ?_
        refine lv_bipush (pc := 315) (v := 115) hx hb dL_queries_315 (by decide) ?_
        refine lv_bipush (pc := 317) (v := 115) hx hb dL_queries_317 (by decide) ?_
        refine lv_bipush (pc := 319) (v := 105) hx hb dL_queries_319 (by decide) ?_
        refine lv_bipush (pc := 321) (v := 111) hx hb dL_queries_321 (by decide) ?_
        refine lv_bipush (pc := 323) (v := 110) hx hb dL_queries_323 (by decide) ?_
        obtain ⟨kc_325, ks_325, bc_325, bs_325, ec_325, es_325, h⟩ := h
        refine zSv (pc := 325) (Wd := (WL E qa ca ad wd cI cB cP cT)) (u0 := ((x, y, g), qf_243, cf)) [.ref (ad 0 0), .int 115, .int 101, .int 115, .int 115, .int 105, .int 111, .int 110] hF (kL_types x y g qf_243 cf 115 101 115 115 105 111 110 kc_325 ks_325 hlf h) (cwL_L_types hts ⟨Nat.le_of_ble_eq_true rfl, Nat.le_of_ble_eq_true rfl⟩) hP hD hS rfl rfl hl.1 (Nat.le_of_ble_eq_true rfl) dL_queries_325 ⟨by show _ ≤ BC; (try dsimp only); omega, by show _ ≤ BS; (try dsimp only); omega⟩ (fun u H locs h hP hD hS => ?_)
        obtain ⟨⟨x_325, y_325, g_325⟩, qf_325, cf_325⟩ := u
        have hP : va_P D vwCl (cW (LE qa ca cI qf_325 cf_325 E) ad wd cI cB cP cT (x_325, y_325, g_325)) H := hP
        have hD : va_D A (cW (LE qa ca cI qf_325 cf_325 E) ad wd cI cB cP cT (x_325, y_325, g_325)) := hD
        have hB : (cells + kc_325) + bc_325 ≤ BC ∧ (slots + ks_325) + bs_325 ≤ BS := ⟨by omega, by omega⟩
        refine lv_aload_n (pc := 328) hx hb dL_queries_328 rfl (lv_at hl 0 rfl) ?_
        refine lv_bipush (pc := 329) (v := 32) hx hb dL_queries_329 (by decide) ?_
        refine lv_iconst (pc := 331) (v := 0) hx hb dL_queries_331 (by decide) ?_
        refine lv_iconst (pc := 332) (v := 0) hx hb dL_queries_332 (by decide) ?_
        refine lv_iconst (pc := 333) (v := 0) hx hb dL_queries_333 (by decide) ?_
        refine lv_iconst (pc := 334) (v := 0) hx hb dL_queries_334 (by decide) ?_
        refine lv_iconst (pc := 335) (v := 0) hx hb dL_queries_335 (by decide) ?_
        refine lv_iconst (pc := 336) (v := 0) hx hb dL_queries_336 (by decide) ?_
        obtain ⟨kc_337, ks_337, bc_337, bs_337, ec_337, es_337, h⟩ := h
        refine zSv (pc := 337) (Wd := (WL E qa ca ad wd cI cB cP cT)) (u0 := ((x_325, y_325, g_325), qf_325, cf_325)) [.ref (ad 0 0), .int 32, .int 0, .int 0, .int 0, .int 0, .int 0, .int 0] hF (kL_types x_325 y_325 g_325 qf_325 cf_325 32 0 0 0 0 0 0 kc_337 ks_337 hlf h) (cwL_L_types hts ⟨Nat.le_of_ble_eq_true rfl, Nat.le_of_ble_eq_true rfl⟩) hP hD hS rfl rfl hl.1 (Nat.le_of_ble_eq_true rfl) dL_queries_337 ⟨by show _ ≤ BC; (try dsimp only); omega, by show _ ≤ BS; (try dsimp only); omega⟩ (fun u H locs h hP hD hS => ?_)
        obtain ⟨⟨x_337, y_337, g_337⟩, qf_337, cf_337⟩ := u
        have hP : va_P D vwCl (cW (LE qa ca cI qf_337 cf_337 E) ad wd cI cB cP cT (x_337, y_337, g_337)) H := hP
        have hD : va_D A (cW (LE qa ca cI qf_337 cf_337 E) ad wd cI cB cP cT (x_337, y_337, g_337)) := hD
        have hB : ((cells + kc_325) + kc_337) + bc_337 ≤ BC ∧ ((slots + ks_325) + ks_337) + bs_337 ≤ BS := ⟨by omega, by omega⟩
        exact J340 x_337 y_337 g_337 qf_337 cf_337 v1 v2 bc_337 bs_337 h _ _ hB _ _ _ hP hD hS (lv_sub hl [0, 1, 2, 3] rfl)
      · have h := h.1 c_274
        refine lv_aload_n (pc := 277) hx hb dL_queries_277 rfl (lv_at hl 0 rfl) ?_
        refine lv_bipush (pc := 278) (v := 115) hx hb dL_queries_278 (by decide) ?_
        refine lv_bipush (pc := 280) (v := 108) hx hb dL_queries_280 (by decide) ?_
        refine lv_bipush (pc := 282) (v := 105) hx hb dL_queries_282 (by decide) ?_
        refine lv_bipush (pc := 284) (v := 100) hx hb dL_queries_284 (by decide) ?_
        refine lv_bipush (pc := 286) (v := 105) hx hb dL_queries_286 (by decide) ?_
        refine lv_bipush (pc := 288) (v := 110) hx hb dL_queries_288 (by decide) ?_
        refine lv_bipush (pc := 290) (v := 103) hx hb dL_queries_290 (by decide) ?_
        obtain ⟨kc_292, ks_292, bc_292, bs_292, ec_292, es_292, h⟩ := h
        refine zSv (pc := 292) (Wd := (WL E qa ca ad wd cI cB cP cT)) (u0 := ((x, y, g), qf_243, cf)) [.ref (ad 0 0), .int 115, .int 108, .int 105, .int 100, .int 105, .int 110, .int 103] hF (kL_types x y g qf_243 cf 115 108 105 100 105 110 103 kc_292 ks_292 hlf h) (cwL_L_types hts ⟨Nat.le_of_ble_eq_true rfl, Nat.le_of_ble_eq_true rfl⟩) hP hD hS rfl rfl hl.1 (Nat.le_of_ble_eq_true rfl) dL_queries_292 ⟨by show _ ≤ BC; (try dsimp only); omega, by show _ ≤ BS; (try dsimp only); omega⟩ (fun u H locs h hP hD hS => ?_)
        obtain ⟨⟨x_292, y_292, g_292⟩, qf_292, cf_292⟩ := u
        have hP : va_P D vwCl (cW (LE qa ca cI qf_292 cf_292 E) ad wd cI cB cP cT (x_292, y_292, g_292)) H := hP
        have hD : va_D A (cW (LE qa ca cI qf_292 cf_292 E) ad wd cI cB cP cT (x_292, y_292, g_292)) := hD
        have hB : (cells + kc_292) + bc_292 ≤ BC ∧ (slots + ks_292) + bs_292 ≤ BS := ⟨by omega, by omega⟩
        refine lv_aload_n (pc := 295) hx hb dL_queries_295 rfl (lv_at hl 0 rfl) ?_
        refine lv_bipush (pc := 296) (v := 32) hx hb dL_queries_296 (by decide) ?_
        refine lv_iconst (pc := 298) (v := 0) hx hb dL_queries_298 (by decide) ?_
        refine lv_iconst (pc := 299) (v := 0) hx hb dL_queries_299 (by decide) ?_
        refine lv_iconst (pc := 300) (v := 0) hx hb dL_queries_300 (by decide) ?_
        refine lv_iconst (pc := 301) (v := 0) hx hb dL_queries_301 (by decide) ?_
        refine lv_iconst (pc := 302) (v := 0) hx hb dL_queries_302 (by decide) ?_
        refine lv_iconst (pc := 303) (v := 0) hx hb dL_queries_303 (by decide) ?_
        obtain ⟨kc_304, ks_304, bc_304, bs_304, ec_304, es_304, h⟩ := h
        refine zSv (pc := 304) (Wd := (WL E qa ca ad wd cI cB cP cT)) (u0 := ((x_292, y_292, g_292), qf_292, cf_292)) [.ref (ad 0 0), .int 32, .int 0, .int 0, .int 0, .int 0, .int 0, .int 0] hF (kL_types x_292 y_292 g_292 qf_292 cf_292 32 0 0 0 0 0 0 kc_304 ks_304 hlf h) (cwL_L_types hts ⟨Nat.le_of_ble_eq_true rfl, Nat.le_of_ble_eq_true rfl⟩) hP hD hS rfl rfl hl.1 (Nat.le_of_ble_eq_true rfl) dL_queries_304 ⟨by show _ ≤ BC; (try dsimp only); omega, by show _ ≤ BS; (try dsimp only); omega⟩ (fun u H locs h hP hD hS => ?_)
        obtain ⟨⟨x_304, y_304, g_304⟩, qf_304, cf_304⟩ := u
        have hP : va_P D vwCl (cW (LE qa ca cI qf_304 cf_304 E) ad wd cI cB cP cT (x_304, y_304, g_304)) H := hP
        have hD : va_D A (cW (LE qa ca cI qf_304 cf_304 E) ad wd cI cB cP cT (x_304, y_304, g_304)) := hD
        have hB : ((cells + kc_292) + kc_304) + bc_304 ≤ BC ∧ ((slots + ks_292) + ks_304) + bs_304 ≤ BS := ⟨by omega, by omega⟩
        refine lv_goto (pc := 307) (tgt := 340) hx hb dL_queries_307 (by decide) ?_
        exact J340 x_304 y_304 g_304 qf_304 cf_304 v1 v2 bc_304 bs_304 h _ _ hB _ _ _ hP hD hS (lv_sub hl [0, 1, 2, 3] rfl)
    · have h := h.1 c_247
      refine lv_aload_n (pc := 250) hx hb dL_queries_250 rfl (lv_at hl 0 rfl) ?_
      refine lv_bipush (pc := 251) (v := 102) hx hb dL_queries_251 (by decide) ?_
      refine lv_bipush (pc := 253) (v := 105) hx hb dL_queries_253 (by decide) ?_
      refine lv_bipush (pc := 255) (v := 120) hx hb dL_queries_255 (by decide) ?_
      refine lv_bipush (pc := 257) (v := 101) hx hb dL_queries_257 (by decide) ?_
      refine lv_bipush (pc := 259) (v := 100) hx hb dL_queries_259 (by decide) ?_
      refine lv_bipush (pc := 261) (v := 32) hx hb dL_queries_261 (by decide) ?_
      refine lv_iconst (pc := 263) (v := 0) hx hb dL_queries_263 (by decide) ?_
      obtain ⟨kc_264, ks_264, bc_264, bs_264, ec_264, es_264, h⟩ := h
      refine zSv (pc := 264) (Wd := (WL E qa ca ad wd cI cB cP cT)) (u0 := ((x, y, g), qf_243, cf)) [.ref (ad 0 0), .int 102, .int 105, .int 120, .int 101, .int 100, .int 32, .int 0] hF (kL_types x y g qf_243 cf 102 105 120 101 100 32 0 kc_264 ks_264 hlf h) (cwL_L_types hts ⟨Nat.le_of_ble_eq_true rfl, Nat.le_of_ble_eq_true rfl⟩) hP hD hS rfl rfl hl.1 (Nat.le_of_ble_eq_true rfl) dL_queries_264 ⟨by show _ ≤ BC; (try dsimp only); omega, by show _ ≤ BS; (try dsimp only); omega⟩ (fun u H locs h hP hD hS => ?_)
      obtain ⟨⟨x_264, y_264, g_264⟩, qf_264, cf_264⟩ := u
      have hP : va_P D vwCl (cW (LE qa ca cI qf_264 cf_264 E) ad wd cI cB cP cT (x_264, y_264, g_264)) H := hP
      have hD : va_D A (cW (LE qa ca cI qf_264 cf_264 E) ad wd cI cB cP cT (x_264, y_264, g_264)) := hD
      have hB : (cells + kc_264) + bc_264 ≤ BC ∧ (slots + ks_264) + bs_264 ≤ BS := ⟨by omega, by omega⟩
      refine lv_goto (pc := 267) (tgt := 340) hx hb dL_queries_267 (by decide) ?_
      exact J340 x_264 y_264 g_264 qf_264 cf_264 v1 v2 bc_264 bs_264 h _ _ hB _ _ _ hP hD hS (lv_sub hl [0, 1, 2, 3] rfl)
  have J197 : ∀ (x : Nat → Nat → Int32) (y : Nat → Nat → Nat) (g : Nat → Nat → Nat → Int32) (qf cf : Nat → Int32) (v1 : Int32) (v2 : Int32) (bc bs : Nat), jL_queries_197 Φ x y g qf cf v1 v2 bc bs → ∀ (cells slots : Nat), (cells + bc ≤ BC ∧ slots + bs ≤ BS) → ∀ (H : Heap) (locs : List Loc) (ls : Array Slot), va_P D vwCl (cW (LE qa ca cI qf cf E) ad wd cI cB cP cT (x, y, g)) H → va_D A (cW (LE qa ca cI qf cf E) ad wd cI cB cP cT (x, y, g)) → va_S A s.heap H locs → lv_has ls 5 [(0, .ref (ad 0 0)), (1, .int v1), (2, .int v2), (3, .ref qa)] → W p l e { frames := 9, cells := BC, slots := BS, locals := 243 } s m args below meth c H locs cells slots (MQ below (zQi D (cTy cI cB cP cT) (WL E qa ca ad wd cI cB cP cT) (fun r u => Φ r u.1.1 u.1.2.1 u.1.2.2 u.2.1 u.2.2) (cW (LE qa ca cI qf0 cf0 E) ad wd cI cB cP cT (x0, y0, g0)) s.heap.size) args s BC BS (va_A (cW (LE qa ca cI qf0 cf0 E) ad wd cI cB cP cT (x0, y0, g0)) s.heap.size)) (F0 m 197 ls []) := by
    intro x y g qf cf v1 v2 bc bs h cells slots hB H locs ls hP hD hS hl
    unfold jL_queries_197 at h
    refine lv_iload_n (pc := 197) hx hb dL_queries_197 rfl (lv_at hl 1 rfl) ?_
    refine lv_sipush (pc := 198) (v := 10800) hx hb dL_queries_198 (by decide) ?_
    refine lv_idiv (pc := 201) hx hb dL_queries_201 (by decide) ?_
    refine lv_iconst (pc := 202) (v := 2) hx hb dL_queries_202 (by decide) ?_
    refine lv_irem (pc := 203) hx hb dL_queries_203 (by decide) ?_
    refine lv_if_ne (pc := 204) (tgt := 223) hx hb dL_queries_204 (by decide) (fun c_204 => ?_) (fun c_204 => ?_)
    · have h := h.2 c_204
      exact J223 x y g qf cf v1 v2 bc bs h _ _ hB _ _ _ hP hD hS (lv_sub hl [0, 1, 2, 3] rfl)
    · have h := h.1 c_204
      refine lv_aload_n (pc := 207) hx hb dL_queries_207 rfl (lv_at hl 0 rfl) ?_
      refine lv_bipush (pc := 208) (v := 106) hx hb dL_queries_208 (by decide) ?_
      refine lv_bipush (pc := 210) (v := 111) hx hb dL_queries_210 (by decide) ?_
      refine lv_bipush (pc := 212) (v := 105) hx hb dL_queries_212 (by decide) ?_
      refine lv_bipush (pc := 214) (v := 110) hx hb dL_queries_214 (by decide) ?_
      refine lv_bipush (pc := 216) (v := 32) hx hb dL_queries_216 (by decide) ?_
      refine lv_iconst (pc := 218) (v := 0) hx hb dL_queries_218 (by decide) ?_
      refine lv_iconst (pc := 219) (v := 0) hx hb dL_queries_219 (by decide) ?_
      obtain ⟨kc_220, ks_220, bc_220, bs_220, ec_220, es_220, h⟩ := h
      refine zSv (pc := 220) (Wd := (WL E qa ca ad wd cI cB cP cT)) (u0 := ((x, y, g), qf, cf)) [.ref (ad 0 0), .int 106, .int 111, .int 105, .int 110, .int 32, .int 0, .int 0] hF (kL_types x y g qf cf 106 111 105 110 32 0 0 kc_220 ks_220 hlf h) (cwL_L_types hts ⟨Nat.le_of_ble_eq_true rfl, Nat.le_of_ble_eq_true rfl⟩) hP hD hS rfl rfl hl.1 (Nat.le_of_ble_eq_true rfl) dL_queries_220 ⟨by show _ ≤ BC; (try dsimp only); omega, by show _ ≤ BS; (try dsimp only); omega⟩ (fun u H locs h hP hD hS => ?_)
      obtain ⟨⟨x_220, y_220, g_220⟩, qf_220, cf_220⟩ := u
      have hP : va_P D vwCl (cW (LE qa ca cI qf_220 cf_220 E) ad wd cI cB cP cT (x_220, y_220, g_220)) H := hP
      have hD : va_D A (cW (LE qa ca cI qf_220 cf_220 E) ad wd cI cB cP cT (x_220, y_220, g_220)) := hD
      have hB : (cells + kc_220) + bc_220 ≤ BC ∧ (slots + ks_220) + bs_220 ≤ BS := ⟨by omega, by omega⟩
      exact J223 x_220 y_220 g_220 qf_220 cf_220 v1 v2 bc_220 bs_220 h _ _ hB _ _ _ hP hD hS (lv_sub hl [0, 1, 2, 3] rfl)
  have J189 : ∀ (x : Nat → Nat → Int32) (y : Nat → Nat → Nat) (g : Nat → Nat → Nat → Int32) (qf cf : Nat → Int32) (v1 : Int32) (v2 : Int32) (s1 : Int32) (s2 : Int32) (bc bs : Nat), jL_queries_189 Φ x y g qf cf v1 v2 s1 s2 bc bs → ∀ (cells slots : Nat), (cells + bc ≤ BC ∧ slots + bs ≤ BS) → ∀ (H : Heap) (locs : List Loc) (ls : Array Slot), va_P D vwCl (cW (LE qa ca cI qf cf E) ad wd cI cB cP cT (x, y, g)) H → va_D A (cW (LE qa ca cI qf cf E) ad wd cI cB cP cT (x, y, g)) → va_S A s.heap H locs → lv_has ls 5 [(0, .ref (ad 0 0)), (1, .int v1), (2, .int v2), (3, .ref qa)] → W p l e { frames := 9, cells := BC, slots := BS, locals := 243 } s m args below meth c H locs cells slots (MQ below (zQi D (cTy cI cB cP cT) (WL E qa ca ad wd cI cB cP cT) (fun r u => Φ r u.1.1 u.1.2.1 u.1.2.2 u.2.1 u.2.2) (cW (LE qa ca cI qf0 cf0 E) ad wd cI cB cP cT (x0, y0, g0)) s.heap.size) args s BC BS (va_A (cW (LE qa ca cI qf0 cf0 E) ad wd cI cB cP cT (x0, y0, g0)) s.heap.size)) (F0 m 189 ls [.int s2, .int s1, .ref (ad 0 0)]) := by
    intro x y g qf cf v1 v2 s1 s2 bc bs h cells slots hB H locs ls hP hD hS hl
    unfold jL_queries_189 at h
    refine lv_iconst (pc := 189) (v := 0) hx hb dL_queries_189 (by decide) ?_
    refine lv_iconst (pc := 190) (v := 0) hx hb dL_queries_190 (by decide) ?_
    refine lv_iconst (pc := 191) (v := 0) hx hb dL_queries_191 (by decide) ?_
    refine lv_iconst (pc := 192) (v := 0) hx hb dL_queries_192 (by decide) ?_
    refine lv_iconst (pc := 193) (v := 0) hx hb dL_queries_193 (by decide) ?_
    obtain ⟨kc_194, ks_194, bc_194, bs_194, ec_194, es_194, h⟩ := h
    refine zSv (pc := 194) (Wd := (WL E qa ca ad wd cI cB cP cT)) (u0 := ((x, y, g), qf, cf)) [.ref (ad 0 0), .int s1, .int s2, .int 0, .int 0, .int 0, .int 0, .int 0] hF (kL_types x y g qf cf s1 s2 0 0 0 0 0 kc_194 ks_194 hlf h) (cwL_L_types hts ⟨Nat.le_of_ble_eq_true rfl, Nat.le_of_ble_eq_true rfl⟩) hP hD hS rfl rfl hl.1 (Nat.le_of_ble_eq_true rfl) dL_queries_194 ⟨by show _ ≤ BC; (try dsimp only); omega, by show _ ≤ BS; (try dsimp only); omega⟩ (fun u H locs h hP hD hS => ?_)
    obtain ⟨⟨x_194, y_194, g_194⟩, qf_194, cf_194⟩ := u
    have hP : va_P D vwCl (cW (LE qa ca cI qf_194 cf_194 E) ad wd cI cB cP cT (x_194, y_194, g_194)) H := hP
    have hD : va_D A (cW (LE qa ca cI qf_194 cf_194 E) ad wd cI cB cP cT (x_194, y_194, g_194)) := hD
    have hB : (cells + kc_194) + bc_194 ≤ BC ∧ (slots + ks_194) + bs_194 ≤ BS := ⟨by omega, by omega⟩
    exact J197 x_194 y_194 g_194 qf_194 cf_194 v1 v2 bc_194 bs_194 h _ _ hB _ _ _ hP hD hS (lv_sub hl [0, 1, 2, 3] rfl)
  have J155 : ∀ (x : Nat → Nat → Int32) (y : Nat → Nat → Nat) (g : Nat → Nat → Nat → Int32) (qf cf : Nat → Int32) (v1 : Int32) (v2 : Int32) (s1 : Int32) (s2 : Int32) (s3 : Int32) (s4 : Int32) (s5 : Int32) (s6 : Int32) (bc bs : Nat), jL_queries_155 Φ x y g qf cf v1 v2 s1 s2 s3 s4 s5 s6 bc bs → ∀ (cells slots : Nat), (cells + bc ≤ BC ∧ slots + bs ≤ BS) → ∀ (H : Heap) (locs : List Loc) (ls : Array Slot), va_P D vwCl (cW (LE qa ca cI qf cf E) ad wd cI cB cP cT (x, y, g)) H → va_D A (cW (LE qa ca cI qf cf E) ad wd cI cB cP cT (x, y, g)) → va_S A s.heap H locs → lv_has ls 5 [(0, .ref (ad 0 0)), (1, .int v1), (2, .int v2), (3, .ref qa)] → W p l e { frames := 9, cells := BC, slots := BS, locals := 243 } s m args below meth c H locs cells slots (MQ below (zQi D (cTy cI cB cP cT) (WL E qa ca ad wd cI cB cP cT) (fun r u => Φ r u.1.1 u.1.2.1 u.1.2.2 u.2.1 u.2.2) (cW (LE qa ca cI qf0 cf0 E) ad wd cI cB cP cT (x0, y0, g0)) s.heap.size) args s BC BS (va_A (cW (LE qa ca cI qf0 cf0 E) ad wd cI cB cP cT (x0, y0, g0)) s.heap.size)) (F0 m 155 ls [.int s6, .int s5, .int s4, .int s3, .int s2, .int s1, .ref (ad 0 0)]) := by
    intro x y g qf cf v1 v2 s1 s2 s3 s4 s5 s6 bc bs h cells slots hB H locs ls hP hD hS hl
    unfold jL_queries_155 at h
    refine lv_iconst (pc := 155) (v := 0) hx hb dL_queries_155 (by decide) ?_
    obtain ⟨kc_156, ks_156, bc_156, bs_156, ec_156, es_156, h⟩ := h
    refine zSv (pc := 156) (Wd := (WL E qa ca ad wd cI cB cP cT)) (u0 := ((x, y, g), qf, cf)) [.ref (ad 0 0), .int s1, .int s2, .int s3, .int s4, .int s5, .int s6, .int 0] hF (kL_types x y g qf cf s1 s2 s3 s4 s5 s6 0 kc_156 ks_156 hlf h) (cwL_L_types hts ⟨Nat.le_of_ble_eq_true rfl, Nat.le_of_ble_eq_true rfl⟩) hP hD hS rfl rfl hl.1 (Nat.le_of_ble_eq_true rfl) dL_queries_156 ⟨by show _ ≤ BC; (try dsimp only); omega, by show _ ≤ BS; (try dsimp only); omega⟩ (fun u H locs h hP hD hS => ?_)
    obtain ⟨⟨x_156, y_156, g_156⟩, qf_156, cf_156⟩ := u
    have hP : va_P D vwCl (cW (LE qa ca cI qf_156 cf_156 E) ad wd cI cB cP cT (x_156, y_156, g_156)) H := hP
    have hD : va_D A (cW (LE qa ca cI qf_156 cf_156 E) ad wd cI cB cP cT (x_156, y_156, g_156)) := hD
    have hB : (cells + kc_156) + bc_156 ≤ BC ∧ (slots + ks_156) + bs_156 ≤ BS := ⟨by omega, by omega⟩
    refine lv_aload_n (pc := 159) hx hb dL_queries_159 rfl (lv_at hl 0 rfl) ?_
    refine lv_iload_n (pc := 160) hx hb dL_queries_160 rfl (lv_at hl 1 rfl) ?_
    refine lv_bipush (pc := 161) (v := 54) hx hb dL_queries_161 (by decide) ?_
    refine lv_idiv (pc := 163) hx hb dL_queries_163 (by decide) ?_
    refine lv_bipush (pc := 164) (v := 100) hx hb dL_queries_164 (by decide) ?_
    refine lv_irem (pc := 166) hx hb dL_queries_166 (by decide) ?_
    obtain ⟨kc_167, ks_167, bc_167, bs_167, ec_167, es_167, h⟩ := h
    refine zSv (pc := 167) (Wd := (WL E qa ca ad wd cI cB cP cT)) (u0 := ((x_156, y_156, g_156), qf_156, cf_156)) [.ref (ad 0 0), .int ((v1 / 54) - (v1 / 54) / 100 * 100)] hF (kL_figures x_156 y_156 g_156 qf_156 cf_156 ((v1 / 54) - (v1 / 54) / 100 * 100) kc_167 ks_167 hlf h) (cwL_L_figures hts ⟨Nat.le_of_ble_eq_true rfl, Nat.le_of_ble_eq_true rfl⟩) hP hD hS rfl rfl hl.1 (Nat.le_of_ble_eq_true rfl) dL_queries_167 ⟨by show _ ≤ BC; (try dsimp only); omega, by show _ ≤ BS; (try dsimp only); omega⟩ (fun u H locs h hP hD hS => ?_)
    obtain ⟨⟨x_167, y_167, g_167⟩, qf_167, cf_167⟩ := u
    have hP : va_P D vwCl (cW (LE qa ca cI qf_167 cf_167 E) ad wd cI cB cP cT (x_167, y_167, g_167)) H := hP
    have hD : va_D A (cW (LE qa ca cI qf_167 cf_167 E) ad wd cI cB cP cT (x_167, y_167, g_167)) := hD
    have hB : ((cells + kc_156) + kc_167) + bc_167 ≤ BC ∧ ((slots + ks_156) + ks_167) + bs_167 ≤ BS := ⟨by omega, by omega⟩
    refine lv_aload_n (pc := 170) hx hb dL_queries_170 rfl (lv_at hl 0 rfl) ?_
    refine lv_bipush (pc := 171) (v := 32) hx hb dL_queries_171 (by decide) ?_
    refine lv_iload_n (pc := 173) hx hb dL_queries_173 rfl (lv_at hl 1 rfl) ?_
    refine lv_sipush (pc := 174) (v := 5400) hx hb dL_queries_174 (by decide) ?_
    refine lv_idiv (pc := 177) hx hb dL_queries_177 (by decide) ?_
    refine lv_iconst (pc := 178) (v := 2) hx hb dL_queries_178 (by decide) ?_
    refine lv_irem (pc := 179) hx hb dL_queries_179 (by decide) ?_
    refine lv_if_ne (pc := 180) (tgt := 188) hx hb dL_queries_180 (by decide) (fun c_180 => ?_) (fun c_180 => ?_)
    · have h := h.2 c_180
      refine lv_iconst (pc := 188) (v := 0) hx hb dL_queries_188 (by decide) ?_
      exact J189 x_167 y_167 g_167 qf_167 cf_167 v1 v2 32 0 bc_167 bs_167 h _ _ hB _ _ _ hP hD hS (lv_sub hl [0, 1, 2, 3] rfl)
    · have h := h.1 c_180
      refine lv_bipush (pc := 183) (v := 32) hx hb dL_queries_183 (by decide) ?_
      refine lv_goto (pc := 185) (tgt := 189) hx hb dL_queries_185 (by decide) ?_
      exact J189 x_167 y_167 g_167 qf_167 cf_167 v1 v2 32 32 bc_167 bs_167 h _ _ hB _ _ _ hP hD hS (lv_sub hl [0, 1, 2, 3] rfl)
  have J108 : ∀ (x : Nat → Nat → Int32) (y : Nat → Nat → Nat) (g : Nat → Nat → Nat → Int32) (qf cf : Nat → Int32) (v1 : Int32) (v2 : Int32) (s1 : Int32) (s2 : Int32) (s3 : Int32) (s4 : Int32) (s5 : Int32) (bc bs : Nat), jL_queries_108 Φ x y g qf cf v1 v2 s1 s2 s3 s4 s5 bc bs → ∀ (cells slots : Nat), (cells + bc ≤ BC ∧ slots + bs ≤ BS) → ∀ (H : Heap) (locs : List Loc) (ls : Array Slot), va_P D vwCl (cW (LE qa ca cI qf cf E) ad wd cI cB cP cT (x, y, g)) H → va_D A (cW (LE qa ca cI qf cf E) ad wd cI cB cP cT (x, y, g)) → va_S A s.heap H locs → lv_has ls 5 [(0, .ref (ad 0 0)), (1, .int v1), (2, .int v2), (3, .ref qa)] → W p l e { frames := 9, cells := BC, slots := BS, locals := 243 } s m args below meth c H locs cells slots (MQ below (zQi D (cTy cI cB cP cT) (WL E qa ca ad wd cI cB cP cT) (fun r u => Φ r u.1.1 u.1.2.1 u.1.2.2 u.2.1 u.2.2) (cW (LE qa ca cI qf0 cf0 E) ad wd cI cB cP cT (x0, y0, g0)) s.heap.size) args s BC BS (va_A (cW (LE qa ca cI qf0 cf0 E) ad wd cI cB cP cT (x0, y0, g0)) s.heap.size)) (F0 m 108 ls [.int s5, .int s4, .int s3, .int s2, .int s1, .ref (ad 0 0)]) := by
    intro x y g qf cf v1 v2 s1 s2 s3 s4 s5 bc bs h cells slots hB H locs ls hP hD hS hl
    unfold jL_queries_108 at h
    refine lv_bipush (pc := 108) (v := 32) hx hb dL_queries_108 (by decide) ?_
    refine lv_iconst (pc := 110) (v := 0) hx hb dL_queries_110 (by decide) ?_
    obtain ⟨kc_111, ks_111, bc_111, bs_111, ec_111, es_111, h⟩ := h
    refine zSv (pc := 111) (Wd := (WL E qa ca ad wd cI cB cP cT)) (u0 := ((x, y, g), qf, cf)) [.ref (ad 0 0), .int s1, .int s2, .int s3, .int s4, .int s5, .int 32, .int 0] hF (kL_types x y g qf cf s1 s2 s3 s4 s5 32 0 kc_111 ks_111 hlf h) (cwL_L_types hts ⟨Nat.le_of_ble_eq_true rfl, Nat.le_of_ble_eq_true rfl⟩) hP hD hS rfl rfl hl.1 (Nat.le_of_ble_eq_true rfl) dL_queries_111 ⟨by show _ ≤ BC; (try dsimp only); omega, by show _ ≤ BS; (try dsimp only); omega⟩ (fun u H locs h hP hD hS => ?_)
    obtain ⟨⟨x_111, y_111, g_111⟩, qf_111, cf_111⟩ := u
    have hP : va_P D vwCl (cW (LE qa ca cI qf_111 cf_111 E) ad wd cI cB cP cT (x_111, y_111, g_111)) H := hP
    have hD : va_D A (cW (LE qa ca cI qf_111 cf_111 E) ad wd cI cB cP cT (x_111, y_111, g_111)) := hD
    have hB : (cells + kc_111) + bc_111 ≤ BC ∧ (slots + ks_111) + bs_111 ≤ BS := ⟨by omega, by omega⟩
    refine lv_iload_n (pc := 114) hx hb dL_queries_114 rfl (lv_at hl 1 rfl) ?_
    refine lv_iconst (pc := 115) (v := 3) hx hb dL_queries_115 (by decide) ?_
    refine lv_idiv (pc := 116) hx hb dL_queries_116 (by decide) ?_
    refine lv_iconst (pc := 117) (v := 3) hx hb dL_queries_117 (by decide) ?_
    refine lv_irem (pc := 118) hx hb dL_queries_118 (by decide) ?_
    refine lv_if_ne (pc := 119) (tgt := 197) hx hb dL_queries_119 (by decide) (fun c_119 => ?_) (fun c_119 => ?_)
    · have h := h.2 c_119
      exact J197 x_111 y_111 g_111 qf_111 cf_111 v1 v2 bc_111 bs_111 h _ _ hB _ _ _ hP hD hS (lv_sub hl [0, 1, 2, 3] rfl)
    · have h := h.1 c_119
      refine lv_aload_n (pc := 122) hx hb dL_queries_122 rfl (lv_at hl 0 rfl) ?_
      refine lv_bipush (pc := 123) (v := 105) hx hb dL_queries_123 (by decide) ?_
      refine lv_bipush (pc := 125) (v := 102) hx hb dL_queries_125 (by decide) ?_
      refine lv_bipush (pc := 127) (v := 32) hx hb dL_queries_127 (by decide) ?_
      refine lv_bipush (pc := 129) (v := 60) hx hb dL_queries_129 (by decide) ?_
      refine lv_iload_n (pc := 131) hx hb dL_queries_131 rfl (lv_at hl 1 rfl) ?_
      refine lv_bipush (pc := 132) (v := 9) hx hb dL_queries_132 (by decide) ?_
      refine lv_idiv (pc := 134) hx hb dL_queries_134 (by decide) ?_
      refine lv_iconst (pc := 135) (v := 3) hx hb dL_queries_135 (by decide) ?_
      refine lv_irem (pc := 136) hx hb dL_queries_136 (by decide) ?_
      refine lv_iadd (pc := 137) hx hb dL_queries_137 ?_
      refine lv_bipush (pc := 138) (v := 32) hx hb dL_queries_138 (by decide) ?_
      refine lv_iload_n (pc := 140) hx hb dL_queries_140 rfl (lv_at hl 1 rfl) ?_
      refine lv_bipush (pc := 141) (v := 27) hx hb dL_queries_141 (by decide) ?_
      refine lv_idiv (pc := 143) hx hb dL_queries_143 (by decide) ?_
      refine lv_iconst (pc := 144) (v := 2) hx hb dL_queries_144 (by decide) ?_
      refine lv_irem (pc := 145) hx hb dL_queries_145 (by decide) ?_
      refine lv_if_ne (pc := 146) (tgt := 153) hx hb dL_queries_146 (by decide) (fun c_146 => ?_) (fun c_146 => ?_)
      · have h := h.2 c_146
        refine lv_bipush (pc := 153) (v := 45) hx hb dL_queries_153 (by decide) ?_
        exact J155 x_111 y_111 g_111 qf_111 cf_111 v1 v2 105 102 32 (60 + ((v1 / 9) - (v1 / 9) / 3 * 3)) 32 45 bc_111 bs_111 h _ _ hB _ _ _ hP hD hS (lv_sub hl [0, 1, 2, 3] rfl)
      · have h := h.1 c_146
        refine lv_iconst (pc := 149) (v := 0) hx hb dL_queries_149 (by decide) ?_
        refine lv_goto (pc := 150) (tgt := 155) hx hb dL_queries_150 (by decide) ?_
        exact J155 x_111 y_111 g_111 qf_111 cf_111 v1 v2 105 102 32 (60 + ((v1 / 9) - (v1 / 9) / 3 * 3)) 32 0 bc_111 bs_111 h _ _ hB _ _ _ hP hD hS (lv_sub hl [0, 1, 2, 3] rfl)
  have J95 : ∀ (x : Nat → Nat → Int32) (y : Nat → Nat → Nat) (g : Nat → Nat → Nat → Int32) (qf cf : Nat → Int32) (v1 : Int32) (v2 : Int32) (s1 : Int32) (s2 : Int32) (s3 : Int32) (s4 : Int32) (bc bs : Nat), jL_queries_95 Φ x y g qf cf v1 v2 s1 s2 s3 s4 bc bs → ∀ (cells slots : Nat), (cells + bc ≤ BC ∧ slots + bs ≤ BS) → ∀ (H : Heap) (locs : List Loc) (ls : Array Slot), va_P D vwCl (cW (LE qa ca cI qf cf E) ad wd cI cB cP cT (x, y, g)) H → va_D A (cW (LE qa ca cI qf cf E) ad wd cI cB cP cT (x, y, g)) → va_S A s.heap H locs → lv_has ls 5 [(0, .ref (ad 0 0)), (1, .int v1), (2, .int v2), (3, .ref qa)] → W p l e { frames := 9, cells := BC, slots := BS, locals := 243 } s m args below meth c H locs cells slots (MQ below (zQi D (cTy cI cB cP cT) (WL E qa ca ad wd cI cB cP cT) (fun r u => Φ r u.1.1 u.1.2.1 u.1.2.2 u.2.1 u.2.2) (cW (LE qa ca cI qf0 cf0 E) ad wd cI cB cP cT (x0, y0, g0)) s.heap.size) args s BC BS (va_A (cW (LE qa ca cI qf0 cf0 E) ad wd cI cB cP cT (x0, y0, g0)) s.heap.size)) (F0 m 95 ls [.int s4, .int s3, .int s2, .int s1, .ref (ad 0 0)]) := by
    intro x y g qf cf v1 v2 s1 s2 s3 s4 bc bs h cells slots hB H locs ls hP hD hS hl
    unfold jL_queries_95 at h
    refine lv_aload_n (pc := 95) hx hb dL_queries_95 rfl (lv_at hl 3 rfl) ?_
    refine lv_iconst (pc := 96) (v := 0) hx hb dL_queries_96 (by decide) ?_
    refine lq_get (pc := 97) (v := (qf 0)) hF hP rfl (vp_in_iff.mpr (by decide)) dL_queries_97 ?_
    refine lv_iconst (pc := 98) (v := 1) hx hb dL_queries_98 (by decide) ?_
    refine lv_icmp_ne (pc := 99) (tgt := 107) hx hb dL_queries_99 (by decide) (fun c_99 => ?_) (fun c_99 => ?_)
    · have h := h.2 c_99
      refine lv_iconst (pc := 107) (v := 0) hx hb dL_queries_107 (by decide) ?_
      exact J108 x y g qf cf v1 v2 s1 s2 s3 s4 0 bc bs h _ _ hB _ _ _ hP hD hS (lv_sub hl [0, 1, 2, 3] rfl)
    · have h := h.1 c_99
      refine lv_bipush (pc := 102) (v := 116) hx hb dL_queries_102 (by decide) ?_
      refine lv_goto (pc := 104) (tgt := 108) hx hb dL_queries_104 (by decide) ?_
      exact J108 x y g qf cf v1 v2 s1 s2 s3 s4 116 bc bs h _ _ hB _ _ _ hP hD hS (lv_sub hl [0, 1, 2, 3] rfl)
  have J82 : ∀ (x : Nat → Nat → Int32) (y : Nat → Nat → Nat) (g : Nat → Nat → Nat → Int32) (qf cf : Nat → Int32) (v1 : Int32) (v2 : Int32) (s1 : Int32) (s2 : Int32) (s3 : Int32) (bc bs : Nat), jL_queries_82 Φ x y g qf cf v1 v2 s1 s2 s3 bc bs → ∀ (cells slots : Nat), (cells + bc ≤ BC ∧ slots + bs ≤ BS) → ∀ (H : Heap) (locs : List Loc) (ls : Array Slot), va_P D vwCl (cW (LE qa ca cI qf cf E) ad wd cI cB cP cT (x, y, g)) H → va_D A (cW (LE qa ca cI qf cf E) ad wd cI cB cP cT (x, y, g)) → va_S A s.heap H locs → lv_has ls 5 [(0, .ref (ad 0 0)), (1, .int v1), (2, .int v2), (3, .ref qa)] → W p l e { frames := 9, cells := BC, slots := BS, locals := 243 } s m args below meth c H locs cells slots (MQ below (zQi D (cTy cI cB cP cT) (WL E qa ca ad wd cI cB cP cT) (fun r u => Φ r u.1.1 u.1.2.1 u.1.2.2 u.2.1 u.2.2) (cW (LE qa ca cI qf0 cf0 E) ad wd cI cB cP cT (x0, y0, g0)) s.heap.size) args s BC BS (va_A (cW (LE qa ca cI qf0 cf0 E) ad wd cI cB cP cT (x0, y0, g0)) s.heap.size)) (F0 m 82 ls [.int s3, .int s2, .int s1, .ref (ad 0 0)]) := by
    intro x y g qf cf v1 v2 s1 s2 s3 bc bs h cells slots hB H locs ls hP hD hS hl
    unfold jL_queries_82 at h
    refine lv_aload_n (pc := 82) hx hb dL_queries_82 rfl (lv_at hl 3 rfl) ?_
    refine lv_iconst (pc := 83) (v := 0) hx hb dL_queries_83 (by decide) ?_
    refine lq_get (pc := 84) (v := (qf 0)) hF hP rfl (vp_in_iff.mpr (by decide)) dL_queries_84 ?_
    refine lv_iconst (pc := 85) (v := 1) hx hb dL_queries_85 (by decide) ?_
    refine lv_icmp_ne (pc := 86) (tgt := 94) hx hb dL_queries_86 (by decide) (fun c_86 => ?_) (fun c_86 => ?_)
    · have h := h.2 c_86
      refine lv_iconst (pc := 94) (v := 0) hx hb dL_queries_94 (by decide) ?_
      exact J95 x y g qf cf v1 v2 s1 s2 s3 0 bc bs h _ _ hB _ _ _ hP hD hS (lv_sub hl [0, 1, 2, 3] rfl)
    · have h := h.1 c_86
      refine lv_bipush (pc := 89) (v := 110) hx hb dL_queries_89 (by decide) ?_
      refine lv_goto (pc := 91) (tgt := 95) hx hb dL_queries_91 (by decide) ?_
      exact J95 x y g qf cf v1 v2 s1 s2 s3 110 bc bs h _ _ hB _ _ _ hP hD hS (lv_sub hl [0, 1, 2, 3] rfl)
  have J57 : ∀ (x : Nat → Nat → Int32) (y : Nat → Nat → Nat) (g : Nat → Nat → Nat → Int32) (qf cf : Nat → Int32) (v1 : Int32) (v2 : Int32) (s1 : Int32) (s2 : Int32) (bc bs : Nat), jL_queries_57 Φ x y g qf cf v1 v2 s1 s2 bc bs → ∀ (cells slots : Nat), (cells + bc ≤ BC ∧ slots + bs ≤ BS) → ∀ (H : Heap) (locs : List Loc) (ls : Array Slot), va_P D vwCl (cW (LE qa ca cI qf cf E) ad wd cI cB cP cT (x, y, g)) H → va_D A (cW (LE qa ca cI qf cf E) ad wd cI cB cP cT (x, y, g)) → va_S A s.heap H locs → lv_has ls 5 [(0, .ref (ad 0 0)), (1, .int v1), (2, .int v2), (3, .ref qa)] → W p l e { frames := 9, cells := BC, slots := BS, locals := 243 } s m args below meth c H locs cells slots (MQ below (zQi D (cTy cI cB cP cT) (WL E qa ca ad wd cI cB cP cT) (fun r u => Φ r u.1.1 u.1.2.1 u.1.2.2 u.2.1 u.2.2) (cW (LE qa ca cI qf0 cf0 E) ad wd cI cB cP cT (x0, y0, g0)) s.heap.size) args s BC BS (va_A (cW (LE qa ca cI qf0 cf0 E) ad wd cI cB cP cT (x0, y0, g0)) s.heap.size)) (F0 m 57 ls [.int s2, .int s1, .ref (ad 0 0)]) := by
    intro x y g qf cf v1 v2 s1 s2 bc bs h cells slots hB H locs ls hP hD hS hl
    unfold jL_queries_57 at h
    refine lv_aload_n (pc := 57) hx hb dL_queries_57 rfl (lv_at hl 3 rfl) ?_
    refine lv_iconst (pc := 58) (v := 0) hx hb dL_queries_58 (by decide) ?_
    refine lq_get (pc := 59) (v := (qf 0)) hF hP rfl (vp_in_iff.mpr (by decide)) dL_queries_59 ?_
    refine lv_if_ne (pc := 60) (tgt := 68) hx hb dL_queries_60 (by decide) (fun c_60 => ?_) (fun c_60 => ?_)
    · have h := h.2 c_60
      refine lv_aload_n (pc := 68) hx hb dL_queries_68 rfl (lv_at hl 3 rfl) ?_
      refine lv_iconst (pc := 69) (v := 0) hx hb dL_queries_69 (by decide) ?_
      refine lq_get (pc := 70) (v := (qf 0)) hF hP rfl (vp_in_iff.mpr (by decide)) dL_queries_70 ?_
      refine lv_iconst (pc := 71) (v := 1) hx hb dL_queries_71 (by decide) ?_
      refine lv_icmp_ne (pc := 72) (tgt := 80) hx hb dL_queries_72 (by decide) (fun c_72 => ?_) (fun c_72 => ?_)
      · have h := h.2 c_72
        refine lv_bipush (pc := 80) (v := 120) hx hb dL_queries_80 (by decide) ?_
        exact J82 x y g qf cf v1 v2 s1 s2 120 bc bs h _ _ hB _ _ _ hP hD hS (lv_sub hl [0, 1, 2, 3] rfl)
      · have h := h.1 c_72
        refine lv_bipush (pc := 75) (v := 117) hx hb dL_queries_75 (by decide) ?_
        refine lv_goto (pc := 77) (tgt := 82) hx hb dL_queries_77 (by decide) ?_
        exact J82 x y g qf cf v1 v2 s1 s2 117 bc bs h _ _ hB _ _ _ hP hD hS (lv_sub hl [0, 1, 2, 3] rfl)
    · have h := h.1 c_60
      refine lv_bipush (pc := 63) (v := 109) hx hb dL_queries_63 (by decide) ?_
      refine lv_goto (pc := 65) (tgt := 82) hx hb dL_queries_65 (by decide) ?_
      exact J82 x y g qf cf v1 v2 s1 s2 109 bc bs h _ _ hB _ _ _ hP hD hS (lv_sub hl [0, 1, 2, 3] rfl)
  have J32 : ∀ (x : Nat → Nat → Int32) (y : Nat → Nat → Nat) (g : Nat → Nat → Nat → Int32) (qf cf : Nat → Int32) (v1 : Int32) (v2 : Int32) (s1 : Int32) (bc bs : Nat), jL_queries_32 Φ x y g qf cf v1 v2 s1 bc bs → ∀ (cells slots : Nat), (cells + bc ≤ BC ∧ slots + bs ≤ BS) → ∀ (H : Heap) (locs : List Loc) (ls : Array Slot), va_P D vwCl (cW (LE qa ca cI qf cf E) ad wd cI cB cP cT (x, y, g)) H → va_D A (cW (LE qa ca cI qf cf E) ad wd cI cB cP cT (x, y, g)) → va_S A s.heap H locs → lv_has ls 5 [(0, .ref (ad 0 0)), (1, .int v1), (2, .int v2), (3, .ref qa)] → W p l e { frames := 9, cells := BC, slots := BS, locals := 243 } s m args below meth c H locs cells slots (MQ below (zQi D (cTy cI cB cP cT) (WL E qa ca ad wd cI cB cP cT) (fun r u => Φ r u.1.1 u.1.2.1 u.1.2.2 u.2.1 u.2.2) (cW (LE qa ca cI qf0 cf0 E) ad wd cI cB cP cT (x0, y0, g0)) s.heap.size) args s BC BS (va_A (cW (LE qa ca cI qf0 cf0 E) ad wd cI cB cP cT (x0, y0, g0)) s.heap.size)) (F0 m 32 ls [.int s1, .ref (ad 0 0)]) := by
    intro x y g qf cf v1 v2 s1 bc bs h cells slots hB H locs ls hP hD hS hl
    unfold jL_queries_32 at h
    refine lv_aload_n (pc := 32) hx hb dL_queries_32 rfl (lv_at hl 3 rfl) ?_
    refine lv_iconst (pc := 33) (v := 0) hx hb dL_queries_33 (by decide) ?_
    refine lq_get (pc := 34) (v := (qf 0)) hF hP rfl (vp_in_iff.mpr (by decide)) dL_queries_34 ?_
    refine lv_if_ne (pc := 35) (tgt := 43) hx hb dL_queries_35 (by decide) (fun c_35 => ?_) (fun c_35 => ?_)
    · have h := h.2 c_35
      refine lv_aload_n (pc := 43) hx hb dL_queries_43 rfl (lv_at hl 3 rfl) ?_
      refine lv_iconst (pc := 44) (v := 0) hx hb dL_queries_44 (by decide) ?_
      refine lq_get (pc := 45) (v := (qf 0)) hF hP rfl (vp_in_iff.mpr (by decide)) dL_queries_45 ?_
      refine lv_iconst (pc := 46) (v := 1) hx hb dL_queries_46 (by decide) ?_
      refine lv_icmp_ne (pc := 47) (tgt := 55) hx hb dL_queries_47 (by decide) (fun c_47 => ?_) (fun c_47 => ?_)
      · have h := h.2 c_47
        refine lv_bipush (pc := 55) (v := 97) hx hb dL_queries_55 (by decide) ?_
        exact J57 x y g qf cf v1 v2 s1 97 bc bs h _ _ hB _ _ _ hP hD hS (lv_sub hl [0, 1, 2, 3] rfl)
      · have h := h.1 c_47
        refine lv_bipush (pc := 50) (v := 111) hx hb dL_queries_50 (by decide) ?_
        refine lv_goto (pc := 52) (tgt := 57) hx hb dL_queries_52 (by decide) ?_
        exact J57 x y g qf cf v1 v2 s1 111 bc bs h _ _ hB _ _ _ hP hD hS (lv_sub hl [0, 1, 2, 3] rfl)
    · have h := h.1 c_35
      refine lv_bipush (pc := 38) (v := 117) hx hb dL_queries_38 (by decide) ?_
      refine lv_goto (pc := 40) (tgt := 57) hx hb dL_queries_40 (by decide) ?_
      exact J57 x y g qf cf v1 v2 s1 117 bc bs h _ _ hB _ _ _ hP hD hS (lv_sub hl [0, 1, 2, 3] rfl)
  unfold wL_queries at h
  refine lv_aload_n (pc := 0) hx hb dL_queries_0 rfl (lv_at hl 3 rfl) ?_
  refine lv_iconst (pc := 1) (v := 0) hx hb dL_queries_1 (by decide) ?_
  refine lv_iload_n (pc := 2) hx hb dL_queries_2 rfl (lv_at hl 1 rfl) ?_
  refine lv_iconst (pc := 3) (v := 3) hx hb dL_queries_3 (by decide) ?_
  refine lv_irem (pc := 4) hx hb dL_queries_4 (by decide) ?_
  obtain ⟨qf_5, e_qf_5⟩ : ∃ z : Nat → Int32, z = (upd qf0 0 (a1 - a1 / 3 * 3)) := ⟨_, rfl⟩
  replace h := h qf_5 e_qf_5
  refine lq_set (pc := 5) (v := (a1 - a1 / 3 * 3)) (f := qf_5) hF hP hD hS e_qf_5.symm (vp_in_iff.mpr (by decide)) dL_queries_5 (fun H locs hP hD hS => ?_)
  refine lv_aload_n (pc := 6) hx hb dL_queries_6 rfl (lv_at hl 0 rfl) ?_
  refine lv_aload_n (pc := 7) hx hb dL_queries_7 rfl (lv_at hl 3 rfl) ?_
  refine lv_iconst (pc := 8) (v := 0) hx hb dL_queries_8 (by decide) ?_
  refine lq_get (pc := 9) (v := (qf_5 0)) hF hP rfl (vp_in_iff.mpr (by decide)) dL_queries_9 ?_
  refine lv_if_ne (pc := 10) (tgt := 18) hx hb dL_queries_10 (by decide) (fun c_10 => ?_) (fun c_10 => ?_)
  · have h := h.2 c_10
    refine lv_aload_n (pc := 18) hx hb dL_queries_18 rfl (lv_at hl 3 rfl) ?_
    refine lv_iconst (pc := 19) (v := 0) hx hb dL_queries_19 (by decide) ?_
    refine lq_get (pc := 20) (v := (qf_5 0)) hF hP rfl (vp_in_iff.mpr (by decide)) dL_queries_20 ?_
    refine lv_iconst (pc := 21) (v := 1) hx hb dL_queries_21 (by decide) ?_
    refine lv_icmp_ne (pc := 22) (tgt := 30) hx hb dL_queries_22 (by decide) (fun c_22 => ?_) (fun c_22 => ?_)
    · have h := h.2 c_22
      refine lv_bipush (pc := 30) (v := 109) hx hb dL_queries_30 (by decide) ?_
      exact J32 x0 y0 g0 qf_5 cf0 a1 a2 109 BC BS h _ _ hB _ _ _ hP hD hS (lv_sub hl [0, 1, 2, 3] rfl)
    · have h := h.1 c_22
      refine lv_bipush (pc := 25) (v := 99) hx hb dL_queries_25 (by decide) ?_
      refine lv_goto (pc := 27) (tgt := 32) hx hb dL_queries_27 (by decide) ?_
      exact J32 x0 y0 g0 qf_5 cf0 a1 a2 99 BC BS h _ _ hB _ _ _ hP hD hS (lv_sub hl [0, 1, 2, 3] rfl)
  · have h := h.1 c_10
    refine lv_bipush (pc := 13) (v := 115) hx hb dL_queries_13 (by decide) ?_
    refine lv_goto (pc := 15) (tgt := 32) hx hb dL_queries_15 (by decide) ?_
    exact J32 x0 y0 g0 qf_5 cf0 a1 a2 115 BC BS h _ _ hB _ _ _ hP hD hS (lv_sub hl [0, 1, 2, 3] rfl)
