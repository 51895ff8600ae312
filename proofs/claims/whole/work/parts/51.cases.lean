/-! the calls of the law, one by one -/
section CAS
variable {g : GG} {b L : Nat} {xs : Nat → Int32} {cl sl i : Nat} {S : Sg} {C : Ca} {a : Nat → Nat → Int32} {f : Nat → Int32}
theorem law_c0 (hS : okSg S) (hC : RC S C) (hM : RM S a f) (h5 : i + 5 ≤ L) (hc : cl ≤ 600000 ∧ sl ≤ 7302250) (k : ∀ S' C' a' f', okSg S' → RC S' C' → RM S' a' f' → ZL g b L xs 47 cl sl i 1052 [] (wB S' C' a' f')) : ZL g b L xs 47 cl sl i 176 [] (wB S C a f) := by
  refine L_x (by decide +kernel : decode code 176 = .ok (.aload_n 1, 1)) ?_
  refine L_arg (pc := 177) (j := 1) (n := 1) ⟨by decide +kernel, by decide +kernel, by decide +kernel, by decide +kernel, by decide +kernel⟩ (by decide) (by omega) ?_
  refine L_call (pc := 182) (me := mX9_feed) (idx := 13) (n := 1) (ci := 9) (q := 0) (vs := [vi (xs (i + 1))]) (rest := []) (by decide +kernel) (tb1 232 rfl rfl) omX9_feed (by decide) (wB_0 _ _ _ _) rfl rfl (Nat.le_of_ble_eq_true rfl) hc ?_
  refine both_x (x_feed hS hC (xs (i + 1))) (fun C' hC' hS' => ?_)
  refine L_m (by decide +kernel : decode code 185 = .ok (.aload_n 2, 1)) ?_
  refine L_arg (pc := 186) (j := 1) (n := 1) ⟨by decide +kernel, by decide +kernel, by decide +kernel, by decide +kernel, by decide +kernel⟩ (by decide) (by omega) ?_
  refine L_call (pc := 191) (me := mX10_feed) (idx := 17) (n := 1) (ci := 10) (q := 36) (vs := [vi (xs (i + 1))]) (rest := [vi (op_feed S (xs (i + 1))).1]) (by decide +kernel) (tb4 79 rfl rfl) omX10_feed (by decide) (wB_36 _ _ _ _) rfl rfl (Nat.le_of_ble_eq_true rfl) hc ?_
  refine both_m (y_feed hS hM (xs (i + 1))) rfl (fun a' f' hM' => ?_)
  exact L_if (by decide +kernel : decode code 194 = .ok (.if_icmp .eq 858, 3)) (by decide) rfl (k _ _ _ _ hS' hC' hM')
theorem law_c1 (hS : okSg S) (hC : RC S C) (hM : RM S a f) (h5 : i + 5 ≤ L) (hc : cl ≤ 600000 ∧ sl ≤ 7302250) (k : ∀ S' C' a' f', okSg S' → RC S' C' → RM S' a' f' → ZL g b L xs 47 cl sl i 1052 [] (wB S' C' a' f')) : ZL g b L xs 47 cl sl i 199 [] (wB S C a f) := by
  refine L_x (by decide +kernel : decode code 199 = .ok (.aload_n 1, 1)) ?_
  refine L_arg (pc := 200) (j := 1) (n := 1) ⟨by decide +kernel, by decide +kernel, by decide +kernel, by decide +kernel, by decide +kernel⟩ (by decide) (by omega) ?_
  refine L_call (pc := 205) (me := mX9_end) (idx := 18) (n := 1) (ci := 9) (q := 0) (vs := [vi (xs (i + 1))]) (rest := []) (by decide +kernel) (tb2 0 rfl rfl) omX9_end (by decide) (wB_0 _ _ _ _) rfl rfl (Nat.le_of_ble_eq_true rfl) hc ?_
  refine both_x (x_end hS hC (xs (i + 1))) (fun C' hC' hS' => ?_)
  refine L_m (by decide +kernel : decode code 208 = .ok (.aload_n 2, 1)) ?_
  refine L_arg (pc := 209) (j := 1) (n := 1) ⟨by decide +kernel, by decide +kernel, by decide +kernel, by decide +kernel, by decide +kernel⟩ (by decide) (by omega) ?_
  refine L_call (pc := 214) (me := mX10_end) (idx := 21) (n := 1) (ci := 10) (q := 36) (vs := [vi (xs (i + 1))]) (rest := [vi (op_end S (xs (i + 1))).1]) (by decide +kernel) (tb4 87 rfl rfl) omX10_end (by decide) (wB_36 _ _ _ _) rfl rfl (Nat.le_of_ble_eq_true rfl) hc ?_
  refine both_m (y_end hS hM (xs (i + 1))) rfl (fun a' f' hM' => ?_)
  exact L_if (by decide +kernel : decode code 217 = .ok (.if_icmp .eq 835, 3)) (by decide) rfl (k _ _ _ _ hS' hC' hM')
theorem law_c2 (hS : okSg S) (hC : RC S C) (hM : RM S a f) (h5 : i + 5 ≤ L) (hc : cl ≤ 600000 ∧ sl ≤ 7302250) (k : ∀ S' C' a' f', okSg S' → RC S' C' → RM S' a' f' → ZL g b L xs 47 cl sl i 1052 [] (wB S' C' a' f')) : ZL g b L xs 47 cl sl i 222 [] (wB S C a f) := by
  refine L_x (by decide +kernel : decode code 222 = .ok (.aload_n 1, 1)) ?_
  refine L_call (pc := 223) (me := mX9_text) (idx := 22) (n := 0) (ci := 9) (q := 0) (vs := []) (rest := []) (by decide +kernel) (tb2 4 rfl rfl) omX9_text (by decide) (wB_0 _ _ _ _) rfl rfl (Nat.le_of_ble_eq_true rfl) hc ?_
  refine both_x (x_text hS hC) (fun C' hC' hS' => ?_)
  refine L_m (by decide +kernel : decode code 226 = .ok (.aload_n 2, 1)) ?_
  refine L_call (pc := 227) (me := mX10_text) (idx := 26) (n := 0) (ci := 10) (q := 36) (vs := []) (rest := [vi (op_text S).1]) (by decide +kernel) (tb4 91 rfl rfl) omX10_text (by decide) (wB_36 _ _ _ _) rfl rfl (Nat.le_of_ble_eq_true rfl) hc ?_
  refine both_m (y_text hS hM) rfl (fun a' f' hM' => ?_)
  exact L_if (by decide +kernel : decode code 230 = .ok (.if_icmp .eq 822, 3)) (by decide) rfl (k _ _ _ _ hS' hC' hM')
theorem law_c3 (hS : okSg S) (hC : RC S C) (hM : RM S a f) (h5 : i + 5 ≤ L) (hc : cl ≤ 600000 ∧ sl ≤ 7302250) (k : ∀ S' C' a' f', okSg S' → RC S' C' → RM S' a' f' → ZL g b L xs 47 cl sl i 1052 [] (wB S' C' a' f')) : ZL g b L xs 47 cl sl i 235 [] (wB S C a f) := by
  refine L_x (by decide +kernel : decode code 235 = .ok (.aload_n 1, 1)) ?_
  refine L_call (pc := 236) (me := mX9_fault) (idx := 27) (n := 0) (ci := 9) (q := 0) (vs := []) (rest := []) (by decide +kernel) (tb2 121 rfl rfl) omX9_fault (by decide) (wB_0 _ _ _ _) rfl rfl (Nat.le_of_ble_eq_true rfl) hc ?_
  refine both_x (x_fault hS hC) (fun C' hC' hS' => ?_)
  refine L_m (by decide +kernel : decode code 239 = .ok (.aload_n 2, 1)) ?_
  refine L_call (pc := 240) (me := mX10_fault) (idx := 30) (n := 0) (ci := 10) (q := 36) (vs := []) (rest := [vi (op_fault S).1]) (by decide +kernel) (tb4 125 rfl rfl) omX10_fault (by decide) (wB_36 _ _ _ _) rfl rfl (Nat.le_of_ble_eq_true rfl) hc ?_
  refine both_m (y_fault hM) rfl (fun a' f' hM' => ?_)
  exact L_if (by decide +kernel : decode code 243 = .ok (.if_icmp .eq 809, 3)) (by decide) rfl (k _ _ _ _ hS' hC' hM')
theorem law_c4 (hS : okSg S) (hC : RC S C) (hM : RM S a f) (h5 : i + 5 ≤ L) (hc : cl ≤ 600000 ∧ sl ≤ 7302250) (k : ∀ S' C' a' f', okSg S' → RC S' C' → RM S' a' f' → ZL g b L xs 47 cl sl i 1052 [] (wB S' C' a' f')) : ZL g b L xs 47 cl sl i 248 [] (wB S C a f) := by
  refine L_x (by decide +kernel : decode code 248 = .ok (.aload_n 1, 1)) ?_
  refine L_arg (pc := 249) (j := 1) (n := 1) ⟨by decide +kernel, by decide +kernel, by decide +kernel, by decide +kernel, by decide +kernel⟩ (by decide) (by omega) ?_
  refine L_call (pc := 254) (me := mX9_rule) (idx := 31) (n := 1) (ci := 9) (q := 0) (vs := [vi (xs (i + 1))]) (rest := []) (by decide +kernel) (tb2 125 rfl rfl) omX9_rule (by decide) (wB_0 _ _ _ _) rfl rfl (Nat.le_of_ble_eq_true rfl) hc ?_
  refine both_x (x_rule hS hC (xs (i + 1))) (fun C' hC' hS' => ?_)
  refine L_m (by decide +kernel : decode code 257 = .ok (.aload_n 2, 1)) ?_
  refine L_arg (pc := 258) (j := 1) (n := 1) ⟨by decide +kernel, by decide +kernel, by decide +kernel, by decide +kernel, by decide +kernel⟩ (by decide) (by omega) ?_
  refine L_call (pc := 263) (me := mX10_rule) (idx := 34) (n := 1) (ci := 10) (q := 36) (vs := [vi (xs (i + 1))]) (rest := [vi (op_rule S (xs (i + 1))).1]) (by decide +kernel) (tb4 129 rfl rfl) omX10_rule (by decide) (wB_36 _ _ _ _) rfl rfl (Nat.le_of_ble_eq_true rfl) hc ?_
  refine both_m (y_rule hS hM (xs (i + 1))) rfl (fun a' f' hM' => ?_)
  exact L_if (by decide +kernel : decode code 266 = .ok (.if_icmp .eq 786, 3)) (by decide) rfl (k _ _ _ _ hS' hC' hM')
theorem law_c5 (hS : okSg S) (hC : RC S C) (hM : RM S a f) (h5 : i + 5 ≤ L) (hc : cl ≤ 600000 ∧ sl ≤ 7302250) (k : ∀ S' C' a' f', okSg S' → RC S' C' → RM S' a' f' → ZL g b L xs 47 cl sl i 1052 [] (wB S' C' a' f')) : ZL g b L xs 47 cl sl i 271 [] (wB S C a f) := by
  refine L_x (by decide +kernel : decode code 271 = .ok (.aload_n 1, 1)) ?_
  refine L_arg (pc := 272) (j := 1) (n := 1) ⟨by decide +kernel, by decide +kernel, by decide +kernel, by decide +kernel, by decide +kernel⟩ (by decide) (by omega) ?_
  refine L_arg (pc := 277) (j := 2) (n := 2) ⟨by decide +kernel, by decide +kernel, by decide +kernel, by decide +kernel, by decide +kernel⟩ (by decide) (by omega) ?_
  refine L_call (pc := 282) (me := mX9_bead) (idx := 35) (n := 2) (ci := 9) (q := 0) (vs := [vi (xs (i + 1)), vi (xs (i + 2))]) (rest := []) (by decide +kernel) (tb2 220 rfl rfl) omX9_bead (by decide) (wB_0 _ _ _ _) rfl rfl (Nat.le_of_ble_eq_true rfl) hc ?_
  refine both_x (x_bead hS hC (xs (i + 1)) (xs (i + 2))) (fun C' hC' hS' => ?_)
  refine L_m (by decide +kernel : decode code 285 = .ok (.aload_n 2, 1)) ?_
  refine L_arg (pc := 286) (j := 1) (n := 1) ⟨by decide +kernel, by decide +kernel, by decide +kernel, by decide +kernel, by decide +kernel⟩ (by decide) (by omega) ?_
  refine L_arg (pc := 291) (j := 2) (n := 2) ⟨by decide +kernel, by decide +kernel, by decide +kernel, by decide +kernel, by decide +kernel⟩ (by decide) (by omega) ?_
  refine L_call (pc := 296) (me := mX10_bead) (idx := 39) (n := 2) (ci := 10) (q := 36) (vs := [vi (xs (i + 1)), vi (xs (i + 2))]) (rest := [vi (op_bead S (xs (i + 1)) (xs (i + 2))).1]) (by decide +kernel) (tb4 200 rfl rfl) omX10_bead (by decide) (wB_36 _ _ _ _) rfl rfl (Nat.le_of_ble_eq_true rfl) hc ?_
  refine both_m (y_bead hS hM (xs (i + 1)) (xs (i + 2))) rfl (fun a' f' hM' => ?_)
  exact L_if (by decide +kernel : decode code 299 = .ok (.if_icmp .eq 753, 3)) (by decide) rfl (k _ _ _ _ hS' hC' hM')
theorem law_c6 (hS : okSg S) (hC : RC S C) (hM : RM S a f) (h5 : i + 5 ≤ L) (hc : cl ≤ 600000 ∧ sl ≤ 7302250) (k : ∀ S' C' a' f', okSg S' → RC S' C' → RM S' a' f' → ZL g b L xs 47 cl sl i 1052 [] (wB S' C' a' f')) : ZL g b L xs 47 cl sl i 304 [] (wB S C a f) := by
  refine L_x (by decide +kernel : decode code 304 = .ok (.aload_n 1, 1)) ?_
  refine L_arg (pc := 305) (j := 1) (n := 1) ⟨by decide +kernel, by decide +kernel, by decide +kernel, by decide +kernel, by decide +kernel⟩ (by decide) (by omega) ?_
  refine L_arg (pc := 310) (j := 2) (n := 2) ⟨by decide +kernel, by decide +kernel, by decide +kernel, by decide +kernel, by decide +kernel⟩ (by decide) (by omega) ?_
  refine L_call (pc := 315) (me := mX9_many) (idx := 40) (n := 2) (ci := 9) (q := 0) (vs := [vi (xs (i + 1)), vi (xs (i + 2))]) (rest := []) (by decide +kernel) (tb2 233 rfl rfl) omX9_many (by decide) (wB_0 _ _ _ _) rfl rfl (Nat.le_of_ble_eq_true rfl) hc ?_
  refine both_x (x_many hS hC (xs (i + 1)) (xs (i + 2))) (fun C' hC' hS' => ?_)
  refine L_m (by decide +kernel : decode code 318 = .ok (.aload_n 2, 1)) ?_
  refine L_arg (pc := 319) (j := 1) (n := 1) ⟨by decide +kernel, by decide +kernel, by decide +kernel, by decide +kernel, by decide +kernel⟩ (by decide) (by omega) ?_
  refine L_arg (pc := 324) (j := 2) (n := 2) ⟨by decide +kernel, by decide +kernel, by decide +kernel, by decide +kernel, by decide +kernel⟩ (by decide) (by omega) ?_
  refine L_call (pc := 329) (me := mX10_many) (idx := 43) (n := 2) (ci := 10) (q := 36) (vs := [vi (xs (i + 1)), vi (xs (i + 2))]) (rest := [vi (op_many S (xs (i + 1)) (xs (i + 2))).1]) (by decide +kernel) (tb4 208 rfl rfl) omX10_many (by decide) (wB_36 _ _ _ _) rfl rfl (Nat.le_of_ble_eq_true rfl) hc ?_
  refine both_m (y_many hS hM (xs (i + 1)) (xs (i + 2))) rfl (fun a' f' hM' => ?_)
  exact L_if (by decide +kernel : decode code 332 = .ok (.if_icmp .eq 720, 3)) (by decide) rfl (k _ _ _ _ hS' hC' hM')
theorem law_c7 (hS : okSg S) (hC : RC S C) (hM : RM S a f) (h5 : i + 5 ≤ L) (hc : cl ≤ 600000 ∧ sl ≤ 7302250) (k : ∀ S' C' a' f', okSg S' → RC S' C' → RM S' a' f' → ZL g b L xs 47 cl sl i 1052 [] (wB S' C' a' f')) : ZL g b L xs 47 cl sl i 337 [] (wB S C a f) := by
  refine L_x (by decide +kernel : decode code 337 = .ok (.aload_n 1, 1)) ?_
  refine L_arg (pc := 338) (j := 1) (n := 1) ⟨by decide +kernel, by decide +kernel, by decide +kernel, by decide +kernel, by decide +kernel⟩ (by decide) (by omega) ?_
  refine L_arg (pc := 343) (j := 2) (n := 2) ⟨by decide +kernel, by decide +kernel, by decide +kernel, by decide +kernel, by decide +kernel⟩ (by decide) (by omega) ?_
  refine L_call (pc := 348) (me := mX9_row) (idx := 44) (n := 2) (ci := 9) (q := 0) (vs := [vi (xs (i + 1)), vi (xs (i + 2))]) (rest := []) (by decide +kernel) (tb3 0 rfl rfl) omX9_row (by decide) (wB_0 _ _ _ _) rfl rfl (Nat.le_of_ble_eq_true rfl) hc ?_
  refine both_x (x_row hS hC (xs (i + 1)) (xs (i + 2))) (fun C' hC' hS' => ?_)
  refine L_m (by decide +kernel : decode code 351 = .ok (.aload_n 2, 1)) ?_
  refine L_arg (pc := 352) (j := 1) (n := 1) ⟨by decide +kernel, by decide +kernel, by decide +kernel, by decide +kernel, by decide +kernel⟩ (by decide) (by omega) ?_
  refine L_arg (pc := 357) (j := 2) (n := 2) ⟨by decide +kernel, by decide +kernel, by decide +kernel, by decide +kernel, by decide +kernel⟩ (by decide) (by omega) ?_
  refine L_call (pc := 362) (me := mX10_row) (idx := 47) (n := 2) (ci := 10) (q := 36) (vs := [vi (xs (i + 1)), vi (xs (i + 2))]) (rest := [vi (op_row S (xs (i + 1)) (xs (i + 2))).1]) (by decide +kernel) (tb4 216 rfl rfl) omX10_row (by decide) (wB_36 _ _ _ _) rfl rfl (Nat.le_of_ble_eq_true rfl) hc ?_
  refine both_m (y_row hS hM (xs (i + 1)) (xs (i + 2))) rfl (fun a' f' hM' => ?_)
  exact L_if (by decide +kernel : decode code 365 = .ok (.if_icmp .eq 687, 3)) (by decide) rfl (k _ _ _ _ hS' hC' hM')
theorem law_c8 (hS : okSg S) (hC : RC S C) (hM : RM S a f) (h5 : i + 5 ≤ L) (hc : cl ≤ 600000 ∧ sl ≤ 7302250) (k : ∀ S' C' a' f', okSg S' → RC S' C' → RM S' a' f' → ZL g b L xs 47 cl sl i 1052 [] (wB S' C' a' f')) : ZL g b L xs 47 cl sl i 370 [] (wB S C a f) := by
  refine L_x (by decide +kernel : decode code 370 = .ok (.aload_n 1, 1)) ?_
  refine L_arg (pc := 371) (j := 1) (n := 1) ⟨by decide +kernel, by decide +kernel, by decide +kernel, by decide +kernel, by decide +kernel⟩ (by decide) (by omega) ?_
  refine L_arg (pc := 376) (j := 2) (n := 2) ⟨by decide +kernel, by decide +kernel, by decide +kernel, by decide +kernel, by decide +kernel⟩ (by decide) (by omega) ?_
  refine L_call (pc := 381) (me := mX9_words) (idx := 48) (n := 2) (ci := 9) (q := 0) (vs := [vi (xs (i + 1)), vi (xs (i + 2))]) (rest := []) (by decide +kernel) (tb3 14 rfl rfl) omX9_words (by decide) (wB_0 _ _ _ _) rfl rfl (Nat.le_of_ble_eq_true rfl) hc ?_
  refine both_x (x_words hS hC (xs (i + 1)) (xs (i + 2))) (fun C' hC' hS' => ?_)
  refine L_m (by decide +kernel : decode code 384 = .ok (.aload_n 2, 1)) ?_
  refine L_arg (pc := 385) (j := 1) (n := 1) ⟨by decide +kernel, by decide +kernel, by decide +kernel, by decide +kernel, by decide +kernel⟩ (by decide) (by omega) ?_
  refine L_arg (pc := 390) (j := 2) (n := 2) ⟨by decide +kernel, by decide +kernel, by decide +kernel, by decide +kernel, by decide +kernel⟩ (by decide) (by omega) ?_
  refine L_call (pc := 395) (me := mX10_words) (idx := 51) (n := 2) (ci := 10) (q := 36) (vs := [vi (xs (i + 1)), vi (xs (i + 2))]) (rest := [vi (op_words S (xs (i + 1)) (xs (i + 2))).1]) (by decide +kernel) (tb4 224 rfl rfl) omX10_words (by decide) (wB_36 _ _ _ _) rfl rfl (Nat.le_of_ble_eq_true rfl) hc ?_
  refine both_m (y_words hS hM (xs (i + 1)) (xs (i + 2))) rfl (fun a' f' hM' => ?_)
  exact L_if (by decide +kernel : decode code 398 = .ok (.if_icmp .eq 654, 3)) (by decide) rfl (k _ _ _ _ hS' hC' hM')
theorem law_c9 (hS : okSg S) (hC : RC S C) (hM : RM S a f) (h5 : i + 5 ≤ L) (hc : cl ≤ 600000 ∧ sl ≤ 7302250) (k : ∀ S' C' a' f', okSg S' → RC S' C' → RM S' a' f' → ZL g b L xs 47 cl sl i 1052 [] (wB S' C' a' f')) : ZL g b L xs 47 cl sl i 403 [] (wB S C a f) := by
  refine L_x (by decide +kernel : decode code 403 = .ok (.aload_n 1, 1)) ?_
  refine L_arg (pc := 404) (j := 1) (n := 1) ⟨by decide +kernel, by decide +kernel, by decide +kernel, by decide +kernel, by decide +kernel⟩ (by decide) (by omega) ?_
  refine L_arg (pc := 409) (j := 2) (n := 2) ⟨by decide +kernel, by decide +kernel, by decide +kernel, by decide +kernel, by decide +kernel⟩ (by decide) (by omega) ?_
  refine L_call (pc := 414) (me := mX9_word) (idx := 52) (n := 2) (ci := 9) (q := 0) (vs := [vi (xs (i + 1)), vi (xs (i + 2))]) (rest := []) (by decide +kernel) (tb3 19 rfl rfl) omX9_word (by decide) (wB_0 _ _ _ _) rfl rfl (Nat.le_of_ble_eq_true rfl) hc ?_
  refine both_x (x_word hS hC (xs (i + 1)) (xs (i + 2))) (fun C' hC' hS' => ?_)
  refine L_m (by decide +kernel : decode code 417 = .ok (.aload_n 2, 1)) ?_
  refine L_arg (pc := 418) (j := 1) (n := 1) ⟨by decide +kernel, by decide +kernel, by decide +kernel, by decide +kernel, by decide +kernel⟩ (by decide) (by omega) ?_
  refine L_arg (pc := 423) (j := 2) (n := 2) ⟨by decide +kernel, by decide +kernel, by decide +kernel, by decide +kernel, by decide +kernel⟩ (by decide) (by omega) ?_
  refine L_call (pc := 428) (me := mX10_word) (idx := 55) (n := 2) (ci := 10) (q := 36) (vs := [vi (xs (i + 1)), vi (xs (i + 2))]) (rest := [vi (op_word S (xs (i + 1)) (xs (i + 2))).1]) (by decide +kernel) (tb4 229 rfl rfl) omX10_word (by decide) (wB_36 _ _ _ _) rfl rfl (Nat.le_of_ble_eq_true rfl) hc ?_
  refine both_m (y_word hS hM (xs (i + 1)) (xs (i + 2))) rfl (fun a' f' hM' => ?_)
  exact L_if (by decide +kernel : decode code 431 = .ok (.if_icmp .eq 621, 3)) (by decide) rfl (k _ _ _ _ hS' hC' hM')
theorem law_c10 (hS : okSg S) (hC : RC S C) (hM : RM S a f) (h5 : i + 5 ≤ L) (hc : cl ≤ 600000 ∧ sl ≤ 7302250) (k : ∀ S' C' a' f', okSg S' → RC S' C' → RM S' a' f' → ZL g b L xs 47 cl sl i 1052 [] (wB S' C' a' f')) : ZL g b L xs 47 cl sl i 436 [] (wB S C a f) := by
  refine L_x (by decide +kernel : decode code 436 = .ok (.aload_n 1, 1)) ?_
  refine L_arg (pc := 437) (j := 1) (n := 1) ⟨by decide +kernel, by decide +kernel, by decide +kernel, by decide +kernel, by decide +kernel⟩ (by decide) (by omega) ?_
  refine L_call (pc := 442) (me := mX9_tell) (idx := 56) (n := 1) (ci := 9) (q := 0) (vs := [vi (xs (i + 1))]) (rest := []) (by decide +kernel) (tb3 23 rfl rfl) omX9_tell (by decide) (wB_0 _ _ _ _) rfl rfl (Nat.le_of_ble_eq_true rfl) hc ?_
  refine both_x (x_tell hS hC (xs (i + 1))) (fun C' hC' hS' => ?_)
  refine L_m (by decide +kernel : decode code 445 = .ok (.aload_n 2, 1)) ?_
  refine L_arg (pc := 446) (j := 1) (n := 1) ⟨by decide +kernel, by decide +kernel, by decide +kernel, by decide +kernel, by decide +kernel⟩ (by decide) (by omega) ?_
  refine L_call (pc := 451) (me := mX10_tell) (idx := 59) (n := 1) (ci := 10) (q := 36) (vs := [vi (xs (i + 1))]) (rest := [vi (op_tell S (xs (i + 1))).1]) (by decide +kernel) (tb4 237 rfl rfl) omX10_tell (by decide) (wB_36 _ _ _ _) rfl rfl (Nat.le_of_ble_eq_true rfl) hc ?_
  refine both_m (y_tell hS hM (xs (i + 1))) rfl (fun a' f' hM' => ?_)
  exact L_if (by decide +kernel : decode code 454 = .ok (.if_icmp .eq 598, 3)) (by decide) rfl (k _ _ _ _ hS' hC' hM')
theorem law_c11 (hS : okSg S) (hC : RC S C) (hM : RM S a f) (h5 : i + 5 ≤ L) (hc : cl ≤ 600000 ∧ sl ≤ 7302250) (k : ∀ S' C' a' f', okSg S' → RC S' C' → RM S' a' f' → ZL g b L xs 47 cl sl i 1052 [] (wB S' C' a' f')) : ZL g b L xs 47 cl sl i 459 [] (wB S C a f) := by
  refine L_x (by decide +kernel : decode code 459 = .ok (.aload_n 1, 1)) ?_
  refine L_call (pc := 460) (me := mX9_tear) (idx := 60) (n := 0) (ci := 9) (q := 0) (vs := []) (rest := []) (by decide +kernel) (tb3 31 rfl rfl) omX9_tear (by decide) (wB_0 _ _ _ _) rfl rfl (Nat.le_of_ble_eq_true rfl) hc ?_
  refine both_x (x_tear hS hC) (fun C' hC' hS' => ?_)
  refine L_m (by decide +kernel : decode code 463 = .ok (.aload_n 2, 1)) ?_
  refine L_call (pc := 464) (me := mX10_tear) (idx := 63) (n := 0) (ci := 10) (q := 36) (vs := []) (rest := [vi (op_tear S).1]) (by decide +kernel) (tb5 2 rfl rfl) omX10_tear (by decide) (wB_36 _ _ _ _) rfl rfl (Nat.le_of_ble_eq_true rfl) hc ?_
  refine both_m (y_tear hM) rfl (fun a' f' hM' => ?_)
  exact L_if (by decide +kernel : decode code 467 = .ok (.if_icmp .eq 585, 3)) (by decide) rfl (k _ _ _ _ hS' hC' hM')
theorem law_c12 (hS : okSg S) (hC : RC S C) (hM : RM S a f) (h5 : i + 5 ≤ L) (hc : cl ≤ 600000 ∧ sl ≤ 7302250) (k : ∀ S' C' a' f', okSg S' → RC S' C' → RM S' a' f' → ZL g b L xs 47 cl sl i 1052 [] (wB S' C' a' f')) : ZL g b L xs 47 cl sl i 472 [] (wB S C a f) := by
  refine L_x (by decide +kernel : decode code 472 = .ok (.aload_n 1, 1)) ?_
  refine L_call (pc := 473) (me := mX9_spoken) (idx := 64) (n := 0) (ci := 9) (q := 0) (vs := []) (rest := []) (by decide +kernel) (tb3 35 rfl rfl) omX9_spoken (by decide) (wB_0 _ _ _ _) rfl rfl (Nat.le_of_ble_eq_true rfl) hc ?_
  refine both_x (x_spoken hS hC) (fun C' hC' hS' => ?_)
  refine L_m (by decide +kernel : decode code 476 = .ok (.aload_n 2, 1)) ?_
  refine L_call (pc := 477) (me := mX10_spoken) (idx := 67) (n := 0) (ci := 10) (q := 36) (vs := []) (rest := [vi (op_spoken S).1]) (by decide +kernel) (tb5 6 rfl rfl) omX10_spoken (by decide) (wB_36 _ _ _ _) rfl rfl (Nat.le_of_ble_eq_true rfl) hc ?_
  refine both_m (y_spoken hS hM) rfl (fun a' f' hM' => ?_)
  exact L_if (by decide +kernel : decode code 480 = .ok (.if_icmp .eq 572, 3)) (by decide) rfl (k _ _ _ _ hS' hC' hM')
theorem law_c13 (hS : okSg S) (hC : RC S C) (hM : RM S a f) (h5 : i + 5 ≤ L) (hc : cl ≤ 600000 ∧ sl ≤ 7302250) (k : ∀ S' C' a' f', okSg S' → RC S' C' → RM S' a' f' → ZL g b L xs 47 cl sl i 1052 [] (wB S' C' a' f')) : ZL g b L xs 47 cl sl i 485 [] (wB S C a f) := by
  refine L_x (by decide +kernel : decode code 485 = .ok (.aload_n 1, 1)) ?_
  refine L_arg (pc := 486) (j := 1) (n := 1) ⟨by decide +kernel, by decide +kernel, by decide +kernel, by decide +kernel, by decide +kernel⟩ (by decide) (by omega) ?_
  refine L_call (pc := 491) (me := mX9_said) (idx := 68) (n := 1) (ci := 9) (q := 0) (vs := [vi (xs (i + 1))]) (rest := []) (by decide +kernel) (tb3 65 rfl rfl) omX9_said (by decide) (wB_0 _ _ _ _) rfl rfl (Nat.le_of_ble_eq_true rfl) hc ?_
  refine both_x (x_said hS hC (xs (i + 1))) (fun C' hC' hS' => ?_)
  refine L_m (by decide +kernel : decode code 494 = .ok (.aload_n 2, 1)) ?_
  refine L_arg (pc := 495) (j := 1) (n := 1) ⟨by decide +kernel, by decide +kernel, by decide +kernel, by decide +kernel, by decide +kernel⟩ (by decide) (by omega) ?_
  refine L_call (pc := 500) (me := mX10_said) (idx := 71) (n := 1) (ci := 10) (q := 36) (vs := [vi (xs (i + 1))]) (rest := [vi (op_said S (xs (i + 1))).1]) (by decide +kernel) (tb5 32 rfl rfl) omX10_said (by decide) (wB_36 _ _ _ _) rfl rfl (Nat.le_of_ble_eq_true rfl) hc ?_
  refine both_m (y_said hS hM (xs (i + 1))) rfl (fun a' f' hM' => ?_)
  exact L_if (by decide +kernel : decode code 503 = .ok (.if_icmp .eq 549, 3)) (by decide) rfl (k _ _ _ _ hS' hC' hM')
theorem law_c14 (hS : okSg S) (hC : RC S C) (hM : RM S a f) (h5 : i + 5 ≤ L) (hc : cl ≤ 600000 ∧ sl ≤ 7302250) (k : ∀ S' C' a' f', okSg S' → RC S' C' → RM S' a' f' → ZL g b L xs 47 cl sl i 1052 [] (wB S' C' a' f')) : ZL g b L xs 47 cl sl i 508 [] (wB S C a f) := by
  refine L_x (by decide +kernel : decode code 508 = .ok (.aload_n 1, 1)) ?_
  refine L_call (pc := 509) (me := mX9_add) (idx := 72) (n := 0) (ci := 9) (q := 0) (vs := []) (rest := []) (by decide +kernel) (tb3 69 rfl rfl) omX9_add (by decide) (wB_0 _ _ _ _) rfl rfl (Nat.le_of_ble_eq_true rfl) hc ?_
  refine both_x (x_add hS hC) (fun C' hC' hS' => ?_)
  refine L_m (by decide +kernel : decode code 512 = .ok (.aload_n 2, 1)) ?_
  refine L_call (pc := 513) (me := mX10_add) (idx := 75) (n := 0) (ci := 10) (q := 36) (vs := []) (rest := [vi (op_add S).1]) (by decide +kernel) (tb5 36 rfl rfl) omX10_add (by decide) (wB_36 _ _ _ _) rfl rfl (Nat.le_of_ble_eq_true rfl) hc ?_
  refine both_m (y_add hS hM) rfl (fun a' f' hM' => ?_)
  exact L_if (by decide +kernel : decode code 516 = .ok (.if_icmp .eq 536, 3)) (by decide) rfl (k _ _ _ _ hS' hC' hM')
theorem law_c15 (hS : okSg S) (hC : RC S C) (hM : RM S a f) (h5 : i + 5 ≤ L) (hc : cl ≤ 600000 ∧ sl ≤ 7302250) (k : ∀ S' C' a' f', okSg S' → RC S' C' → RM S' a' f' → ZL g b L xs 47 cl sl i 1052 [] (wB S' C' a' f')) : ZL g b L xs 47 cl sl i 521 [] (wB S C a f) := by
  refine L_x (by decide +kernel : decode code 521 = .ok (.aload_n 1, 1)) ?_
  refine L_arg (pc := 522) (j := 1) (n := 1) ⟨by decide +kernel, by decide +kernel, by decide +kernel, by decide +kernel, by decide +kernel⟩ (by decide) (by omega) ?_
  refine L_call (pc := 527) (me := mX9_string) (idx := 76) (n := 1) (ci := 9) (q := 0) (vs := [vi (xs (i + 1))]) (rest := []) (by decide +kernel) (tb3 79 rfl rfl) omX9_string (by decide) (wB_0 _ _ _ _) rfl rfl (Nat.le_of_ble_eq_true rfl) hc ?_
  refine both_x (x_string hS hC (xs (i + 1))) (fun C' hC' hS' => ?_)
  refine L_m (by decide +kernel : decode code 530 = .ok (.aload_n 2, 1)) ?_
  refine L_arg (pc := 531) (j := 1) (n := 1) ⟨by decide +kernel, by decide +kernel, by decide +kernel, by decide +kernel, by decide +kernel⟩ (by decide) (by omega) ?_
  refine L_call (pc := 536) (me := mX10_string) (idx := 79) (n := 1) (ci := 10) (q := 36) (vs := [vi (xs (i + 1))]) (rest := [vi (op_string S (xs (i + 1))).1]) (by decide +kernel) (tb5 40 rfl rfl) omX10_string (by decide) (wB_36 _ _ _ _) rfl rfl (Nat.le_of_ble_eq_true rfl) hc ?_
  refine both_m (y_string hS hM (xs (i + 1))) rfl (fun a' f' hM' => ?_)
  exact L_if (by decide +kernel : decode code 539 = .ok (.if_icmp .eq 513, 3)) (by decide) rfl (k _ _ _ _ hS' hC' hM')
theorem law_c16 (hS : okSg S) (hC : RC S C) (hM : RM S a f) (h5 : i + 5 ≤ L) (hc : cl ≤ 600000 ∧ sl ≤ 7302250) (k : ∀ S' C' a' f', okSg S' → RC S' C' → RM S' a' f' → ZL g b L xs 47 cl sl i 1052 [] (wB S' C' a' f')) : ZL g b L xs 47 cl sl i 544 [] (wB S C a f) := by
  refine L_x (by decide +kernel : decode code 544 = .ok (.aload_n 1, 1)) ?_
  refine L_arg (pc := 545) (j := 1) (n := 1) ⟨by decide +kernel, by decide +kernel, by decide +kernel, by decide +kernel, by decide +kernel⟩ (by decide) (by omega) ?_
  refine L_call (pc := 550) (me := mX9_off) (idx := 80) (n := 1) (ci := 9) (q := 0) (vs := [vi (xs (i + 1))]) (rest := []) (by decide +kernel) (tb3 87 rfl rfl) omX9_off (by decide) (wB_0 _ _ _ _) rfl rfl (Nat.le_of_ble_eq_true rfl) hc ?_
  refine both_x (x_off hS hC (xs (i + 1))) (fun C' hC' hS' => ?_)
  refine L_m (by decide +kernel : decode code 553 = .ok (.aload_n 2, 1)) ?_
  refine L_arg (pc := 554) (j := 1) (n := 1) ⟨by decide +kernel, by decide +kernel, by decide +kernel, by decide +kernel, by decide +kernel⟩ (by decide) (by omega) ?_
  refine L_call (pc := 559) (me := mX10_off) (idx := 83) (n := 1) (ci := 10) (q := 36) (vs := [vi (xs (i + 1))]) (rest := [vi (op_off S (xs (i + 1))).1]) (by decide +kernel) (tb5 44 rfl rfl) omX10_off (by decide) (wB_36 _ _ _ _) rfl rfl (Nat.le_of_ble_eq_true rfl) hc ?_
  refine both_m (y_off hS hM (xs (i + 1))) rfl (fun a' f' hM' => ?_)
  exact L_if (by decide +kernel : decode code 562 = .ok (.if_icmp .eq 490, 3)) (by decide) rfl (k _ _ _ _ hS' hC' hM')
theorem law_c17 (hS : okSg S) (hC : RC S C) (hM : RM S a f) (h5 : i + 5 ≤ L) (hc : cl ≤ 600000 ∧ sl ≤ 7302250) (k : ∀ S' C' a' f', okSg S' → RC S' C' → RM S' a' f' → ZL g b L xs 47 cl sl i 1052 [] (wB S' C' a' f')) : ZL g b L xs 47 cl sl i 567 [] (wB S C a f) := by
  refine L_x (by decide +kernel : decode code 567 = .ok (.aload_n 1, 1)) ?_
  refine L_arg (pc := 568) (j := 1) (n := 1) ⟨by decide +kernel, by decide +kernel, by decide +kernel, by decide +kernel, by decide +kernel⟩ (by decide) (by omega) ?_
  refine L_call (pc := 573) (me := mX9_plan) (idx := 84) (n := 1) (ci := 9) (q := 0) (vs := [vi (xs (i + 1))]) (rest := []) (by decide +kernel) (tb3 91 rfl rfl) omX9_plan (by decide) (wB_0 _ _ _ _) rfl rfl (Nat.le_of_ble_eq_true rfl) hc ?_
  refine both_x (x_plan hS hC (xs (i + 1))) (fun C' hC' hS' => ?_)
  refine L_m (by decide +kernel : decode code 576 = .ok (.aload_n 2, 1)) ?_
  refine L_arg (pc := 577) (j := 1) (n := 1) ⟨by decide +kernel, by decide +kernel, by decide +kernel, by decide +kernel, by decide +kernel⟩ (by decide) (by omega) ?_
  refine L_call (pc := 582) (me := mX10_plan) (idx := 87) (n := 1) (ci := 10) (q := 36) (vs := [vi (xs (i + 1))]) (rest := [vi (op_plan S (xs (i + 1))).1]) (by decide +kernel) (tb5 48 rfl rfl) omX10_plan (by decide) (wB_36 _ _ _ _) rfl rfl (Nat.le_of_ble_eq_true rfl) hc ?_
  refine both_m (y_plan hS hM (xs (i + 1))) rfl (fun a' f' hM' => ?_)
  exact L_if (by decide +kernel : decode code 585 = .ok (.if_icmp .eq 467, 3)) (by decide) rfl (k _ _ _ _ hS' hC' hM')
theorem law_c18 (hS : okSg S) (hC : RC S C) (hM : RM S a f) (h5 : i + 5 ≤ L) (hc : cl ≤ 600000 ∧ sl ≤ 7302250) (k : ∀ S' C' a' f', okSg S' → RC S' C' → RM S' a' f' → ZL g b L xs 47 cl sl i 1052 [] (wB S' C' a' f')) : ZL g b L xs 47 cl sl i 590 [] (wB S C a f) := by
  refine L_x (by decide +kernel : decode code 590 = .ok (.aload_n 1, 1)) ?_
  refine L_arg (pc := 591) (j := 1) (n := 1) ⟨by decide +kernel, by decide +kernel, by decide +kernel, by decide +kernel, by decide +kernel⟩ (by decide) (by omega) ?_
  refine L_call (pc := 596) (me := mX9_mistake) (idx := 88) (n := 1) (ci := 9) (q := 0) (vs := [vi (xs (i + 1))]) (rest := []) (by decide +kernel) (tb3 108 rfl rfl) omX9_mistake (by decide) (wB_0 _ _ _ _) rfl rfl (Nat.le_of_ble_eq_true rfl) hc ?_
  refine both_x (x_mistake hS hC (xs (i + 1))) (fun C' hC' hS' => ?_)
  refine L_m (by decide +kernel : decode code 599 = .ok (.aload_n 2, 1)) ?_
  refine L_arg (pc := 600) (j := 1) (n := 1) ⟨by decide +kernel, by decide +kernel, by decide +kernel, by decide +kernel, by decide +kernel⟩ (by decide) (by omega) ?_
  refine L_call (pc := 605) (me := mX10_mistake) (idx := 91) (n := 1) (ci := 10) (q := 36) (vs := [vi (xs (i + 1))]) (rest := [vi (op_mistake S (xs (i + 1))).1]) (by decide +kernel) (tb5 56 rfl rfl) omX10_mistake (by decide) (wB_36 _ _ _ _) rfl rfl (Nat.le_of_ble_eq_true rfl) hc ?_
  refine both_m (y_mistake hS hM (xs (i + 1))) rfl (fun a' f' hM' => ?_)
  exact L_if (by decide +kernel : decode code 608 = .ok (.if_icmp .eq 444, 3)) (by decide) rfl (k _ _ _ _ hS' hC' hM')
theorem law_c19 (hS : okSg S) (hC : RC S C) (hM : RM S a f) (h5 : i + 5 ≤ L) (hc : cl ≤ 600000 ∧ sl ≤ 7302250) (k : ∀ S' C' a' f', okSg S' → RC S' C' → RM S' a' f' → ZL g b L xs 47 cl sl i 1052 [] (wB S' C' a' f')) : ZL g b L xs 47 cl sl i 613 [] (wB S C a f) := by
  refine L_x (by decide +kernel : decode code 613 = .ok (.aload_n 1, 1)) ?_
  refine L_arg (pc := 614) (j := 1) (n := 1) ⟨by decide +kernel, by decide +kernel, by decide +kernel, by decide +kernel, by decide +kernel⟩ (by decide) (by omega) ?_
  refine L_arg (pc := 619) (j := 2) (n := 2) ⟨by decide +kernel, by decide +kernel, by decide +kernel, by decide +kernel, by decide +kernel⟩ (by decide) (by omega) ?_
  refine L_arg (pc := 624) (j := 3) (n := 3) ⟨by decide +kernel, by decide +kernel, by decide +kernel, by decide +kernel, by decide +kernel⟩ (by decide) (by omega) ?_
  refine L_call (pc := 629) (me := mX9_paint) (idx := 92) (n := 3) (ci := 9) (q := 0) (vs := [vi (xs (i + 1)), vi (xs (i + 2)), vi (xs (i + 3))]) (rest := []) (by decide +kernel) (tb3 128 rfl rfl) omX9_paint (by decide) (wB_0 _ _ _ _) rfl rfl (Nat.le_of_ble_eq_true rfl) hc ?_
  refine both_x (x_paint hS hC (xs (i + 1)) (xs (i + 2)) (xs (i + 3))) (fun C' hC' hS' => ?_)
  refine L_m (by decide +kernel : decode code 632 = .ok (.aload_n 2, 1)) ?_
  refine L_arg (pc := 633) (j := 1) (n := 1) ⟨by decide +kernel, by decide +kernel, by decide +kernel, by decide +kernel, by decide +kernel⟩ (by decide) (by omega) ?_
  refine L_arg (pc := 638) (j := 2) (n := 2) ⟨by decide +kernel, by decide +kernel, by decide +kernel, by decide +kernel, by decide +kernel⟩ (by decide) (by omega) ?_
  refine L_arg (pc := 643) (j := 3) (n := 3) ⟨by decide +kernel, by decide +kernel, by decide +kernel, by decide +kernel, by decide +kernel⟩ (by decide) (by omega) ?_
  refine L_call (pc := 648) (me := mX10_paint) (idx := 96) (n := 3) (ci := 10) (q := 36) (vs := [vi (xs (i + 1)), vi (xs (i + 2)), vi (xs (i + 3))]) (rest := [vi (op_paint S (xs (i + 1)) (xs (i + 2)) (xs (i + 3))).1]) (by decide +kernel) (tb5 73 rfl rfl) omX10_paint (by decide) (wB_36 _ _ _ _) rfl rfl (Nat.le_of_ble_eq_true rfl) hc ?_
  refine both_m (y_paint hS hM (xs (i + 1)) (xs (i + 2)) (xs (i + 3))) rfl (fun a' f' hM' => ?_)
  exact L_if (by decide +kernel : decode code 651 = .ok (.if_icmp .eq 401, 3)) (by decide) rfl (k _ _ _ _ hS' hC' hM')
theorem law_c20 (hS : okSg S) (hC : RC S C) (hM : RM S a f) (h5 : i + 5 ≤ L) (hc : cl ≤ 600000 ∧ sl ≤ 7302250) (k : ∀ S' C' a' f', okSg S' → RC S' C' → RM S' a' f' → ZL g b L xs 47 cl sl i 1052 [] (wB S' C' a' f')) : ZL g b L xs 47 cl sl i 656 [] (wB S C a f) := by
  refine L_x (by decide +kernel : decode code 656 = .ok (.aload_n 1, 1)) ?_
  refine L_arg (pc := 657) (j := 1) (n := 1) ⟨by decide +kernel, by decide +kernel, by decide +kernel, by decide +kernel, by decide +kernel⟩ (by decide) (by omega) ?_
  refine L_arg (pc := 662) (j := 2) (n := 2) ⟨by decide +kernel, by decide +kernel, by decide +kernel, by decide +kernel, by decide +kernel⟩ (by decide) (by omega) ?_
  refine L_call (pc := 667) (me := mX9_dye) (idx := 97) (n := 2) (ci := 9) (q := 0) (vs := [vi (xs (i + 1)), vi (xs (i + 2))]) (rest := []) (by decide +kernel) (tb3 133 rfl rfl) omX9_dye (by decide) (wB_0 _ _ _ _) rfl rfl (Nat.le_of_ble_eq_true rfl) hc ?_
  refine both_x (x_dye hS hC (xs (i + 1)) (xs (i + 2))) (fun C' hC' hS' => ?_)
  refine L_m (by decide +kernel : decode code 670 = .ok (.aload_n 2, 1)) ?_
  refine L_arg (pc := 671) (j := 1) (n := 1) ⟨by decide +kernel, by decide +kernel, by decide +kernel, by decide +kernel, by decide +kernel⟩ (by decide) (by omega) ?_
  refine L_arg (pc := 676) (j := 2) (n := 2) ⟨by decide +kernel, by decide +kernel, by decide +kernel, by decide +kernel, by decide +kernel⟩ (by decide) (by omega) ?_
  refine L_call (pc := 681) (me := mX10_dye) (idx := 100) (n := 2) (ci := 10) (q := 36) (vs := [vi (xs (i + 1)), vi (xs (i + 2))]) (rest := [vi (op_dye S (xs (i + 1)) (xs (i + 2))).1]) (by decide +kernel) (tb5 77 rfl rfl) omX10_dye (by decide) (wB_36 _ _ _ _) rfl rfl (Nat.le_of_ble_eq_true rfl) hc ?_
  refine both_m (y_dye hS hM (xs (i + 1)) (xs (i + 2))) rfl (fun a' f' hM' => ?_)
  exact L_if (by decide +kernel : decode code 684 = .ok (.if_icmp .eq 368, 3)) (by decide) rfl (k _ _ _ _ hS' hC' hM')
theorem law_c21 (hS : okSg S) (hC : RC S C) (hM : RM S a f) (h5 : i + 5 ≤ L) (hc : cl ≤ 600000 ∧ sl ≤ 7302250) (k : ∀ S' C' a' f', okSg S' → RC S' C' → RM S' a' f' → ZL g b L xs 47 cl sl i 1052 [] (wB S' C' a' f')) : ZL g b L xs 47 cl sl i 689 [] (wB S C a f) := by
  refine L_x (by decide +kernel : decode code 689 = .ok (.aload_n 1, 1)) ?_
  refine L_arg (pc := 690) (j := 1) (n := 1) ⟨by decide +kernel, by decide +kernel, by decide +kernel, by decide +kernel, by decide +kernel⟩ (by decide) (by omega) ?_
  refine L_arg (pc := 695) (j := 2) (n := 2) ⟨by decide +kernel, by decide +kernel, by decide +kernel, by decide +kernel, by decide +kernel⟩ (by decide) (by omega) ?_
  refine L_call (pc := 700) (me := mX9_change) (idx := 101) (n := 2) (ci := 9) (q := 0) (vs := [vi (xs (i + 1)), vi (xs (i + 2))]) (rest := []) (by decide +kernel) (tb3 141 rfl rfl) omX9_change (by decide) (wB_0 _ _ _ _) rfl rfl (Nat.le_of_ble_eq_true rfl) hc ?_
  refine both_x (x_change hS hC (xs (i + 1)) (xs (i + 2))) (fun C' hC' hS' => ?_)
  refine L_m (by decide +kernel : decode code 703 = .ok (.aload_n 2, 1)) ?_
  refine L_arg (pc := 704) (j := 1) (n := 1) ⟨by decide +kernel, by decide +kernel, by decide +kernel, by decide +kernel, by decide +kernel⟩ (by decide) (by omega) ?_
  refine L_arg (pc := 709) (j := 2) (n := 2) ⟨by decide +kernel, by decide +kernel, by decide +kernel, by decide +kernel, by decide +kernel⟩ (by decide) (by omega) ?_
  refine L_call (pc := 714) (me := mX10_change) (idx := 104) (n := 2) (ci := 10) (q := 36) (vs := [vi (xs (i + 1)), vi (xs (i + 2))]) (rest := [vi (op_change S (xs (i + 1)) (xs (i + 2))).1]) (by decide +kernel) (tb5 81 rfl rfl) omX10_change (by decide) (wB_36 _ _ _ _) rfl rfl (Nat.le_of_ble_eq_true rfl) hc ?_
  refine both_m (y_change hS hM (xs (i + 1)) (xs (i + 2))) rfl (fun a' f' hM' => ?_)
  exact L_if (by decide +kernel : decode code 717 = .ok (.if_icmp .eq 335, 3)) (by decide) rfl (k _ _ _ _ hS' hC' hM')
theorem law_c22 (hS : okSg S) (hC : RC S C) (hM : RM S a f) (h5 : i + 5 ≤ L) (hc : cl ≤ 600000 ∧ sl ≤ 7302250) (k : ∀ S' C' a' f', okSg S' → RC S' C' → RM S' a' f' → ZL g b L xs 47 cl sl i 1052 [] (wB S' C' a' f')) : ZL g b L xs 47 cl sl i 722 [] (wB S C a f) := by
  refine L_x (by decide +kernel : decode code 722 = .ok (.aload_n 1, 1)) ?_
  refine L_arg (pc := 723) (j := 1) (n := 1) ⟨by decide +kernel, by decide +kernel, by decide +kernel, by decide +kernel, by decide +kernel⟩ (by decide) (by omega) ?_
  refine L_arg (pc := 728) (j := 2) (n := 2) ⟨by decide +kernel, by decide +kernel, by decide +kernel, by decide +kernel, by decide +kernel⟩ (by decide) (by omega) ?_
  refine L_call (pc := 733) (me := mX9_swap) (idx := 105) (n := 2) (ci := 9) (q := 0) (vs := [vi (xs (i + 1)), vi (xs (i + 2))]) (rest := []) (by decide +kernel) (tb3 165 rfl rfl) omX9_swap (by decide) (wB_0 _ _ _ _) rfl rfl (Nat.le_of_ble_eq_true rfl) hc ?_
  refine both_x (x_swap hS hC (xs (i + 1)) (xs (i + 2))) (fun C' hC' hS' => ?_)
  refine L_m (by decide +kernel : decode code 736 = .ok (.aload_n 2, 1)) ?_
  refine L_arg (pc := 737) (j := 1) (n := 1) ⟨by decide +kernel, by decide +kernel, by decide +kernel, by decide +kernel, by decide +kernel⟩ (by decide) (by omega) ?_
  refine L_arg (pc := 742) (j := 2) (n := 2) ⟨by decide +kernel, by decide +kernel, by decide +kernel, by decide +kernel, by decide +kernel⟩ (by decide) (by omega) ?_
  refine L_call (pc := 747) (me := mX10_swap) (idx := 108) (n := 2) (ci := 10) (q := 36) (vs := [vi (xs (i + 1)), vi (xs (i + 2))]) (rest := [vi (op_swap S (xs (i + 1)) (xs (i + 2))).1]) (by decide +kernel) (tb5 98 rfl rfl) omX10_swap (by decide) (wB_36 _ _ _ _) rfl rfl (Nat.le_of_ble_eq_true rfl) hc ?_
  refine both_m (y_swap hS hM (xs (i + 1)) (xs (i + 2))) rfl (fun a' f' hM' => ?_)
  exact L_if (by decide +kernel : decode code 750 = .ok (.if_icmp .eq 302, 3)) (by decide) rfl (k _ _ _ _ hS' hC' hM')
theorem law_c23 (hS : okSg S) (hC : RC S C) (hM : RM S a f) (h5 : i + 5 ≤ L) (hc : cl ≤ 600000 ∧ sl ≤ 7302250) (k : ∀ S' C' a' f', okSg S' → RC S' C' → RM S' a' f' → ZL g b L xs 47 cl sl i 1052 [] (wB S' C' a' f')) : ZL g b L xs 47 cl sl i 755 [] (wB S C a f) := by
  refine L_x (by decide +kernel : decode code 755 = .ok (.aload_n 1, 1)) ?_
  refine L_arg (pc := 756) (j := 1) (n := 1) ⟨by decide +kernel, by decide +kernel, by decide +kernel, by decide +kernel, by decide +kernel⟩ (by decide) (by omega) ?_
  refine L_call (pc := 761) (me := mX9_mode) (idx := 109) (n := 1) (ci := 9) (q := 0) (vs := [vi (xs (i + 1))]) (rest := []) (by decide +kernel) (tb3 177 rfl rfl) omX9_mode (by decide) (wB_0 _ _ _ _) rfl rfl (Nat.le_of_ble_eq_true rfl) hc ?_
  refine both_x (x_mode hS hC (xs (i + 1))) (fun C' hC' hS' => ?_)
  refine L_m (by decide +kernel : decode code 764 = .ok (.aload_n 2, 1)) ?_
  refine L_arg (pc := 765) (j := 1) (n := 1) ⟨by decide +kernel, by decide +kernel, by decide +kernel, by decide +kernel, by decide +kernel⟩ (by decide) (by omega) ?_
  refine L_call (pc := 770) (me := mX10_mode) (idx := 112) (n := 1) (ci := 10) (q := 36) (vs := [vi (xs (i + 1))]) (rest := [vi (op_mode S (xs (i + 1))).1]) (by decide +kernel) (tb5 102 rfl rfl) omX10_mode (by decide) (wB_36 _ _ _ _) rfl rfl (Nat.le_of_ble_eq_true rfl) hc ?_
  refine both_m (y_mode hS hM (xs (i + 1))) rfl (fun a' f' hM' => ?_)
  exact L_if (by decide +kernel : decode code 773 = .ok (.if_icmp .eq 279, 3)) (by decide) rfl (k _ _ _ _ hS' hC' hM')
theorem law_c24 (hS : okSg S) (hC : RC S C) (hM : RM S a f) (h5 : i + 5 ≤ L) (hc : cl ≤ 600000 ∧ sl ≤ 7302250) (k : ∀ S' C' a' f', okSg S' → RC S' C' → RM S' a' f' → ZL g b L xs 47 cl sl i 1052 [] (wB S' C' a' f')) : ZL g b L xs 47 cl sl i 778 [] (wB S C a f) := by
  refine L_x (by decide +kernel : decode code 778 = .ok (.aload_n 1, 1)) ?_
  refine L_arg (pc := 779) (j := 1) (n := 1) ⟨by decide +kernel, by decide +kernel, by decide +kernel, by decide +kernel, by decide +kernel⟩ (by decide) (by omega) ?_
  refine L_arg (pc := 784) (j := 2) (n := 2) ⟨by decide +kernel, by decide +kernel, by decide +kernel, by decide +kernel, by decide +kernel⟩ (by decide) (by omega) ?_
  refine L_arg (pc := 789) (j := 3) (n := 3) ⟨by decide +kernel, by decide +kernel, by decide +kernel, by decide +kernel, by decide +kernel⟩ (by decide) (by omega) ?_
  refine L_arg (pc := 794) (j := 4) (n := 4) ⟨by decide +kernel, by decide +kernel, by decide +kernel, by decide +kernel, by decide +kernel⟩ (by decide) (by omega) ?_
  refine L_call (pc := 799) (me := mX9_draw) (idx := 113) (n := 4) (ci := 9) (q := 0) (vs := [vi (xs (i + 1)), vi (xs (i + 2)), vi (xs (i + 3)), vi (xs (i + 4))]) (rest := []) (by decide +kernel) (tb3 181 rfl rfl) omX9_draw (by decide) (wB_0 _ _ _ _) rfl rfl (Nat.le_of_ble_eq_true rfl) hc ?_
  refine both_x (x_draw hS hC (xs (i + 1)) (xs (i + 2)) (xs (i + 3)) (xs (i + 4))) (fun C' hC' hS' => ?_)
  refine L_m (by decide +kernel : decode code 802 = .ok (.aload_n 2, 1)) ?_
  refine L_arg (pc := 803) (j := 1) (n := 1) ⟨by decide +kernel, by decide +kernel, by decide +kernel, by decide +kernel, by decide +kernel⟩ (by decide) (by omega) ?_
  refine L_arg (pc := 808) (j := 2) (n := 2) ⟨by decide +kernel, by decide +kernel, by decide +kernel, by decide +kernel, by decide +kernel⟩ (by decide) (by omega) ?_
  refine L_arg (pc := 813) (j := 3) (n := 3) ⟨by decide +kernel, by decide +kernel, by decide +kernel, by decide +kernel, by decide +kernel⟩ (by decide) (by omega) ?_
  refine L_arg (pc := 818) (j := 4) (n := 4) ⟨by decide +kernel, by decide +kernel, by decide +kernel, by decide +kernel, by decide +kernel⟩ (by decide) (by omega) ?_
  refine L_call (pc := 823) (me := mX10_draw) (idx := 117) (n := 4) (ci := 10) (q := 36) (vs := [vi (xs (i + 1)), vi (xs (i + 2)), vi (xs (i + 3)), vi (xs (i + 4))]) (rest := [vi (op_draw S (xs (i + 1)) (xs (i + 2)) (xs (i + 3)) (xs (i + 4))).1]) (by decide +kernel) (tb5 106 rfl rfl) omX10_draw (by decide) (wB_36 _ _ _ _) rfl rfl (Nat.le_of_ble_eq_true rfl) hc ?_
  refine both_m (y_draw hS hM (xs (i + 1)) (xs (i + 2)) (xs (i + 3)) (xs (i + 4))) rfl (fun a' f' hM' => ?_)
  exact L_if (by decide +kernel : decode code 826 = .ok (.if_icmp .eq 226, 3)) (by decide) rfl (k _ _ _ _ hS' hC' hM')
theorem law_c25 (hS : okSg S) (hC : RC S C) (hM : RM S a f) (h5 : i + 5 ≤ L) (hc : cl ≤ 600000 ∧ sl ≤ 7302250) (k : ∀ S' C' a' f', okSg S' → RC S' C' → RM S' a' f' → ZL g b L xs 47 cl sl i 1052 [] (wB S' C' a' f')) : ZL g b L xs 47 cl sl i 831 [] (wB S C a f) := by
  refine L_x (by decide +kernel : decode code 831 = .ok (.aload_n 1, 1)) ?_
  refine L_arg (pc := 832) (j := 1) (n := 1) ⟨by decide +kernel, by decide +kernel, by decide +kernel, by decide +kernel, by decide +kernel⟩ (by decide) (by omega) ?_
  refine L_call (pc := 837) (me := mX9_keep) (idx := 118) (n := 1) (ci := 9) (q := 0) (vs := [vi (xs (i + 1))]) (rest := []) (by decide +kernel) (tb3 195 rfl rfl) omX9_keep (by decide) (wB_0 _ _ _ _) rfl rfl (Nat.le_of_ble_eq_true rfl) hc ?_
  refine both_x (x_keep hS hC (xs (i + 1))) (fun C' hC' hS' => ?_)
  refine L_m (by decide +kernel : decode code 840 = .ok (.aload_n 2, 1)) ?_
  refine L_arg (pc := 841) (j := 1) (n := 1) ⟨by decide +kernel, by decide +kernel, by decide +kernel, by decide +kernel, by decide +kernel⟩ (by decide) (by omega) ?_
  refine L_call (pc := 846) (me := mX10_keep) (idx := 121) (n := 1) (ci := 10) (q := 36) (vs := [vi (xs (i + 1))]) (rest := [vi (op_keep S (xs (i + 1))).1]) (by decide +kernel) (tb5 120 rfl rfl) omX10_keep (by decide) (wB_36 _ _ _ _) rfl rfl (Nat.le_of_ble_eq_true rfl) hc ?_
  refine both_m (y_keep hS hM (xs (i + 1))) rfl (fun a' f' hM' => ?_)
  exact L_if (by decide +kernel : decode code 849 = .ok (.if_icmp .eq 203, 3)) (by decide) rfl (k _ _ _ _ hS' hC' hM')
theorem law_c26 (hS : okSg S) (hC : RC S C) (hM : RM S a f) (h5 : i + 5 ≤ L) (hc : cl ≤ 600000 ∧ sl ≤ 7302250) (k : ∀ S' C' a' f', okSg S' → RC S' C' → RM S' a' f' → ZL g b L xs 47 cl sl i 1052 [] (wB S' C' a' f')) : ZL g b L xs 47 cl sl i 854 [] (wB S C a f) := by
  refine L_x (by decide +kernel : decode code 854 = .ok (.aload_n 1, 1)) ?_
  refine L_arg (pc := 855) (j := 1) (n := 1) ⟨by decide +kernel, by decide +kernel, by decide +kernel, by decide +kernel, by decide +kernel⟩ (by decide) (by omega) ?_
  refine L_call (pc := 860) (me := mX9_back) (idx := 122) (n := 1) (ci := 9) (q := 0) (vs := [vi (xs (i + 1))]) (rest := []) (by decide +kernel) (tb3 204 rfl rfl) omX9_back (by decide) (wB_0 _ _ _ _) rfl rfl (Nat.le_of_ble_eq_true rfl) hc ?_
  refine both_x (x_back hS hC (xs (i + 1))) (fun C' hC' hS' => ?_)
  refine L_m (by decide +kernel : decode code 863 = .ok (.aload_n 2, 1)) ?_
  refine L_arg (pc := 864) (j := 1) (n := 1) ⟨by decide +kernel, by decide +kernel, by decide +kernel, by decide +kernel, by decide +kernel⟩ (by decide) (by omega) ?_
  refine L_call (pc := 869) (me := mX10_back) (idx := 125) (n := 1) (ci := 10) (q := 36) (vs := [vi (xs (i + 1))]) (rest := [vi (op_back S (xs (i + 1))).1]) (by decide +kernel) (tb5 124 rfl rfl) omX10_back (by decide) (wB_36 _ _ _ _) rfl rfl (Nat.le_of_ble_eq_true rfl) hc ?_
  refine both_m (y_back hS hM (xs (i + 1))) rfl (fun a' f' hM' => ?_)
  exact L_if (by decide +kernel : decode code 872 = .ok (.if_icmp .eq 180, 3)) (by decide) rfl (k _ _ _ _ hS' hC' hM')
theorem law_c27 (hS : okSg S) (hC : RC S C) (hM : RM S a f) (h5 : i + 5 ≤ L) (hc : cl ≤ 600000 ∧ sl ≤ 7302250) (k : ∀ S' C' a' f', okSg S' → RC S' C' → RM S' a' f' → ZL g b L xs 47 cl sl i 1052 [] (wB S' C' a' f')) : ZL g b L xs 47 cl sl i 877 [] (wB S C a f) := by
  refine L_x (by decide +kernel : decode code 877 = .ok (.aload_n 1, 1)) ?_
  refine L_arg (pc := 878) (j := 1) (n := 1) ⟨by decide +kernel, by decide +kernel, by decide +kernel, by decide +kernel, by decide +kernel⟩ (by decide) (by omega) ?_
  refine L_arg (pc := 883) (j := 2) (n := 2) ⟨by decide +kernel, by decide +kernel, by decide +kernel, by decide +kernel, by decide +kernel⟩ (by decide) (by omega) ?_
  refine L_arg (pc := 888) (j := 3) (n := 3) ⟨by decide +kernel, by decide +kernel, by decide +kernel, by decide +kernel, by decide +kernel⟩ (by decide) (by omega) ?_
  refine L_call (pc := 893) (me := mX9_sheet) (idx := 126) (n := 3) (ci := 9) (q := 0) (vs := [vi (xs (i + 1)), vi (xs (i + 2)), vi (xs (i + 3))]) (rest := []) (by decide +kernel) (tb3 208 rfl rfl) omX9_sheet (by decide) (wB_0 _ _ _ _) rfl rfl (Nat.le_of_ble_eq_true rfl) hc ?_
  refine both_x (x_sheet hS hC (xs (i + 1)) (xs (i + 2)) (xs (i + 3))) (fun C' hC' hS' => ?_)
  refine L_m (by decide +kernel : decode code 896 = .ok (.aload_n 2, 1)) ?_
  refine L_arg (pc := 897) (j := 1) (n := 1) ⟨by decide +kernel, by decide +kernel, by decide +kernel, by decide +kernel, by decide +kernel⟩ (by decide) (by omega) ?_
  refine L_arg (pc := 902) (j := 2) (n := 2) ⟨by decide +kernel, by decide +kernel, by decide +kernel, by decide +kernel, by decide +kernel⟩ (by decide) (by omega) ?_
  refine L_arg (pc := 907) (j := 3) (n := 3) ⟨by decide +kernel, by decide +kernel, by decide +kernel, by decide +kernel, by decide +kernel⟩ (by decide) (by omega) ?_
  refine L_call (pc := 912) (me := mX10_sheet) (idx := 129) (n := 3) (ci := 10) (q := 36) (vs := [vi (xs (i + 1)), vi (xs (i + 2)), vi (xs (i + 3))]) (rest := [vi (op_sheet S (xs (i + 1)) (xs (i + 2)) (xs (i + 3))).1]) (by decide +kernel) (tb5 128 rfl rfl) omX10_sheet (by decide) (wB_36 _ _ _ _) rfl rfl (Nat.le_of_ble_eq_true rfl) hc ?_
  refine both_m (y_sheet hS hM (xs (i + 1)) (xs (i + 2)) (xs (i + 3))) rfl (fun a' f' hM' => ?_)
  exact L_if (by decide +kernel : decode code 915 = .ok (.if_icmp .eq 137, 3)) (by decide) rfl (k _ _ _ _ hS' hC' hM')
theorem law_c28 (hS : okSg S) (hC : RC S C) (hM : RM S a f) (h5 : i + 5 ≤ L) (hc : cl ≤ 600000 ∧ sl ≤ 7302250) (k : ∀ S' C' a' f', okSg S' → RC S' C' → RM S' a' f' → ZL g b L xs 47 cl sl i 1052 [] (wB S' C' a' f')) : ZL g b L xs 47 cl sl i 920 [] (wB S C a f) := by
  refine L_x (by decide +kernel : decode code 920 = .ok (.aload_n 1, 1)) ?_
  refine L_arg (pc := 921) (j := 1) (n := 1) ⟨by decide +kernel, by decide +kernel, by decide +kernel, by decide +kernel, by decide +kernel⟩ (by decide) (by omega) ?_
  refine L_arg (pc := 926) (j := 2) (n := 2) ⟨by decide +kernel, by decide +kernel, by decide +kernel, by decide +kernel, by decide +kernel⟩ (by decide) (by omega) ?_
  refine L_arg (pc := 931) (j := 3) (n := 3) ⟨by decide +kernel, by decide +kernel, by decide +kernel, by decide +kernel, by decide +kernel⟩ (by decide) (by omega) ?_
  refine L_call (pc := 936) (me := mX9_lay) (idx := 130) (n := 3) (ci := 9) (q := 0) (vs := [vi (xs (i + 1)), vi (xs (i + 2)), vi (xs (i + 3))]) (rest := []) (by decide +kernel) (tb3 222 rfl rfl) omX9_lay (by decide) (wB_0 _ _ _ _) rfl rfl (Nat.le_of_ble_eq_true rfl) hc ?_
  refine both_x (x_lay hS hC (xs (i + 1)) (xs (i + 2)) (xs (i + 3))) (fun C' hC' hS' => ?_)
  refine L_m (by decide +kernel : decode code 939 = .ok (.aload_n 2, 1)) ?_
  refine L_arg (pc := 940) (j := 1) (n := 1) ⟨by decide +kernel, by decide +kernel, by decide +kernel, by decide +kernel, by decide +kernel⟩ (by decide) (by omega) ?_
  refine L_arg (pc := 945) (j := 2) (n := 2) ⟨by decide +kernel, by decide +kernel, by decide +kernel, by decide +kernel, by decide +kernel⟩ (by decide) (by omega) ?_
  refine L_arg (pc := 950) (j := 3) (n := 3) ⟨by decide +kernel, by decide +kernel, by decide +kernel, by decide +kernel, by decide +kernel⟩ (by decide) (by omega) ?_
  refine L_call (pc := 955) (me := mX10_lay) (idx := 133) (n := 3) (ci := 10) (q := 36) (vs := [vi (xs (i + 1)), vi (xs (i + 2)), vi (xs (i + 3))]) (rest := [vi (op_lay S (xs (i + 1)) (xs (i + 2)) (xs (i + 3))).1]) (by decide +kernel) (tb5 135 rfl rfl) omX10_lay (by decide) (wB_36 _ _ _ _) rfl rfl (Nat.le_of_ble_eq_true rfl) hc ?_
  refine both_m (y_lay hS hM (xs (i + 1)) (xs (i + 2)) (xs (i + 3))) rfl (fun a' f' hM' => ?_)
  exact L_if (by decide +kernel : decode code 958 = .ok (.if_icmp .eq 94, 3)) (by decide) rfl (k _ _ _ _ hS' hC' hM')
theorem law_c29 (hS : okSg S) (hC : RC S C) (hM : RM S a f) (h5 : i + 5 ≤ L) (hc : cl ≤ 600000 ∧ sl ≤ 7302250) (k : ∀ S' C' a' f', okSg S' → RC S' C' → RM S' a' f' → ZL g b L xs 47 cl sl i 1052 [] (wB S' C' a' f')) : ZL g b L xs 47 cl sl i 963 [] (wB S C a f) := by
  refine L_x (by decide +kernel : decode code 963 = .ok (.aload_n 1, 1)) ?_
  refine L_arg (pc := 964) (j := 1) (n := 1) ⟨by decide +kernel, by decide +kernel, by decide +kernel, by decide +kernel, by decide +kernel⟩ (by decide) (by omega) ?_
  refine L_arg (pc := 969) (j := 2) (n := 2) ⟨by decide +kernel, by decide +kernel, by decide +kernel, by decide +kernel, by decide +kernel⟩ (by decide) (by omega) ?_
  refine L_arg (pc := 974) (j := 3) (n := 3) ⟨by decide +kernel, by decide +kernel, by decide +kernel, by decide +kernel, by decide +kernel⟩ (by decide) (by omega) ?_
  refine L_arg (pc := 979) (j := 4) (n := 4) ⟨by decide +kernel, by decide +kernel, by decide +kernel, by decide +kernel, by decide +kernel⟩ (by decide) (by omega) ?_
  refine L_call (pc := 984) (me := mX9_run) (idx := 134) (n := 4) (ci := 9) (q := 0) (vs := [vi (xs (i + 1)), vi (xs (i + 2)), vi (xs (i + 3)), vi (xs (i + 4))]) (rest := []) (by decide +kernel) (tb3 234 rfl rfl) omX9_run (by decide) (wB_0 _ _ _ _) rfl rfl (Nat.le_of_ble_eq_true rfl) hc ?_
  refine both_x (x_run hS hC (xs (i + 1)) (xs (i + 2)) (xs (i + 3)) (xs (i + 4))) (fun C' hC' hS' => ?_)
  refine L_m (by decide +kernel : decode code 987 = .ok (.aload_n 2, 1)) ?_
  refine L_arg (pc := 988) (j := 1) (n := 1) ⟨by decide +kernel, by decide +kernel, by decide +kernel, by decide +kernel, by decide +kernel⟩ (by decide) (by omega) ?_
  refine L_arg (pc := 993) (j := 2) (n := 2) ⟨by decide +kernel, by decide +kernel, by decide +kernel, by decide +kernel, by decide +kernel⟩ (by decide) (by omega) ?_
  refine L_arg (pc := 998) (j := 3) (n := 3) ⟨by decide +kernel, by decide +kernel, by decide +kernel, by decide +kernel, by decide +kernel⟩ (by decide) (by omega) ?_
  refine L_arg (pc := 1003) (j := 4) (n := 4) ⟨by decide +kernel, by decide +kernel, by decide +kernel, by decide +kernel, by decide +kernel⟩ (by decide) (by omega) ?_
  refine L_call (pc := 1008) (me := mX10_run) (idx := 137) (n := 4) (ci := 10) (q := 36) (vs := [vi (xs (i + 1)), vi (xs (i + 2)), vi (xs (i + 3)), vi (xs (i + 4))]) (rest := [vi (op_run S (xs (i + 1)) (xs (i + 2)) (xs (i + 3)) (xs (i + 4))).1]) (by decide +kernel) (tb5 139 rfl rfl) omX10_run (by decide) (wB_36 _ _ _ _) rfl rfl (Nat.le_of_ble_eq_true rfl) hc ?_
  refine both_m (y_run hS hM (xs (i + 1)) (xs (i + 2)) (xs (i + 3)) (xs (i + 4))) rfl (fun a' f' hM' => ?_)
  exact L_if (by decide +kernel : decode code 1011 = .ok (.if_icmp .eq 41, 3)) (by decide) rfl (k _ _ _ _ hS' hC' hM')
theorem law_c30 (hS : okSg S) (hC : RC S C) (hM : RM S a f) (h5 : i + 5 ≤ L) (hc : cl ≤ 600000 ∧ sl ≤ 7302250) (k : ∀ S' C' a' f', okSg S' → RC S' C' → RM S' a' f' → ZL g b L xs 47 cl sl i 1052 [] (wB S' C' a' f')) : ZL g b L xs 47 cl sl i 1016 [] (wB S C a f) := by
  refine L_x (by decide +kernel : decode code 1016 = .ok (.aload_n 1, 1)) ?_
  refine L_call (pc := 1017) (me := mX9_torn) (idx := 138) (n := 0) (ci := 9) (q := 0) (vs := []) (rest := []) (by decide +kernel) (tb3 239 rfl rfl) omX9_torn (by decide) (wB_0 _ _ _ _) rfl rfl (Nat.le_of_ble_eq_true rfl) hc ?_
  refine both_x (x_torn hS hC) (fun C' hC' hS' => ?_)
  refine L_m (by decide +kernel : decode code 1020 = .ok (.aload_n 2, 1)) ?_
  refine L_call (pc := 1021) (me := mX10_torn) (idx := 141) (n := 0) (ci := 10) (q := 36) (vs := []) (rest := [vi (op_torn S).1]) (by decide +kernel) (tb5 145 rfl rfl) omX10_torn (by decide) (wB_36 _ _ _ _) rfl rfl (Nat.le_of_ble_eq_true rfl) hc ?_
  refine both_m (y_torn hM) rfl (fun a' f' hM' => ?_)
  exact L_if (by decide +kernel : decode code 1024 = .ok (.if_icmp .eq 28, 3)) (by decide) rfl (k _ _ _ _ hS' hC' hM')
theorem law_c31 (hS : okSg S) (hC : RC S C) (hM : RM S a f) (h5 : i + 5 ≤ L) (hc : cl ≤ 600000 ∧ sl ≤ 7302250) (k : ∀ S' C' a' f', okSg S' → RC S' C' → RM S' a' f' → ZL g b L xs 47 cl sl i 1052 [] (wB S' C' a' f')) : ZL g b L xs 47 cl sl i 1029 [] (wB S C a f) := by
  refine L_x (by decide +kernel : decode code 1029 = .ok (.aload_n 1, 1)) ?_
  refine L_arg (pc := 1030) (j := 1) (n := 1) ⟨by decide +kernel, by decide +kernel, by decide +kernel, by decide +kernel, by decide +kernel⟩ (by decide) (by omega) ?_
  refine L_call (pc := 1035) (me := mX9_count) (idx := 142) (n := 1) (ci := 9) (q := 0) (vs := [vi (xs (i + 1))]) (rest := []) (by decide +kernel) (tb4 3 rfl rfl) omX9_count (by decide) (wB_0 _ _ _ _) rfl rfl (Nat.le_of_ble_eq_true rfl) hc ?_
  refine both_x (x_count hS hC (xs (i + 1))) (fun C' hC' hS' => ?_)
  refine L_m (by decide +kernel : decode code 1038 = .ok (.aload_n 2, 1)) ?_
  refine L_arg (pc := 1039) (j := 1) (n := 1) ⟨by decide +kernel, by decide +kernel, by decide +kernel, by decide +kernel, by decide +kernel⟩ (by decide) (by omega) ?_
  refine L_call (pc := 1044) (me := mX10_count) (idx := 145) (n := 1) (ci := 10) (q := 36) (vs := [vi (xs (i + 1))]) (rest := [vi (op_count S (xs (i + 1))).1]) (by decide +kernel) (tb5 149 rfl rfl) omX10_count (by decide) (wB_36 _ _ _ _) rfl rfl (Nat.le_of_ble_eq_true rfl) hc ?_
  refine both_m (y_count hS hM (xs (i + 1))) rfl (fun a' f' hM' => ?_)
  exact L_if (by decide +kernel : decode code 1047 = .ok (.if_icmp .eq 5, 3)) (by decide) rfl (k _ _ _ _ hS' hC' hM')
end CAS
