/-! the loop of the law -/
theorem law_loop {g : GG} {b L : Nat} {xs : Nat → Int32} {cl sl : Nat} (hc : cl ≤ 600000 ∧ sl ≤ 7302250) : ∀ (q i : Nat) (S : Sg) (C : Ca) (a : Nat → Nat → Int32) (f : Nat → Int32), i ≤ 2560 → 2560 < i + 5 * q → okSg S → RC S C → RM S a f → L ≤ 2560 → ZL g b L xs 47 cl sl i 18 [] (wB S C a f) := by
  intro q
  induction q with
  | zero => intro i S C a f h1 h2; omega
  | succ q ih =>
    intro i S C a f h1 h2 hS hC hM hL
    refine L_head h1 hc (fun h5 => L_sw h5 (fun t j hj ho => ?_))
    have k : ∀ S' C' a' f', okSg S' → RC S' C' → RM S' a' f' → ZL g b L xs 47 cl sl i 1052 [] (wB S' C' a' f') := fun S' C' a' f' hS' hC' hM' => L_next (ih (i + 5) S' C' a' f' (by omega) (by omega) hS' hC' hM' hL)
    rcases (show j = 0 ∨ j = 1 ∨ j = 2 ∨ j = 3 ∨ j = 4 ∨ j = 5 ∨ j = 6 ∨ j = 7 ∨ j = 8 ∨ j = 9 ∨ j = 10 ∨ j = 11 ∨ j = 12 ∨ j = 13 ∨ j = 14 ∨ j = 15 ∨ j = 16 ∨ j = 17 ∨ j = 18 ∨ j = 19 ∨ j = 20 ∨ j = 21 ∨ j = 22 ∨ j = 23 ∨ j = 24 ∨ j = 25 ∨ j = 26 ∨ j = 27 ∨ j = 28 ∨ j = 29 ∨ j = 30 ∨ j = 31 by omega) with rfl | rfl | rfl | rfl | rfl | rfl | rfl | rfl | rfl | rfl | rfl | rfl | rfl | rfl | rfl | rfl | rfl | rfl | rfl | rfl | rfl | rfl | rfl | rfl | rfl | rfl | rfl | rfl | rfl | rfl | rfl | rfl
    · obtain rfl : t = 176 := by have h9 : (144 : Int) = (t : Int) - 32 := Option.some.inj ho; omega
      exact law_c0 hS hC hM h5 hc k
    · obtain rfl : t = 199 := by have h9 : (167 : Int) = (t : Int) - 32 := Option.some.inj ho; omega
      exact law_c1 hS hC hM h5 hc k
    · obtain rfl : t = 222 := by have h9 : (190 : Int) = (t : Int) - 32 := Option.some.inj ho; omega
      exact law_c2 hS hC hM h5 hc k
    · obtain rfl : t = 235 := by have h9 : (203 : Int) = (t : Int) - 32 := Option.some.inj ho; omega
      exact law_c3 hS hC hM h5 hc k
    · obtain rfl : t = 248 := by have h9 : (216 : Int) = (t : Int) - 32 := Option.some.inj ho; omega
      exact law_c4 hS hC hM h5 hc k
    · obtain rfl : t = 271 := by have h9 : (239 : Int) = (t : Int) - 32 := Option.some.inj ho; omega
      exact law_c5 hS hC hM h5 hc k
    · obtain rfl : t = 304 := by have h9 : (272 : Int) = (t : Int) - 32 := Option.some.inj ho; omega
      exact law_c6 hS hC hM h5 hc k
    · obtain rfl : t = 337 := by have h9 : (305 : Int) = (t : Int) - 32 := Option.some.inj ho; omega
      exact law_c7 hS hC hM h5 hc k
    · obtain rfl : t = 370 := by have h9 : (338 : Int) = (t : Int) - 32 := Option.some.inj ho; omega
      exact law_c8 hS hC hM h5 hc k
    · obtain rfl : t = 403 := by have h9 : (371 : Int) = (t : Int) - 32 := Option.some.inj ho; omega
      exact law_c9 hS hC hM h5 hc k
    · obtain rfl : t = 436 := by have h9 : (404 : Int) = (t : Int) - 32 := Option.some.inj ho; omega
      exact law_c10 hS hC hM h5 hc k
    · obtain rfl : t = 459 := by have h9 : (427 : Int) = (t : Int) - 32 := Option.some.inj ho; omega
      exact law_c11 hS hC hM h5 hc k
    · obtain rfl : t = 472 := by have h9 : (440 : Int) = (t : Int) - 32 := Option.some.inj ho; omega
      exact law_c12 hS hC hM h5 hc k
    · obtain rfl : t = 485 := by have h9 : (453 : Int) = (t : Int) - 32 := Option.some.inj ho; omega
      exact law_c13 hS hC hM h5 hc k
    · obtain rfl : t = 508 := by have h9 : (476 : Int) = (t : Int) - 32 := Option.some.inj ho; omega
      exact law_c14 hS hC hM h5 hc k
    · obtain rfl : t = 521 := by have h9 : (489 : Int) = (t : Int) - 32 := Option.some.inj ho; omega
      exact law_c15 hS hC hM h5 hc k
    · obtain rfl : t = 544 := by have h9 : (512 : Int) = (t : Int) - 32 := Option.some.inj ho; omega
      exact law_c16 hS hC hM h5 hc k
    · obtain rfl : t = 567 := by have h9 : (535 : Int) = (t : Int) - 32 := Option.some.inj ho; omega
      exact law_c17 hS hC hM h5 hc k
    · obtain rfl : t = 590 := by have h9 : (558 : Int) = (t : Int) - 32 := Option.some.inj ho; omega
      exact law_c18 hS hC hM h5 hc k
    · obtain rfl : t = 613 := by have h9 : (581 : Int) = (t : Int) - 32 := Option.some.inj ho; omega
      exact law_c19 hS hC hM h5 hc k
    · obtain rfl : t = 656 := by have h9 : (624 : Int) = (t : Int) - 32 := Option.some.inj ho; omega
      exact law_c20 hS hC hM h5 hc k
    · obtain rfl : t = 689 := by have h9 : (657 : Int) = (t : Int) - 32 := Option.some.inj ho; omega
      exact law_c21 hS hC hM h5 hc k
    · obtain rfl : t = 722 := by have h9 : (690 : Int) = (t : Int) - 32 := Option.some.inj ho; omega
      exact law_c22 hS hC hM h5 hc k
    · obtain rfl : t = 755 := by have h9 : (723 : Int) = (t : Int) - 32 := Option.some.inj ho; omega
      exact law_c23 hS hC hM h5 hc k
    · obtain rfl : t = 778 := by have h9 : (746 : Int) = (t : Int) - 32 := Option.some.inj ho; omega
      exact law_c24 hS hC hM h5 hc k
    · obtain rfl : t = 831 := by have h9 : (799 : Int) = (t : Int) - 32 := Option.some.inj ho; omega
      exact law_c25 hS hC hM h5 hc k
    · obtain rfl : t = 854 := by have h9 : (822 : Int) = (t : Int) - 32 := Option.some.inj ho; omega
      exact law_c26 hS hC hM h5 hc k
    · obtain rfl : t = 877 := by have h9 : (845 : Int) = (t : Int) - 32 := Option.some.inj ho; omega
      exact law_c27 hS hC hM h5 hc k
    · obtain rfl : t = 920 := by have h9 : (888 : Int) = (t : Int) - 32 := Option.some.inj ho; omega
      exact law_c28 hS hC hM h5 hc k
    · obtain rfl : t = 963 := by have h9 : (931 : Int) = (t : Int) - 32 := Option.some.inj ho; omega
      exact law_c29 hS hC hM h5 hc k
    · obtain rfl : t = 1016 := by have h9 : (984 : Int) = (t : Int) - 32 := Option.some.inj ho; omega
      exact law_c30 hS hC hM h5 hc k
    · obtain rfl : t = 1029 := by have h9 : (997 : Int) = (t : Int) - 32 := Option.some.inj ho; omega
      exact law_c31 hS hC hM h5 hc k
