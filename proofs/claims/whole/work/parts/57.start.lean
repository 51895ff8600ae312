/-! what holds at the law's entry -/
theorem tl1 {w : Cond} (i : Nat) (h : tables_1_1[i]? = some w) : w ∈ lw_tbl := List.mem_append_right _ (List.mem_append_left _ (List.mem_of_getElem? h))
theorem tl2 {w : Cond} (i : Nat) (h : tables_1_2[i]? = some w) : w ∈ lw_tbl := List.mem_append_right _ (List.mem_append_right _ (List.mem_append_left _ (List.mem_of_getElem? h)))
theorem tl3 {w : Cond} (i : Nat) (h : tables_1_3[i]? = some w) : w ∈ lw_tbl := List.mem_append_right _ (List.mem_append_right _ (List.mem_append_right _ (List.mem_append_left _ (List.mem_of_getElem? h))))
theorem tl4 {w : Cond} (i : Nat) (h : tables_1_4[i]? = some w) : w ∈ lw_tbl := List.mem_append_right _ (List.mem_append_right _ (List.mem_append_right _ (List.mem_append_right _ (List.mem_append_left _ (List.mem_of_getElem? h)))))
theorem tl5 {w : Cond} (i : Nat) (h : tables_1_5[i]? = some w) : w ∈ lw_tbl := List.mem_append_right _ (List.mem_append_right _ (List.mem_append_right _ (List.mem_append_right _ (List.mem_append_right _ (List.mem_of_getElem? h)))))
theorem arr_of {args : Array Value} {s : State} {ty : FieldType} (h : (Cond.arrayClass ty).before args s = true) : ∃ cA : ClassId, ArrOfT s cA ty ∧ s.vm.findClass ("[" ++ ty.toString) = some cA := by
  obtain ⟨cA, kA, comp, h1, h2, h3⟩ := Cond.arrayClass_spec (args := args) (first := s) (o := none) (s := s) (idx := []) h
  exact ⟨cA, fun n z => ⟨fun k h => (by cases h), kA, h2, comp, h3⟩, h1⟩
theorem K_of {b : Nat} {s : State} (hts : ∀ w ∈ lw_tbl, w.before #[Value.ref b] s = true) : ∃ (D : va_G) (cI cZ : ClassId), va_K D vwCl (tyV cI cZ) s := by
  obtain ⟨c0, i0, k0⟩ := u_known (C := RX0) (T := TX0) (N := 1) (n := 1) hts (fun w hw => wsG_in (inG0 w hw)) (hts _ (tl1 144 rfl))
  obtain ⟨c1, i1, k1⟩ := u_known (C := RX1) (T := TX1) (N := 3) (n := 3) hts (fun w hw => wsG_in (inG1 w hw)) (hts _ (tl1 158 rfl))
  obtain ⟨c2, i2, k2⟩ := u_known (C := RX2) (T := TX2) (N := 4) (n := 4) hts (fun w hw => wsG_in (inG2 w hw)) (hts _ (tl1 26 rfl))
  obtain ⟨c3, i3, k3⟩ := u_known (C := RX3) (T := TX3) (N := 5) (n := 5) hts (fun w hw => wsG_in (inG3 w hw)) (hts _ (tl1 85 rfl))
  obtain ⟨c4, i4, k4⟩ := u_known (C := RX4) (T := TX4) (N := 3) (n := 3) hts (fun w hw => wsG_in (inG4 w hw)) (hts _ (tl1 180 rfl))
  obtain ⟨c5, i5, k5⟩ := u_known (C := RX5) (T := TX5) (N := 3) (n := 3) hts (fun w hw => wsG_in (inG5 w hw)) (hts _ (tl1 126 rfl))
  obtain ⟨c6, i6, k6⟩ := u_known (C := RX6) (T := TX6) (N := 2) (n := 2) hts (fun w hw => wsG_in (inG6 w hw)) (hts _ (tl1 55 rfl))
  obtain ⟨c7, i7, k7⟩ := u_known (C := RX7) (T := TX7) (N := 2) (n := 2) hts (fun w hw => wsG_in (inG7 w hw)) (hts _ (tl1 69 rfl))
  obtain ⟨c8, i8, k8⟩ := u_known (C := RX8) (T := TX8) (N := 2) (n := 2) hts (fun w hw => wsG_in (inG8 w hw)) (hts _ (tl1 111 rfl))
  obtain ⟨c9, i9, k9⟩ := u_known (C := RX9) (T := TX9) (N := 11) (n := 11) hts (fun w hw => wsG_in (inG9 w hw)) (hts _ (tl1 18 rfl))
  obtain ⟨c10, i10, k10⟩ := u_known (C := RX10) (T := TX10) (N := 20) (n := 20) hts (fun w hw => wsG_in (inG10 w hw)) (hts _ (tl4 12 rfl))
  obtain ⟨cI, hI1, hI2⟩ := arr_of (hts _ (tl1 53 rfl))
  obtain ⟨cZ, hZ1, hZ2⟩ := arr_of (hts _ (tl4 78 rfl))
  refine ⟨((fun k => [c0, c1, c2, c3, c4, c5, c6, c7, c8, c9, c10].getD k c0), (fun k => [i0, i1, i2, i3, i4, i5, i6, i7, i8, i9, i10].getD k i0)), cI, cZ, fun k q hq => ?_, fun k q hq => ?_⟩
  · match k, hq with
    | 0, hq => have e : (RX0, TX0, 1) = q := Option.some.inj hq; subst e; exact k0
    | 1, hq => have e : (RX1, TX1, 3) = q := Option.some.inj hq; subst e; exact k1
    | 2, hq => have e : (RX2, TX2, 4) = q := Option.some.inj hq; subst e; exact k2
    | 3, hq => have e : (RX3, TX3, 5) = q := Option.some.inj hq; subst e; exact k3
    | 4, hq => have e : (RX4, TX4, 3) = q := Option.some.inj hq; subst e; exact k4
    | 5, hq => have e : (RX5, TX5, 3) = q := Option.some.inj hq; subst e; exact k5
    | 6, hq => have e : (RX6, TX6, 2) = q := Option.some.inj hq; subst e; exact k6
    | 7, hq => have e : (RX7, TX7, 2) = q := Option.some.inj hq; subst e; exact k7
    | 8, hq => have e : (RX8, TX8, 2) = q := Option.some.inj hq; subst e; exact k8
    | 9, hq => have e : (RX9, TX9, 11) = q := Option.some.inj hq; subst e; exact k9
    | 10, hq => have e : (RX10, TX10, 20) = q := Option.some.inj hq; subst e; exact k10
    | k + 11, hq => simp at hq
  · match k, hq with
    | 0, hq => have e : (cI, FieldType.int) = q := Option.some.inj hq; subst e; exact ⟨hI1, hI2⟩
    | 1, hq => have e : (cZ, FieldType.boolean) = q := Option.some.inj hq; subst e; exact ⟨hZ1, hZ2⟩
    | k + 2, hq => simp [tyV] at hq
theorem Nx_of {b : Nat} {s : State} (hts : ∀ w ∈ lw_tbl, w.before #[Value.ref b] s = true) : Nx s := ⟨List.forall_mem_cons.mpr ⟨va_Nw.of rfl (hts _ (tl1 91 rfl)), List.forall_mem_cons.mpr ⟨va_Nw.of rfl (hts _ (tl1 164 rfl)), List.forall_mem_cons.mpr ⟨va_Nw.of rfl (hts _ (tl1 166 rfl)), List.forall_mem_cons.mpr ⟨va_Nw.of rfl (hts _ (tl1 27 rfl)), List.forall_mem_cons.mpr ⟨va_Nw.of rfl (hts _ (tl1 56 rfl)), List.forall_mem_cons.mpr ⟨va_Nw.of rfl (hts _ (tl1 70 rfl)), List.forall_mem_cons.mpr ⟨va_Nw.of rfl (hts _ (tl1 86 rfl)), List.forall_mem_cons.mpr ⟨va_Nw.of rfl (hts _ (tl1 112 rfl)), List.forall_mem_cons.mpr ⟨va_Nw.of rfl (hts _ (tl1 127 rfl)), List.forall_mem_cons.mpr ⟨va_Nw.of rfl (hts _ (tl1 145 rfl)), List.forall_mem_cons.mpr ⟨va_Nw.of rfl (hts _ (tl1 159 rfl)), List.forall_mem_cons.mpr ⟨va_Nw.of rfl (hts _ (tl1 181 rfl)), fun _ h => absurd h List.not_mem_nil⟩⟩⟩⟩⟩⟩⟩⟩⟩⟩⟩⟩, va_AO.of (hts _ (tl1 155 rfl)), va_AO.of (hts _ (tl1 157 rfl))⟩
theorem Sx_of {b : Nat} {s : State} (hts : ∀ w ∈ lw_tbl, w.before #[Value.ref b] s = true) (hgv : (Jvm.Cond.and given_1 narrow_1).before #[Value.ref b] s = true) : ∃ adK adV : Nat → Nat, ∀ (l : Launch) (D : va_G) (tc : Nat → ClassId), Sx (l, D, tc, adK, adV) (fun q => s.heap.size ≤ q) s := by
  have hs := flat_of_before _ hgv
  have hA : ∀ a : Nat, a < s.heap.size → ¬ (fun q => s.heap.size ≤ q) a := fun a h => Nat.not_le.mpr h
  obtain ⟨adK, adV, hS, hE⟩ := vk_Sof (args := #[Value.ref b]) (s := s) (N := 2) (tm := fun i => Term.string RX3 (if i = 0 then 60 else 69)) (len := [3, 3]) (byt := [[114, 111, 119], [102, 114, 111]]) (A := fun q => s.heap.size ≤ q)
    (fun i hi => by rcases (show i = 0 ∨ i = 1 by omega) with rfl | rfl <;> decide)
    (fun i hi => by rcases (show i = 0 ∨ i = 1 by omega) with rfl | rfl <;> exact hs _ (by decide +kernel))
    (fun i hi => by rcases (show i = 0 ∨ i = 1 by omega) with rfl | rfl <;> exact hs _ (by decide +kernel))
    (fun i hi => by rcases (show i = 0 ∨ i = 1 by omega) with rfl | rfl <;> exact hs _ (by decide +kernel))
    (fun i hi => by rcases (show i = 0 ∨ i = 1 by omega) with rfl | rfl <;> exact hs _ (by decide +kernel))
    (fun i hi j hj => by
      have h3 : j < 3 := by
        rcases (show i = 0 ∨ i = 1 by omega) with rfl | rfl <;> exact hj
      rcases (show i = 0 ∨ i = 1 by omega) with rfl | rfl <;> rcases (show j = 0 ∨ j = 1 ∨ j = 2 by omega) with rfl | rfl | rfl <;> exact hs _ (by decide +kernel))
    (fun i j hi hj hij => by
      rcases (show (i = 0 ∧ j = 1) ∨ (i = 1 ∧ j = 0) by omega) with ⟨rfl, rfl⟩ | ⟨rfl, rfl⟩
      · exact Or.inl (hs _ (by decide +kernel))
      · exact Or.inr (hs _ (by decide +kernel))) hA
  exact ⟨adK, adV, fun l D tc => ⟨⟨va_Nw.of rfl (hts _ (tl2 93 rfl)), va_Nw.of rfl (hts _ (tl3 57 rfl))⟩, ⟨vk_R.of (hts _ (tl2 32 rfl)) (hE 0 (by decide)), vk_R.of (hts _ (tl2 108 rfl)) (hE 1 (by decide))⟩, hS, va_Zof (hts _ (tl2 46 rfl)) (hts _ (tl1 12 rfl)) (va_eqt (hs _ (by decide +kernel))) hA, va_Zqof (hts _ (tl2 62 rfl)) (hts _ (tl1 14 rfl)) (hs _ (by decide +kernel)) hA⟩⟩
theorem no_lt {P : Prop} {j : Nat} (h : j < 0) : P := absurd h (Nat.not_lt_zero j)
theorem okP0 : okP P0 := ⟨Nat.zero_le _, Nat.zero_le _, Nat.zero_le _, fun _ => rfl, fun h => absurd rfl h⟩
theorem okTh0 : okTh P0 (0, fun _ => 0) := ⟨Nat.zero_le _, fun _ h => no_lt h⟩
theorem okS0 : okSg S0 := ⟨okP0, okTh0, ⟨Nat.zero_le _, fun _ h => no_lt h⟩, ⟨Nat.zero_le _, fun _ h => no_lt h⟩, fun _ _ => ⟨okP0, okTh0⟩, fun _ _ => ⟨Nat.zero_le _, Or.inl rfl⟩, Nat.zero_le _, Nat.zero_le _⟩
theorem RC0 : RC S0 C0 := ⟨fun _ _ h => no_lt h, fun _ h => no_lt h, rfl, fun _ h => no_lt h, fun _ _ => ⟨fun _ _ h => no_lt h, fun _ h => no_lt h⟩, fun _ _ _ _ => rfl⟩
theorem HT0 {s : Nat → Int32} (h : ∀ i, s i = 0) : HT s P0 (0, fun _ => 0) := ⟨⟨h 0, fun h => absurd rfl h, h 2, fun _ _ h => no_lt h⟩, h 3, fun _ h => no_lt h⟩
theorem RM0 : RM S0 a0 f0 := ⟨HT0 (fun _ => rfl), fun _ _ => ⟨rfl, HT0 (fun _ => rfl)⟩, ⟨rfl, rfl⟩, ⟨rfl, fun _ h => no_lt h⟩, fun k hk => ⟨by rcases (show k = 0 ∨ k = 1 ∨ k = 2 ∨ k = 3 by omega) with rfl | rfl | rfl | rfl <;> rfl, rfl, fun _ _ => rfl⟩, rfl, rfl⟩
/-- where all cells lie, and the String constants -/
def adW (u v sa : Nat → Nat) : Nat → Nat := fun k => if k < 36 then u k else if k < 47 then v (k - 36) else sa (k - 1000)
theorem adW_eq {u v sa : Nat → Nat} {tc : Nat → ClassId} : ((wmF u tc 0 (cW S0 C0) ++ wmF v tc 0 (mW a0 f0)).set 16 (u 16, .inl (tc 2, 2, .inr (.inr (.inr (.inr (fun i => some (adW u v sa (imA i))))))))).set 17 (u 17, .inl (tc 3, 4, .inr (.inr (.inr (.inr (fun i => some (adW u v sa (shA i)))))))) = wmF (adW u v sa) tc 0 (wB S0 C0 a0 f0) := rfl
