/-! the walk over abstract states: one row an instruction -/
def Cx (g : GG) (M : ME) (N : Nat) (ad : Nat → Nat) (p : Program) (s : State) (m : MethodId) (args : Array Value) (meth : Method) (c : Code) : Prop :=
  p.tables.exec = Jvm.exec ∧ c.code = M.2.1 ∧ meth.sig.returnType = M.2.2.2.1 ∧ c.maxLocals = M.2.2.1 ∧ s.vm.findClass M.1.cls = some m.cls ∧ (∀ w ∈ wsG, w.before args s = true) ∧ meth.locks = false ∧
  va_K g.2.1 vwCl (tyG g.2.2.1) s ∧ Sx g (AA ad N s.heap.size) s ∧ inj ad N ∧ okS g ad
/-- from the frame at pc, with these locals, this stack, this world, the method comes to an end of which Q holds -/
def Z (g : GG) (M : ME) (N : Nat) (Q : Option AV → AH → Prop) (pc : Nat) (lv : List (Option AV)) (st : List AV) (A : AH) : Prop :=
  ∀ (ad : Nat → Nat) (p : Program) (e : Env) (s : State) (m : MethodId) (args : Array Value) (below : List Frame) (meth : Method) (c : Code), Cx g M N ad p s m args meth c →
    ∀ (H : Heap) (locs : List Loc) (ls : Array Slot), va_P g.2.1 vwCl (wm ad g.2.2.1 A) H → va_S (AA ad N s.heap.size) s.heap H locs → A.length = N → LV ad ls M.2.2.1 lv →
      W p g.1 e (rmL M.2.2.2.2) s m args below meth c H locs 0 0 (MQ below (QcE g ad N Q) args s 0 0 (AA ad N s.heap.size)) (F0 m pc ls (st.map (cv ad)))
theorem AA_D {ad : Nat → Nat} {N sz : Nat} {tc : Nat → ClassId} {A : AH} (hi : inj ad N) (hN : A.length = N) : va_D (AA ad N sz) (wm ad tc A) := by
  refine ⟨fun i j p q hp hq h => ?_, fun k q hq => ?_⟩
  · obtain ⟨c1, h1, rfl⟩ := wm_of hp
    obtain ⟨c2, h2, rfl⟩ := wm_of hq
    exact hi i j (hN ▸ (List.getElem?_eq_some_iff.mp h1).1) (hN ▸ (List.getElem?_eq_some_iff.mp h2).1) h
  · obtain ⟨c1, h1, rfl⟩ := wm_of hq
    exact Or.inl ⟨k, hN ▸ (List.getElem?_eq_some_iff.mp h1).1, rfl⟩
section ZR
variable {g : GG} {M : ME} {N : Nat} {Q : Option AV → AH → Prop} {pc : Nat} {lv : List (Option AV)} {st : List AV} {A : AH}
theorem Z_iconst {n : Int} {x : Int32} (hd : decode M.2.1 pc = .ok (.iconst n, 1)) (hv : Int32.ofInt n = x) (k : Z g M N Q (pc + 1) lv (vi x :: st) A) : Z g M N Q pc lv st A := by
  intro ad p e s m args below meth c C H locs ls hP hS hN hl
  exact lv_iconst C.1 C.2.1 hd hv (k ad p e s m args below meth c C H locs ls hP hS hN hl)
theorem Z_bipush {n : Int} {x : Int32} (hd : decode M.2.1 pc = .ok (.bipush n, 2)) (hv : (Int8.ofInt n).toInt32 = x) (k : Z g M N Q (pc + 2) lv (vi x :: st) A) : Z g M N Q pc lv st A := by
  intro ad p e s m args below meth c C H locs ls hP hS hN hl
  exact lv_bipush C.1 C.2.1 hd hv (k ad p e s m args below meth c C H locs ls hP hS hN hl)
theorem Z_sipush {n : Int} {x : Int32} (hd : decode M.2.1 pc = .ok (.sipush n, 3)) (hv : (Int16.ofInt n).toInt32 = x) (k : Z g M N Q (pc + 3) lv (vi x :: st) A) : Z g M N Q pc lv st A := by
  intro ad p e s m args below meth c C H locs ls hP hS hN hl
  exact lv_sipush C.1 C.2.1 hd hv (k ad p e s m args below meth c C H locs ls hP hS hN hl)
theorem Z_lconst {n : Fin 2} {x : Int64} (hd : decode M.2.1 pc = .ok (.lconst n, 1)) (hv : Int64.ofNat (n : Nat) = x) (k : Z g M N Q (pc + 1) lv (vl x :: st) A) : Z g M N Q pc lv st A := by
  intro ad p e s m args below meth c C H locs ls hP hS hN hl
  exact lv_lconst C.1 C.2.1 hd hv (k ad p e s m args below meth c C H locs ls hP hS hN hl)
theorem Z_ldc {i : Nat} {x : Int32} (hd : decode M.2.1 pc = .ok (.ldc i, 2)) (hw : Cond.constant M.1.cls i x ∈ wsG) (k : Z g M N Q (pc + 2) lv (vi x :: st) A) : Z g M N Q pc lv st A := by
  intro ad p e s m args below meth c C H locs ls hP hS hN hl
  exact lv_ldc C.1 C.2.1 C.2.2.2.2.1 (C.2.2.2.2.2.1 _ hw) hd (k ad p e s m args below meth c C H locs ls hP hS hN hl)
theorem Z_ldc2 {i : Nat} {x : Int64} (hd : decode M.2.1 pc = .ok (.ldc2_w i, 3)) (hw : Cond.constantLong M.1.cls i x ∈ wsG) (k : Z g M N Q (pc + 3) lv (vl x :: st) A) : Z g M N Q pc lv st A := by
  intro ad p e s m args below meth c C H locs ls hP hS hN hl
  exact lv_ldc2 C.1 C.2.1 C.2.2.2.2.1 (C.2.2.2.2.2.1 _ hw) hd (k ad p e s m args below meth c C H locs ls hP hS hN hl)
theorem Z_iload_n {n : Fin 4} {x : Int32} (hd : decode M.2.1 pc = .ok (.iload_n n, 1)) (hv : lv[(n : Nat)]? = some (some (vi x))) (k : Z g M N Q (pc + 1) lv (vi x :: st) A) : Z g M N Q pc lv st A := by
  intro ad p e s m args below meth c C H locs ls hP hS hN hl
  exact lv_iload_n C.1 C.2.1 hd rfl (hl.at hv) (k ad p e s m args below meth c C H locs ls hP hS hN hl)
theorem Z_iload {n : Nat} {x : Int32} (hd : decode M.2.1 pc = .ok (.iload n, 2)) (hv : lv[n]? = some (some (vi x))) (k : Z g M N Q (pc + 2) lv (vi x :: st) A) : Z g M N Q pc lv st A := by
  intro ad p e s m args below meth c C H locs ls hP hS hN hl
  exact lv_iload C.1 C.2.1 hd (hl.at hv) (k ad p e s m args below meth c C H locs ls hP hS hN hl)
theorem Z_lload_n {n : Fin 4} {x : Int64} (hd : decode M.2.1 pc = .ok (.lload_n n, 1)) (hv : lv[(n : Nat)]? = some (some (vl x))) (k : Z g M N Q (pc + 1) lv (vl x :: st) A) : Z g M N Q pc lv st A := by
  intro ad p e s m args below meth c C H locs ls hP hS hN hl
  exact lv_lload_n C.1 C.2.1 hd rfl (hl.at hv) (k ad p e s m args below meth c C H locs ls hP hS hN hl)
theorem Z_lload {n : Nat} {x : Int64} (hd : decode M.2.1 pc = .ok (.lload n, 2)) (hv : lv[n]? = some (some (vl x))) (k : Z g M N Q (pc + 2) lv (vl x :: st) A) : Z g M N Q pc lv st A := by
  intro ad p e s m args below meth c C H locs ls hP hS hN hl
  exact lv_lload C.1 C.2.1 hd (hl.at hv) (k ad p e s m args below meth c C H locs ls hP hS hN hl)
theorem Z_aload_n {n : Fin 4} {x : Nat} (hd : decode M.2.1 pc = .ok (.aload_n n, 1)) (hv : lv[(n : Nat)]? = some (some (vr x))) (k : Z g M N Q (pc + 1) lv (vr x :: st) A) : Z g M N Q pc lv st A := by
  intro ad p e s m args below meth c C H locs ls hP hS hN hl
  exact lv_aload_n C.1 C.2.1 hd rfl (hl.at hv) (k ad p e s m args below meth c C H locs ls hP hS hN hl)
theorem Z_aload {n : Nat} {x : Nat} (hd : decode M.2.1 pc = .ok (.aload n, 2)) (hv : lv[n]? = some (some (vr x))) (k : Z g M N Q (pc + 2) lv (vr x :: st) A) : Z g M N Q pc lv st A := by
  intro ad p e s m args below meth c C H locs ls hP hS hN hl
  exact lv_aload C.1 C.2.1 hd (hl.at hv) (k ad p e s m args below meth c C H locs ls hP hS hN hl)
theorem Z_istore_n {n : Fin 4} {x : Int32} (hd : decode M.2.1 pc = .ok (.istore_n n, 1)) (hn : (n : Nat) < M.2.2.1) (hok : okSt lv n = true) (k : Z g M N Q (pc + 1) (lv.set n (some (vi x))) st A) : Z g M N Q pc lv (vi x :: st) A := by
  intro ad p e s m args below meth c C H locs ls hP hS hN hl
  exact lv_istore_n C.1 C.2.1 hd rfl hl.has hn rfl (fun ls' h' => k ad p e s m args below meth c C H locs ls' hP hS hN (LV.set1 hok h'))
theorem Z_istore {n : Nat} {x : Int32} (hd : decode M.2.1 pc = .ok (.istore n, 2)) (hn : n < M.2.2.1) (hok : okSt lv n = true) (k : Z g M N Q (pc + 2) (lv.set n (some (vi x))) st A) : Z g M N Q pc lv (vi x :: st) A := by
  intro ad p e s m args below meth c C H locs ls hP hS hN hl
  exact lv_istore C.1 C.2.1 hd hl.has hn rfl (fun ls' h' => k ad p e s m args below meth c C H locs ls' hP hS hN (LV.set1 hok h'))
theorem Z_astore_n {n : Fin 4} {x : Nat} (hd : decode M.2.1 pc = .ok (.astore_n n, 1)) (hn : (n : Nat) < M.2.2.1) (hok : okSt lv n = true) (k : Z g M N Q (pc + 1) (lv.set n (some (vr x))) st A) : Z g M N Q pc lv (vr x :: st) A := by
  intro ad p e s m args below meth c C H locs ls hP hS hN hl
  exact lv_astore_n C.1 C.2.1 hd rfl hl.has hn rfl (fun ls' h' => k ad p e s m args below meth c C H locs ls' hP hS hN (LV.set1 hok h'))
theorem Z_astore {n : Nat} {x : Nat} (hd : decode M.2.1 pc = .ok (.astore n, 2)) (hn : n < M.2.2.1) (hok : okSt lv n = true) (k : Z g M N Q (pc + 2) (lv.set n (some (vr x))) st A) : Z g M N Q pc lv (vr x :: st) A := by
  intro ad p e s m args below meth c C H locs ls hP hS hN hl
  exact lv_astore C.1 C.2.1 hd hl.has hn rfl (fun ls' h' => k ad p e s m args below meth c C H locs ls' hP hS hN (LV.set1 hok h'))
theorem Z_lstore {n : Nat} {x : Int64} (hd : decode M.2.1 pc = .ok (.lstore n, 2)) (hn : n + 1 < M.2.2.1) (hok : okSt lv n = true) (k : Z g M N Q (pc + 2) ((lv.set n (some (vl x))).set (n + 1) none) st A) : Z g M N Q pc lv (vl x :: st) A := by
  intro ad p e s m args below meth c C H locs ls hP hS hN hl
  exact lv_lstore C.1 C.2.1 hd hl.has hn rfl (fun ls' h' => k ad p e s m args below meth c C H locs ls' hP hS hN (LV.set2 hok h'))
theorem Z_iinc {i : Nat} {n : Int} {x : Int32} {y : Int32} (hd : decode M.2.1 pc = .ok (.iinc i n, 3)) (hv : lv[i]? = some (some (vi x))) (hy : Int32.ofInt n = y) (hn : i < M.2.2.1) (hok : okSt lv i = true) (k : Z g M N Q (pc + 3) (lv.set i (some (vi (x + y)))) st A) : Z g M N Q pc lv st A := by
  intro ad p e s m args below meth c C H locs ls hP hS hN hl
  subst hy
  obtain ⟨j, hj⟩ := List.getElem?_of_mem (asc_mem (ad := ad) (q := (i, .int x)) |>.mpr ⟨vi x, hv, rfl⟩)
  exact lv_iinc C.1 C.2.1 hd hl.has hj rfl hn rfl (fun ls' h' => k ad p e s m args below meth c C H locs ls' hP hS hN (LV.set1 hok h'))
theorem Z_iadd {x y : Int32} (hd : decode M.2.1 pc = .ok (.iadd, 1)) (k : Z g M N Q (pc + 1) lv (vi (x + y) :: st) A) : Z g M N Q pc lv (vi y :: vi x :: st) A := by
  intro ad p e s m args below meth c C H locs ls hP hS hN hl
  exact lv_iadd C.1 C.2.1 hd (k ad p e s m args below meth c C H locs ls hP hS hN hl)
theorem Z_isub {x y : Int32} (hd : decode M.2.1 pc = .ok (.isub, 1)) (k : Z g M N Q (pc + 1) lv (vi (x - y) :: st) A) : Z g M N Q pc lv (vi y :: vi x :: st) A := by
  intro ad p e s m args below meth c C H locs ls hP hS hN hl
  exact lv_isub C.1 C.2.1 hd (k ad p e s m args below meth c C H locs ls hP hS hN hl)
theorem Z_imul {x y : Int32} (hd : decode M.2.1 pc = .ok (.imul, 1)) (k : Z g M N Q (pc + 1) lv (vi (x * y) :: st) A) : Z g M N Q pc lv (vi y :: vi x :: st) A := by
  intro ad p e s m args below meth c C H locs ls hP hS hN hl
  exact lv_imul C.1 C.2.1 hd (k ad p e s m args below meth c C H locs ls hP hS hN hl)
theorem Z_iand {x y : Int32} (hd : decode M.2.1 pc = .ok (.iand, 1)) (k : Z g M N Q (pc + 1) lv (vi (x &&& y) :: st) A) : Z g M N Q pc lv (vi y :: vi x :: st) A := by
  intro ad p e s m args below meth c C H locs ls hP hS hN hl
  exact lv_iand C.1 C.2.1 hd (k ad p e s m args below meth c C H locs ls hP hS hN hl)
theorem Z_ishr {x y : Int32} (hd : decode M.2.1 pc = .ok (.ishr, 1)) (k : Z g M N Q (pc + 1) lv (vi (x >>> (y &&& 31)) :: st) A) : Z g M N Q pc lv (vi y :: vi x :: st) A := by
  intro ad p e s m args below meth c C H locs ls hP hS hN hl
  exact lv_ishr C.1 C.2.1 hd (k ad p e s m args below meth c C H locs ls hP hS hN hl)
theorem Z_iushr {x y : Int32} (hd : decode M.2.1 pc = .ok (.iushr, 1)) (k : Z g M N Q (pc + 1) lv (vi (x.toUInt32 >>> (y.toUInt32 &&& Int32.toUInt32 31)).toInt32 :: st) A) : Z g M N Q pc lv (vi y :: vi x :: st) A := by
  intro ad p e s m args below meth c C H locs ls hP hS hN hl
  exact lv_iushr C.1 C.2.1 hd rfl (k ad p e s m args below meth c C H locs ls hP hS hN hl)
theorem Z_idiv {x y : Int32} (hd : decode M.2.1 pc = .ok (.idiv, 1)) (hne : ¬ y = 0) (k : Z g M N Q (pc + 1) lv (vi (x / y) :: st) A) : Z g M N Q pc lv (vi y :: vi x :: st) A := by
  intro ad p e s m args below meth c C H locs ls hP hS hN hl
  exact lv_idiv C.1 C.2.1 hd hne (k ad p e s m args below meth c C H locs ls hP hS hN hl)
theorem Z_irem {x y : Int32} (hd : decode M.2.1 pc = .ok (.irem, 1)) (hne : ¬ y = 0) (k : Z g M N Q (pc + 1) lv (vi (x - x / y * y) :: st) A) : Z g M N Q pc lv (vi y :: vi x :: st) A := by
  intro ad p e s m args below meth c C H locs ls hP hS hN hl
  exact lv_irem C.1 C.2.1 hd hne (k ad p e s m args below meth c C H locs ls hP hS hN hl)
theorem Z_ladd {x y : Int64} (hd : decode M.2.1 pc = .ok (.ladd, 1)) (k : Z g M N Q (pc + 1) lv (vl (x + y) :: st) A) : Z g M N Q pc lv (vl y :: vl x :: st) A := by
  intro ad p e s m args below meth c C H locs ls hP hS hN hl
  exact lv_ladd C.1 C.2.1 hd (k ad p e s m args below meth c C H locs ls hP hS hN hl)
theorem Z_lcmp {x y : Int64} (hd : decode M.2.1 pc = .ok (.lcmp, 1)) (k : Z g M N Q (pc + 1) lv (vi (lg_cmp x y) :: st) A) : Z g M N Q pc lv (vl y :: vl x :: st) A := by
  intro ad p e s m args below meth c C H locs ls hP hS hN hl
  exact W.lcmp C.1 C.2.1 hd (k ad p e s m args below meth c C H locs ls hP hS hN hl)
theorem Z_i2l {x : Int32} (hd : decode M.2.1 pc = .ok (.i2l, 1)) (k : Z g M N Q (pc + 1) lv (vl x.toInt64 :: st) A) : Z g M N Q pc lv (vi x :: st) A := by
  intro ad p e s m args below meth c C H locs ls hP hS hN hl
  exact lv_i2l C.1 C.2.1 hd rfl (k ad p e s m args below meth c C H locs ls hP hS hN hl)
theorem Z_l2i {x : Int64} (hd : decode M.2.1 pc = .ok (.l2i, 1)) (k : Z g M N Q (pc + 1) lv (vi x.toInt32 :: st) A) : Z g M N Q pc lv (vl x :: st) A := by
  intro ad p e s m args below meth c C H locs ls hP hS hN hl
  exact lv_l2i C.1 C.2.1 hd rfl (k ad p e s m args below meth c C H locs ls hP hS hN hl)
theorem Z_i2b {x : Int32} (hd : decode M.2.1 pc = .ok (.i2b, 1)) (k : Z g M N Q (pc + 1) lv (vi x.toInt8.toInt32 :: st) A) : Z g M N Q pc lv (vi x :: st) A := by
  intro ad p e s m args below meth c C H locs ls hP hS hN hl
  exact lv_i2b C.1 C.2.1 hd rfl (k ad p e s m args below meth c C H locs ls hP hS hN hl)
theorem Z_i2s {x : Int32} (hd : decode M.2.1 pc = .ok (.i2s, 1)) (k : Z g M N Q (pc + 1) lv (vi x.toInt16.toInt32 :: st) A) : Z g M N Q pc lv (vi x :: st) A := by
  intro ad p e s m args below meth c C H locs ls hP hS hN hl
  exact lv_i2s C.1 C.2.1 hd rfl (k ad p e s m args below meth c C H locs ls hP hS hN hl)
theorem cat1 {ad : Nat → Nat} {v : AV} (h : isL (some v) = false) : (cv ad v).category = 1 := by
  rcases v with x | x | k
  · rfl
  · cases h
  · rfl
theorem Z_dup {v : AV} (hd : decode M.2.1 pc = .ok (.dup, 1)) (hv : isL (some v) = false) (k : Z g M N Q (pc + 1) lv (v :: v :: st) A) : Z g M N Q pc lv (v :: st) A := by
  intro ad p e s m args below meth c C H locs ls hP hS hN hl
  exact lv_dup C.1 C.2.1 hd (cat1 hv) (k ad p e s m args below meth c C H locs ls hP hS hN hl)
theorem Z_pop {v : AV} (hd : decode M.2.1 pc = .ok (.pop, 1)) (hv : isL (some v) = false) (k : Z g M N Q (pc + 1) lv st A) : Z g M N Q pc lv (v :: st) A := by
  intro ad p e s m args below meth c C H locs ls hP hS hN hl
  exact lv_pop C.1 C.2.1 hd (cat1 hv) (k ad p e s m args below meth c C H locs ls hP hS hN hl)
theorem Z_dup2 {v w : AV} (hd : decode M.2.1 pc = .ok (.dup2, 1)) (hv : isL (some v) = false) (hw : isL (some w) = false) (k : Z g M N Q (pc + 1) lv (v :: w :: v :: w :: st) A) : Z g M N Q pc lv (v :: w :: st) A := by
  intro ad p e s m args below meth c C H locs ls hP hS hN hl
  exact lv_dup2_11 C.1 C.2.1 hd (cat1 hv) (cat1 hw) (k ad p e s m args below meth c C H locs ls hP hS hN hl)
theorem Z_goto {off : Int} {t : Nat} (hd : decode M.2.1 pc = .ok (.goto off, 3)) (ht : (pc : Int) + off = (t : Int)) (k : Z g M N Q t lv st A) : Z g M N Q pc lv st A := by
  intro ad p e s m args below meth c C H locs ls hP hS hN hl
  exact lv_goto C.1 C.2.1 hd ht (k ad p e s m args below meth c C H locs ls hP hS hN hl)
/-- what a branch asks -/
def cnd (o : Jvm.ClassFile.Cond) (x y : Int32) : Prop := match o with
  | .eq => x = y
  | .ne => ¬ x = y
  | .lt => x < y
  | .ge => y ≤ x
  | .gt => y < x
  | .le => x ≤ y
theorem Z_if {o : Jvm.ClassFile.Cond} {x : Int32} {off : Int} {t : Nat} (hd : decode M.2.1 pc = .ok (.ifCond o off, 3)) (ht : (pc : Int) + off = (t : Int)) (k1 : cnd o x 0 → Z g M N Q t lv st A) (k2 : ¬ cnd o x 0 → Z g M N Q (pc + 3) lv st A) : Z g M N Q pc lv (vi x :: st) A := by
  intro ad p e s m args below meth c C H locs ls hP hS hN hl
  have h1 := fun h => k1 h ad p e s m args below meth c C H locs ls hP hS hN hl
  have h2 := fun h => k2 h ad p e s m args below meth c C H locs ls hP hS hN hl
  cases o with
  | eq => exact lv_if_eq C.1 C.2.1 hd ht h1 h2
  | ne => exact lv_if_ne C.1 C.2.1 hd ht h1 (fun h => h2 (fun q => q h))
  | lt => exact lv_if_lt C.1 C.2.1 hd ht h1 h2
  | ge => exact lv_if_ge C.1 C.2.1 hd ht h1 h2
  | gt => exact lv_if_gt C.1 C.2.1 hd ht h1 h2
  | le => exact lv_if_le C.1 C.2.1 hd ht h1 h2
theorem Z_icmp {o : Jvm.ClassFile.Cond} {x y : Int32} {off : Int} {t : Nat} (hd : decode M.2.1 pc = .ok (.if_icmp o off, 3)) (ht : (pc : Int) + off = (t : Int)) (k1 : cnd o x y → Z g M N Q t lv st A) (k2 : ¬ cnd o x y → Z g M N Q (pc + 3) lv st A) : Z g M N Q pc lv (vi y :: vi x :: st) A := by
  intro ad p e s m args below meth c C H locs ls hP hS hN hl
  have h1 := fun h => k1 h ad p e s m args below meth c C H locs ls hP hS hN hl
  have h2 := fun h => k2 h ad p e s m args below meth c C H locs ls hP hS hN hl
  cases o with
  | eq => exact lv_icmp_eq C.1 C.2.1 hd ht h1 h2
  | ne => exact lv_icmp_ne C.1 C.2.1 hd ht h1 (fun h => h2 (fun q => q h))
  | lt => exact lv_icmp_lt C.1 C.2.1 hd ht h1 h2
  | ge => exact lv_icmp_ge C.1 C.2.1 hd ht h1 h2
  | gt => exact lv_icmp_gt C.1 C.2.1 hd ht h1 h2
  | le => exact lv_icmp_le C.1 C.2.1 hd ht h1 h2
theorem Z_iaload {i : Int32} {q n : Nat} {f : Nat → Int32} (hd : decode M.2.1 pc = .ok (.iaload, 1)) (ha : A[q]? = some (ar 0 n f)) (hin : vp_in i n) (k : Z g M N Q (pc + 1) lv (vi (f i.toNatClampNeg) :: st) A) : Z g M N Q pc lv (vi i :: vr q :: st) A := by
  intro ad p e s m args below meth c C H locs ls hP hS hN hl
  exact va_iald (q0 := q) (t0 := 0) C.1 C.2.1 C.2.2.2.2.2.2.2.1 hP (wm_at ha) rfl hin hd (k ad p e s m args below meth c C H locs ls hP hS hN hl)
theorem Z_baload {i : Int32} {q n : Nat} {f : Nat → Int32} (hd : decode M.2.1 pc = .ok (.baload, 1)) (ha : A[q]? = some (ar 1 n f)) (hin : vp_in i n) (k : Z g M N Q (pc + 1) lv (vi (f i.toNatClampNeg) :: st) A) : Z g M N Q pc lv (vi i :: vr q :: st) A := by
  intro ad p e s m args below meth c C H locs ls hP hS hN hl
  exact va_zald (q0 := q) (t0 := 1) C.1 C.2.1 C.2.2.2.2.2.2.2.1 hP (wm_at ha) rfl hin hd (k ad p e s m args below meth c C H locs ls hP hS hN hl)
theorem Z_aaload {i : Int32} {q n t : Nat} {f : Nat → Nat} (hd : decode M.2.1 pc = .ok (.aaload, 1)) (ha : A[q]? = some (rr t n f)) (ht : t = 2 ∨ t = 3) (hin : vp_in i n) (k : Z g M N Q (pc + 1) lv (vr (f i.toNatClampNeg) :: st) A) : Z g M N Q pc lv (vi i :: vr q :: st) A := by
  intro ad p e s m args below meth c C H locs ls hP hS hN hl
  rcases ht with rfl | rfl
  · exact va_aldq (q0 := q) (t0 := 2) C.1 C.2.1 C.2.2.2.2.2.2.2.1 hP (wm_at ha) rfl hin hd (k ad p e s m args below meth c C H locs ls hP hS hN hl)
  · exact va_aldq (q0 := q) (t0 := 3) C.1 C.2.1 C.2.2.2.2.2.2.2.1 hP (wm_at ha) rfl hin hd (k ad p e s m args below meth c C H locs ls hP hS hN hl)
theorem Z_iastore {i x : Int32} {q n : Nat} {f : Nat → Int32} (hd : decode M.2.1 pc = .ok (.iastore, 1)) (ha : A[q]? = some (ar 0 n f)) (hin : vp_in i n) (k : Z g M N Q (pc + 1) lv st (A.set q (ar 0 n (upd f i.toNatClampNeg x)))) : Z g M N Q pc lv (vi x :: vi i :: vr q :: st) A := by
  intro ad p e s m args below meth c C H locs ls hP hS hN hl
  refine va_iast (q0 := q) (t0 := 0) C.1 C.2.1 C.2.2.2.2.2.2.2.1 hP (AA_D C.2.2.2.2.2.2.2.2.2.1 hN) hS (wm_at ha) rfl hin hd (fun H1 locs1 hP1 hD1 hS1 => ?_)
  exact k ad p e s m args below meth c C H1 locs1 ls (by rw [wm_set]; exact hP1) hS1 (by rw [List.length_set]; exact hN) hl
theorem z01 {x : Int32} (h : x = 0 ∨ x = 1) : narrow .boolean (.int x) = .int x ∧ fits .boolean (.int x) = true := by
  rcases h with rfl | rfl <;> exact ⟨by decide, by decide⟩
theorem Z_bastore {i x : Int32} {q n : Nat} {f : Nat → Int32} (hd : decode M.2.1 pc = .ok (.bastore, 1)) (ha : A[q]? = some (ar 1 n f)) (hin : vp_in i n) (hx : x = 0 ∨ x = 1) (k : Z g M N Q (pc + 1) lv st (A.set q (ar 1 n (upd f i.toNatClampNeg x)))) : Z g M N Q pc lv (vi x :: vi i :: vr q :: st) A := by
  intro ad p e s m args below meth c C H locs ls hP hS hN hl
  refine va_zast (q0 := q) (t0 := 1) C.1 C.2.1 C.2.2.2.2.2.2.2.1 hP (AA_D C.2.2.2.2.2.2.2.2.2.1 hN) hS (wm_at ha) rfl hin hd (fun H1 locs1 hP1 hD1 hS1 => ?_)
  have e9 : vp_nar .boolean x = x := by rcases hx with rfl | rfl <;> rfl
  rw [e9] at hP1
  exact k ad p e s m args below meth c C H1 locs1 ls (by rw [wm_set]; exact hP1) hS1 (by rw [List.length_set]; exact hN) hl
end ZR
