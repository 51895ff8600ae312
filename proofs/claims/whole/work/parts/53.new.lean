/-! constructors: worlds that grow; one row an instruction -/
def rmV (d mc ms : Nat) : Room := { frames := d, cells := mc, slots := ms, locals := 35 * d }
def nestL : List (String × Nat × MethodName) := [(RX3, 11, yX2_init), (RX1, 9, yX2_init), (RX1, 18, yX6_init), (RX9, 11, yX2_init), (RX9, 18, yX6_init), (RX9, 25, yX7_init), (RX9, 32, yX3_init), (RX9, 39, yX8_init), (RX9, 46, yX5_init), (RX9, 53, yX0_init), (RX9, 77, yX1_init), (RX9, 78, yX4_init)]
/-- what the tables say that isn't kept as a word: the nest mates' constructors, the classes of arrays of references -/
def Nx (U : State) : Prop := (∀ q ∈ nestL, va_Nw (.methodLinkNest q.1 q.2.1 q.2.2 RX9) U) ∧ va_AO RX1 U ∧ va_AO RX4 U
theorem Nx.go {s U : State} (h : Nx s) (hW : s.WarmedH U.vm) : Nx U := ⟨fun q hq => (h.1 q hq).warmM hW, va_AO.moved hW.alike h.2.1, va_AO.moved hW.alike h.2.2⟩
theorem Nx.same {s U : State} (h : Nx s) (hv : U.vm = s.vm) : Nx U := by
  have ha : s.vm.Alike U.vm := by rw [hv]; exact Vm.Alike.refl _
  exact ⟨fun q hq => (h.1 q hq).same rfl hv.symm, va_AO.moved ha h.2.1, va_AO.moved ha h.2.2⟩
def tyV (cI cZ : ClassId) : List (ClassId × FieldType) := [(cI, .int), (cZ, .boolean)]
def PcV (D : va_G) (cI cZ : ClassId) (sz h0 : Nat) (ws : va_W) : Array Value → State → Prop := va_Pc [.ref h0] (fun U => U.heap.size = sz ∧ va_P D vwCl ws U.heap ∧ va_K D vwCl (tyV cI cZ) U ∧ va_D (fun _ => True) ws ∧ Nx U)
def QcV {α : Type} (D : va_G) (A : Nat → Prop) (B : α → va_W) (E : α → State → Prop) : Array Value → State → Outcome → State → Prop := va_Qv (fun _ : α => True) (fun u t => (va_P D vwCl (B u) t.heap ∧ va_D A (B u)) ∧ E u t) A
theorem PcV_blind {D : va_G} {cI cZ : ClassId} {sz h0 : Nat} {ws : va_W} : FrameBlind (PcV D cI cZ sz h0 ws) := by
  intro a U g' mk h
  obtain ⟨h0, h1, h2, h3, h4, h5⟩ := h
  exact ⟨h0, h1, h2, va_K.moved (u := U) (U := U.calling g' mk a) (Vm.Alike.refl U.vm) h3, h4, h5.same (U := U.calling g' mk a) rfl⟩
/-- the contract of a constructor: of an object that is new -/
def CN {α : Type} (l : Launch) (D : va_G) (cI cZ : ClassId) (me : ME) (mc ms ci : Nat) (fs : List Value) (B : Nat → α → va_W) (E : Nat → α → State → Prop) : Prop :=
  ∀ h0 sz : Nat, Met l me.1 (wsM me) (rmV me.2.2.2.2 mc ms) (PcV D cI cZ sz h0 [(h0, .inr (ci, fs))]) (QcV D (va_A [(h0, .inr (ci, fs))] sz) (B h0) (E h0)) mc ms (va_A [(h0, .inr (ci, fs))] sz)
def okI (me : ME) : Prop := okM me ∧ Cond.instanceMethod me.1 ∈ wsG ∧ me.1.name = "<init>" ∧ me.2.2.2.1 = none ∧ (parseMethodDescriptor me.1.desc).map (fun d => d.parameters.length) = some 0
def FNk (own : String) (idx ci k : Nat) (ty : FieldType) (fin : Bool) : Prop := ∃ (C : String) (T : u_T) (NN : Nat), vwCl[ci]? = some (C, T, NN) ∧ k < NN ∧ (∀ w ∈ u_ws C T NN, w ∈ wsG) ∧ Cond.fieldLink own idx (T k).1 (T k).2.1 (T k).2.2.1 ∈ wsG ∧
  (T k).2.2.2 = fin ∧ parseFieldDescriptor (T k).2.2.1 = some ty ∧ (∃ ty0 : Nat → FieldType, ∀ k, k < NN → parseFieldDescriptor (T k).2.2.1 = some (ty0 k)) ∧ (∀ a, a < NN → ∀ b, b < NN → a ≠ b → (T a).2.1 ≠ (T b).2.1) ∧ (T k).1 = own
def NWk (own : String) (idx ci n : Nat) (fs : List Value) : Prop := ∃ (C : String) (T : u_T), vwCl[ci]? = some (C, T, n) ∧ (∀ w ∈ u_ws C T n, w ∈ wsG) ∧ Cond.classLink own idx C ∈ wsG ∧ Cond.instantiable C n ∈ wsG ∧ Cond.initialized C ∈ wsG ∧
  ∃ ty0 : Nat → FieldType, (∀ k, k < n → parseFieldDescriptor (T k).2.2.1 = some (ty0 k)) ∧ ∀ j, j < n → defaultValue (ty0 j) = vp_V fs j
theorem objI : Cond.instanceMethod objectInit ∈ wsG := tb1 23 rfl rfl
theorem objC : Cond.code objectInit ⟨#[0xb1]⟩ 1 none ∈ wsG := tb1 24 rfl rfl
theorem arrI : Cond.arrayClass .int ∈ wsG := tb1 53 rfl rfl
theorem arrZ : Cond.arrayClass .boolean ∈ wsG := tb4 78 rfl rfl
theorem nd_to : ∀ {l : List Nat}, l.Nodup → va_nd l = true := by
  intro l
  induction l with
  | nil => intro _; rfl
  | cons a l ih =>
    intro h
    obtain ⟨h1, h2⟩ := List.nodup_cons.mp h
    simp [va_nd, h1, ih h2]
theorem map_range {α : Type} {w r : List α} : (List.range w.length).map (fun i => (w ++ r)[i]?) = w.map some := by
  apply List.ext_getElem?
  intro j
  rw [List.getElem?_map, List.getElem?_map]
  by_cases hj : j < w.length
  · rw [List.getElem?_range hj, List.getElem?_eq_getElem hj]
    show some ((w ++ r)[j]?) = some (some w[j])
    rw [List.getElem?_append_left hj, List.getElem?_eq_getElem hj]
  · rw [List.getElem?_eq_none (by simpa using hj), List.getElem?_eq_none (by omega)]
    rfl
section VV
variable {p : Program} {l : Launch} {e : Env} {R : Room} {s : State} {m : MethodId} {args : Array Value} {below : List Frame} {meth : Method} {c : Code} {cells slots : Nat} {Qw : State → Prop} {me : ME} {D : va_G} {A : Nat → Prop} {cI cZ : ClassId} {tys : List (ClassId × FieldType)}
variable {pc : Nat} {lv : List (Nat × Value)} {st : List Value} {ws : va_W}
def VX (me : ME) (A : Nat → Prop) (p : Program) (s : State) (m : MethodId) (args : Array Value) (meth : Method) (c : Code) : Prop :=
  p.tables.exec = Jvm.exec ∧ c.code = me.2.1 ∧ meth.sig.returnType = me.2.2.2.1 ∧ c.maxLocals = me.2.2.1 ∧ s.vm.findClass me.1.cls = some m.cls ∧ (∀ w ∈ wsG, w.before args s = true) ∧ meth.locks = false ∧ (me.1.name = "<init>" → meth.name = "<init>") ∧ Nx s ∧ (∀ q : Nat, s.heap.size ≤ q → A q)
def V (p : Program) (l : Launch) (e : Env) (R : Room) (s : State) (m : MethodId) (args : Array Value) (below : List Frame) (meth : Method) (c : Code) (Qw : State → Prop) (me : ME) (D : va_G) (A : Nat → Prop) (cells slots pc : Nat) (lv : List (Nat × Value)) (st : List Value) (ws : va_W) : Prop :=
  ∀ (H : Heap) (locs : List Loc) (ls : Array Slot), va_P D vwCl ws H → va_D A ws → va_S A s.heap H locs → lv_has ls me.2.2.1 lv → W p l e R s m args below meth c H locs cells slots Qw (F0 m pc ls st)
theorem V_eq {ws' : va_W} (h : ws = ws') (k : V p l e R s m args below meth c Qw me D A cells slots pc lv st ws') : V p l e R s m args below meth c Qw me D A cells slots pc lv st ws := by
  subst h; exact k
theorem V_widen {cells' slots' : Nat} (h1 : cells ≤ cells') (h2 : slots ≤ slots') (k : V p l e R s m args below meth c Qw me D A cells' slots' pc lv st ws) : V p l e R s m args below meth c Qw me D A cells slots pc lv st ws := by
  intro H locs ls hP hD hS hl
  exact W.widen h1 h2 (k H locs ls hP hD hS hl)
theorem V_aload (C : VX me A p s m args meth c) (j : Nat) {n : Fin 4} {a : Nat} (hd : decode me.2.1 pc = .ok (.aload_n n, 1)) (hj : lv[j]? = some ((n : Nat), .ref a)) (k : V p l e R s m args below meth c Qw me D A cells slots (pc + 1) lv (.ref a :: st) ws) : V p l e R s m args below meth c Qw me D A cells slots pc lv st ws := by
  intro H locs ls hP hD hS hl
  exact lv_aload_n C.1 C.2.1 hd rfl (lv_at hl j hj) (k H locs ls hP hD hS hl)
theorem V_iload (C : VX me A p s m args meth c) (j : Nat) {n : Fin 4} {x : Int32} (hd : decode me.2.1 pc = .ok (.iload_n n, 1)) (hj : lv[j]? = some ((n : Nat), .int x)) (k : V p l e R s m args below meth c Qw me D A cells slots (pc + 1) lv (.int x :: st) ws) : V p l e R s m args below meth c Qw me D A cells slots pc lv st ws := by
  intro H locs ls hP hD hS hl
  exact lv_iload_n C.1 C.2.1 hd rfl (lv_at hl j hj) (k H locs ls hP hD hS hl)
theorem V_iconst (C : VX me A p s m args meth c) (x : Int32) {n : Int} (hd : decode me.2.1 pc = .ok (.iconst n, 1)) (hv : Int32.ofInt n = x) (k : V p l e R s m args below meth c Qw me D A cells slots (pc + 1) lv (.int x :: st) ws) : V p l e R s m args below meth c Qw me D A cells slots pc lv st ws := by
  intro H locs ls hP hD hS hl
  exact lv_iconst C.1 C.2.1 hd hv (k H locs ls hP hD hS hl)
theorem V_bipush (C : VX me A p s m args meth c) (x : Int32) {n : Int} (hd : decode me.2.1 pc = .ok (.bipush n, 2)) (hv : (Int8.ofInt n).toInt32 = x) (k : V p l e R s m args below meth c Qw me D A cells slots (pc + 2) lv (.int x :: st) ws) : V p l e R s m args below meth c Qw me D A cells slots pc lv st ws := by
  intro H locs ls hP hD hS hl
  exact lv_bipush C.1 C.2.1 hd hv (k H locs ls hP hD hS hl)
theorem V_sipush (C : VX me A p s m args meth c) (x : Int32) {n : Int} (hd : decode me.2.1 pc = .ok (.sipush n, 3)) (hv : (Int16.ofInt n).toInt32 = x) (k : V p l e R s m args below meth c Qw me D A cells slots (pc + 3) lv (.int x :: st) ws) : V p l e R s m args below meth c Qw me D A cells slots pc lv st ws := by
  intro H locs ls hP hD hS hl
  exact lv_sipush C.1 C.2.1 hd hv (k H locs ls hP hD hS hl)
theorem V_dup (C : VX me A p s m args meth c) {a : Nat} (hd : decode me.2.1 pc = .ok (.dup, 1)) (k : V p l e R s m args below meth c Qw me D A cells slots (pc + 1) lv (.ref a :: .ref a :: st) ws) : V p l e R s m args below meth c Qw me D A cells slots pc lv (.ref a :: st) ws := by
  intro H locs ls hP hD hS hl
  exact lv_dup C.1 C.2.1 hd rfl (k H locs ls hP hD hS hl)
theorem V_goto (C : VX me A p s m args meth c) {off : Int} {t : Nat} (hd : decode me.2.1 pc = .ok (.goto off, 3)) (ht : (pc : Int) + off = (t : Int)) (k : V p l e R s m args below meth c Qw me D A cells slots t lv st ws) : V p l e R s m args below meth c Qw me D A cells slots pc lv st ws := by
  intro H locs ls hP hD hS hl
  exact lv_goto C.1 C.2.1 hd ht (k H locs ls hP hD hS hl)
theorem V_geT (C : VX me A p s m args meth c) {x y : Int32} {off : Int} {t : Nat} (hd : decode me.2.1 pc = .ok (.if_icmp .ge off, 3)) (ht : (pc : Int) + off = (t : Int)) (h : y ≤ x) (k : V p l e R s m args below meth c Qw me D A cells slots t lv st ws) : V p l e R s m args below meth c Qw me D A cells slots pc lv (.int y :: .int x :: st) ws := by
  intro H locs ls hP hD hS hl
  exact lv_icmp_ge C.1 C.2.1 hd ht (fun _ => k H locs ls hP hD hS hl) (fun h2 => absurd h h2)
theorem V_geF (C : VX me A p s m args meth c) {x y : Int32} {off : Int} {t : Nat} (hd : decode me.2.1 pc = .ok (.if_icmp .ge off, 3)) (ht : (pc : Int) + off = (t : Int)) (h : ¬ y ≤ x) (k : V p l e R s m args below meth c Qw me D A cells slots (pc + 3) lv st ws) : V p l e R s m args below meth c Qw me D A cells slots pc lv (.int y :: .int x :: st) ws := by
  intro H locs ls hP hD hS hl
  exact lv_icmp_ge C.1 C.2.1 hd ht (fun h2 => absurd h2 h) (fun _ => k H locs ls hP hD hS hl)
theorem V_istore (C : VX me A p s m args meth c) {n : Fin 4} {x : Int32} (lv' : List (Nat × Value)) (hd : decode me.2.1 pc = .ok (.istore_n n, 1)) (hn : (n : Nat) < me.2.2.1) (hl' : ((n : Nat), Value.int x) :: lv.filter (fun q => !(q.1 == (n : Nat)) && !(q.1 + 1 == (n : Nat) && q.2.category == 2)) = lv') (k : V p l e R s m args below meth c Qw me D A cells slots (pc + 1) lv' st ws) : V p l e R s m args below meth c Qw me D A cells slots pc lv (.int x :: st) ws := by
  intro H locs ls hP hD hS hl
  exact lv_istore_n C.1 C.2.1 hd rfl hl hn hl' (fun ls' h' => k H locs ls' hP hD hS h')
theorem V_astore (C : VX me A p s m args meth c) {n : Fin 4} {a : Nat} (lv' : List (Nat × Value)) (hd : decode me.2.1 pc = .ok (.astore_n n, 1)) (hn : (n : Nat) < me.2.2.1) (hl' : ((n : Nat), Value.ref a) :: lv.filter (fun q => !(q.1 == (n : Nat)) && !(q.1 + 1 == (n : Nat) && q.2.category == 2)) = lv') (k : V p l e R s m args below meth c Qw me D A cells slots (pc + 1) lv' st ws) : V p l e R s m args below meth c Qw me D A cells slots pc lv (.ref a :: st) ws := by
  intro H locs ls hP hD hS hl
  exact lv_astore_n C.1 C.2.1 hd rfl hl hn hl' (fun ls' h' => k H locs ls' hP hD hS h')
theorem V_iinc (C : VX me A p s m args meth c) (j : Nat) {i : Nat} {n : Int} {x : Int32} (v : Int32) (lv' : List (Nat × Value)) (hd : decode me.2.1 pc = .ok (.iinc i n, 3)) (hj : lv[j]? = some (i, .int x)) (hv : x + Int32.ofInt n = v) (hn : i < me.2.2.1) (hl' : (i, Value.int v) :: lv.filter (fun q => !(q.1 == i) && !(q.1 + 1 == i && q.2.category == 2)) = lv') (k : V p l e R s m args below meth c Qw me D A cells slots (pc + 3) lv' st ws) : V p l e R s m args below meth c Qw me D A cells slots pc lv st ws := by
  intro H locs ls hP hD hS hl
  exact lv_iinc C.1 C.2.1 hd hl hj hv hn hl' (fun ls' h' => k H locs ls' hP hD hS h')
/-- Object.<init> -/
theorem V_obj (C : VX me A p s m args meth c) {idx a : Nat} (hd : decode me.2.1 pc = .ok (.invokespecial idx, 3)) (hlink : Cond.methodLink me.1.cls idx objectInit ∈ wsG) (hf : 1 ≤ R.frames) (hlo : 12 ≤ R.locals) (k : V p l e R s m args below meth c Qw me D A cells slots (pc + 3) lv [] ws) : V p l e R s m args below meth c Qw me D A cells slots pc lv [.ref a] ws := by
  intro H locs ls hP hD hS hl
  refine W.objInit C.1 C.2.1 C.2.2.2.2.1 (C.2.2.2.2.2.1 _ hlink) (C.2.2.2.2.2.1 _ objI) (C.2.2.2.2.2.1 _ objC) rfl (by rw [C.2.2.2.1]; exact hl.1) rfl hd hf hlo ?_
  refine W.eq (g2 := F0 m (pc + 3) ls []) rfl ?_
  exact k H locs ls hP hD hS hl
theorem V_newi (C : VX me A p s m args meth c) (hK : va_K D vwCl tys s) (ht : tys[0]? = some (cI, .int)) {n : Nat} (hd : decode me.2.1 pc = .ok (.newarray .int, 2)) (hn : n < 1000) (hc : cells + 1 ≤ R.cells) (hs : slots + n ≤ R.slots)
    (k : ∀ q : Nat, V p l e R s m args below meth c Qw me D A (cells + 1) (slots + n) (pc + 2) lv (.ref q :: st) (ws ++ [(q, .inl (cI, n, .inl (fun _ => 0)))])) : V p l e R s m args below meth c Qw me D A cells slots pc lv (.int (nI n) :: st) ws := by
  intro H locs ls hP hD hS hl
  refine va_newa (atype := .int) (ty := .int) (N' := n) (a0 := (n, .inl (fun _ => 0))) C.1 C.2.1 (C.2.2.2.2.2.1 _ arrI) rfl hK hP hD hS C.2.2.2.2.2.2.2.2.2 (fun _ => rfl) (nI_pos (by omega)) (nI_clamp (by omega)) (by show n * 4 ≤ 536870912; omega) hc hs hd (fun q cA H1 hK1 hP1 hD1 hS1 => ?_)
  have h1 : va_RA s cI .int := (hK.2 0 _ ht).2
  have h2 : va_RA s cA .int := (hK1.2 tys.length (cA, .int) (by simp)).2
  have e1 : cA = cI := Option.some.inj (Eq.trans (Eq.symm h2) h1)
  subst e1
  exact k q H1 locs ls hP1 hD1 hS1 hl
theorem V_newz (C : VX me A p s m args meth c) (hK : va_K D vwCl tys s) (ht : tys[1]? = some (cZ, .boolean)) {n : Nat} (hd : decode me.2.1 pc = .ok (.newarray .boolean, 2)) (hn : n < 1000) (hc : cells + 1 ≤ R.cells) (hs : slots + n ≤ R.slots)
    (k : ∀ q : Nat, V p l e R s m args below meth c Qw me D A (cells + 1) (slots + n) (pc + 2) lv (.ref q :: st) (ws ++ [(q, .inl (cZ, n, .inl (fun _ => 0)))])) : V p l e R s m args below meth c Qw me D A cells slots pc lv (.int (nI n) :: st) ws := by
  intro H locs ls hP hD hS hl
  refine va_newa (atype := .boolean) (ty := .boolean) (N' := n) (a0 := (n, .inl (fun _ => 0))) C.1 C.2.1 (C.2.2.2.2.2.1 _ arrZ) rfl hK hP hD hS C.2.2.2.2.2.2.2.2.2 (fun _ => rfl) (nI_pos (by omega)) (nI_clamp (by omega)) (by show n * 1 ≤ 536870912; omega) hc hs hd (fun q cA H1 hK1 hP1 hD1 hS1 => ?_)
  have h1 : va_RA s cZ .boolean := (hK.2 1 _ ht).2
  have h2 : va_RA s cA .boolean := (hK1.2 tys.length (cA, .boolean) (by simp)).2
  have e1 : cA = cZ := Option.some.inj (Eq.trans (Eq.symm h2) h1)
  subst e1
  exact k q H1 locs ls hP1 hD1 hS1 hl
theorem V_newr (C : VX me A p s m args meth c) (hK : va_K D vwCl tys s) {idx n : Nat} {Cn : String} (hd : decode me.2.1 pc = .ok (.anewarray idx, 3)) (hlink : Cond.classLink me.1.cls idx Cn ∈ wsG) (hao : va_AO Cn s) (hn : n < 1000) (hc : cells + 1 ≤ R.cells) (hs : slots + n ≤ R.slots)
    (k : ∀ (q : Nat) (cA : ClassId), va_K D vwCl (tys ++ [(cA, .object Cn)]) s → V p l e R s m args below meth c Qw me D A (cells + 1) (slots + n) (pc + 3) lv (.ref q :: st) (ws ++ [(q, .inl (cA, n, .inr (.inr (.inr (.inr (fun _ => none))))))])) : V p l e R s m args below meth c Qw me D A cells slots pc lv (.int (nI n) :: st) ws := by
  intro H locs ls hP hD hS hl
  exact va_newq C.1 C.2.1 C.2.2.2.2.1 (C.2.2.2.2.2.1 _ hlink) hao hK hP hD hS C.2.2.2.2.2.2.2.2.2 (nI_pos (by omega)) (nI_clamp (by omega)) (by omega) hc hs hd (fun q cA H1 hK1 hP1 hD1 hS1 => k q cA hK1 H1 locs ls hP1 hD1 hS1 hl)
theorem V_new (C : VX me A p s m args meth c) (hK : va_K D vwCl tys s) {idx ci n : Nat} {fs : List Value} (hd : decode me.2.1 pc = .ok (.new idx, 3)) (hf : NWk me.1.cls idx ci n fs) (hc : cells + 1 ≤ R.cells) (hs : slots + n ≤ R.slots)
    (k : ∀ q : Nat, V p l e R s m args below meth c Qw me D A (cells + 1) (slots + n) (pc + 3) lv (.ref q :: st) (ws ++ [(q, .inr (ci, fs))])) : V p l e R s m args below meth c Qw me D A cells slots pc lv st ws := by
  intro H locs ls hP hD hS hl
  obtain ⟨Cn, T, h1, h2, h3, h4, h5, ty0, h6, h7⟩ := hf
  have hw := C.2.2.2.2.2.1
  exact va_new (ci := ci) (fs := fs) (C := Cn) (T := T) (N := n) C.1 C.2.1 hw h2 ty0 h6 C.2.2.2.2.1 (hw _ h3) (hw _ h4) (hw _ h5) hK hP hD hS C.2.2.2.2.2.2.2.2.2 h1 h7 hc hs hd (fun q H1 hP1 hD1 hS1 => k q H1 locs ls hP1 hD1 hS1 hl)
theorem V_put (C : VX me A p s m args meth c) (hK : va_K D vwCl tys s) (q0 : Nat) {idx ci k0 a : Nat} {fs : List Value} {v : Value} {ty : FieldType} (hd : decode me.2.1 pc = .ok (.putfield idx, 3)) (hf : FNk me.1.cls idx ci k0 ty false) (ha : ws[q0]? = some (a, .inr (ci, fs))) (hk0 : k0 < fs.length) (hn : narrow ty v = v) (hfit : fits ty v = true)
    (k : V p l e R s m args below meth c Qw me D A cells slots (pc + 3) lv st (ws.set q0 (a, .inr (ci, fs.set k0 v)))) : V p l e R s m args below meth c Qw me D A cells slots pc lv (v :: .ref a :: st) ws := by
  intro H locs ls hP hD hS hl
  obtain ⟨Cn, T, NN, h1, h2, h3, h4, h5, h6, ⟨ty0, h7⟩, h8, h9⟩ := hf
  have hw := C.2.2.2.2.2.1
  exact va_put (ref := (T k0).1) (fs := fs) (v := v) C.1 C.2.1 hw h3 ty0 h7 h8 C.2.2.2.2.1 hK hP hD hS q0 ha h1 k0 h2 (hw _ h4) (fun _ h9 => h9) h5 h6 hn hfit hk0 hd (fun H1 locs1 hP1 hD1 hS1 => k H1 locs1 ls hP1 hD1 hS1 hl)
theorem V_putF (C : VX me A p s m args meth c) (hK : va_K D vwCl tys s) (q0 : Nat) {idx ci k0 a : Nat} {fs : List Value} {v : Value} {ty : FieldType} (hd : decode me.2.1 pc = .ok (.putfield idx, 3)) (hf : FNk me.1.cls idx ci k0 ty true) (ha : ws[q0]? = some (a, .inr (ci, fs))) (hk0 : k0 < fs.length) (hn : narrow ty v = v) (hfit : fits ty v = true) (hi : me.1.name = "<init>")
    (k : V p l e R s m args below meth c Qw me D A cells slots (pc + 3) lv st (ws.set q0 (a, .inr (ci, fs.set k0 v)))) : V p l e R s m args below meth c Qw me D A cells slots pc lv (v :: .ref a :: st) ws := by
  intro H locs ls hP hD hS hl
  obtain ⟨Cn, T, NN, h1, h2, h3, h4, h5, h6, ⟨ty0, h7⟩, h8, h9⟩ := hf
  have hw := C.2.2.2.2.2.1
  exact va_putF (ref := (T k0).1) (fs := fs) (v := v) C.1 C.2.1 hw h3 ty0 h7 h8 C.2.2.2.2.1 hK hP hD hS q0 ha h1 k0 h2 (hw _ h4) (fun _ h9 => h9) h5 (C.2.2.2.2.2.2.2.1 hi) h9 h6 hn hfit hk0 hd (fun H1 locs1 hP1 hD1 hS1 => k H1 locs1 ls hP1 hD1 hS1 hl)
theorem V_get (C : VX me A p s m args meth c) (hK : va_K D vwCl tys s) (q0 : Nat) {idx ci k0 a : Nat} {fs : List Value} {v : Value} {ty : FieldType} {fin : Bool} (hd : decode me.2.1 pc = .ok (.getfield idx, 3)) (hf : FNk me.1.cls idx ci k0 ty fin) (ha : ws[q0]? = some (a, .inr (ci, fs))) (hv : fs[k0]? = some v)
    (k : V p l e R s m args below meth c Qw me D A cells slots (pc + 3) lv (v :: st) ws) : V p l e R s m args below meth c Qw me D A cells slots pc lv (.ref a :: st) ws := by
  intro H locs ls hP hD hS hl
  obtain ⟨Cn, T, NN, h1, h2, h3, h4, h5, h6, ⟨ty0, h7⟩, h8, h9⟩ := hf
  have hw := C.2.2.2.2.2.1
  exact va_get (ref := (T k0).1) (fs := fs) (v := v) C.1 C.2.1 hw h3 C.2.2.2.2.1 hK hP q0 ha h1 k0 h2 (hw _ h4) (fun _ h9 => h9) hv hd (k H locs ls hP hD hS hl)
theorem V_iast (C : VX me A p s m args meth c) (hK : va_K D vwCl tys s) (ht : tys[0]? = some (cI, .int)) (q0 : Nat) {a n : Nat} {f : Nat → Int32} {i x : Int32} (hd : decode me.2.1 pc = .ok (.iastore, 1)) (ha : ws[q0]? = some (a, .inl (cI, n, .inl f))) (hin : vp_in i n)
    (k : V p l e R s m args below meth c Qw me D A cells slots (pc + 1) lv st (ws.set q0 (a, .inl (cI, n, .inl (upd f i.toNatClampNeg x))))) : V p l e R s m args below meth c Qw me D A cells slots pc lv (.int x :: .int i :: .ref a :: st) ws := by
  intro H locs ls hP hD hS hl
  exact va_iast C.1 C.2.1 hK hP hD hS q0 0 ha ht hin hd (fun H1 locs1 hP1 hD1 hS1 => k H1 locs1 ls hP1 hD1 hS1 hl)
theorem V_aast (C : VX me A p s m args meth c) (hK : va_K D vwCl tys s) (q0 t0 qk ci : Nat) {cA : ClassId} {r : vw_C} {a n v : Nat} {vs : List Value} {f : Nat → Option Nat} {i : Int32} (hd : decode me.2.1 pc = .ok (.aastore, 1)) (ha : ws[q0]? = some (a, .inl (cA, n, .inr (.inr (.inr (.inr f)))))) (ht : tys[t0]? = some (cA, .object r.1)) (hv : ws[qk]? = some (v, .inr (ci, vs))) (hc : vwCl[ci]? = some r) (hin : vp_in i n)
    (k : V p l e R s m args below meth c Qw me D A cells slots (pc + 1) lv st (ws.set q0 (a, .inl (cA, n, .inr (.inr (.inr (.inr (va_up f i.toNatClampNeg (some v))))))))) : V p l e R s m args below meth c Qw me D A cells slots pc lv (.ref v :: .int i :: .ref a :: st) ws := by
  intro H locs ls hP hD hS hl
  exact va_astq C.1 C.2.1 hK hP hD hS q0 t0 qk ci ha ht hv hc hin hd (fun H1 locs1 hP1 hD1 hS1 => k H1 locs1 ls hP1 hD1 hS1 hl)
/-- an array of references, told otherwise beyond its end -/
theorem V_rr (q0 : Nat) {cA : ClassId} {a n : Nat} {f f' : Nat → Option Nat} (ha : ws[q0]? = some (a, .inl (cA, n, .inr (.inr (.inr (.inr f)))))) (hf : ∀ j, j < n → f j = f' j)
    (k : V p l e R s m args below meth c Qw me D A cells slots pc lv st (ws.set q0 (a, .inl (cA, n, .inr (.inr (.inr (.inr f'))))))) : V p l e R s m args below meth c Qw me D A cells slots pc lv st ws := by
  intro H locs ls hP hD hS hl
  refine k H locs ls (fun j x hx => ?_) (hD.set ha) hS hl
  rw [List.getElem?_set] at hx
  by_cases e : q0 = j
  · rw [if_pos e] at hx
    split at hx
    · have e2 := Option.some.inj hx
      subst e2
      have h0 : H[a]? = some (vp_cell cA (n, .inr (.inr (.inr (.inr f))))) := hP q0 _ ha
      show H[a]? = some (vp_cell cA (n, .inr (.inr (.inr (.inr f')))))
      rw [h0]
      congr 1
      show arrV cA n (fun j => va_rf (f j)) = arrV cA n (fun j => va_rf (f' j))
      unfold arrV
      congr 2
      funext j
      show va_rf (f j.val) = va_rf (f' j.val)
      rw [hf j.val j.isLt]
    · cases hx
  · rw [if_neg e] at hx
    exact hP j x hx
theorem V_after {α : Type} {mc ms ci q : Nat} {fs : List Value} {B : Nat → α → va_W} {E : Nat → α → State → Prop} {wr : va_W} {a : Array Value} (C : VX me A p s m args meth c)
    (hr : ∀ (H : Heap) (locs : List Loc) (ls : Array Slot), va_P D vwCl [(q, .inr (ci, fs))] H → va_D A [(q, .inr (ci, fs))] → va_S A s.heap H locs → lv_has ls me.2.2.1 lv → va_Run p l e R s m args below meth c H locs cells slots mc ms (F0 m pc ls (.ref q :: st)) st (QcV D (va_A [(q, .inr (ci, fs))] H.size) (B q) (E q) a) (va_A [(q, .inr (ci, fs))] H.size))
    (k : ∀ (u : α) (t : State), s.vm.Alike t.vm → E q u t → V p l e R s m args below meth c Qw me D A (cells + mc) (slots + ms) (pc + 3) lv st (wr ++ B q u)) : V p l e R s m args below meth c Qw me D A cells slots pc lv (.ref q :: st) (wr ++ [(q, .inr (ci, fs))]) := by
  intro H locs ls hP hD hS hl
  have hC : [wr.length].map (fun i => (wr ++ [((q, .inr (ci, fs)) : Nat × va_E)])[i]?) = [((q, .inr (ci, fs)) : Nat × va_E)].map some := by simp
  have hFc := va_free (wc := [(q, .inr (ci, fs))]) hD hS C.2.2.2.2.2.2.2.2.2 [wr.length] hC
  refine va_callv (hr H locs ls (hP.sub [wr.length] (by simp)) (hD.sub [wr.length] (by simp [va_nd]) hC) hS hl) hS (fun q _ h => hFc q h) hFc (fun u t H1 locs1 ht hvm hw hB hz1 hk1 hS1 => ?_)
  obtain ⟨⟨hP1, hD1⟩, hE⟩ := hB
  rw [ht] at hP1
  obtain ⟨hP2, hD2⟩ := va_join (wr := wr) (w1 := B q u) hP hD [wr.length] (List.range wr.length) hC map_range (nd_to List.nodup_range) (fun i hi h2 => by
    have h3 := List.mem_range.mp hi
    have h4 := List.mem_singleton.mp h2
    omega) hk1 hFc hP1 hD1
  exact k u t hvm hE H1 locs1 ls hP2 hD2 hS1 hl
theorem V_pre {H : Heap} {sz h0 : Nat} {w : va_W} (C : VX me A p s m args meth c) (hK : va_K D vwCl (tyV cI cZ) s) (hsz : H.size = sz) (hP : va_P D vwCl w H) (hD : va_D A w) : ∀ U : State, U.heap = H → s.WarmedH U.vm → PcV D cI cZ sz h0 w ([Value.ref h0] : List Value).toArray U := by
  intro U hU hW
  exact ⟨rfl, by rw [hU]; exact hsz, by rw [hU]; exact hP, va_K.moved hW.alike hK, hD.weaken (fun _ _ _ _ => trivial), C.2.2.2.2.2.2.2.2.1.go hW⟩
/-- a nest mate's constructor -/
theorem V_callN {α : Type} {me' : ME} {idx mc ms ci q : Nat} {fs : List Value} {B : Nat → α → va_W} {E : Nat → α → State → Prop} {wr : va_W} (C : VX me A p s m args meth c) (hK : va_K D vwCl (tyV cI cZ) s) (hM : CN l D cI cZ me' mc ms ci fs B E) (ho : okI me') (hnest : (me.1.cls, idx, me'.1) ∈ nestL)
    (hR : me'.2.2.2.2 + 1 ≤ R.frames ∧ 8 + (me'.2.2.1 + 11) + 35 * me'.2.2.2.2 ≤ R.locals) (hd : decode me.2.1 pc = .ok (.invokespecial idx, 3)) (hcat : (st.map fun v => v.category).sum ≤ 8) (hc : cells + mc ≤ R.cells) (hs : slots + ms ≤ R.slots)
    (k : ∀ (u : α) (t : State), s.vm.Alike t.vm → E q u t → V p l e R s m args below meth c Qw me D A (cells + mc) (slots + ms) (pc + 3) lv st (wr ++ B q u)) : V p l e R s m args below meth c Qw me D A cells slots pc lv (.ref q :: st) (wr ++ [(q, .inr (ci, fs))]) := by
  refine V_after (a := ([Value.ref q] : List Value).toArray) C (fun H locs ls hP hD hS hl => ?_) k
  obtain ⟨⟨o1, o2, o3, o4, o5⟩, o6, o7, o9, o8⟩ := ho
  have hw := C.2.2.2.2.2.1
  have hGM := good_M o1
  unfold wsM at hGM
  have hMet := hM q H.size
  unfold wsM at hMet
  rw [o9] at hGM hMet
  exact va_runIN (host := RX9) (n := 0) (bytes := me'.2.1) (maxL := me'.2.2.1) (As := []) (rest := st) (b := q) (nL := me.2.2.1) ⟨C.1, C.2.1, C.2.2.2.1, C.2.2.2.2.1, hw⟩ hMet ⟨va_cnB (host := RX9) 0 hw hGM rfl rfl rfl (C.2.2.2.2.2.2.2.2.1.1 _ hnest) (hw _ o2) ⟨o3.1, o3.2, o8⟩ hR, o7, hw _ o6⟩ ⟨PcV_blind, V_pre C hK rfl hP hD⟩ rfl rfl hl.1 rfl (lv_room hcat) hd ⟨hc, hs⟩
/-- a constructor of another class -/
theorem V_callI {α : Type} {me' : ME} {idx mc ms ci q : Nat} {fs : List Value} {B : Nat → α → va_W} {E : Nat → α → State → Prop} {wr : va_W} (C : VX me A p s m args meth c) (hK : va_K D vwCl (tyV cI cZ) s) (hM : CN l D cI cZ me' mc ms ci fs B E) (ho : okI me') (hlink : Cond.methodLink me.1.cls idx me'.1 ∈ wsG)
    (hR : me'.2.2.2.2 + 1 ≤ R.frames ∧ 8 + (me'.2.2.1 + 11) + 35 * me'.2.2.2.2 ≤ R.locals) (hd : decode me.2.1 pc = .ok (.invokespecial idx, 3)) (hcat : (st.map fun v => v.category).sum ≤ 8) (hc : cells + mc ≤ R.cells) (hs : slots + ms ≤ R.slots)
    (k : ∀ (u : α) (t : State), s.vm.Alike t.vm → E q u t → V p l e R s m args below meth c Qw me D A (cells + mc) (slots + ms) (pc + 3) lv st (wr ++ B q u)) : V p l e R s m args below meth c Qw me D A cells slots pc lv (.ref q :: st) (wr ++ [(q, .inr (ci, fs))]) := by
  refine V_after (a := ([Value.ref q] : List Value).toArray) C (fun H locs ls hP hD hS hl => ?_) k
  obtain ⟨⟨o1, o2, o3, o4, o5⟩, o6, o7, o9, o8⟩ := ho
  have hw := C.2.2.2.2.2.1
  have hGM := good_M o1
  unfold wsM at hGM
  have hMet := hM q H.size
  unfold wsM at hMet
  rw [o9] at hGM hMet
  exact va_runI (n := 0) (bytes := me'.2.1) (maxL := me'.2.2.1) (As := []) (rest := st) (b := q) (nL := me.2.2.1) ⟨C.1, C.2.1, C.2.2.2.1, C.2.2.2.2.1, hw⟩ hMet (cwI 0 hw hGM rfl rfl rfl (hw _ o2) (hw _ hlink) (hw _ o6) o7 ⟨o3.1, o3.2, o8⟩ hR) ⟨PcV_blind, V_pre C hK rfl hP hD⟩ rfl rfl hl.1 rfl (lv_room hcat) hd ⟨hc, hs⟩
theorem V_ret {α : Type} {mc ms : Nat} {B : α → va_W} {E : α → State → Prop} (C : VX me A p s m args meth c) (u : α) (hd : decode me.2.1 pc = .ok (.return_, 1)) (hr : me.2.2.2.1 = none) (hw : ws = B u) (hE : ∀ t : State, s.WarmedH t.vm → E u t) : V p l e R s m args below meth c (MQ below (QcV D A B E) args s mc ms A) me D A mc ms pc lv [] ws := by
  intro H locs ls hP hD hS hl
  subst hw
  have hlocks : meth.locks = false := C.2.2.2.2.2.2.1
  exact W.vret C.1 C.2.1 (C.2.2.1.trans hr) (fun t ht hW => ⟨⟨u, rfl, trivial, ⟨by rw [ht]; exact hP, hD⟩, hE t hW⟩, hS.F ht⟩) hS.2.2 hd
/-- a constructor's start -/
theorem CN_of {α : Type} {me : ME} {mc ms ci : Nat} {fs : List Value} {B : Nat → α → va_W} {E : Nat → α → State → Prop} (ho : okI me) (hm : 1 ≤ me.2.2.1)
    (h : ∀ (h0 : Nat) (p : Program) (e : Env) (s : State) (m : MethodId) (args : Array Value) (below : List Frame) (meth : Method) (c : Code) (A : Nat → Prop), VX me A p s m args meth c → va_K D vwCl (tyV cI cZ) s →
      V p l e (rmV me.2.2.2.2 mc ms) s m args below meth c (MQ below (QcV D A (B h0) (E h0)) args s mc ms A) me D A 0 0 0 [(0, .ref h0)] [] [(h0, .inr (ci, fs))]) : CN l D cI cZ me mc ms ci fs B E := by
  intro h0 sz
  refine Met.ofW (cc := me.2.1) (maxL := me.2.2.1) (ret := me.2.2.2.1) ho.1.2.2.2.2 rfl ?_
  intro p e s m args below meth c s₁ Bd hml hv
  obtain ⟨rfl, hsz, hP, hK, hD0, hN⟩ := hv
  subst hsz
  have hts := atoms_spec (ws := wsM me) Bd.pre
  have hD := hD0.self (sz := s.heap.size)
  have hl := lv_entry ([.ref h0]) (n := me.2.2.1) hm
  rw [lg_entry_eq]
  generalize (lg_sl ([.ref h0]) ++ List.replicate (me.2.2.1 - (lg_sl ([.ref h0])).length) Slot.unset).toArray = ls at hl ⊢
  exact h h0 p e s m _ below meth c (va_A [(h0, .inr (ci, fs))] s.heap.size) ⟨Bd.exec, Bd.bytes, Bd.returns, hml, findClass_of_methodNamed Bd.named, fun w hw => hts w (List.mem_cons_of_mem _ hw), Bd.notSynchronized, fun hi => (name_of_methodNamed Bd.named Bd.method).1.trans hi, hN, fun q hq => Or.inr hq⟩ hK s.heap [] ls hP hD va_S.rf hl
end VV
