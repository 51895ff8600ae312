/-! fields, answers, calls, a method's start, the frame -/
def FLk (own : String) (idx ci k : Nat) : Prop := ∃ (C : String) (T : u_T) (NN : Nat), vwCl[ci]? = some (C, T, NN) ∧ k < NN ∧ (∀ w ∈ u_ws C T NN, w ∈ wsG) ∧ Cond.fieldLink own idx (T k).1 (T k).2.1 (T k).2.2.1 ∈ wsG
def FPk (own : String) (idx ci k : Nat) (ty : FieldType) : Prop := ∃ (C : String) (T : u_T) (NN : Nat), vwCl[ci]? = some (C, T, NN) ∧ k < NN ∧ (∀ w ∈ u_ws C T NN, w ∈ wsG) ∧ Cond.fieldLink own idx (T k).1 (T k).2.1 (T k).2.2.1 ∈ wsG ∧
  (T k).2.2.2 = false ∧ parseFieldDescriptor (T k).2.2.1 = some ty ∧ (∃ ty0 : Nat → FieldType, ∀ k, k < NN → parseFieldDescriptor (T k).2.2.1 = some (ty0 k)) ∧ (∀ a, a < NN → ∀ b, b < NN → a ≠ b → (T a).2.1 ≠ (T b).2.1)
def okM (me : ME) : Prop := Cond.code me.1 me.2.1 me.2.2.1 me.2.2.2.1 ∈ wsG ∧ Cond.initialized me.1.cls ∈ wsG ∧ (me.1.cls ≠ "java/lang/invoke/MethodHandle" ∧ me.1.cls ≠ "java/lang/invoke/VarHandle") ∧ me.2.2.1 ≤ 16 ∧ plainName me.1.cls = true
def okV (me : ME) (n : Nat) : Prop := okM me ∧ Cond.instanceMethod me.1 ∈ wsG ∧ Cond.selects me.1.cls me.1 me.1 ∈ wsG ∧ (parseMethodDescriptor me.1.desc).map (fun d => d.parameters.length) = some n
def okT (me : ME) (n : Nat) : Prop := okM me ∧ Cond.static me.1 ∈ wsG ∧ (parseMethodDescriptor me.1.desc).map (fun d => d.parameters.length) = some n
theorem good_M {me : ME} (h : Cond.code me.1 me.2.1 me.2.2.1 me.2.2.2.1 ∈ wsG) : GoodIn wsG (wsM me) := by
  intro w hw
  rcases List.mem_cons.mp hw with rfl | hw
  · exact ⟨h, good_of_word (wsG_good h)⟩
  · exact ⟨hw, good_of_word (wsG_good hw)⟩
theorem good_one {w : Cond} (h : w ∈ wsG) : w ∈ wsG ∧ ((w.onTables && w.keeps) = true ∨ ∃ ty, w = .arrayClass ty) := ⟨h, good_of_word (wsG_good h)⟩
theorem AA_up {ad : Nat → Nat} {N a b : Nat} (h : a ≤ b) : ∀ q, AA ad N b q → AA ad N a q := fun q hq => hq.elim Or.inl (fun h2 => Or.inr (Nat.le_trans h h2))
theorem PcE_blind {g : GG} {ad : Nat → Nat} {sz : Nat} {vs : List AV} {A : AH} : FrameBlind (PcE g ad sz vs A) := by
  intro a U g' mk h
  obtain ⟨h0, h1, h2, h3, h4⟩ := h
  exact ⟨h0, h1, h2, va_K.moved (u := U) (U := U.calling g' mk a) (Vm.Alike.refl U.vm) h3, h4.same (U := U.calling g' mk a) rfl rfl⟩
section ZC
variable {g : GG} {M : ME} {N : Nat} {Q : Option AV → AH → Prop} {pc : Nat} {lv : List (Option AV)} {st : List AV} {A : AH}
theorem Z_getfield {idx ci k q : Nat} {fs : List AV} {v : AV} (hd : decode M.2.1 pc = .ok (.getfield idx, 3)) (hf : FLk M.1.cls idx ci k) (ha : A[q]? = some (ob ci fs)) (hv : fs[k]? = some v) (kk : Z g M N Q (pc + 3) lv (v :: st) A) : Z g M N Q pc lv (vr q :: st) A := by
  intro ad p e s m args below meth c C H locs ls hP hS hN hl
  obtain ⟨C', T, NN, h1, h2, h3, h4⟩ := hf
  exact va_get (ref := (T k).1) (fs := fs.map (cv ad)) (v := cv ad v) C.1 C.2.1 C.2.2.2.2.2.1 h3 C.2.2.2.2.1 C.2.2.2.2.2.2.2.1 hP q (wm_at ha) h1 k h2 (C.2.2.2.2.2.1 _ h4) (fun _ h9 => h9) (by rw [List.getElem?_map, hv]; rfl) hd (kk ad p e s m args below meth c C H locs ls hP hS hN hl)
theorem Z_putV {idx ci k q : Nat} {fs : List AV} {v : AV} {ty : FieldType} (hd : decode M.2.1 pc = .ok (.putfield idx, 3)) (hf : FPk M.1.cls idx ci k ty) (ha : A[q]? = some (ob ci fs)) (hk : k < fs.length) (hn : ∀ ad, narrow ty (cv ad v) = cv ad v ∧ fits ty (cv ad v) = true) (kk : Z g M N Q (pc + 3) lv st (A.set q (ob ci (fs.set k v)))) : Z g M N Q pc lv (v :: vr q :: st) A := by
  intro ad p e s m args below meth c C H locs ls hP hS hN hl
  obtain ⟨C', T, NN, h1, h2, h3, h4, h5, h6, ⟨ty0, h7⟩, h8⟩ := hf
  refine va_put (ref := (T k).1) (fs := fs.map (cv ad)) (v := cv ad v) C.1 C.2.1 C.2.2.2.2.2.1 h3 ty0 h7 h8 C.2.2.2.2.1 C.2.2.2.2.2.2.2.1 hP (AA_D C.2.2.2.2.2.2.2.2.2.1 hN) hS q (wm_at ha) h1 k h2 (C.2.2.2.2.2.1 _ h4) (fun _ h9 => h9) h5 h6 (hn ad).1 (hn ad).2 (by rw [List.length_map]; exact hk) hd (fun H1 locs1 hP1 hD1 hS1 => ?_)
  refine kk ad p e s m args below meth c C H1 locs1 ls ?_ hS1 (by rw [List.length_set]; exact hN) hl
  rw [wm_set]
  show va_P _ _ ((wm ad g.2.2.1 A).set q (ad q, .inr (ci, (fs.set k v).map (cv ad)))) H1
  rw [List.map_set]
  exact hP1
theorem Z_put {idx ci k q : Nat} {fs : List AV} {x : Int32} (hd : decode M.2.1 pc = .ok (.putfield idx, 3)) (hf : FPk M.1.cls idx ci k .int) (ha : A[q]? = some (ob ci fs)) (hk : k < fs.length) (kk : Z g M N Q (pc + 3) lv st (A.set q (ob ci (fs.set k (vi x))))) : Z g M N Q pc lv (vi x :: vr q :: st) A :=
  Z_putV hd hf ha hk (fun _ => ⟨rfl, rfl⟩) kk
theorem Z_putz {idx ci k q : Nat} {fs : List AV} {x : Int32} (hd : decode M.2.1 pc = .ok (.putfield idx, 3)) (hf : FPk M.1.cls idx ci k .boolean) (ha : A[q]? = some (ob ci fs)) (hk : k < fs.length) (hx : x = 0 ∨ x = 1) (kk : Z g M N Q (pc + 3) lv st (A.set q (ob ci (fs.set k (vi x))))) : Z g M N Q pc lv (vi x :: vr q :: st) A :=
  Z_putV hd hf ha hk (fun _ => z01 hx) kk
theorem Z_ireturn {x : Int32} {ty : FieldType} (hd : decode M.2.1 pc = .ok (.ireturn, 1)) (hr : M.2.2.2.1 = some ty) (hn : narrow ty (.int x) = .int x) (h : Q (some (vi x)) A) : Z g M N Q pc lv [vi x] A := by
  intro ad p e s m args below meth c C H locs ls hP hS hN hl
  have hlocks : meth.locks = false := C.2.2.2.2.2.2.1
  exact W.zret (ty := ty) (v := x) C.1 C.2.1 (C.2.2.1.trans hr) hn (fun t ht hW => ⟨⟨some (vi x), A, rfl, h, hN, by rw [ht]; exact hP⟩, hS.F ht⟩) hS.2.2 hd
theorem Z_return (hd : decode M.2.1 pc = .ok (.return_, 1)) (hr : M.2.2.2.1 = none) (h : Q none A) : Z g M N Q pc lv [] A := by
  intro ad p e s m args below meth c C H locs ls hP hS hN hl
  have hlocks : meth.locks = false := C.2.2.2.2.2.2.1
  exact W.vret C.1 C.2.1 (C.2.2.1.trans hr) (fun t ht hW => ⟨⟨none, A, rfl, h, hN, by rw [ht]; exact hP⟩, hS.F ht⟩) hS.2.2 hd
/-- behind a call -/
theorem Z_after {me : ME} {vs rest : List AV} {st0 : List AV} (ad : Nat → Nat) {p : Program} {e : Env} {s : State} {m : MethodId} {args : Array Value} {below : List Frame} {meth : Method} {c : Code} (C : Cx g M N ad p s m args meth c) {H : Heap} {locs : List Loc} {ls : Array Slot} (hS : va_S (AA ad N s.heap.size) s.heap H locs) (hN : A.length = N) (hl : LV ad ls M.2.2.1 lv) {a : Array Value}
    (hr : va_Run p g.1 e (rmL M.2.2.2.2) s m args below meth c H locs 0 0 0 0 (F0 m pc ls (st0.map (cv ad))) (rest.map (cv ad)) (QcE g ad A.length (fun r A' => Z g M N Q (pc + 3) lv (r.toList ++ rest) A') a) (AA ad A.length H.size)) :
    W p g.1 e (rmL M.2.2.2.2) s m args below meth c H locs 0 0 (MQ below (QcE g ad N Q) args s 0 0 (AA ad N s.heap.size)) (F0 m pc ls (st0.map (cv ad))) := by
  intro T hT X
  obtain ⟨v, st₀, t, T', L, h0, X', hL, e1, e2, ⟨⟨r, A', hv, hz, hlen, hP1⟩, hF⟩, stp⟩ := hr T hT X
  have hv : v = r.map (cv ad) := Outcome.returned.inj hv
  subst hv
  rw [hN] at hL hlen hF
  obtain ⟨hF1, hF2⟩ := hF
  rw [h0] at hF1 hF2
  have hS' : va_S (AA ad N s.heap.size) s.heap T'.heap (locs ++ L) := by
    refine ⟨Nat.le_trans hS.1 (by rw [e1]; exact hF1), fun q h1 h2 => ?_, fun q hq => ?_⟩
    · rw [e1, hF2 q (Nat.lt_of_lt_of_le h1 hS.1) (fun z => h2 (AA_up hS.1 q z))]
      exact hS.2.1 q h1 h2
    · rcases List.mem_append.mp hq with h | h
      · exact hS.2.2 q h
      · exact AA_up hS.1 _ (hL q h)
  obtain ⟨t2, a1, b1⟩ := hz ad p e s m args below meth c C T'.heap (locs ++ L) ls (by rw [e1]; exact hP1) hS' hlen hl T' rfl X'
  refine ⟨t2, stp t2 ?_, b1⟩
  have e9 : (r.toList ++ rest).map (cv ad) = (r.map (cv ad)).toList ++ rest.map (cv ad) := by
    cases r <;> simp
  rw [e9] at a1
  exact a1
theorem Z_pre {me : ME} {vs : List AV} (ad : Nat → Nat) {p : Program} {s : State} {m : MethodId} {args : Array Value} {meth : Method} {c : Code} (C : Cx g M N ad p s m args meth c) {H : Heap} {locs : List Loc} (hP : va_P g.2.1 vwCl (wm ad g.2.2.1 A) H) (hS : va_S (AA ad N s.heap.size) s.heap H locs) (hN : A.length = N) :
    ∀ U : State, U.heap = H → s.WarmedH U.vm → PcE g ad H.size vs A (vs.map (cv ad)).toArray U := by
  intro U hU hW
  refine ⟨rfl, by rw [hU], by rw [hU]; exact hP, va_K.moved hW.alike C.2.2.2.2.2.2.2.1, ?_⟩
  rw [hN]
  exact C.2.2.2.2.2.2.2.2.1.go hW (AA_up hS.1) (fun q h1 h2 => by rw [hU]; exact hS.2.1 q h1 h2)
theorem rm_ok {dc dm maxL : Nat} (h : dc < dm) (hl : maxL ≤ 16) : (rmL dc).frames + 1 ≤ (rmL dm).frames ∧ 8 + (maxL + 11) + (rmL dc).locals ≤ (rmL dm).locals := by
  constructor
  · exact h
  · show 8 + (maxL + 11) + 35 * dc ≤ 35 * dm
    omega
def cats (l : List AV) : Nat := match l with
  | [] => 0
  | v :: r => (if isL (some v) then 2 else 1) + cats r
theorem cats_ok {ad : Nat → Nat} : ∀ l : List AV, ((l.map (cv ad)).map fun v => v.category).sum = cats l := by
  intro l
  induction l with
  | nil => rfl
  | cons v r ih =>
    rcases v with x | x | k <;> simp [cats, cv, Value.category, isL] at ih ⊢ <;> exact ih
theorem Z_callV {me : ME} {idx n ci q : Nat} {fs vs rest : List AV} (hd : decode M.2.1 pc = .ok (.invokevirtual idx, 3)) (hlink : Cond.methodLink M.1.cls idx me.1 ∈ wsG) (ho : okV me n) (hlev : me.2.2.2.2 < M.2.2.2.2) (ha : A[q]? = some (ob ci fs)) (hcl : (vwCl[ci]?).map (fun r => r.1) = some me.1.cls) (hn : vs.length = n) (hcat : cats rest ≤ 8)
    (h : Ev g me (vr q :: vs) A (fun r A' => Z g M N Q (pc + 3) lv (r.toList ++ rest) A')) : Z g M N Q pc lv (vs.reverse ++ vr q :: rest) A := by
  intro ad p e s m args below meth c C H locs ls hP hS hN hl
  obtain ⟨⟨o1, o2, o3, o4, o5⟩, o6, o7, o8⟩ := ho
  have hM := h ad H.size (hN ▸ C.2.2.2.2.2.2.2.2.2.1) C.2.2.2.2.2.2.2.2.2.2
  obtain ⟨rC, hrC, hrC2⟩ : ∃ r, vwCl[ci]? = some r ∧ r.1 = me.1.cls := by
    cases hr : vwCl[ci]? with
    | none => rw [hr] at hcl; cases hcl
    | some r => rw [hr] at hcl; exact ⟨r, rfl, Option.some.inj hcl⟩
  have hrecv := va_recv (a := ad q) (q0 := q) (ci := ci) C.2.2.2.2.2.2.2.1 hP hrC (wm_at ha)
  rw [hrC2] at hrecv
  have hGV : GoodIn wsG (wsV M.1.cls idx me.1.cls me.1 (wsM me)) := by
    intro w hw
    unfold wsV at hw
    rcases List.mem_append.mp hw with hw | hw
    · simp only [List.mem_cons, List.not_mem_nil, or_false] at hw
      rcases hw with rfl | rfl | rfl | rfl
      · exact good_one hlink
      · exact good_one o6
      · exact good_one o7
      · exact good_one o2
    · exact good_M o1 w hw
  have hr := va_runV (p := p) (e := e) (below := below) (meth := meth) (locs := locs) (cells := 0) (slots := 0) (H := H) (R := rmL M.2.2.2.2) (g := F0 m pc ls ((vs.reverse ++ vr q :: rest).map (cv ad))) (As := vs.map (cv ad)) (rest := rest.map (cv ad)) (b := ad q) (nL := M.2.2.1)
    (S := (⟨C.1, C.2.1, C.2.2.2.1, C.2.2.2.2.1, C.2.2.2.2.2.1⟩ : CallFix p m c M.2.1 M.2.2.1 s args wsG M.1.cls)) hM (cwV n C.2.2.2.2.2.1 hGV rfl rfl rfl ⟨rfl, o3.1, o3.2, o8⟩ (rm_ok hlev o4)) ⟨PcE_blind, hrecv, Z_pre (me := me) ad C hP hS hN⟩ rfl (by rw [List.length_map]; exact hn) hl.1 (by simp [List.map_append, List.map_reverse, cv]) (lv_room (by rw [cats_ok]; exact hcat)) hd ⟨Nat.le_refl _, Nat.le_refl _⟩
  exact Z_after (me := me) (vs := vs) ad C hS hN hl hr
theorem Z_callS {me : ME} {idx n : Nat} {vs rest : List AV} (hd : decode M.2.1 pc = .ok (.invokestatic idx, 3)) (hlink : Cond.methodLink M.1.cls idx me.1 ∈ wsG) (ho : okT me n) (hcls : me.1.cls = M.1.cls) (hlev : me.2.2.2.2 < M.2.2.2.2) (hn : vs.length = n) (hcat : cats rest ≤ 8)
    (h : Ev g me vs A (fun r A' => Z g M N Q (pc + 3) lv (r.toList ++ rest) A')) : Z g M N Q pc lv (vs.reverse ++ rest) A := by
  intro ad p e s m args below meth c C H locs ls hP hS hN hl
  obtain ⟨⟨o1, o2, o3, o4, o5⟩, o6, o8⟩ := ho
  have hM := h ad H.size (hN ▸ C.2.2.2.2.2.2.2.2.2.1) C.2.2.2.2.2.2.2.2.2.2
  have hGS : GoodIn wsG (wsS M.1.cls idx me.1 (wsM me)) := by
    intro w hw
    unfold wsS at hw
    rcases List.mem_append.mp hw with hw | hw
    · simp only [List.mem_cons, List.not_mem_nil, or_false] at hw
      rcases hw with rfl | rfl | rfl
      · exact good_one hlink
      · exact good_one o6
      · rw [← hcls]; exact good_one o2
    · exact good_M o1 w hw
  have hr := va_runS (p := p) (e := e) (below := below) (meth := meth) (locs := locs) (cells := 0) (slots := 0) (H := H) (R := rmL M.2.2.2.2) (g := F0 m pc ls ((vs.reverse ++ rest).map (cv ad))) (As := vs.map (cv ad)) (rest := rest.map (cv ad)) (nL := M.2.2.1)
    (S := (⟨C.1, C.2.1, C.2.2.2.1, C.2.2.2.2.1, C.2.2.2.2.2.1⟩ : CallFix p m c M.2.1 M.2.2.1 s args wsG M.1.cls)) hM (cwS n C.2.2.2.2.2.1 hGS rfl rfl rfl ⟨hcls, o3.1, o3.2, o8⟩ (rm_ok hlev o4)) ⟨PcE_blind, Z_pre (me := me) ad C hP hS hN⟩ rfl (by rw [List.length_map]; exact hn) hl.1 (by simp [List.map_append, List.map_reverse]) (lv_room (by rw [cats_ok]; exact hcat)) hd ⟨Nat.le_refl _, Nat.le_refl _⟩
  exact Z_after (me := me) (vs := vs) ad C hS hN hl hr
/-- a private static method of a nest mate: isColour out of Reader and Slip -/
theorem Z_callN {me : ME} {idx n : Nat} {vs rest : List AV} (hd : decode M.2.1 pc = .ok (.invokestatic idx, 3)) (hw : (M.1.cls = RX3 ∧ idx = 106 ∨ M.1.cls = RX5 ∧ idx = 54) ∧ me.1 = yX9_isColour) (ho : okT me n) (hlev : me.2.2.2.2 < M.2.2.2.2) (hn : vs.length = n) (hcat : cats rest ≤ 8)
    (h : Ev g me vs A (fun r A' => Z g M N Q (pc + 3) lv (r.toList ++ rest) A')) : Z g M N Q pc lv (vs.reverse ++ rest) A := by
  intro ad p e s m args below meth c C H locs ls hP hS hN hl
  obtain ⟨⟨o1, o2, o3, o4, o5⟩, o6, o8⟩ := ho
  have hM := h ad H.size (hN ▸ C.2.2.2.2.2.2.2.2.2.1) C.2.2.2.2.2.2.2.2.2.2
  have hlk : va_Nw (.methodLinkNest M.1.cls idx me.1 RX9) s := by
    have hsx := C.2.2.2.2.2.2.2.2.1.1
    obtain ⟨hw1, hw2⟩ := hw
    rw [hw2]
    rcases hw1 with ⟨w1, w2⟩ | ⟨w1, w2⟩
    · rw [w1, w2]; exact hsx.1
    · rw [w1, w2]; exact hsx.2
  have hr := va_runSN (p := p) (e := e) (below := below) (meth := meth) (locs := locs) (cells := 0) (slots := 0) (H := H) (R := rmL M.2.2.2.2) (g := F0 m pc ls ((vs.reverse ++ rest).map (cv ad))) (As := vs.map (cv ad)) (rest := rest.map (cv ad)) (nL := M.2.2.1)
    (S := (⟨C.1, C.2.1, C.2.2.2.1, C.2.2.2.2.1, C.2.2.2.2.2.1⟩ : CallFix p m c M.2.1 M.2.2.1 s args wsG M.1.cls)) hM ⟨va_cnB (host := RX9) n C.2.2.2.2.2.1 (good_M o1) rfl rfl rfl hlk (C.2.2.2.2.2.1 _ o2) ⟨o3.1, o3.2, o8⟩ (rm_ok hlev o4), C.2.2.2.2.2.1 _ o6, trivial⟩ ⟨PcE_blind, Z_pre (me := me) ad C hP hS hN⟩ rfl (by rw [List.length_map]; exact hn) hl.1 (by simp [List.map_append, List.map_reverse]) (lv_room (by rw [cats_ok]; exact hcat)) hd ⟨Nat.le_refl _, Nat.le_refl _⟩
  exact Z_after (me := me) (vs := vs) ad C hS hN hl hr
/-- System.arraycopy of ints -/
theorem Z_acopy {idx q0 q1 n0 n1 : Nat} {f f1 : Nat → Int32} {sp dp n : Int32} (hd : decode M.2.1 pc = .ok (.invokestatic idx, 3)) (hlink : Cond.methodLink M.1.cls idx arraycopyName ∈ wsG) (hnat : Cond.native arraycopyName ∈ wsG) (hst : Cond.static arraycopyName ∈ wsG) (hini : Cond.initialized "java/lang/System" ∈ wsG)
    (hlev : 0 < M.2.2.2.2) (ha0 : A[q0]? = some (ar 0 n0 f)) (ha1 : A[q1]? = some (ar 0 n1 f1)) (h1 : ¬ sp < 0) (h2 : ¬ dp < 0) (h3 : ¬ n < 0) (h4 : sp.toNatClampNeg + n.toNatClampNeg ≤ n0) (h5 : dp.toNatClampNeg + n.toNatClampNeg ≤ n1) (hcat : cats st ≤ 8)
    (k : Z g M N Q (pc + 3) lv st (A.set q1 (ar 0 n1 (va_cpy f f1 sp.toNatClampNeg dp.toNatClampNeg n.toNatClampNeg)))) : Z g M N Q pc lv (vi n :: vi dp :: vr q1 :: vi sp :: vr q0 :: st) A := by
  intro ad p e s m args below meth c C H locs ls hP hS hN hl
  have hw := C.2.2.2.2.2.1
  refine va_copyi (ty := .int) C.1 C.2.1 (C.2.2.2.1.trans hl.1.symm) C.2.2.2.2.1 (hw _ hlink) (hw _ hnat) (hw _ hst) (hw _ hini) C.2.2.2.2.2.2.2.1 hP (AA_D C.2.2.2.2.2.2.2.2.2.1 hN) hS q0 q1 0 0 (wm_at ha0) (wm_at ha1) rfl rfl rfl h1 h2 h3 h4 h5 (fun i hi => rfl) hlev ?_ hd (fun H1 locs1 hP1 hD1 hS1 => ?_)
  · rw [cats_ok]
    have e9 : nativeFrameWords "java/lang/System" "arraycopy" 5 = 7 := by decide +kernel
    rw [e9]
    show cats st + (7 + 11) ≤ 35 * M.2.2.2.2
    omega
  · exact k ad p e s m args below meth c C H1 locs1 ls (by rw [wm_set]; exact hP1) hS1 (by rw [List.length_set]; exact hN) hl
end ZC
/-- a method's start -/
theorem Ev_of {g : GG} {me : ME} {vs : List AV} {A : AH} {Q : Option AV → AH → Prop} (ho : okM me) (hlen : (lv0 vs).length ≤ me.2.2.1) (h : Z g me A.length Q 0 (lv0 vs ++ List.replicate (me.2.2.1 - (lv0 vs).length) none) [] A) : Ev g me vs A Q := by
  intro ad sz hi hs
  refine Met.ofW (cc := me.2.1) (maxL := me.2.2.1) (ret := me.2.2.2.1) ho.2.2.2.2 rfl ?_
  intro p e s m args below meth c s₁ B hml hv
  obtain ⟨rfl, hsz, hP, hK, hX⟩ := hv
  subst hsz
  have hts := atoms_spec (ws := wsM me) B.pre
  have hl := lv_entry (vs.map (cv ad)) (n := me.2.2.1) (by rw [lv0_len]; exact hlen)
  rw [lg_entry_eq]
  generalize (lg_sl (vs.map (cv ad)) ++ List.replicate (me.2.2.1 - (lg_sl (vs.map (cv ad))).length) Slot.unset).toArray = ls at hl ⊢
  refine h ad p e s m _ below meth c ⟨B.exec, B.bytes, B.returns, hml, findClass_of_methodNamed B.named, fun w hw => hts w (List.mem_cons_of_mem _ hw), B.notSynchronized, hK, hX, hi, hs⟩ s.heap [] ls hP va_S.rf rfl ⟨hl.1, hl.2.1, fun k v hk => ?_⟩
  have hk2 : (lv0 vs)[k]? = some (some v) := by
    rcases Nat.lt_or_ge k (lv0 vs).length with h1 | h1
    · rwa [List.getElem?_append_left h1] at hk
    · rw [List.getElem?_append_right h1] at hk
      have := List.mem_of_getElem? hk
      rw [List.mem_replicate] at this
      cases this.2
  have := lv0_mem (ad := ad) vs 0 k v hk2
  rw [Nat.zero_add] at this
  exact hl.2.2 _ this
theorem Ev.mono {g : GG} {me : ME} {vs : List AV} {A : AH} {Q Q' : Option AV → AH → Prop} (h : Ev g me vs A Q) (hq : ∀ r A', A'.length = A.length → Q r A' → Q' r A') : Ev g me vs A Q' := by
  intro ad sz hi hs p e ha hc hk s m args below hf happ hP hK
  obtain ⟨n, o, h1, h2, h3, ⟨⟨r, A', b1, b2, b3, b4⟩, hF⟩, h5⟩ := h ad sz hi hs p e ha hc hk s m args below hf happ hP hK
  exact ⟨n, o, h1, h2, h3, ⟨⟨r, A', b1, hq r A' b3 b2, b3, b4⟩, hF⟩, h5⟩
