/-! the law: both worlds side by side, one row an instruction -/
theorem ren_range (n k : Nat) : ren (List.range n) k = k := by
  unfold ren
  rw [List.getD_eq_getElem?_getD]
  by_cases h : k < n
  · rw [List.getElem?_range h]; rfl
  · rw [List.getElem?_eq_none (by simpa using h)]; rfl
theorem renV_range (n : Nat) (v : AV) : renV (List.range n) v = v := by
  rcases v with x | x | k
  · rfl
  · rfl
  · show (Sum.inr (Sum.inr (ren (List.range n) k)) : AV) = Sum.inr (Sum.inr k)
    rw [ren_range]
theorem renC_range (n : Nat) (c : AC) : renC (List.range n) c = c := by
  rcases c with ⟨t, m, f⟩ | ⟨t, m, f⟩ | ⟨ci, fs⟩
  · rfl
  · show (Sum.inr (Sum.inl (t, m, fun i => ren (List.range n) (f i))) : AC) = Sum.inr (Sum.inl (t, m, f))
    simp only [ren_range]
  · show (Sum.inr (Sum.inr (ci, fs.map (renV (List.range n)))) : AC) = Sum.inr (Sum.inr (ci, fs))
    rw [show renV (List.range n) = id from funext (renV_range n), List.map_id]
/-- m numbers from n on -/
def isN (n m : Nat) : List Nat := (List.range m).map (fun i => n + i)
theorem isN_get {n m j : Nat} (h : j < m) : (isN n m)[j]? = some (n + j) := by
  unfold isN
  rw [List.getElem?_map, List.getElem?_range h]
  rfl
theorem isN_len {n m : Nat} : (isN n m).length = m := by simp [isN]
theorem isN_mem {n m k : Nat} : k ∈ isN n m ↔ n ≤ k ∧ k < n + m := by
  unfold isN
  rw [List.mem_map]
  constructor
  · rintro ⟨i, h1, rfl⟩
    have := List.mem_range.mp h1
    omega
  · rintro ⟨h1, h2⟩
    exact ⟨k - n, List.mem_range.mpr (by omega), by omega⟩
theorem isN_0 (m : Nat) : isN 0 m = List.range m := by
  unfold isN
  rw [show (fun i => 0 + i) = id from funext (fun i => Nat.zero_add i), List.map_id]
theorem put_mid {r : List Nat} {B1 M1 B2 A' : AH} (hn : (isN B1.length A'.length).Nodup) (hl : M1.length = A'.length) : put r (isN B1.length A'.length) A' (B1 ++ (M1 ++ B2)) = B1 ++ (A'.map (renC r) ++ B2) := by
  apply List.ext_getElem?
  intro k
  by_cases h1 : k < B1.length
  · rw [put_out _ _ _ (fun h => by have := isN_mem.mp h; omega), List.getElem?_append_left h1, List.getElem?_append_left h1]
  · by_cases h2 : k < B1.length + A'.length
    · have hj : k - B1.length < A'.length := by omega
      have e := put_in (r := r) (isN B1.length A'.length) A' (B1 ++ (M1 ++ B2)) hn (k - B1.length) k A'[k - B1.length] (by rw [isN_get hj]; congr 1; omega) (List.getElem?_eq_getElem hj) (by simp; omega)
      rw [e, List.getElem?_append_right (by omega), List.getElem?_append_left (by simpa using hj), List.getElem?_map, List.getElem?_eq_getElem hj]
      rfl
    · rw [put_out _ _ _ (fun h => by have := isN_mem.mp h; omega), List.getElem?_append_right (by omega), List.getElem?_append_right (by omega), List.getElem?_append_right (by omega), List.getElem?_append_right (by simp; omega)]
      simp [hl]
/-- a contract within a larger world -/
theorem Ev.mid {g : GG} {me : ME} {vs : List AV} {A B1 B2 : AH} {Q Q' : Option AV → AH → Prop} (h : Ev g me vs A Q) (hnd : va_nd (isN B1.length A.length) = true) (hbd : A.length ≤ 1000)
    (hq : ∀ r A', A'.length = A.length → Q r A' → Q' (r.map (renV (isN B1.length A.length))) (B1 ++ (A'.map (renC (isN B1.length A.length)) ++ B2))) :
    Ev g me (vs.map (renV (isN B1.length A.length))) (B1 ++ (A.map (renC (isN B1.length A.length)) ++ B2)) Q' := by
  refine Ev.fr (isN B1.length A.length) h hnd (by rw [isN_len]; exact hbd) ?_ ?_
  · apply List.ext_getElem?
    intro j
    rw [List.getElem?_map, List.getElem?_map]
    by_cases hj : j < A.length
    · rw [isN_get hj, List.getElem?_eq_getElem hj]
      show some ((B1 ++ (A.map _ ++ B2))[B1.length + j]?) = some (some _)
      rw [List.getElem?_append_right (by omega), List.getElem?_append_left (by simp; omega), List.getElem?_map, show B1.length + j - B1.length = j by omega, List.getElem?_eq_getElem hj]
      rfl
    · rw [List.getElem?_eq_none (by rw [isN_len]; omega), List.getElem?_eq_none (by omega)]
      rfl
  · intro r A' hl hQ
    have e := put_mid (r := isN B1.length A.length) (B1 := B1) (M1 := A.map (renC (isN B1.length A.length))) (B2 := B2) (A' := A') (by rw [hl]; exact nd_of hnd) (by rw [List.length_map]; exact hl.symm)
    rw [hl] at e
    rw [e]
    exact hq r A' hl hQ
def isM : List Nat := isN 36 11
def wB (S : Sg) (C : Ca) (a : Nat → Nat → Int32) (f : Nat → Int32) : AH := cW S C ++ (mW a f).map (renC isM)
theorem cW_len (S : Sg) (C : Ca) : (cW S C).length = 36 := by
  obtain ⟨⟨R, W, m, D⟩, ⟨tn, T⟩, ⟨n, TP⟩, ⟨sn, w⟩, im, sh, tf, rf⟩ := S
  obtain ⟨b, t, tp, ⟨st, nx, tk, fro, dR, dW, dm, db⟩, te, ⟨sl, ln⟩, sd, ia, sa⟩ := C
  rfl
theorem wB_len (S : Sg) (C : Ca) (a : Nat → Nat → Int32) (f : Nat → Int32) : (wB S C a f).length = 47 := by
  unfold wB
  rw [List.length_append, cW_len]
  rfl
theorem wB_0 (S : Sg) (C : Ca) (a : Nat → Nat → Int32) (f : Nat → Int32) : ∃ fs, (wB S C a f)[0]? = some (ob 9 fs) := by
  obtain ⟨⟨R, W, m, D⟩, ⟨tn, T⟩, ⟨n, TP⟩, ⟨sn, w⟩, im, sh, tf, rf⟩ := S
  obtain ⟨b, t, tp, ⟨st, nx, tk, fro, dR, dW, dm, db⟩, te, ⟨sl, ln⟩, sd, ia, sa⟩ := C
  exact ⟨_, rfl⟩
theorem wB_36 (S : Sg) (C : Ca) (a : Nat → Nat → Int32) (f : Nat → Int32) : ∃ fs, (wB S C a f)[36]? = some (ob 10 fs) := by
  unfold wB
  rw [List.getElem?_append_right (by rw [cW_len]; omega), cW_len]
  exact ⟨_, rfl⟩
section BTH
variable {g : GG} {S : Sg} {C : Ca} {a : Nat → Nat → Int32} {f : Nat → Int32} {me : ME} {vs vs' : List AV} {o : Int32 × Sg} {Q : Option AV → AH → Prop}
theorem both_x (h : Ev g me vs (cW S C) (CV o)) (k : ∀ C', RC o.2 C' → okSg o.2 → Q (some (vi o.1)) (wB o.2 C' a f)) : Ev g me vs (wB S C a f) Q := by
  have h2 := Ev.mid (B1 := []) (B2 := (mW a f).map (renC isM)) (Q' := Q) h (by rw [cW_len]; decide) (by rw [cW_len]; decide) (fun r A' hl hQ => by
    obtain ⟨rfl, C', rfl, hC', hS'⟩ := hQ
    have e : (cW o.2 C').map (renC (isN ([] : AH).length (cW S C).length)) = cW o.2 C' := by
      rw [show renC (isN ([] : AH).length (cW S C).length) = id from funext (fun c => by rw [List.length_nil, isN_0]; exact renC_range _ c), List.map_id]
    rw [e]
    exact k C' hC' hS')
  have e1 : (cW S C).map (renC (isN ([] : AH).length (cW S C).length)) = cW S C := by
    rw [show renC (isN ([] : AH).length (cW S C).length) = id from funext (fun c => by rw [List.length_nil, isN_0]; exact renC_range _ c), List.map_id]
  have e2 : vs.map (renV (isN ([] : AH).length (cW S C).length)) = vs := by
    rw [show renV (isN ([] : AH).length (cW S C).length) = id from funext (fun c => by rw [List.length_nil, isN_0]; exact renV_range _ c), List.map_id]
  rw [e1, e2] at h2
  exact h2
theorem both_m (h : Ev g me vs (mW a f) (MV o)) (e : vs.map (renV isM) = vs') (k : ∀ a' f', RM o.2 a' f' → Q (some (vi o.1)) (wB S C a' f')) : Ev g me vs' (wB S C a f) Q := by
  have h2 := Ev.mid (B1 := cW S C) (B2 := []) (Q' := Q) h (by rw [cW_len]; show va_nd (isN 36 11) = true; decide) (by show 11 ≤ 1000; decide) (fun r A' hl hQ => by
    obtain ⟨rfl, a', f', rfl, hM'⟩ := hQ
    rw [List.append_nil, cW_len]
    exact k a' f' hM')
  rw [List.append_nil, cW_len] at h2
  rw [← e]
  exact h2
end BTH
def LX (g : GG) (b L : Nat) (xs : Nat → Int32) (N : Nat) (ad : Nat → Nat) (p : Program) (s : State) (m : MethodId) (meth : Method) (c : Code) : Prop :=
  (p.tables.exec = Jvm.exec ∧ c.code = code ∧ meth.sig.returnType = ret ∧ c.maxLocals = 4 ∧ s.vm.findClass RL = some m.cls) ∧ (∀ w ∈ wsG, w.before #[Value.ref b] s = true) ∧ meth.locks = false ∧ va_K g.2.1 vwCl (tyG g.2.2.1) s ∧ Sx g (fun q => s.heap.size ≤ q) s ∧ inj ad N ∧ okS g ad ∧ (va_X b L xs s s.heap ∧ b < s.heap.size ∧ L ≤ 2560) ∧ (∀ k, k < N → s.heap.size ≤ ad k)
def ZL (g : GG) (b L : Nat) (xs : Nat → Int32) (N cl sl i pc : Nat) (st : List AV) (A : AH) : Prop :=
  ∀ (ad : Nat → Nat) (p : Program) (e : Env) (s : State) (m : MethodId) (below : List Frame) (meth : Method) (c : Code), LX g b L xs N ad p s m meth c →
    ∀ (H : Heap) (locs : List Loc) (ls : Array Slot), va_P g.2.1 vwCl (wm ad g.2.2.1 A) H → va_S (fun q => s.heap.size ≤ q) s.heap H locs → A.length = N → lv_has ls 4 [(0, .ref b), (1, .ref (ad 0)), (2, .ref (ad 36)), (3, .int (nI i))] →
      W p g.1 e room_1 s m #[Value.ref b] below meth c H locs cl sl (lw_Z below #[Value.ref b] s) (F0 m pc ls (st.map (cv ad)))
section LAW
variable {g : GG} {b L : Nat} {xs : Nat → Int32} {N cl sl i pc : Nat} {st : List AV} {A : AH}
theorem L_x (hd : decode code pc = .ok (.aload_n 1, 1)) (k : ZL g b L xs N cl sl i (pc + 1) (vr 0 :: st) A) : ZL g b L xs N cl sl i pc st A := by
  intro ad p e s m below meth c C H locs ls hP hS hN hl
  exact lv_aload_n C.1.1 C.1.2.1 hd rfl (lv_at hl 1 rfl) (k ad p e s m below meth c C H locs ls hP hS hN hl)
theorem L_m (hd : decode code pc = .ok (.aload_n 2, 1)) (k : ZL g b L xs N cl sl i (pc + 1) (vr 36 :: st) A) : ZL g b L xs N cl sl i pc st A := by
  intro ad p e s m below meth c C H locs ls hP hS hN hl
  exact lv_aload_n C.1.1 C.1.2.1 hd rfl (lv_at hl 2 rfl) (k ad p e s m below meth c C H locs ls hP hS hN hl)
/-- script[i + j] -/
theorem L_arg {j : Nat} {n : Int} (hd : decode code pc = .ok (.aload_n 0, 1) ∧ decode code (pc + 1) = .ok (.iload_n 3, 1) ∧ decode code (pc + 2) = .ok (.iconst n, 1) ∧ decode code (pc + 3) = .ok (.iadd, 1) ∧ decode code (pc + 4) = .ok (.iaload, 1)) (hv : Int32.ofInt n = nI j) (hj : i + j < L)
    (k : ZL g b L xs N cl sl i (pc + 5) (vi (xs (i + j)) :: st) A) : ZL g b L xs N cl sl i pc st A := by
  intro ad p e s m below meth c C H locs ls hP hS hN hl
  obtain ⟨d1, d2, d3, d4, d5⟩ := hd
  obtain ⟨hX, hbl, hL⟩ := C.2.2.2.2.2.2.2.1
  have hx := C.1.1
  have hb := C.1.2.1
  have kk := k ad p e s m below meth c C H locs ls hP hS hN hl
  refine lv_aload_n hx hb d1 rfl (lv_at hl 0 rfl) ?_
  refine lv_iload_n hx hb d2 rfl (lv_at hl 3 rfl) ?_
  refine lv_iconst (v := nI j) hx hb d3 hv ?_
  refine lv_iadd hx hb d4 ?_
  rw [nI_add]
  refine va_sld hx hb hX hbl (Nat.not_le.mpr hbl) hS (vp_in_nI hj (by omega)) d5 ?_
  rw [nI_clamp (by omega)]
  exact kk
theorem L_call {me : ME} {idx n ci q : Nat} {vs rest : List AV} (hd : decode code pc = .ok (.invokevirtual idx, 3)) (hlink : Cond.methodLink RL idx me.1 ∈ wsG) (ho : okV me n) (hlev : me.2.2.2.2 ≤ 10) (ha : ∃ fs, A[q]? = some (ob ci fs)) (hcl : (vwCl[ci]?).map (fun r => r.1) = some me.1.cls) (hn : vs.length = n) (hcat : cats rest ≤ 8) (hc : cl ≤ 600000 ∧ sl ≤ 7302250)
    (h : Ev g me (vr q :: vs) A (fun r A' => ZL g b L xs N cl sl i (pc + 3) (r.toList ++ rest) A')) : ZL g b L xs N cl sl i pc (vs.reverse ++ vr q :: rest) A := by
  intro ad p e s m below meth c C H locs ls hP hS hN hl
  obtain ⟨fs, ha⟩ := ha
  obtain ⟨⟨o1, o2, o3, o4, o5⟩, o6, o7, o8⟩ := ho
  obtain ⟨⟨hx, hb, hr, hml, hown⟩, hts, hlk, hK, hSx, hi, hs, hX, hge⟩ := id C
  have hM := h ad H.size (hN ▸ hi) hs
  obtain ⟨rC, hrC, hrC2⟩ : ∃ r, vwCl[ci]? = some r ∧ r.1 = me.1.cls := by
    cases hr : vwCl[ci]? with
    | none => rw [hr] at hcl; cases hcl
    | some r => rw [hr] at hcl; exact ⟨r, rfl, Option.some.inj hcl⟩
  have hrecv := va_recv (a := ad q) (q0 := q) (ci := ci) hK hP hrC (wm_at ha)
  rw [hrC2] at hrecv
  have hGV : GoodIn wsG (wsV RL idx me.1.cls me.1 (wsM me)) := by
    intro w hw
    unfold wsV at hw
    rcases List.mem_append.mp hw with hw | hw
    · simp only [List.mem_cons, List.not_mem_nil, or_false] at hw
      rcases hw with rfl | rfl | rfl | rfl
      · exact good_one hlink
      · exact good_one o6
      · exact good_one o7
      · exact good_one o2
    · exact good_M o1 w hw
  have hAA : ∀ q, AA ad A.length H.size q → s.heap.size ≤ q := by
    rintro q (⟨k, h1, rfl⟩ | h1)
    · exact hge k (hN ▸ h1)
    · exact Nat.le_trans hS.1 h1
  have hpre : ∀ U : State, U.heap = H → s.WarmedH U.vm → PcE g ad H.size (vr q :: vs) A ((vr q :: vs).map (cv ad)).toArray U := by
    intro U hU hW
    exact ⟨rfl, by rw [hU], by rw [hU]; exact hP, va_K.moved hW.alike hK, hSx.go hW hAA (fun q h1 h2 => by rw [hU]; exact hS.2.1 q h1 h2)⟩
  have hroom : (rmL me.2.2.2.2).frames + 1 ≤ room_1.frames ∧ 8 + (me.2.2.1 + 11) + (rmL me.2.2.2.2).locals ≤ room_1.locals := by
    constructor
    · show me.2.2.2.2 + 1 ≤ 11
      omega
    · show 8 + (me.2.2.1 + 11) + 35 * me.2.2.2.2 ≤ 388
      omega
  have hr2 := va_runV (p := p) (e := e) (below := below) (meth := meth) (locs := locs) (cells := cl) (slots := sl) (H := H) (R := room_1) (g := F0 m pc ls ((vs.reverse ++ vr q :: rest).map (cv ad))) (As := vs.map (cv ad)) (rest := rest.map (cv ad)) (b := ad q) (nL := 4)
    (S := (⟨hx, hb, hml, hown, hts⟩ : CallFix p m c code 4 s #[Value.ref b] wsG RL)) hM (cwV n hts hGV rfl rfl rfl ⟨rfl, o3.1, o3.2, o8⟩ hroom) ⟨PcE_blind, hrecv, hpre⟩ rfl (by rw [List.length_map]; exact hn) hl.1 (by simp [List.map_append, List.map_reverse, cv]) (lv_room (by rw [cats_ok]; exact hcat)) hd ⟨hc.1, hc.2⟩
  intro T hT X
  obtain ⟨v, st₀, t, T', L', h0, X', hL, e1, e2, ⟨⟨r, A', hv, hz, hlen, hP1⟩, hF⟩, stp⟩ := hr2 T hT X
  have hv : v = r.map (cv ad) := Outcome.returned.inj hv
  subst hv
  obtain ⟨hF1, hF2⟩ := hF
  rw [h0] at hF1 hF2
  have hS' : va_S (fun q => s.heap.size ≤ q) s.heap T'.heap (locs ++ L') := by
    refine ⟨Nat.le_trans hS.1 (by rw [e1]; exact hF1), fun q h1 h2 => ?_, fun q hq => ?_⟩
    · rw [e1, hF2 q (Nat.lt_of_lt_of_le h1 hS.1) (fun z => h2 (hAA q z))]
      exact hS.2.1 q h1 h2
    · rcases List.mem_append.mp hq with h | h
      · exact hS.2.2 q h
      · exact hAA _ (hL q h)
  obtain ⟨t2, a1, b1⟩ := hz ad p e s m below meth c C T'.heap (locs ++ L') ls (by rw [e1]; exact hP1) hS' (hlen.trans hN) hl T' rfl X'
  refine ⟨t2, stp t2 ?_, b1⟩
  have e9 : (r.toList ++ rest).map (cv ad) = (r.map (cv ad)).toList ++ rest.map (cv ad) := by
    cases r <;> simp
  rw [e9] at a1
  exact a1
theorem L_if {x y : Int32} {off : Int} (hd : decode code pc = .ok (.if_icmp .eq off, 3)) (ht : (pc : Int) + off = ((1052 : Nat) : Int)) (hxy : x = y) (k : ZL g b L xs N cl sl i 1052 st A) : ZL g b L xs N cl sl i pc (vi y :: vi x :: st) A := by
  intro ad p e s m below meth c C H locs ls hP hS hN hl
  exact lv_icmp_eq (tgt := 1052) C.1.1 C.1.2.1 hd ht (fun _ => k ad p e s m below meth c C H locs ls hP hS hN hl) (fun h => absurd hxy h)
theorem L_next (k : ZL g b L xs N cl sl (i + 5) 18 st A) : ZL g b L xs N cl sl i 1052 st A := by
  intro ad p e s m below meth c C H locs ls hP hS hN hl
  refine lv_iinc (v := nI (i + 5)) (lv' := [(3, .int (nI (i + 5))), (0, .ref b), (1, .ref (ad 0)), (2, .ref (ad 36))]) C.1.1 C.1.2.1 (by decide +kernel : decode code 1052 = .ok (.iinc 3 5, 3)) hl (k := 3) rfl (by rw [← nI_add]; rfl) (by decide) rfl (fun ls hl => ?_)
  refine lv_goto (tgt := 18) C.1.1 C.1.2.1 (by decide +kernel : decode code 1055 = .ok (.goto (-1037), 3)) (by decide) ?_
  exact k ad p e s m below meth c C H locs ls hP hS hN (lv_sub hl [1, 2, 3, 0] rfl)
theorem L_head (hi : i ≤ 2560) (hc : cl ≤ 600000 ∧ sl ≤ 7302250) (k : i + 5 ≤ L → ZL g b L xs N cl sl i 26 [] A) : ZL g b L xs N cl sl i 18 [] A := by
  intro ad p e s m below meth c C H locs ls hP hS hN hl
  obtain ⟨hX, hbl, hL⟩ := C.2.2.2.2.2.2.2.1
  obtain ⟨hx, hb, hr, hml, hown⟩ := C.1
  refine lv_iload_n hx hb (by decide +kernel : decode code 18 = .ok (.iload_n 3, 1)) rfl (lv_at hl 3 rfl) ?_
  refine lv_aload_n hx hb (by decide +kernel : decode code 19 = .ok (.aload_n 0, 1)) rfl (lv_at hl 0 rfl) ?_
  refine va_slen hx hb hX hbl (Nat.not_le.mpr hbl) hS (by decide +kernel : decode code 20 = .ok (.arraylength, 1)) ?_
  refine lv_iconst (v := nI 5) hx hb (by decide +kernel : decode code 21 = .ok (.iconst 5, 1)) (by decide) ?_
  refine lv_isub hx hb (by decide +kernel : decode code 22 = .ok (.isub, 1)) ?_
  have key : nI L - nI 5 < nI i ↔ L < i + 5 := by
    rw [Int32.lt_iff_toInt_lt, pk_sub_toInt (by omega) (by omega), nI_toInt (by omega)]
    omega
  refine lv_icmp_gt (tgt := 1058) hx hb (by decide +kernel : decode code 23 = .ok (.if_icmp .gt 1035, 3)) (by decide) (fun h => ?_) (fun h => ?_)
  · refine va_forget hS.2.2 ?_
    refine W.widen (k := 600000) (n := 7302250) hc.1 hc.2 ?_
    refine lv_iconst (v := 1) hx hb (by decide +kernel : decode code 1058 = .ok (.iconst 1, 1)) (by decide) ?_
    exact lw_ret hx hb hr C.2.2.1 (by decide +kernel : decode code 1059 = .ok (.ireturn, 1))
  · have h2 : ¬ L < i + 5 := fun z => h (key.mpr z)
    exact k (by omega) ad p e s m below meth c C H locs ls hP hS hN hl
def offL : List Int := [144, 167, 190, 203, 216, 239, 272, 305, 338, 371, 404, 427, 440, 453, 476, 489, 512, 535, 558, 581, 624, 657, 690, 723, 746, 799, 822, 845, 888, 931, 984, 997]
theorem L_sw (h5 : i + 5 ≤ L) (k : ∀ (t j : Nat), j < 32 → offL[j]? = some ((t : Int) - 32) → ZL g b L xs N cl sl i t [] A) : ZL g b L xs N cl sl i 26 [] A := by
  intro ad p e s m below meth c C H locs ls hP hS hN hl
  obtain ⟨hX, hbl, hL⟩ := C.2.2.2.2.2.2.2.1
  obtain ⟨hx, hb, hr, hml, hown⟩ := C.1
  refine lv_aload_n hx hb (by decide +kernel : decode code 26 = .ok (.aload_n 0, 1)) rfl (lv_at hl 0 rfl) ?_
  refine lv_iload_n hx hb (by decide +kernel : decode code 27 = .ok (.iload_n 3, 1)) rfl (lv_at hl 3 rfl) ?_
  refine va_sld hx hb hX hbl (Nat.not_le.mpr hbl) hS (vp_in_nI (by omega) (by omega)) (by decide +kernel : decode code 28 = .ok (.iaload, 1)) ?_
  refine lv_bipush (v := 31) hx hb (by decide +kernel : decode code 29 = .ok (.bipush 31, 2)) (by decide) ?_
  refine lv_iand hx hb (by decide +kernel : decode code 31 = .ok (.iand, 1)) ?_
  obtain ⟨j, hj, e2⟩ := pk_andE (xs (nI i).toNatClampNeg) (m := 31) 5 (by decide)
  rw [e2]
  have ej : (nI j).toInt = (j : Int) := nI_toInt (by omega)
  have hlen : j < offL.length := by
    show j < 32
    omega
  have hpos : ∀ o ∈ offL, (0 : Int) ≤ o := by decide
  have ho : offL[j]? = some offL[j] := List.getElem?_eq_getElem hlen
  have hp := hpos _ (List.getElem_mem hlen)
  refine lv_tableIn (tgt := (offL[j] + 32).toNat) hx hb (by decide +kernel : decode code 32 = .ok (.tableswitch 1020 0 31 #[144, 167, 190, 203, 216, 239, 272, 305, 338, 371, 404, 427, 440, 453, 476, 489, 512, 535, 558, 581, 624, 657, 690, 723, 746, 799, 822, 845, 888, 931, 984, 997], 144)) (by rw [ej]; omega) (by rw [ej]; omega) (off := offL[j]) ?_ (by omega) ?_
  · rw [ej, show ((j : Int) - 0).toNat = j by omega]
    show (offL.toArray)[j]? = some offL[j]
    rw [List.getElem?_toArray]
    exact ho
  · exact k (offL[j] + 32).toNat j (by omega) (by rw [ho]; congr 1; omega) ad p e s m below meth c C H locs ls hP hS hN hl
end LAW
