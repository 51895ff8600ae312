/-! the JDK's methods that are reached -/
def mJ0_length : ME := (yJ0_length_8abf5, cJ0_length_8abf5, 1, (some .int), 1)
theorem omJ0_length : okV mJ0_length 0 := ⟨⟨tb2 40 rfl rfl, tb1 12 rfl rfl, ⟨by decide, by decide⟩, by decide, by decide⟩, tb2 38 rfl rfl, tb2 39 rfl rfl, by decide +kernel⟩
def mJ0_charAt : ME := (yJ0_charAt_5068e, cJ0_charAt_5068e, 2, (some .char), 4)
theorem omJ0_charAt : okV mJ0_charAt 1 := ⟨⟨tb2 50 rfl rfl, tb1 12 rfl rfl, ⟨by decide, by decide⟩, by decide, by decide⟩, tb2 48 rfl rfl, tb2 49 rfl rfl, by decide +kernel⟩
def mJ0_coder : ME := (yJ0_coder_7d493, cJ0_coder_7d493, 1, (some .byte), 0)
theorem omJ0_coder : okV mJ0_coder 0 := ⟨⟨tb2 44 rfl rfl, tb1 12 rfl rfl, ⟨by decide, by decide⟩, by decide, by decide⟩, tb2 42 rfl rfl, tb2 43 rfl rfl, by decide +kernel⟩
def mJ0_isLatin1 : ME := (yJ0_isLatin1_aae02, cJ0_isLatin1_aae02, 1, (some .boolean), 0)
theorem omJ0_isLatin1 : okV mJ0_isLatin1 0 := ⟨⟨tb2 54 rfl rfl, tb1 12 rfl rfl, ⟨by decide, by decide⟩, by decide, by decide⟩, tb2 52 rfl rfl, tb2 53 rfl rfl, by decide +kernel⟩
def mJ1_charAt : ME := (yJ1_charAt_3b067, cJ1_charAt_3b067, 2, (some .char), 2)
theorem omJ1_charAt : okT mJ1_charAt 2 := ⟨⟨tb2 57 rfl rfl, tb1 13 rfl rfl, ⟨by decide, by decide⟩, by decide, by decide⟩, tb2 56 rfl rfl, by decide +kernel⟩
def mJ0_checkIndex : ME := (yJ0_checkIndex_df160, cJ0_checkIndex_df160, 2, none, 1)
theorem omJ0_checkIndex : okT mJ0_checkIndex 2 := ⟨⟨tb2 60 rfl rfl, tb1 12 rfl rfl, ⟨by decide, by decide⟩, by decide, by decide⟩, tb2 59 rfl rfl, by decide +kernel⟩
def mJ3_checkIndex : ME := (yJ3_checkIndex_8e157, cJ3_checkIndex_8e157, 3, (some .int), 0)
theorem omJ3_checkIndex : okT mJ3_checkIndex 3 := ⟨⟨tb2 65 rfl rfl, tb1 14 rfl rfl, ⟨by decide, by decide⟩, by decide, by decide⟩, tb2 64 rfl rfl, by decide +kernel⟩
theorem lkRX3_98 : Cond.methodLink RX3 98 yJ0_length_8abf5 ∈ wsG := tb2 37 rfl rfl
theorem lkRX3_102 : Cond.methodLink RX3 102 yJ0_charAt_5068e ∈ wsG := tb2 47 rfl rfl
theorem lkRJ0_335 : Cond.methodLink RJ0 335 yJ0_coder_7d493 ∈ wsG := tb2 41 rfl rfl
theorem lkRJ0_492 : Cond.methodLink RJ0 492 yJ0_isLatin1_aae02 ∈ wsG := tb2 51 rfl rfl
theorem lkRJ0_495 : Cond.methodLink RJ0 495 yJ1_charAt_3b067 ∈ wsG := tb2 55 rfl rfl
theorem lkRJ1_9 : Cond.methodLink RJ1 9 yJ0_checkIndex_df160 ∈ wsG := tb2 58 rfl rfl
theorem lkRJ0_1059 : Cond.methodLink RJ0 1059 yJ3_checkIndex_8e157 ∈ wsG := tb2 63 rfl rfl
theorem flRJ0_9 : Cond.fieldLink RJ0 9 "java/lang/String" "value" "[B" ∈ wsG := tb5 153 rfl rfl
theorem flRJ0_15 : Cond.fieldLink RJ0 15 "java/lang/String" "coder" "B" ∈ wsG := tb5 154 rfl rfl
theorem flRJ0_38 : Cond.fieldLink RJ0 38 "java/lang/String" "COMPACT_STRINGS" "Z" ∈ wsG := tb2 45 rfl rfl
theorem flRJ0_1053 : Cond.fieldLink RJ0 1053 "jdk/internal/util/Preconditions" "SIOOBE_FORMATTER" "Ljava/util/function/BiFunction;" ∈ wsG := tb2 61 rfl rfl

/-! String.length, String.charAt of the String constants -/
section ZJ
variable {g : GG} {M : ME} {N : Nat} {Q : Option AV → AH → Prop} {pc : Nat} {lv : List (Option AV)} {st : List AV} {A : AH}
theorem okS.k {ad : Nat → Nat} {i : Nat} (h : okS g ad) (hi : i < 2) : ad (1000 + i) = g.2.2.2.1 i := by
  have h2 := h i (by omega)
  rcases (show i = 0 ∨ i = 1 by omega) with rfl | rfl
  · exact h2
  · exact h2
theorem okS.v {ad : Nat → Nat} {i : Nat} (h : okS g ad) (hi : i < 2) : ad (1002 + i) = g.2.2.2.2 i := by
  rcases (show i = 0 ∨ i = 1 by omega) with rfl | rfl
  · exact h 2 (by omega)
  · exact h 3 (by omega)
theorem Z_callT {me : ME} {idx n i : Nat} {vs rest : List AV} (hd : decode M.2.1 pc = .ok (.invokevirtual idx, 3)) (hlink : Cond.methodLink M.1.cls idx me.1 ∈ wsG) (ho : okV me n) (hlev : me.2.2.2.2 < M.2.2.2.2) (hi2 : i < 2) (hcl : me.1.cls = RJ0) (hn : vs.length = n) (hcat : cats rest ≤ 8)
    (h : Ev g me (vr (1000 + i) :: vs) A (fun r A' => Z g M N Q (pc + 3) lv (r.toList ++ rest) A')) : Z g M N Q pc lv (vs.reverse ++ vr (1000 + i) :: rest) A := by
  intro ad p e s m args below meth c C H locs ls hP hS hN hl
  obtain ⟨⟨o1, o2, o3, o4, o5⟩, o6, o7, o8⟩ := ho
  have hM := h ad H.size (hN ▸ C.2.2.2.2.2.2.2.2.2.1) C.2.2.2.2.2.2.2.2.2.2
  have hE := C.2.2.2.2.2.2.2.2.1.2.2.1
  have e1 := okS.k C.2.2.2.2.2.2.2.2.2.2 hi2
  have hrecv : ∃ cell : Cell, H[ad (1000 + i)]? = some cell ∧ cell.vm.isStatics = false ∧ s.vm.findClass me.1.cls = some cell.cls := by
    rw [e1, hcl]
    exact vk_recv hE hi2 hS
  have hGV : GoodIn wsG (wsV M.1.cls idx me.1.cls me.1 (wsM me)) := by
    intro w hw
    unfold wsV at hw
    rcases List.mem_append.mp hw with hw | hw
    · simp only [List.mem_cons, List.not_mem_nil, or_false] at hw
      rcases hw with rfl | rfl | rfl | rfl
      · exact good_one hlink
      · exact good_one o6
      · exact good_one o7
      · exact good_one o2
    · exact good_M o1 w hw
  have hr := va_runV (p := p) (e := e) (below := below) (meth := meth) (locs := locs) (cells := 0) (slots := 0) (H := H) (R := rmL M.2.2.2.2) (g := F0 m pc ls ((vs.reverse ++ vr (1000 + i) :: rest).map (cv ad))) (As := vs.map (cv ad)) (rest := rest.map (cv ad)) (b := ad (1000 + i)) (nL := M.2.2.1)
    (S := (⟨C.1, C.2.1, C.2.2.2.1, C.2.2.2.2.1, C.2.2.2.2.2.1⟩ : CallFix p m c M.2.1 M.2.2.1 s args wsG M.1.cls)) hM (cwV n C.2.2.2.2.2.1 hGV rfl rfl rfl ⟨rfl, o3.1, o3.2, o8⟩ (rm_ok hlev o4)) ⟨PcE_blind, hrecv, Z_pre (me := me) ad C hP hS hN⟩ rfl (by rw [List.length_map]; exact hn) hl.1 (by simp [List.map_append, List.map_reverse, cv]) (lv_room (by rw [cats_ok]; exact hcat)) hd ⟨Nat.le_refl _, Nat.le_refl _⟩
  exact Z_after (me := me) (vs := vs) ad C hS hN hl hr
theorem good_X {me : ME} {own : String} {idx : Nat} (hlink : Cond.methodLink own idx me.1 ∈ wsG) (ho : okM me) (o6 : Cond.static me.1 ∈ wsG) : GoodIn wsG (va_wsS own idx me.1 (wsM me)) := by
  intro w hw
  unfold va_wsS at hw
  rcases List.mem_append.mp hw with hw | hw
  · simp only [List.mem_cons, List.not_mem_nil, or_false] at hw
    rcases hw with rfl | rfl | rfl
    · exact good_one hlink
    · exact good_one o6
    · exact good_one ho.2.1
  · exact good_M ho.1 w hw
/-- a static method of any class -/
theorem Z_callX {me : ME} {idx n : Nat} {vs rest : List AV} (hd : decode M.2.1 pc = .ok (.invokestatic idx, 3)) (hlink : Cond.methodLink M.1.cls idx me.1 ∈ wsG) (ho : okT me n) (hlev : me.2.2.2.2 < M.2.2.2.2) (hn : vs.length = n) (hcat : cats rest ≤ 8)
    (h : Ev g me vs A (fun r A' => Z g M N Q (pc + 3) lv (r.toList ++ rest) A')) : Z g M N Q pc lv (vs.reverse ++ rest) A := by
  intro ad p e s m args below meth c C H locs ls hP hS hN hl
  have hG := good_X hlink ho.1 ho.2.1
  obtain ⟨⟨o1, o2, o3, o4, o5⟩, o6, o8⟩ := ho
  have hM := h ad H.size (hN ▸ C.2.2.2.2.2.2.2.2.2.1) C.2.2.2.2.2.2.2.2.2.2
  have hr := va_runS (p := p) (e := e) (below := below) (meth := meth) (locs := locs) (cells := 0) (slots := 0) (H := H) (R := rmL M.2.2.2.2) (g := F0 m pc ls ((vs.reverse ++ rest).map (cv ad))) (As := vs.map (cv ad)) (rest := rest.map (cv ad)) (nL := M.2.2.1)
    (S := (⟨C.1, C.2.1, C.2.2.2.1, C.2.2.2.2.1, C.2.2.2.2.2.1⟩ : CallFix p m c M.2.1 M.2.2.1 s args wsG M.1.cls)) hM (va_cwS n C.2.2.2.2.2.1 hG rfl rfl rfl ⟨o3.1, o3.2, o8⟩ (rm_ok hlev o4)) ⟨PcE_blind, Z_pre (me := me) ad C hP hS hN⟩ rfl (by rw [List.length_map]; exact hn) hl.1 (by simp [List.map_append, List.map_reverse]) (lv_room (by rw [cats_ok]; exact hcat)) hd ⟨Nat.le_refl _, Nat.le_refl _⟩
  exact Z_after (me := me) (vs := vs) ad C hS hN hl hr
theorem Z_strval {i : Nat} (hi : i < 2) (hc : M.1.cls = RJ0) (hd : decode M.2.1 pc = .ok (.getfield 9, 3)) (kk : Z g M N Q (pc + 3) lv (vr (1002 + i) :: st) A) : Z g M N Q pc lv (vr (1000 + i) :: st) A := by
  intro ad p e s m args below meth c C H locs ls hP hS hN hl
  have hE := C.2.2.2.2.2.2.2.2.1.2.2.1.1 i hi
  have e1 := okS.k C.2.2.2.2.2.2.2.2.2.2 hi
  have e2 := okS.v C.2.2.2.2.2.2.2.2.2.2 hi
  have k := kk ad p e s m args below meth c C H locs ls hP hS hN hl
  have ho := C.2.2.2.2.1
  rw [hc] at ho
  have hw := C.2.2.2.2.2.1 _ flRJ0_9
  show W _ _ _ _ _ _ _ _ _ _ _ _ _ _ _ (F0 m pc ls (.ref (ad (1000 + i)) :: st.map (cv ad)))
  rw [e1]
  refine vk_getf C.1 C.2.1 hE.2.2.1 hS ho hw (fun x h => h) hd ?_
  rw [← e2]
  exact k
theorem Z_strcod {i : Nat} (hi : i < 2) (hc : M.1.cls = RJ0) (hd : decode M.2.1 pc = .ok (.getfield 15, 3)) (kk : Z g M N Q (pc + 3) lv (vi 0 :: st) A) : Z g M N Q pc lv (vr (1000 + i) :: st) A := by
  intro ad p e s m args below meth c C H locs ls hP hS hN hl
  have hE := C.2.2.2.2.2.2.2.2.1.2.2.1.1 i hi
  have e1 := okS.k C.2.2.2.2.2.2.2.2.2.2 hi
  have k := kk ad p e s m args below meth c C H locs ls hP hS hN hl
  have ho := C.2.2.2.2.1
  rw [hc] at ho
  have hw := C.2.2.2.2.2.1 _ flRJ0_15
  show W _ _ _ _ _ _ _ _ _ _ _ _ _ _ _ (F0 m pc ls (.ref (ad (1000 + i)) :: st.map (cv ad)))
  rw [e1]
  exact vk_getf C.1 C.2.1 hE.2.1 hS ho hw (fun x h => h) hd k
theorem Z_strlen {i : Nat} (hi : i < 2) (hd : decode M.2.1 pc = .ok (.arraylength, 1)) (kk : Z g M N Q (pc + 1) lv (vi (nI 3) :: st) A) : Z g M N Q pc lv (vr (1002 + i) :: st) A := by
  intro ad p e s m args below meth c C H locs ls hP hS hN hl
  have hE := C.2.2.2.2.2.2.2.2.1.2.2.1.1 i hi
  have e2 := okS.v C.2.2.2.2.2.2.2.2.2.2 hi
  have k := kk ad p e s m args below meth c C H locs ls hP hS hN hl
  show W _ _ _ _ _ _ _ _ _ _ _ _ _ _ _ (F0 m pc ls (.ref (ad (1002 + i)) :: st.map (cv ad)))
  rw [e2]
  refine va_tlen C.1 C.2.1 hE.2.2.2 hS (v := nI 3) ?_ hd k
  rcases (show i = 0 ∨ i = 1 by omega) with rfl | rfl <;> rfl
theorem Z_strb {i j : Nat} (hi : i < 2) (hj : j < 3) (hd : decode M.2.1 pc = .ok (.baload, 1)) (kk : Z g M N Q (pc + 1) lv (vi ((([[114, 111, 119], [102, 114, 111]] : List (List Int32)).getD i []).getD j 0) :: st) A) : Z g M N Q pc lv (vi (nI j) :: vr (1002 + i) :: st) A := by
  intro ad p e s m args below meth c C H locs ls hP hS hN hl
  have hE := C.2.2.2.2.2.2.2.2.1.2.2.1.1 i hi
  have e2 := okS.v C.2.2.2.2.2.2.2.2.2.2 hi
  have k := kk ad p e s m args below meth c C H locs ls hP hS hN hl
  show W _ _ _ _ _ _ _ _ _ _ _ _ _ _ _ (F0 m pc ls (.int (nI j) :: .ref (ad (1002 + i)) :: st.map (cv ad)))
  rw [e2]
  have hlen : j < ([3, 3] : List Nat).getD i 0 := by
    rcases (show i = 0 ∨ i = 1 by omega) with rfl | rfl <;> exact hj
  have hb : ([3, 3] : List Nat).getD i 0 < 2 ^ 31 := by
    rcases (show i = 0 ∨ i = 1 by omega) with rfl | rfl <;> decide
  exact va_tb C.1 C.2.1 hE.2.2.2 hS (vp_in_nI hlen hb) (by rw [nI_clamp (by omega)]; rfl) hd k
theorem Z_gcs (hc : M.1.cls = RJ0) (hd : decode M.2.1 pc = .ok (.getstatic 38, 3)) (kk : Z g M N Q (pc + 3) lv (vi 1 :: st) A) : Z g M N Q pc lv st A := by
  intro ad p e s m args below meth c C H locs ls hP hS hN hl
  have hE := C.2.2.2.2.2.2.2.2.1.2.2.2.1
  have k := kk ad p e s m args below meth c C H locs ls hP hS hN hl
  have ho := C.2.2.2.2.1
  rw [hc] at ho
  have hw := C.2.2.2.2.2.1 _ flRJ0_38
  exact va_gets C.1 C.2.1 hE hS ho hw (fun x h => h) hd k
theorem Z_i2c {x y : Int32} (hd : decode M.2.1 pc = .ok (.i2c, 1)) (hv : (x.toUInt32 % 65536).toInt32 = y) (k : Z g M N Q (pc + 1) lv (vi y :: st) A) : Z g M N Q pc lv (vi x :: st) A := by
  intro ad p e s m args below meth c C H locs ls hP hS hN hl
  exact lv_i2c C.1 C.2.1 hd hv (k ad p e s m args below meth c C H locs ls hP hS hN hl)
end ZJ
section ZK
variable {g : GG} {A : AH}
theorem c_coder {i : Nat} (hi : i < 2) {Q : Option AV → AH → Prop} (hQ : Q (some (vi 0)) A) : Ev g mJ0_coder [vr (1000 + i)] A Q := by
  refine Ev_of omJ0_coder.1 (Nat.le_of_ble_eq_true rfl) ?_
  show Z g mJ0_coder A.length Q 0 [some (vr (1000 + i))] [] A
  refine Z_gcs rfl (by decide +kernel) ?_
  refine Z_if (t := 13) (by decide +kernel : decode mJ0_coder.2.1 3 = .ok (.ifCond .eq 10, 3)) (by decide) (fun (h : (1 : Int32) = 0) => absurd h (by decide)) (fun _ => ?_)
  refine Z_aload_n (n := 0) (x := 1000 + i) (by decide +kernel) rfl ?_
  refine Z_strcod hi rfl (by decide +kernel) ?_
  refine Z_goto (t := 14) (by decide +kernel : decode mJ0_coder.2.1 10 = .ok (.goto 4, 3)) (by decide) ?_
  exact Z_ireturn (ty := .byte) (by decide +kernel) rfl rfl hQ
theorem c_isLatin1 {i : Nat} (hi : i < 2) {Q : Option AV → AH → Prop} (hQ : Q (some (vi 1)) A) : Ev g mJ0_isLatin1 [vr (1000 + i)] A Q := by
  refine Ev_of omJ0_isLatin1.1 (Nat.le_of_ble_eq_true rfl) ?_
  show Z g mJ0_isLatin1 A.length Q 0 [some (vr (1000 + i))] [] A
  refine Z_gcs rfl (by decide +kernel) ?_
  refine Z_if (t := 17) (by decide +kernel : decode mJ0_isLatin1.2.1 3 = .ok (.ifCond .eq 14, 3)) (by decide) (fun (h : (1 : Int32) = 0) => absurd h (by decide)) (fun _ => ?_)
  refine Z_aload_n (n := 0) (x := 1000 + i) (by decide +kernel) rfl ?_
  refine Z_strcod hi rfl (by decide +kernel) ?_
  refine Z_if (t := 17) (by decide +kernel : decode mJ0_isLatin1.2.1 10 = .ok (.ifCond .ne 7, 3)) (by decide) (fun (h : ¬ (0 : Int32) = 0) => absurd rfl h) (fun _ => ?_)
  refine Z_iconst (x := 1) (by decide +kernel : decode mJ0_isLatin1.2.1 13 = .ok (.iconst 1, 1)) (by decide) ?_
  refine Z_goto (t := 18) (by decide +kernel : decode mJ0_isLatin1.2.1 14 = .ok (.goto 4, 3)) (by decide) ?_
  exact Z_ireturn (ty := .boolean) (by decide +kernel) rfl (z01 (Or.inr rfl)).1 hQ
theorem c_length {i : Nat} (hi : i < 2) {Q : Option AV → AH → Prop} (hQ : Q (some (vi (nI 3))) A) : Ev g mJ0_length [vr (1000 + i)] A Q := by
  refine Ev_of omJ0_length.1 (Nat.le_of_ble_eq_true rfl) ?_
  show Z g mJ0_length A.length Q 0 [some (vr (1000 + i))] [] A
  refine Z_aload_n (n := 0) (x := 1000 + i) (by decide +kernel) rfl ?_
  refine Z_strval hi rfl (by decide +kernel) ?_
  refine Z_strlen hi (by decide +kernel) ?_
  refine Z_aload_n (n := 0) (x := 1000 + i) (by decide +kernel) rfl ?_
  refine Z_callT (me := mJ0_coder) (idx := 335) (n := 0) (vs := []) (rest := [vi (nI 3)]) (by decide +kernel) lkRJ0_335 omJ0_coder (by decide) hi rfl rfl (Nat.le_of_ble_eq_true rfl) ?_
  refine c_coder hi ?_
  show Z g mJ0_length A.length Q 9 [some (vr (1000 + i))] [vi 0, vi (nI 3)] A
  refine Z_ishr (by decide +kernel) ?_
  rw [show nI 3 >>> ((0 : Int32) &&& 31) = nI 3 by decide +kernel]
  exact Z_ireturn (ty := .int) (by decide +kernel) rfl rfl hQ
def PcR (g : GG) (ad : Nat → Nat) (sz : Nat) (vs : List Value) (A : AH) : Array Value → State → Prop :=
  va_Pc vs (fun U => U.heap.size = sz ∧ va_P g.2.1 vwCl (wm ad g.2.2.1 A) U.heap ∧ va_K g.2.1 vwCl (tyG g.2.2.1) U ∧ Sx g (AA ad A.length sz) U)
theorem PcR_blind {ad : Nat → Nat} {sz : Nat} {vs : List Value} : FrameBlind (PcR g ad sz vs A) := by
  intro a U g' mk h
  obtain ⟨h0, h1, h2, h3, h4⟩ := h
  exact ⟨h0, h1, h2, va_K.moved (u := U) (U := U.calling g' mk a) (Vm.Alike.refl U.vm) h3, h4.same (U := U.calling g' mk a) rfl rfl⟩
theorem Z_preR {M : ME} {N : Nat} {vs : List Value} (ad : Nat → Nat) {p : Program} {s : State} {m : MethodId} {args : Array Value} {meth : Method} {c : Code} (C : Cx g M N ad p s m args meth c) {H : Heap} {locs : List Loc} (hP : va_P g.2.1 vwCl (wm ad g.2.2.1 A) H) (hS : va_S (AA ad N s.heap.size) s.heap H locs) (hN : A.length = N) :
    ∀ U : State, U.heap = H → s.WarmedH U.vm → PcR g ad H.size vs A vs.toArray U := by
  intro U hU hW
  refine ⟨rfl, by rw [hU], by rw [hU]; exact hP, va_K.moved hW.alike C.2.2.2.2.2.2.2.1, ?_⟩
  rw [hN]
  exact C.2.2.2.2.2.2.2.2.1.go hW (AA_up hS.1) (fun q h1 h2 => by rw [hU]; exact hS.2.1 q h1 h2)
/-- Preconditions.checkIndex, within -/
theorem c_pre {k n : Int32} {v : Value} (hv : v = .null ∨ ∃ t : Nat, v = .ref t) (h0 : ¬ k < 0) (h1 : k < n) {Q : Option AV → AH → Prop} (hQ : Q (some (vi k)) A) (ad : Nat → Nat) (sz : Nat) (hi : inj ad A.length) (hs : okS g ad) :
    Met g.1 mJ3_checkIndex.1 (wsM mJ3_checkIndex) (rmL 0) (PcR g ad sz [.int k, .int n, v] A) (QcE g ad A.length Q) 0 0 (AA ad A.length sz) := by
  have hz : Z g mJ3_checkIndex A.length Q 0 [some (vi k), some (vi n), none] [] A := by
    refine Z_iload_n (n := 0) (x := k) (by decide +kernel) rfl ?_
    refine Z_if (t := 9) (by decide +kernel : decode mJ3_checkIndex.2.1 1 = .ok (.ifCond .lt 8, 3)) (by decide) (fun (h : k < 0) => absurd h h0) (fun _ => ?_)
    refine Z_iload_n (n := 0) (x := k) (by decide +kernel) rfl ?_
    refine Z_iload_n (n := 1) (x := n) (by decide +kernel) rfl ?_
    refine Z_icmp (t := 16) (by decide +kernel : decode mJ3_checkIndex.2.1 6 = .ok (.if_icmp .lt 10, 3)) (by decide) (fun _ => ?_) (fun (h : ¬ k < n) => absurd h1 h)
    refine Z_iload_n (n := 0) (x := k) (by decide +kernel) rfl ?_
    exact Z_ireturn (ty := .int) (by decide +kernel) rfl rfl hQ
  refine Met.ofW (cc := mJ3_checkIndex.2.1) (maxL := 3) (ret := some .int) (by decide) rfl ?_
  intro p e s m args below meth c s₁ B hml hv'
  obtain ⟨rfl, hsz, hP, hK, hX⟩ := hv'
  subst hsz
  have hts := atoms_spec (ws := wsM mJ3_checkIndex) B.pre
  have hcat : v.category = 1 := by
    rcases hv with rfl | ⟨t, rfl⟩ <;> rfl
  have hl := lv_entry [.int k, .int n, v] (n := 3) (by rcases hv with rfl | ⟨t, rfl⟩ <;> exact Nat.le_of_ble_eq_true rfl)
  rw [lg_entry_eq]
  generalize (lg_sl [.int k, .int n, v] ++ List.replicate (3 - (lg_sl [.int k, .int n, v]).length) Slot.unset).toArray = ls at hl ⊢
  refine hz ad p e s m _ below meth c ⟨B.exec, B.bytes, B.returns, hml, findClass_of_methodNamed B.named, fun w hw => hts w (List.mem_cons_of_mem _ hw), B.notSynchronized, hK, hX, hi, hs⟩ s.heap [] ls hP va_S.rf rfl ⟨hl.1, hl.2.1, fun j w hj => ?_⟩
  match j, hj with
  | 0, hj =>
    have : vi k = w := Option.some.inj (Option.some.inj hj)
    subst this
    exact hl.2.2 (0, .int k) (by simp [lv_args])
  | 1, hj =>
    have : vi n = w := Option.some.inj (Option.some.inj hj)
    subst this
    exact hl.2.2 (1, .int n) (by simp [lv_args, Value.category])
  | 2, hj => cases hj
  | j + 3, hj => simp at hj
theorem Z_afterR {M : ME} {N : Nat} {Q : Option AV → AH → Prop} {pc : Nat} {lv : List (Option AV)} {rest : List AV} {st0 : List Value} (ad : Nat → Nat) {p : Program} {e : Env} {s : State} {m : MethodId} {args : Array Value} {below : List Frame} {meth : Method} {c : Code} (C : Cx g M N ad p s m args meth c) {H : Heap} {locs : List Loc} {ls : Array Slot} (hS : va_S (AA ad N s.heap.size) s.heap H locs) (hN : A.length = N) (hl : LV ad ls M.2.2.1 lv) {a : Array Value}
    (hr : va_Run p g.1 e (rmL M.2.2.2.2) s m args below meth c H locs 0 0 0 0 (F0 m pc ls st0) (rest.map (cv ad)) (QcE g ad A.length (fun r A' => Z g M N Q (pc + 3) lv (r.toList ++ rest) A') a) (AA ad A.length H.size)) :
    W p g.1 e (rmL M.2.2.2.2) s m args below meth c H locs 0 0 (MQ below (QcE g ad N Q) args s 0 0 (AA ad N s.heap.size)) (F0 m pc ls st0) := by
  intro T hT X
  obtain ⟨v, st₀, t, T', L, h0, X', hL, e1, e2, ⟨⟨r, A', hv, hz, hlen, hP1⟩, hF⟩, stp⟩ := hr T hT X
  have hv : v = r.map (cv ad) := Outcome.returned.inj hv
  subst hv
  rw [hN] at hL hlen hF
  obtain ⟨hF1, hF2⟩ := hF
  rw [h0] at hF1 hF2
  have hS' : va_S (AA ad N s.heap.size) s.heap T'.heap (locs ++ L) := by
    refine ⟨Nat.le_trans hS.1 (by rw [e1]; exact hF1), fun q h1 h2 => ?_, fun q hq => ?_⟩
    · rw [e1, hF2 q (Nat.lt_of_lt_of_le h1 hS.1) (fun z => h2 (AA_up hS.1 q z))]
      exact hS.2.1 q h1 h2
    · rcases List.mem_append.mp hq with h | h
      · exact hS.2.2 q h
      · exact AA_up hS.1 _ (hL q h)
  obtain ⟨t2, a1, b1⟩ := hz ad p e s m args below meth c C T'.heap (locs ++ L) ls (by rw [e1]; exact hP1) hS' hlen hl T' rfl X'
  refine ⟨t2, stp t2 ?_, b1⟩
  have e9 : (r.toList ++ rest).map (cv ad) = (r.map (cv ad)).toList ++ rest.map (cv ad) := by
    cases r <;> simp
  rw [e9] at a1
  exact a1
theorem c_checkIndex {k n : Int32} (h0 : ¬ k < 0) (h1 : k < n) {Q : Option AV → AH → Prop} (hQ : Q none A) : Ev g mJ0_checkIndex [vi k, vi n] A Q := by
  refine Ev_of omJ0_checkIndex.1 (Nat.le_of_ble_eq_true rfl) ?_
  show Z g mJ0_checkIndex A.length Q 0 [some (vi k), some (vi n)] [] A
  refine Z_iload_n (n := 0) (x := k) (by decide +kernel) rfl ?_
  refine Z_iload_n (n := 1) (x := n) (by decide +kernel) rfl ?_
  have hz : Z g mJ0_checkIndex A.length Q 8 [some (vi k), some (vi n)] [vi k] A := by
    refine Z_pop (by decide +kernel) rfl ?_
    exact Z_return (by decide +kernel) rfl hQ
  intro ad p e s m args below meth c C H locs ls hP hS hN hl
  have hG := good_X (own := RJ0) lkRJ0_1059 omJ3_checkIndex.1 omJ3_checkIndex.2.1
  have key : ∀ v : Value, (v = .null ∨ ∃ t : Nat, v = .ref t) → va_Z RJ3 "SIOOBE_FORMATTER" "Ljava/util/function/BiFunction;" v (AA ad A.length s.heap.size) s s.heap → W p g.1 e (rmL mJ0_checkIndex.2.2.2.2) s m args below meth c H locs 0 0 (MQ below (QcE g ad A.length Q) args s 0 0 (AA ad A.length s.heap.size)) (F0 m 2 ls ([vi n, vi k].map (cv ad))) := by
    intro v hv hZ
    refine va_gets C.1 C.2.1 hZ hS C.2.2.2.2.1 (C.2.2.2.2.2.1 _ flRJ0_1053) (fun x h => h) (by decide +kernel : decode mJ0_checkIndex.2.1 2 = .ok (.getstatic 1053, 3)) ?_
    have hr := va_runS (p := p) (e := e) (below := below) (meth := meth) (locs := locs) (cells := 0) (slots := 0) (H := H) (R := rmL mJ0_checkIndex.2.2.2.2) (g := F0 m 5 ls [v, .int n, .int k]) (As := [.int k, .int n, v]) (rest := []) (nL := mJ0_checkIndex.2.2.1)
      (S := (⟨C.1, C.2.1, C.2.2.2.1, C.2.2.2.2.1, C.2.2.2.2.2.1⟩ : CallFix p m c mJ0_checkIndex.2.1 mJ0_checkIndex.2.2.1 s args wsG mJ0_checkIndex.1.cls)) (c_pre (g := g) (A := A) (n := n) (Q := fun r A' => Z g mJ0_checkIndex A.length Q (5 + 3) [some (vi k), some (vi n)] (r.toList ++ []) A') hv h0 h1 hz ad H.size C.2.2.2.2.2.2.2.2.2.1 C.2.2.2.2.2.2.2.2.2.2) (va_cwS 3 C.2.2.2.2.2.1 hG rfl rfl rfl ⟨by decide, by decide, by decide +kernel⟩ (rm_ok (by decide) (by decide))) ⟨PcR_blind, Z_preR (M := mJ0_checkIndex) ad C hP hS hN⟩ rfl rfl hl.1 rfl (lv_room (Nat.le_of_ble_eq_true rfl)) (show decode mJ0_checkIndex.2.1 5 = .ok (.invokestatic 1059, 3) by decide +kernel) ⟨Nat.le_refl _, Nat.le_refl _⟩
    exact Z_afterR (M := mJ0_checkIndex) (rest := []) ad C hS hN hl hr
  rcases C.2.2.2.2.2.2.2.2.1.2.2.2.2 with hZ | ⟨t, hZ⟩
  · exact key .null (Or.inl rfl) hZ
  · exact key (.ref t) (Or.inr ⟨t, rfl⟩) hZ
/-- the letter j of name i -/
def nmC (i k : Nat) : Int32 := ([[114, 111, 119], [102, 114, 111]].getD i []).getD k 0
theorem nmC_c {i j : Nat} (hi : i < 2) (hj : j < 3) : ((nmC i j &&& 255).toUInt32 % 65536).toInt32 = nmC i j ∧ narrow .char (.int (nmC i j)) = .int (nmC i j) := by
  rcases (show i = 0 ∨ i = 1 by omega) with rfl | rfl <;> rcases (show j = 0 ∨ j = 1 ∨ j = 2 by omega) with rfl | rfl | rfl <;> exact ⟨by decide +kernel, by rfl⟩
theorem c_charAt1 {i j : Nat} (hi : i < 2) (hj : j < 3) {Q : Option AV → AH → Prop} (hQ : Q (some (vi (nmC i j))) A) : Ev g mJ1_charAt [vr (1002 + i), vi (nI j)] A Q := by
  refine Ev_of omJ1_charAt.1 (Nat.le_of_ble_eq_true rfl) ?_
  show Z g mJ1_charAt A.length Q 0 [some (vr (1002 + i)), some (vi (nI j))] [] A
  refine Z_iload_n (n := 1) (x := nI j) (by decide +kernel) rfl ?_
  refine Z_aload_n (n := 0) (x := 1002 + i) (by decide +kernel) rfl ?_
  refine Z_strlen hi (by decide +kernel) ?_
  refine Z_callX (me := mJ0_checkIndex) (idx := 9) (n := 2) (vs := [vi (nI j), vi (nI 3)]) (rest := []) (by decide +kernel) lkRJ1_9 omJ0_checkIndex (by decide) rfl (Nat.le_of_ble_eq_true rfl) ?_
  refine c_checkIndex (nI_pos (by omega)) (nI_lt hj (by omega)) ?_
  show Z g mJ1_charAt A.length Q 6 [some (vr (1002 + i)), some (vi (nI j))] [] A
  refine Z_aload_n (n := 0) (x := 1002 + i) (by decide +kernel) rfl ?_
  refine Z_iload_n (n := 1) (x := nI j) (by decide +kernel) rfl ?_
  refine Z_strb hi hj (by decide +kernel) ?_
  refine Z_sipush (x := 255) (by decide +kernel : decode mJ1_charAt.2.1 9 = .ok (.sipush 255, 3)) (by decide) ?_
  refine Z_iand (by decide +kernel) ?_
  refine Z_i2c (by decide +kernel) (nmC_c hi hj).1 ?_
  exact Z_ireturn (ty := .char) (by decide +kernel) rfl (nmC_c hi hj).2 hQ
theorem c_charAt {i j : Nat} (hi : i < 2) (hj : j < 3) {Q : Option AV → AH → Prop} (hQ : Q (some (vi (nmC i j))) A) : Ev g mJ0_charAt [vr (1000 + i), vi (nI j)] A Q := by
  refine Ev_of omJ0_charAt.1 (Nat.le_of_ble_eq_true rfl) ?_
  show Z g mJ0_charAt A.length Q 0 [some (vr (1000 + i)), some (vi (nI j))] [] A
  refine Z_aload_n (n := 0) (x := 1000 + i) (by decide +kernel) rfl ?_
  refine Z_callT (me := mJ0_isLatin1) (idx := 492) (n := 0) (vs := []) (rest := []) (by decide +kernel) lkRJ0_492 omJ0_isLatin1 (by decide) hi rfl rfl (Nat.le_of_ble_eq_true rfl) ?_
  refine c_isLatin1 hi ?_
  show Z g mJ0_charAt A.length Q 4 [some (vr (1000 + i)), some (vi (nI j))] [vi 1] A
  refine Z_if (t := 16) (by decide +kernel : decode mJ0_charAt.2.1 4 = .ok (.ifCond .eq 12, 3)) (by decide) (fun (h : (1 : Int32) = 0) => absurd h (by decide)) (fun _ => ?_)
  refine Z_aload_n (n := 0) (x := 1000 + i) (by decide +kernel) rfl ?_
  refine Z_strval hi rfl (by decide +kernel) ?_
  refine Z_iload_n (n := 1) (x := nI j) (by decide +kernel) rfl ?_
  refine Z_callX (me := mJ1_charAt) (idx := 495) (n := 2) (vs := [vr (1002 + i), vi (nI j)]) (rest := []) (by decide +kernel) lkRJ0_495 omJ1_charAt (by decide) rfl (Nat.le_of_ble_eq_true rfl) ?_
  refine c_charAt1 hi hj ?_
  show Z g mJ0_charAt A.length Q 15 [some (vr (1000 + i)), some (vi (nI j))] [vi (nmC i j)] A
  exact Z_ireturn (ty := .char) (by decide +kernel) rfl (nmC_c hi hj).2 hQ
end ZK
