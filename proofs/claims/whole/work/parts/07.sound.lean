/-! the walk follows what the text asks -/
def ln : Instr → Nat
  | .iconst _ => 1 | .bipush _ => 2 | .sipush _ => 3 | .lconst _ => 1 | .ldc _ => 2 | .ldc2_w _ => 3
  | .iload _ => 2 | .lload _ => 2 | .aload _ => 2 | .istore _ => 2 | .astore _ => 2 | .lstore _ => 2 | .iinc _ _ => 3
  | .goto _ => 3 | .ifCond _ _ => 3 | .if_icmp _ _ => 3 | .getfield _ => 3 | .putfield _ => 3 | .invokevirtual _ => 3 | .invokestatic _ => 3
  | .tableswitch _ _ _ _ => 0
  | _ => 1
def chk (pc len : Nat) (ins : Instr) (tg : Nat) (x : Int32) (tl : List Nat) : Bool :=
  (ln ins == 0 || len == ln ins) && match ins with
  | .iconst n => Int32.ofInt n == x
  | .bipush n => (Int8.ofInt n).toInt32 == x
  | .sipush n => (Int16.ofInt n).toInt32 == x
  | .iinc _ n => Int32.ofInt n == x
  | .goto off => (pc : Int) + off == (tg : Int)
  | .ifCond _ off => (pc : Int) + off == (tg : Int)
  | .if_icmp _ off => (pc : Int) + off == (tg : Int)
  | .tableswitch d lo hi offs => decide (0 ≤ lo) && decide (hi < 1000) && (hi == lo + (tl.length : Int) - 1) && ((pc : Int) + d == (tg : Int)) && (offs.toList.map (fun o => (pc : Int) + o) == tl.map (fun (t : Nat) => (t : Int)))
  | _ => true
def okE (b : ByteArray) (E : List En) : Prop := ∀ q ∈ E, decode b q.1 = .ok (q.2.2.1, q.2.1) ∧ chk q.1 q.2.1 q.2.2.1 q.2.2.2.1 q.2.2.2.2.1 q.2.2.2.2.2 = true
def okIv (cls : String) (q : Nat × Nat × Nat × ME) : Prop :=
  (q.2.1 = 0 → Cond.methodLink cls q.1 q.2.2.2.1 ∈ wsG ∧ okV q.2.2.2 q.2.2.1) ∧
  (q.2.1 = 1 → Cond.methodLink cls q.1 q.2.2.2.1 ∈ wsG ∧ okT q.2.2.2 q.2.2.1 ∧ q.2.2.2.1.cls = cls) ∧
  (q.2.1 = 2 → ((cls = RX3 ∧ q.1 = 106 ∨ cls = RX5 ∧ q.1 = 54) ∧ q.2.2.2.1 = yX9_isColour) ∧ okT q.2.2.2 q.2.2.1) ∧
  (q.2.1 = 3 → Cond.methodLink cls q.1 arraycopyName ∈ wsG ∧ Cond.native arraycopyName ∈ wsG ∧ Cond.static arraycopyName ∈ wsG ∧ Cond.initialized "java/lang/System" ∈ wsG)
def okF (cls : String) (q : Nat × Nat × Nat × Nat) : Prop := FLk cls q.1 q.2.1 q.2.2.1 ∧ (q.2.2.2 = 0 → FPk cls q.1 q.2.1 q.2.2.1 .int) ∧ (q.2.2.2 = 1 → FPk cls q.1 q.2.1 q.2.2.1 .boolean)
def okCT (cls : String) (T : CT) : Prop := (∀ q ∈ T.1, okF cls q) ∧ (∀ q ∈ T.2.1, okIv cls q) ∧ (∀ q ∈ T.2.2.1, Cond.constant cls q.1 q.2 ∈ wsG) ∧ (∀ q ∈ T.2.2.2.1, Cond.constantLong cls q.1 q.2 ∈ wsG) ∧ (∀ q ∈ T.2.2.2.2, cls = RX3 ∧ (q = (60, 0) ∨ q = (69, 1)))
section SND
variable {g : GG} {M : ME} {N : Nat} {Q : Option AV → AH → Prop} {pc : Nat} {lv : List (Option AV)} {st : List AV} {A : AH}
theorem Z_ldcS {i q : Nat} (hd : decode M.2.1 pc = .ok (.ldc i, 2)) (hw : M.1.cls = RX3 ∧ ((i, q) = (60, 0) ∨ (i, q) = (69, 1))) (k : Z g M N Q (pc + 2) lv (vr (1000 + q) :: st) A) : Z g M N Q pc lv st A := by
  intro ad p e s m args below meth c C H locs ls hP hS hN hl
  have hk := k ad p e s m args below meth c C H locs ls hP hS hN hl
  have hsx := C.2.2.2.2.2.2.2.2.1.2.1
  have hos := C.2.2.2.2.2.2.2.2.2.2
  obtain ⟨h1, h2⟩ := hw
  have ho := C.2.2.2.2.1
  rw [h1] at ho
  rcases h2 with h2 | h2 <;> cases h2
  · have e : ad (1000 + 0) = g.2.2.2.1 0 := hos 0 (by decide)
    refine va_ldcS C.1 C.2.1 ho hsx.1 hd ?_
    rw [← e]; exact hk
  · have e : ad (1000 + 1) = g.2.2.2.1 1 := hos 1 (by decide)
    refine va_ldcS C.1 C.2.1 ho hsx.2 hd ?_
    rw [← e]; exact hk
theorem Z_sw {d lo hi : Int} {offs : Array Int} {len tg : Nat} {tl : List Nat} {x : Int32} (hd : decode M.2.1 pc = .ok (.tableswitch d lo hi offs, len)) (h0 : 0 ≤ lo) (h9 : hi < 1000) (h1 : hi = lo + (tl.length : Int) - 1) (h2 : (pc : Int) + d = (tg : Int)) (h3 : offs.toList.map (fun o => (pc : Int) + o) = tl.map (fun (t : Nat) => (t : Int)))
    (k : ∀ t, (∃ i : Nat, tl[i]? = some t ∧ x = nI (lo.toNat + i)) → Z g M N Q t lv st A) (kd : (∀ i : Nat, i < tl.length → ¬ x = nI (lo.toNat + i)) → Z g M N Q tg lv st A) : Z g M N Q pc lv (vi x :: st) A := by
  intro ad p e s m args below meth c C H locs ls hP hS hN hl
  by_cases hin : x.toInt < lo ∨ hi < x.toInt
  · refine lv_tableOut C.1 C.2.1 hd hin h2 (kd (fun i hi2 he => ?_) ad p e s m args below meth c C H locs ls hP hS hN hl)
    rw [he, nI_toInt (by omega)] at hin
    omega
  · have hin1 : ¬ x.toInt < lo := fun h => hin (Or.inl h)
    have hin2 : ¬ hi < x.toInt := fun h => hin (Or.inr h)
    have hlen : (x.toInt - lo).toNat < tl.length := by omega
    obtain ⟨t, ht⟩ : ∃ t, tl[(x.toInt - lo).toNat]? = some t := ⟨_, List.getElem?_eq_getElem hlen⟩
    have h4 : (offs.toList.map (fun o => (pc : Int) + o))[(x.toInt - lo).toNat]? = some (t : Int) := by rw [h3, List.getElem?_map, ht]; rfl
    rw [List.getElem?_map, Array.getElem?_toList] at h4
    cases ho : offs[(x.toInt - lo).toNat]? with
    | none => rw [ho] at h4; cases h4
    | some o =>
      rw [ho] at h4
      refine lv_tableIn C.1 C.2.1 hd hin1 hin2 ho (Option.some.inj h4) (k t ⟨_, ht, ?_⟩ ad p e s m args below meth c C H locs ls hP hS hN hl)
      apply Int32.toInt_inj.mp
      rw [nI_toInt (by omega)]
      omega
theorem swc_in {k : Nat → Prop} {x : Int32} : ∀ (tl : List Nat) (i d : Nat), swc k x i tl d → (∀ t, (∃ j : Nat, tl[j]? = some t ∧ x = nI (i + j) ∧ ∀ j', j' < j → ¬ x = nI (i + j')) → k t) ∧ ((∀ j : Nat, j < tl.length → ¬ x = nI (i + j)) → k d) := by
  intro tl
  induction tl with
  | nil => intro i d h; exact ⟨fun t ⟨j, h1, _⟩ => by simp at h1, fun _ => h⟩
  | cons a r ih =>
    intro i d h
    obtain ⟨h1, h2⟩ := h
    refine ⟨?_, fun h3 => ?_⟩
    · rintro t ⟨j, h3, h4, h5⟩
      cases j with
      | zero => simp at h3; subst h3; exact h1 h4
      | succ j =>
        have hx := h5 0 (by omega)
        refine (ih (i + 1) d (h2 hx)).1 t ⟨j, by simpa using h3, by rw [h4]; congr 1; omega, fun j' hj' => ?_⟩
        have := h5 (j' + 1) (by omega)
        rwa [show i + 1 + j' = i + (j' + 1) by omega]
    · have hx := h3 0 (by simp)
      refine (ih (i + 1) d (h2 hx)).2 (fun j hj => ?_)
      have := h3 (j + 1) (by simp; omega)
      rwa [show i + 1 + j = i + (j + 1) by omega]
end SND
theorem bif_f {b : Bool} {P : Prop} (h : bif b then P else False) : b = true ∧ P := by
  cases b with
  | true => exact ⟨rfl, h⟩
  | false => exact h.elim
theorem bif_n {b : Bool} {P : Prop} (h : bif b then False else P) : b = false ∧ P := by
  cases b with
  | false => exact ⟨rfl, h⟩
  | true => exact h.elim
theorem blt_lt {a b : Nat} (h : Nat.blt a b = true) : a < b := Nat.le_of_ble_eq_true h
set_option maxHeartbeats 4000000 in
theorem stp_sound {g : GG} {M : ME} {N : Nat} {Q : Option AV → AH → Prop} {E : List En} {T : CT} {K : KK} (hE : okE M.2.1 E) (hT : okCT M.1.cls T) (hK : ∀ pc lv st A, K pc lv st A → Z g M N Q pc lv st A) (pc : Nat) (lv : List (Option AV)) (st : List AV) (A : AH) (h : stp g M Q E T K pc lv st A) : Z g M N Q pc lv st A := by
  unfold stp at h
  cases hl : lk E pc with
  | none => rw [hl] at h; exact h.elim
  | some w =>
    obtain ⟨len, ins, tg, x, tl⟩ := w
    rw [hl] at h
    have hm := lk_mem _ _ _ hl
    obtain ⟨hd, hc⟩ := hE _ hm
    dsimp only at hd hc h
    unfold chk at hc
    rw [Bool.and_eq_true] at hc
    obtain ⟨hc1, hc2⟩ := hc
    cases ins
    case iconst n =>
      obtain rfl : len = 1 := by simpa [ln] using hc1
      exact Z_iconst hd (by simpa using hc2) (hK _ _ _ _ h)
    case bipush n =>
      obtain rfl : len = 2 := by simpa [ln] using hc1
      exact Z_bipush hd (by simpa using hc2) (hK _ _ _ _ h)
    case sipush n =>
      obtain rfl : len = 3 := by simpa [ln] using hc1
      exact Z_sipush hd (by simpa using hc2) (hK _ _ _ _ h)
    case lconst n =>
      obtain rfl : len = 1 := by simpa [ln] using hc1
      exact Z_lconst hd rfl (hK _ _ _ _ h)
    case ldc i =>
      obtain rfl : len = 2 := by simpa [ln] using hc1
      dsimp only at h
      split at h
      · rename_i y hy
        exact Z_ldc hd (hT.2.2.1 _ (lk_mem _ _ _ hy)) (hK _ _ _ _ h)
      · split at h
        · rename_i q hq
          exact Z_ldcS hd (hT.2.2.2.2 _ (lk_mem _ _ _ hq)) (hK _ _ _ _ h)
        · exact h.elim
    case ldc2_w i =>
      obtain rfl : len = 3 := by simpa [ln] using hc1
      dsimp only at h
      split at h
      · rename_i y hy
        exact Z_ldc2 hd (hT.2.2.2.1 _ (lk_mem _ _ _ hy)) (hK _ _ _ _ h)
      · exact h.elim
    case iload_n n =>
      obtain rfl : len = 1 := by simpa [ln] using hc1
      dsimp only at h
      split at h
      · rename_i y hy
        exact Z_iload_n hd hy (hK _ _ _ _ h)
      · exact h.elim
    case iload n =>
      obtain rfl : len = 2 := by simpa [ln] using hc1
      dsimp only at h
      split at h
      · rename_i y hy
        exact Z_iload hd hy (hK _ _ _ _ h)
      · exact h.elim
    case lload_n n =>
      obtain rfl : len = 1 := by simpa [ln] using hc1
      dsimp only at h
      split at h
      · rename_i y hy
        exact Z_lload_n hd hy (hK _ _ _ _ h)
      · exact h.elim
    case lload n =>
      obtain rfl : len = 2 := by simpa [ln] using hc1
      dsimp only at h
      split at h
      · rename_i y hy
        exact Z_lload hd hy (hK _ _ _ _ h)
      · exact h.elim
    case aload_n n =>
      obtain rfl : len = 1 := by simpa [ln] using hc1
      dsimp only at h
      split at h
      · rename_i y hy
        exact Z_aload_n hd hy (hK _ _ _ _ h)
      · exact h.elim
    case aload n =>
      obtain rfl : len = 2 := by simpa [ln] using hc1
      dsimp only at h
      split at h
      · rename_i y hy
        exact Z_aload hd hy (hK _ _ _ _ h)
      · exact h.elim
    case istore_n n =>
      obtain rfl : len = 1 := by simpa [ln] using hc1
      dsimp only at h
      split at h
      · obtain ⟨hb, h⟩ := bif_f h
        rw [Bool.and_eq_true] at hb
        exact Z_istore_n hd (blt_lt hb.1) hb.2 (hK _ _ _ _ h)
      · exact h.elim
    case istore n =>
      obtain rfl : len = 2 := by simpa [ln] using hc1
      dsimp only at h
      split at h
      · obtain ⟨hb, h⟩ := bif_f h
        rw [Bool.and_eq_true] at hb
        exact Z_istore hd (blt_lt hb.1) hb.2 (hK _ _ _ _ h)
      · exact h.elim
    case astore_n n =>
      obtain rfl : len = 1 := by simpa [ln] using hc1
      dsimp only at h
      split at h
      · obtain ⟨hb, h⟩ := bif_f h
        rw [Bool.and_eq_true] at hb
        exact Z_astore_n hd (blt_lt hb.1) hb.2 (hK _ _ _ _ h)
      · exact h.elim
    case astore n =>
      obtain rfl : len = 2 := by simpa [ln] using hc1
      dsimp only at h
      split at h
      · obtain ⟨hb, h⟩ := bif_f h
        rw [Bool.and_eq_true] at hb
        exact Z_astore hd (blt_lt hb.1) hb.2 (hK _ _ _ _ h)
      · exact h.elim
    case lstore n =>
      obtain rfl : len = 2 := by simpa [ln] using hc1
      dsimp only at h
      split at h
      · obtain ⟨hb, h⟩ := bif_f h
        rw [Bool.and_eq_true] at hb
        exact Z_lstore hd (blt_lt hb.1) hb.2 (hK _ _ _ _ h)
      · exact h.elim
    case iinc i n =>
      obtain rfl : len = 3 := by simpa [ln] using hc1
      dsimp only at h
      split at h
      · rename_i y hy
        obtain ⟨hb, h⟩ := bif_f h
        rw [Bool.and_eq_true] at hb
        exact Z_iinc hd hy (by simpa using hc2) (blt_lt hb.1) hb.2 (hK _ _ _ _ h)
      · exact h.elim
    case iadd =>
      obtain rfl : len = 1 := by simpa [ln] using hc1
      dsimp only at h
      split at h
      · exact Z_iadd hd (hK _ _ _ _ h)
      · exact h.elim
    case isub =>
      obtain rfl : len = 1 := by simpa [ln] using hc1
      dsimp only at h
      split at h
      · exact Z_isub hd (hK _ _ _ _ h)
      · exact h.elim
    case imul =>
      obtain rfl : len = 1 := by simpa [ln] using hc1
      dsimp only at h
      split at h
      · exact Z_imul hd (hK _ _ _ _ h)
      · exact h.elim
    case iand =>
      obtain rfl : len = 1 := by simpa [ln] using hc1
      dsimp only at h
      split at h
      · exact Z_iand hd (hK _ _ _ _ h)
      · exact h.elim
    case ishr =>
      obtain rfl : len = 1 := by simpa [ln] using hc1
      dsimp only at h
      split at h
      · exact Z_ishr hd (hK _ _ _ _ h)
      · exact h.elim
    case iushr =>
      obtain rfl : len = 1 := by simpa [ln] using hc1
      dsimp only at h
      split at h
      · exact Z_iushr hd (hK _ _ _ _ h)
      · exact h.elim
    case ladd =>
      obtain rfl : len = 1 := by simpa [ln] using hc1
      dsimp only at h
      split at h
      · exact Z_ladd hd (hK _ _ _ _ h)
      · exact h.elim
    case lcmp =>
      obtain rfl : len = 1 := by simpa [ln] using hc1
      dsimp only at h
      split at h
      · exact Z_lcmp hd (hK _ _ _ _ h)
      · exact h.elim
    case i2l =>
      obtain rfl : len = 1 := by simpa [ln] using hc1
      dsimp only at h
      split at h
      · exact Z_i2l hd (hK _ _ _ _ h)
      · exact h.elim
    case l2i =>
      obtain rfl : len = 1 := by simpa [ln] using hc1
      dsimp only at h
      split at h
      · exact Z_l2i hd (hK _ _ _ _ h)
      · exact h.elim
    case i2b =>
      obtain rfl : len = 1 := by simpa [ln] using hc1
      dsimp only at h
      split at h
      · exact Z_i2b hd (hK _ _ _ _ h)
      · exact h.elim
    case i2s =>
      obtain rfl : len = 1 := by simpa [ln] using hc1
      dsimp only at h
      split at h
      · exact Z_i2s hd (hK _ _ _ _ h)
      · exact h.elim
    case idiv =>
      obtain rfl : len = 1 := by simpa [ln] using hc1
      dsimp only at h
      split at h
      · exact Z_idiv hd h.1 (hK _ _ _ _ h.2)
      · exact h.elim
    case irem =>
      obtain rfl : len = 1 := by simpa [ln] using hc1
      dsimp only at h
      split at h
      · exact Z_irem hd h.1 (hK _ _ _ _ h.2)
      · exact h.elim
    case dup =>
      obtain rfl : len = 1 := by simpa [ln] using hc1
      dsimp only at h
      split at h
      · obtain ⟨hb, h⟩ := bif_n h
        exact Z_dup hd hb (hK _ _ _ _ h)
      · exact h.elim
    case pop =>
      obtain rfl : len = 1 := by simpa [ln] using hc1
      dsimp only at h
      split at h
      · obtain ⟨hb, h⟩ := bif_n h
        exact Z_pop hd hb (hK _ _ _ _ h)
      · exact h.elim
    case dup2 =>
      obtain rfl : len = 1 := by simpa [ln] using hc1
      dsimp only at h
      split at h
      · obtain ⟨hb, h⟩ := bif_n h
        rw [Bool.or_eq_false_iff] at hb
        exact Z_dup2 hd hb.1 hb.2 (hK _ _ _ _ h)
      · exact h.elim
    case goto off =>
      obtain rfl : len = 3 := by simpa [ln] using hc1
      exact Z_goto hd (by simpa using hc2) (hK _ _ _ _ h)
    case ifCond o off =>
      obtain rfl : len = 3 := by simpa [ln] using hc1
      dsimp only at h
      split at h
      · exact Z_if hd (by simpa using hc2) (fun q => hK _ _ _ _ (h.1 q)) (fun q => hK _ _ _ _ (h.2 q))
      · exact h.elim
    case if_icmp o off =>
      obtain rfl : len = 3 := by simpa [ln] using hc1
      dsimp only at h
      split at h
      · exact Z_icmp hd (by simpa using hc2) (fun q => hK _ _ _ _ (h.1 q)) (fun q => hK _ _ _ _ (h.2 q))
      · exact h.elim
    case tableswitch d lo hi offs =>
      dsimp only at h hc2
      simp only [Bool.and_eq_true, decide_eq_true_eq, beq_iff_eq] at hc2
      obtain ⟨⟨⟨⟨c1, c2⟩, c3⟩, c4⟩, c5⟩ := hc2
      split at h
      · rename_i y r
        obtain ⟨s1, s2⟩ := swc_in tl lo.toNat tg h
        refine Z_sw hd c1 c2 c3 c4 c5 (fun t ht => hK _ _ _ _ (s1 t ?_)) (fun hh => hK _ _ _ _ (s2 hh))
        obtain ⟨i, i1, i2⟩ := ht
        refine ⟨i, i1, i2, fun j hj he => ?_⟩
        have hi : i < tl.length := (List.getElem?_eq_some_iff.mp i1).1
        rw [i2] at he
        have := (nI_eq (by omega) (by omega)).mp he
        omega
      · exact h.elim
    case iaload =>
      obtain rfl : len = 1 := by simpa [ln] using hc1
      dsimp only at h
      split at h
      · split at h
        · rename_i hq
          exact Z_iaload hd hq h.1 (hK _ _ _ _ h.2)
        · exact h.elim
      · exact h.elim
    case baload =>
      obtain rfl : len = 1 := by simpa [ln] using hc1
      dsimp only at h
      split at h
      · split at h
        · rename_i hq
          exact Z_baload hd hq h.1 (hK _ _ _ _ h.2)
        · exact h.elim
      · exact h.elim
    case aaload =>
      obtain rfl : len = 1 := by simpa [ln] using hc1
      dsimp only at h
      split at h
      · split at h
        · rename_i hq
          exact Z_aaload hd hq h.1 h.2.1 (hK _ _ _ _ h.2.2)
        · exact h.elim
      · exact h.elim
    case iastore =>
      obtain rfl : len = 1 := by simpa [ln] using hc1
      dsimp only at h
      split at h
      · split at h
        · rename_i hq
          exact Z_iastore hd hq h.1 (hK _ _ _ _ h.2)
        · exact h.elim
      · exact h.elim
    case bastore =>
      obtain rfl : len = 1 := by simpa [ln] using hc1
      dsimp only at h
      split at h
      · split at h
        · rename_i hq
          exact Z_bastore hd hq h.1 h.2.1 (hK _ _ _ _ h.2.2)
        · exact h.elim
      · exact h.elim
    case getfield i =>
      obtain rfl : len = 3 := by simpa [ln] using hc1
      dsimp only at h
      split at h
      · rename_i ci k ty hf
        split at h
        · split at h
          · rename_i cj fs hq
            obtain ⟨hb, h2⟩ := bif_f h
            clear h
            have h := h2
            clear h2
            have e := Nat.eq_of_beq_eq_true hb
            subst e
            split at h
            · rename_i v hv
              exact Z_getfield hd (hT.1 _ (lk_mem _ _ _ hf)).1 hq hv (hK _ _ _ _ h)
            · exact h.elim
          · exact h.elim
        · exact h.elim
      · exact h.elim
    case putfield i =>
      obtain rfl : len = 3 := by simpa [ln] using hc1
      dsimp only at h
      split at h
      · rename_i ci k ty hf
        split at h
        · split at h
          · rename_i cj fs hq
            obtain ⟨hb, h⟩ := bif_f h
            rw [Bool.and_eq_true] at hb
            have e := Nat.eq_of_beq_eq_true hb.1
            subst e
            split at h
            · exact Z_put hd ((hT.1 _ (lk_mem _ _ _ hf)).2.1 rfl) hq (blt_lt hb.2) (hK _ _ _ _ h)
            · exact Z_putz hd ((hT.1 _ (lk_mem _ _ _ hf)).2.2 rfl) hq (blt_lt hb.2) h.1 (hK _ _ _ _ h.2)
            · exact h.elim
          · exact h.elim
        · exact h.elim
      · exact h.elim
    case ireturn =>
      obtain rfl : len = 1 := by simpa [ln] using hc1
      dsimp only at h
      split at h
      · split at h
        · rename_i hr
          exact Z_ireturn hd hr rfl h
        · rename_i hr
          exact Z_ireturn hd hr (z01 h.1).1 h.2
        · exact h.elim
      · exact h.elim
    case return_ =>
      obtain rfl : len = 1 := by simpa [ln] using hc1
      dsimp only at h
      split at h
      · split at h
        · rename_i hr
          exact Z_return hd hr h
        · exact h.elim
      · exact h.elim
    case invokevirtual i =>
      obtain rfl : len = 3 := by simpa [ln] using hc1
      dsimp only at h
      split at h
      · rename_i n me hi
        split at h
        · rename_i q r hst
          split at h
          · rename_i ci fs hq
            obtain ⟨hb, h1, h2⟩ := bif_f h
            rw [Bool.and_eq_true] at hb
            obtain ⟨hv1, -⟩ := hT.2.1 _ (lk_mem _ _ _ hi)
            obtain ⟨hv2, hv3⟩ := hv1 rfl
            have hlen : n < st.length := by
              rcases Nat.lt_or_ge n st.length with q1 | q1
              · exact q1
              · rw [List.drop_eq_nil_of_le q1] at hst; cases hst
            have e : st = (st.take n).reverse.reverse ++ .inr (.inr q) :: r := by rw [List.reverse_reverse, ← hst, List.take_append_drop]
            have := Z_callV (N := N) (vs := (st.take n).reverse) (rest := r) hd hv2 hv3 (blt_lt hb.1) hq h1 (by simp; omega) (Nat.le_of_ble_eq_true hb.2) (h2.mono (fun v A' _ h9 => hK _ _ _ _ h9))
            rw [← e] at this
            exact this
          · exact h.elim
        · exact h.elim
      · exact h.elim
    case invokestatic i =>
      obtain rfl : len = 3 := by simpa [ln] using hc1
      dsimp only at h
      split at h
      · rename_i n me hi
        obtain ⟨hb, h1⟩ := bif_f h
        rw [Bool.and_eq_true, Bool.and_eq_true] at hb
        obtain ⟨-, hv1, -⟩ := hT.2.1 _ (lk_mem _ _ _ hi)
        obtain ⟨hv2, hv3, hv4⟩ := hv1 rfl
        have hlen := Nat.le_of_ble_eq_true hb.1.1
        have e : st = (st.take n).reverse.reverse ++ st.drop n := by rw [List.reverse_reverse, List.take_append_drop]
        have := Z_callS (N := N) (vs := (st.take n).reverse) (rest := st.drop n) hd hv2 hv3 hv4 (blt_lt hb.1.2) (by simp; omega) (Nat.le_of_ble_eq_true hb.2) (h1.mono (fun v A' _ h9 => hK _ _ _ _ h9))
        rw [← e] at this
        exact this
      · rename_i n me hi
        obtain ⟨hb, h1⟩ := bif_f h
        rw [Bool.and_eq_true, Bool.and_eq_true] at hb
        obtain ⟨-, -, hv1, -⟩ := hT.2.1 _ (lk_mem _ _ _ hi)
        obtain ⟨hv2, hv3⟩ := hv1 rfl
        have hlen := Nat.le_of_ble_eq_true hb.1.1
        have e : st = (st.take n).reverse.reverse ++ st.drop n := by rw [List.reverse_reverse, List.take_append_drop]
        have := Z_callN (N := N) (vs := (st.take n).reverse) (rest := st.drop n) hd hv2 hv3 (blt_lt hb.1.2) (by simp; omega) (Nat.le_of_ble_eq_true hb.2) (h1.mono (fun v A' _ h9 => hK _ _ _ _ h9))
        rw [← e] at this
        exact this
      · rename_i hi
        obtain ⟨-, -, -, hv1⟩ := hT.2.1 _ (lk_mem _ _ _ hi)
        obtain ⟨v1, v2, v3, v4⟩ := hv1 rfl
        split at h
        · split at h
          · rename_i ha0
            split at h
            · rename_i ha1
              obtain ⟨hb, h1, h2, h3, h4, h5, h6⟩ := bif_f h
              rw [Bool.and_eq_true] at hb
              exact Z_acopy hd v1 v2 v3 v4 (blt_lt hb.1) ha0 ha1 h1 h2 h3 h4 h5 (Nat.le_of_ble_eq_true hb.2) (hK _ _ _ _ h6)
            · exact h.elim
          · exact h.elim
        · exact h.elim
      · exact h.elim
    all_goals exact h.elim
theorem wpz_sound {g : GG} {M : ME} {N : Nat} {Q : Option AV → AH → Prop} {E : List En} {T : CT} {cuts : List Nat} (hE : okE M.2.1 E) (hT : okCT M.1.cls T) : ∀ (n pc : Nat) (lv : List (Option AV)) (st : List AV) (A : AH), wpz g M Q E T cuts (Z g M N Q) n pc lv st A → Z g M N Q pc lv st A := by
  intro n
  induction n with
  | zero => intro pc lv st A h; exact h
  | succ n ih =>
    intro pc lv st A h
    simp only [wpz] at h
    cases hc : cuts.contains pc with
    | true => rw [hc] at h; exact h
    | false => rw [hc] at h; exact stp_sound hE hT ih pc lv st A h
/-- from pc on: one step, then up to n more -/
theorem Z_go {g : GG} {M : ME} {N : Nat} {Q : Option AV → AH → Prop} {E : List En} {T : CT} (hE : okE M.2.1 E) (hT : okCT M.1.cls T) (cuts : List Nat) (n : Nat) {pc : Nat} {lv : List (Option AV)} {st : List AV} {A : AH} (h : stp g M Q E T (wpz g M Q E T cuts (Z g M N Q) n) pc lv st A) : Z g M N Q pc lv st A :=
  stp_sound hE hT (wpz_sound hE hT n) pc lv st A h
