/-! what an instruction asks: a program's text as a proposition -/
/-- pc, length, instruction, target (or the default's), constant, a switch's targets -/
abbrev En : Type := Nat × Nat × Instr × Nat × Int32 × List Nat
/-- (index, class, slot, kind: 0 int, 1 boolean, 2 not to be put) -/
abbrev FT : Type := List (Nat × Nat × Nat × Nat)
/-- (index, kind: 0 virtual, 1 static, 2 static of a nest mate, 3 arraycopy; number of arguments; the method) -/
abbrev IT : Type := List (Nat × Nat × Nat × ME)
/-- a class' tables: fields, methods, ints, longs, Strings -/
abbrev CT : Type := FT × IT × List (Nat × Int32) × List (Nat × Int64) × List (Nat × Nat)
def lk {α : Type} : List (Nat × α) → Nat → Option α
  | [], _ => none
  | q :: r, i => bif Nat.beq q.1 i then some q.2 else lk r i
theorem lk_mem {α : Type} : ∀ (l : List (Nat × α)) (i : Nat) (x : α), lk l i = some x → (i, x) ∈ l := by
  intro l
  induction l with
  | nil => intro i x h; cases h
  | cons q r ih =>
    intro i x h
    simp only [lk] at h
    cases hb : Nat.beq q.1 i with
    | true =>
      rw [hb] at h
      have e1 := Nat.eq_of_beq_eq_true hb
      have e2 : q.2 = x := Option.some.inj h
      rw [← e1, ← e2]
      exact List.mem_cons_self
    | false =>
      rw [hb] at h
      exact List.mem_cons_of_mem _ (ih i x h)
abbrev KK : Type := Nat → List (Option AV) → List AV → AH → Prop
/-- a switch over targets from i on -/
def swc (k : Nat → Prop) (x : Int32) : Nat → List Nat → Nat → Prop
  | _, [], d => k d
  | i, t :: r, d => (x = nI i → k t) ∧ (¬ x = nI i → swc k x (i + 1) r d)
def top1 (v : Option AV) : Bool := !(isL v)
def stp (g : GG) (M : ME) (Q : Option AV → AH → Prop) (E : List En) (T : CT) (K : KK) (pc : Nat) (lv : List (Option AV)) (st : List AV) (A : AH) : Prop :=
  match lk E pc with
  | none => False
  | some (len, ins, tg, x, tl) =>
    match ins with
    | .iconst _ => K (pc + 1) lv (vi x :: st) A
    | .bipush _ => K (pc + 2) lv (vi x :: st) A
    | .sipush _ => K (pc + 3) lv (vi x :: st) A
    | .lconst n => K (pc + 1) lv (vl (lN n)  :: st) A
    | .ldc i => match lk T.2.2.1 i with
      | some y => K (pc + 2) lv (vi y :: st) A
      | none => match lk T.2.2.2.2 i with
        | some q => K (pc + 2) lv (vr (1000 + q) :: st) A
        | none => False
    | .ldc2_w i => match lk T.2.2.2.1 i with
      | some y => K (pc + 3) lv (vl y :: st) A
      | none => False
    | .iload_n n => match lv[(n : Nat)]? with
      | some (some (.inl y)) => K (pc + 1) lv (vi y :: st) A
      | _ => False
    | .iload n => match lv[n]? with
      | some (some (.inl y)) => K (pc + 2) lv (vi y :: st) A
      | _ => False
    | .lload_n n => match lv[(n : Nat)]? with
      | some (some (.inr (.inl y))) => K (pc + 1) lv (vl y :: st) A
      | _ => False
    | .lload n => match lv[n]? with
      | some (some (.inr (.inl y))) => K (pc + 2) lv (vl y :: st) A
      | _ => False
    | .aload_n n => match lv[(n : Nat)]? with
      | some (some (.inr (.inr y))) => K (pc + 1) lv (vr y :: st) A
      | _ => False
    | .aload n => match lv[n]? with
      | some (some (.inr (.inr y))) => K (pc + 2) lv (vr y :: st) A
      | _ => False
    | .istore_n n => match st with
      | .inl y :: r => bif Nat.blt n M.2.2.1 && okSt lv n then K (pc + 1) (lv.set n (some (vi y))) r A else False
      | _ => False
    | .istore n => match st with
      | .inl y :: r => bif Nat.blt n M.2.2.1 && okSt lv n then K (pc + 2) (lv.set n (some (vi y))) r A else False
      | _ => False
    | .astore_n n => match st with
      | .inr (.inr y) :: r => bif Nat.blt n M.2.2.1 && okSt lv n then K (pc + 1) (lv.set n (some (vr y))) r A else False
      | _ => False
    | .astore n => match st with
      | .inr (.inr y) :: r => bif Nat.blt n M.2.2.1 && okSt lv n then K (pc + 2) (lv.set n (some (vr y))) r A else False
      | _ => False
    | .lstore n => match st with
      | .inr (.inl y) :: r => bif Nat.blt (n + 1) M.2.2.1 && okSt lv n then K (pc + 2) ((lv.set n (some (vl y))).set (n + 1) none) r A else False
      | _ => False
    | .iinc n _ => match lv[n]? with
      | some (some (.inl y)) => bif Nat.blt n M.2.2.1 && okSt lv n then K (pc + 3) (lv.set n (some (vi (y + x)))) st A else False
      | _ => False
    | .iadd => match st with
      | .inl z :: .inl y :: r => K (pc + 1) lv (vi (y + z) :: r) A
      | _ => False
    | .isub => match st with
      | .inl z :: .inl y :: r => K (pc + 1) lv (vi (y - z) :: r) A
      | _ => False
    | .imul => match st with
      | .inl z :: .inl y :: r => K (pc + 1) lv (vi (y * z) :: r) A
      | _ => False
    | .iand => match st with
      | .inl z :: .inl y :: r => K (pc + 1) lv (vi (y &&& z) :: r) A
      | _ => False
    | .ishr => match st with
      | .inl z :: .inl y :: r => K (pc + 1) lv (vi (y >>> (z &&& 31)) :: r) A
      | _ => False
    | .iushr => match st with
      | .inl z :: .inl y :: r => K (pc + 1) lv (vi (y.toUInt32 >>> (z.toUInt32 &&& Int32.toUInt32 31)).toInt32 :: r) A
      | _ => False
    | .idiv => match st with
      | .inl z :: .inl y :: r => ¬ z = 0 ∧ K (pc + 1) lv (vi (y / z) :: r) A
      | _ => False
    | .irem => match st with
      | .inl z :: .inl y :: r => ¬ z = 0 ∧ K (pc + 1) lv (vi (y - y / z * z) :: r) A
      | _ => False
    | .ladd => match st with
      | .inr (.inl z) :: .inr (.inl y) :: r => K (pc + 1) lv (vl (y + z) :: r) A
      | _ => False
    | .lcmp => match st with
      | .inr (.inl z) :: .inr (.inl y) :: r => K (pc + 1) lv (vi (lg_cmp y z) :: r) A
      | _ => False
    | .i2l => match st with
      | .inl y :: r => K (pc + 1) lv (vl y.toInt64 :: r) A
      | _ => False
    | .l2i => match st with
      | .inr (.inl y) :: r => K (pc + 1) lv (vi y.toInt32 :: r) A
      | _ => False
    | .i2b => match st with
      | .inl y :: r => K (pc + 1) lv (vi y.toInt8.toInt32 :: r) A
      | _ => False
    | .i2s => match st with
      | .inl y :: r => K (pc + 1) lv (vi y.toInt16.toInt32 :: r) A
      | _ => False
    | .dup => match st with
      | v :: r => bif isL (some v) then False else K (pc + 1) lv (v :: v :: r) A
      | _ => False
    | .pop => match st with
      | v :: r => bif isL (some v) then False else K (pc + 1) lv r A
      | _ => False
    | .dup2 => match st with
      | v :: w :: r => bif isL (some v) || isL (some w) then False else K (pc + 1) lv (v :: w :: v :: w :: r) A
      | _ => False
    | .goto _ => K tg lv st A
    | .ifCond o _ => match st with
      | .inl y :: r => (cnd o y 0 → K tg lv r A) ∧ (¬ cnd o y 0 → K (pc + 3) lv r A)
      | _ => False
    | .if_icmp o _ => match st with
      | .inl z :: .inl y :: r => (cnd o y z → K tg lv r A) ∧ (¬ cnd o y z → K (pc + 3) lv r A)
      | _ => False
    | .tableswitch _ lo hi _ => match st with
      | .inl y :: r => swc (fun t => K t lv r A) y lo.toNat tl tg
      | _ => False
    | .iaload => match st with
      | .inl i :: .inr (.inr q) :: r => match A[q]? with
        | some (.inl (0, n, f)) => vp_in i n ∧ K (pc + 1) lv (vi (f i.toNatClampNeg) :: r) A
        | _ => False
      | _ => False
    | .baload => match st with
      | .inl i :: .inr (.inr q) :: r => match A[q]? with
        | some (.inl (1, n, f)) => vp_in i n ∧ K (pc + 1) lv (vi (f i.toNatClampNeg) :: r) A
        | _ => False
      | _ => False
    | .aaload => match st with
      | .inl i :: .inr (.inr q) :: r => match A[q]? with
        | some (.inr (.inl (t, n, f))) => (t = 2 ∨ t = 3) ∧ vp_in i n ∧ K (pc + 1) lv (vr (f i.toNatClampNeg) :: r) A
        | _ => False
      | _ => False
    | .iastore => match st with
      | .inl y :: .inl i :: .inr (.inr q) :: r => match A[q]? with
        | some (.inl (0, n, f)) => vp_in i n ∧ K (pc + 1) lv r (A.set q (ar 0 n (upd f i.toNatClampNeg y)))
        | _ => False
      | _ => False
    | .bastore => match st with
      | .inl y :: .inl i :: .inr (.inr q) :: r => match A[q]? with
        | some (.inl (1, n, f)) => vp_in i n ∧ (y = 0 ∨ y = 1) ∧ K (pc + 1) lv r (A.set q (ar 1 n (upd f i.toNatClampNeg y)))
        | _ => False
      | _ => False
    | .getfield i => match lk T.1 i with
      | some (ci, k, _) => match st with
        | .inr (.inr q) :: r => match A[q]? with
          | some (.inr (.inr (cj, fs))) => bif Nat.beq cj ci then (match fs[k]? with
            | some v => K (pc + 3) lv (v :: r) A
            | none => False) else False
          | _ => False
        | _ => False
      | none => False
    | .putfield i => match lk T.1 i with
      | some (ci, k, ty) => match st with
        | .inl y :: .inr (.inr q) :: r => match A[q]? with
          | some (.inr (.inr (cj, fs))) => bif Nat.beq cj ci && Nat.blt k fs.length then (match ty with
            | 0 => K (pc + 3) lv r (A.set q (ob ci (fs.set k (vi y))))
            | 1 => (y = 0 ∨ y = 1) ∧ K (pc + 3) lv r (A.set q (ob ci (fs.set k (vi y))))
            | _ => False) else False
          | _ => False
        | _ => False
      | none => False
    | .ireturn => match st with
      | [.inl y] => (match M.2.2.2.1 with
        | some .int => Q (some (vi y)) A
        | some .boolean => (y = 0 ∨ y = 1) ∧ Q (some (vi y)) A
        | _ => False)
      | _ => False
    | .return_ => match st with
      | [] => (match M.2.2.2.1 with
        | none => Q none A
        | _ => False)
      | _ => False
    | .invokevirtual i => match lk T.2.1 i with
      | some (0, n, me) => match st.drop n with
        | .inr (.inr q) :: r => match A[q]? with
          | some (.inr (.inr (ci, fs))) => bif Nat.blt me.2.2.2.2 M.2.2.2.2 && Nat.ble (cats r) 8 then
              ((vwCl[ci]?).map (fun r => r.1) = some me.1.cls ∧ Ev g me (.inr (.inr q) :: (st.take n).reverse) A (fun v A' => K (pc + 3) lv (v.toList ++ r) A')) else False
          | _ => False
        | _ => False
      | _ => False
    | .invokestatic i => match lk T.2.1 i with
      | some (1, n, me) => bif Nat.ble n st.length && Nat.blt me.2.2.2.2 M.2.2.2.2 && Nat.ble (cats (st.drop n)) 8 then
          Ev g me (st.take n).reverse A (fun v A' => K (pc + 3) lv (v.toList ++ st.drop n) A') else False
      | some (2, n, me) => bif Nat.ble n st.length && Nat.blt me.2.2.2.2 M.2.2.2.2 && Nat.ble (cats (st.drop n)) 8 then
          Ev g me (st.take n).reverse A (fun v A' => K (pc + 3) lv (v.toList ++ st.drop n) A') else False
      | some (3, _, _) => match st with
        | .inl n :: .inl dp :: .inr (.inr q1) :: .inl sp :: .inr (.inr q0) :: r => match A[q0]? with
          | some (.inl (0, n0, f)) => match A[q1]? with
            | some (.inl (0, n1, f1)) => bif Nat.blt 0 M.2.2.2.2 && Nat.ble (cats r) 8 then
              (¬ sp < 0 ∧ ¬ dp < 0 ∧ ¬ n < 0 ∧ sp.toNatClampNeg + n.toNatClampNeg ≤ n0 ∧ dp.toNatClampNeg + n.toNatClampNeg ≤ n1 ∧ K (pc + 3) lv r (A.set q1 (ar 0 n1 (va_cpy f f1 sp.toNatClampNeg dp.toNatClampNeg n.toNatClampNeg)))) else False
            | _ => False
          | _ => False
        | _ => False
      | _ => False
    | _ => False
/-- so many steps at most, none at a pc of cuts -/
def wpz (g : GG) (M : ME) (Q : Option AV → AH → Prop) (E : List En) (T : CT) (cuts : List Nat) (K : KK) : Nat → KK
  | 0 => K
  | n + 1 => fun pc lv st A => bif cuts.contains pc then K pc lv st A else stp g M Q E T (wpz g M Q E T cuts K n) pc lv st A
