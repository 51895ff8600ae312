section CMP
variable {g : GG} {S : Sg} {C : Ca}
theorem fs1_congr {p q : Nat → Bool} : ∀ (n c : Nat), (∀ i, c ≤ i → i < c + n → p i = q i) → fs1 p c n = fs1 q c n := by
  intro n
  induction n with
  | zero => intro c _; rfl
  | succ n ih =>
    intro c h
    simp only [fs1]
    rw [h c (Nat.le_refl _) (by omega), ih (c + 1) (fun i a b => h i (by omega) (by omega))]
theorem sm_congr {p q : Nat → Nat} : ∀ (n c : Nat), (∀ i, c ≤ i → i < c + n → p i = q i) → sm p c n = sm q c n := by
  intro n
  induction n with
  | zero => intro c _; rfl
  | succ n ih =>
    intro c h
    simp only [sm]
    rw [h c (Nat.le_refl _) (by omega), ih (c + 1) (fun i a b => h i (by omega) (by omega))]
theorem misL_congr {t T : Nat → Int32} {tn W : Nat} {L : Nat → Nat → Int32} (h : ∀ j, j < tn → t j = T j) : misL t tn L W = misL T tn L W := by
  unfold misL
  exact fs1_congr _ _ (fun i _ hi => by unfold wrgP; rw [h i (by omega)])
theorem tldL_congr {t T : Nat → Int32} {tn W N a : Nat} {L : Nat → Nat → Int32} (h : ∀ j, j < tn → t j = T j) : tldL t tn L W N a = tldL T tn L W N a := by
  funext k
  unfold tldL
  refine sm_congr _ _ (fun i h1 hi => ?_)
  have : t i = T i := h i (by omega)
  unfold tldP
  rw [this]
theorem kndL_le {f : Nat → Nat} : kndL f ≤ 2 := by
  unfold kndL
  by_cases h : f 0 < f 1 <;> simp only [h, if_true, if_false] <;> split <;> omega
theorem Wd_of {sl : Nat → Int32} {w : Nat → Nat} {n : Nat} (h1 : ∀ j, j < n → sl j = nI (w j)) (h2 : ∀ j, j < n → w j ≤ 99) : Wd sl w n := fun i hi => ⟨h1 i hi, h2 i hi⟩
theorem x_spoken (hS : okSg S) (hC : RC S C) : Ev g mX9_spoken [vr 0] (cW S C) (CV (op_spoken S)) := by
  obtain ⟨⟨R, W, m, D⟩, ⟨tn, T⟩, ⟨n, TP⟩, ⟨sn, w⟩, im, sh, tf, rf⟩ := S
  obtain ⟨b, t, tp, ⟨st, nx, tk, fro, dR, dW, dm, db⟩, te, ⟨sl, ln⟩, sd, ia, sa⟩ := C
  obtain ⟨⟨p1, p2, p3, p4, p5⟩, ⟨q1, q2⟩, ⟨o3, o4⟩, ⟨o5, o5b⟩, o6, o7, o8, o9⟩ := id hS
  obtain ⟨h1, h2, h3, h4, h5, h6⟩ := id hC
  have p1 : R ≤ 12 := p1
  have p2 : W ≤ 16 := p2
  have p3 : m ≤ 1 := p3
  have p4 : R = 0 → W = 0 := p4
  have p5 : R ≠ 0 → 1 ≤ W := p5
  have q1 : tn ≤ R * W := q1
  have q2 : ∀ j, j < tn → isCol (T j) = true := q2
  have hRW := RW_le p1 p2
  unfold op_spoken spk
  dsimp only
  refine Ev_of omX9_spoken.1 (Nat.le_of_ble_eq_true rfl) ?_
  refine Z_go kX9_spoken okX9 [] 80 ?_
  refine ⟨rfl, (c_speak (ln := ln) h1 p1 p2 p3 (Wd_of h4 o5b) o5).fr [12, 13, 14, 1, 2] rfl (by decide) rfl ?_⟩
  rw [(spkS_ind (ln := ln) (ln' := fun _ => 0)).1]
  exact ⟨rfl, (b, t, tp, (st, nx, tk, fro, dR, dW, dm, db), te, (sl, _), sd, ia, sa), rfl, hC, hS⟩
theorem x_said (hS : okSg S) (hC : RC S C) (i : Int32) : Ev g mX9_said [vr 0, vi i] (cW S C) (CV (op_said S i)) := by
  obtain ⟨⟨R, W, m, D⟩, ⟨tn, T⟩, ⟨n, TP⟩, ⟨sn, w⟩, im, sh, tf, rf⟩ := S
  obtain ⟨b, t, tp, ⟨st, nx, tk, fro, dR, dW, dm, db⟩, te, ⟨sl, ln⟩, sd, ia, sa⟩ := C
  obtain ⟨⟨p1, p2, p3, p4, p5⟩, ⟨q1, q2⟩, ⟨o3, o4⟩, ⟨o5, o5b⟩, o6, o7, o8, o9⟩ := id hS
  obtain ⟨h1, h2, h3, h4, h5, h6⟩ := id hC
  have p1 : R ≤ 12 := p1
  have p2 : W ≤ 16 := p2
  have p3 : m ≤ 1 := p3
  have p4 : R = 0 → W = 0 := p4
  have p5 : R ≠ 0 → 1 ≤ W := p5
  have q1 : tn ≤ R * W := q1
  have q2 : ∀ j, j < tn → isCol (T j) = true := q2
  have hRW := RW_le p1 p2
  unfold op_said spk
  dsimp only
  refine Ev_of omX9_said.1 (Nat.le_of_ble_eq_true rfl) ?_
  refine Z_go kX9_said okX9 [] 80 ?_
  refine ⟨fun (h7 : 0 ≤ i) => ?_, fun (h7 : ¬ 0 ≤ i) => ?_⟩
  · have h0 : ¬ i < 0 := Int32.not_lt.mpr h7
    rw [if_neg h0]
    refine ⟨rfl, (c_speak (ln := ln) h1 p1 p2 p3 (Wd_of h4 o5b) o5).fr [12, 13, 14, 1, 2] rfl (by decide) rfl ?_⟩
    obtain ⟨i1, i2⟩ := spkS_ind (L := lnD D W m) (R := R) (W := W) (w := w) (n := sn) (ln := ln) (ln' := fun _ => 0)
    rw [← i1]
    obtain ⟨y, hy, rfl⟩ := nI_of h0
    cases hk : (spkS (lnD D W m) R W w sn ln).1 with
    | none =>
      have hneg : ¬ nI y < -nI 4 := by
        rw [Int32.lt_iff_toInt_lt, nI_toInt hy]
        have : (-nI 4).toInt = -4 := by decide +kernel
        omega
      rw [if_neg (show ¬ nI y < oI none from hneg)]
      refine ⟨fun _ => ⟨rfl, (b, t, tp, (st, nx, tk, fro, dR, dW, dm, db), te, (sl, _), sd, ia, sa), rfl, hC, hS⟩, fun (z : ¬ -nI 4 ≤ nI y) => absurd (Int32.not_lt.mp hneg) z⟩
    | some k =>
      have hf := spkS_fit p2 p4 p5 hk
      refine ⟨fun (z : nI k ≤ nI y) => ?_, fun (z : ¬ nI k ≤ nI y) => ?_⟩
      · rw [if_neg (show ¬ nI y < oI (some k) from Int32.not_lt.mpr z)]
        exact ⟨rfl, (b, t, tp, (st, nx, tk, fro, dR, dW, dm, db), te, (sl, _), sd, ia, sa), rfl, hC, hS⟩
      · rw [if_pos (show nI y < oI (some k) from Int32.not_le.mp z)]
        rw [nI_leI (by omega) hy] at z
        rw [nOf_n hy, ← i2 k hk y (by omega)]
        refine ⟨vin (by omega) (by omega), ?_⟩
        rw [nI_clamp (by omega)]
        exact ⟨rfl, (b, t, tp, (st, nx, tk, fro, dR, dW, dm, db), te, (sl, _), sd, ia, sa), rfl, hC, hS⟩
  · rw [if_pos (Int32.not_le.mp h7)]
    exact ⟨rfl, _, rfl, hC, hS⟩
theorem x_add (hS : okSg S) (hC : RC S C) : Ev g mX9_add [vr 0] (cW S C) (CV (op_add S)) := by
  obtain ⟨⟨R, W, m, D⟩, ⟨tn, T⟩, ⟨n, TP⟩, ⟨sn, w⟩, im, sh, tf, rf⟩ := S
  obtain ⟨b, t, tp, ⟨st, nx, tk, fro, dR, dW, dm, db⟩, te, ⟨sl, ln⟩, sd, ia, sa⟩ := C
  obtain ⟨⟨p1, p2, p3, p4, p5⟩, ⟨q1, q2⟩, ⟨o3, o4⟩, ⟨o5, o5b⟩, o6, o7, o8, o9⟩ := id hS
  obtain ⟨h1, h2, h3, h4, h5, h6⟩ := id hC
  have p1 : R ≤ 12 := p1
  have p2 : W ≤ 16 := p2
  have p3 : m ≤ 1 := p3
  have p4 : R = 0 → W = 0 := p4
  have p5 : R ≠ 0 → 1 ≤ W := p5
  have q1 : tn ≤ R * W := q1
  have q2 : ∀ j, j < tn → isCol (T j) = true := q2
  have hRW := RW_le p1 p2
  unfold op_add spk
  dsimp only
  obtain ⟨i1, i2⟩ := spkS_ind (L := lnD D W m) (R := R) (W := W) (w := w) (n := sn) (ln := ln) (ln' := fun _ => 0)
  rw [← i1]
  refine Ev_of omX9_add.1 (Nat.le_of_ble_eq_true rfl) ?_
  refine Z_go kX9_add okX9 [] 80 ?_
  refine ⟨rfl, (c_speak (ln := ln) h1 p1 p2 p3 (Wd_of h4 o5b) o5).fr [12, 13, 14, 1, 2] rfl (by decide) rfl ?_⟩
  cases hk : (spkS (lnD D W m) R W w sn ln).1 with
  | none => exact ⟨fun z => absurd rfl z, fun _ => ⟨rfl, (b, t, tp, (st, nx, tk, fro, dR, dW, dm, db), te, (sl, _), sd, ia, sa), rfl, hC, hS⟩⟩
  | some k =>
    have hf := spkS_fit p2 p4 p5 hk
    have hne : ¬ oI (some k) = -nI 4 := by rw [oI_none (fun j hj => by cases hj; omega)]; simp
    dsimp only
    refine ⟨fun _ => ?_, fun z => absurd hne z⟩
    refine ⟨fun (z : nI R < nI 12) => ?_, fun (z : ¬ nI R < nI 12) => ?_⟩
    · rw [nI_ltI (by omega) (by omega)] at z
      rw [if_neg (by omega)]
      have hb2 : Hd b D R k := by
        by_cases hR0 : R = 0
        · intro r c hr; omega
        · rw [hf.1 hR0]; exact h1
      obtain ⟨b', hd, hb'⟩ := c_takeLine (g := g) (W := W) (l := (spkS (lnD D W m) R W w sn ln).2) hb2 z hf.2.2 p3
      refine ⟨rfl, hd.fr [1, 2, 13] rfl (by decide) rfl ?_⟩
      refine ⟨rfl, (b', t, tp, (st, nx, tk, fro, dR, dW, dm, db), te, (sl, (spkS (lnD D W m) R W w sn ln).2), sd, ia, sa), rfl, ⟨?_, h2, h3, fun i (hi : i < 0) => absurd hi (by omega), h5, h6⟩, ⟨by show R + 1 ≤ 12; omega, hf.2.2, p3, fun (z : R + 1 = 0) => absurd z (by omega), fun _ => hf.2.1⟩, ⟨?_, q2⟩, ⟨o3, o4⟩, ⟨by show 0 ≤ 40; omega, fun i (hi : i < 0) => absurd hi (by omega)⟩, o6, o7, o8, o9⟩
      · intro q c hq hc
        rw [hb' q c hq hc]
        unfold addD
        by_cases e : q = R
        · rw [if_pos e, if_pos e]
          exact i2 k hk _ (plc_lt hc)
        · rw [if_neg e, if_neg e]
      · show tn ≤ (R + 1) * k
        by_cases hR0 : R = 0
        · subst hR0; omega
        · rw [hf.1 hR0, Nat.succ_mul]; omega
    · rw [nI_ltI (by omega) (by omega)] at z
      rw [if_pos (by omega)]
      exact ⟨rfl, (b, t, tp, (st, nx, tk, fro, dR, dW, dm, db), te, (sl, _), sd, ia, sa), rfl, hC, hS⟩
theorem x_mistake (hS : okSg S) (hC : RC S C) (x : Int32) : Ev g mX9_mistake [vr 0, vi x] (cW S C) (CV (op_mistake S x)) := by
  obtain ⟨⟨R, W, m, D⟩, ⟨tn, T⟩, ⟨n, TP⟩, ⟨sn, w⟩, im, sh, tf, rf⟩ := S
  obtain ⟨b, t, tp, ⟨st, nx, tk, fro, dR, dW, dm, db⟩, te, ⟨sl, ln⟩, sd, ia, sa⟩ := C
  obtain ⟨⟨p1, p2, p3, p4, p5⟩, ⟨q1, q2⟩, ⟨o3, o4⟩, ⟨o5, o5b⟩, o6, o7, o8, o9⟩ := id hS
  obtain ⟨h1, h2, h3, h4, h5, h6⟩ := id hC
  have p1 : R ≤ 12 := p1
  have p2 : W ≤ 16 := p2
  have p3 : m ≤ 1 := p3
  have p4 : R = 0 → W = 0 := p4
  have p5 : R ≠ 0 → 1 ≤ W := p5
  have q1 : tn ≤ R * W := q1
  have q2 : ∀ j, j < tn → isCol (T j) = true := q2
  have hRW := RW_le p1 p2
  unfold op_mistake
  dsimp only
  have hne : ∀ j, j < tn → ¬ t j = -nI 4 := fun j hj => by rw [h2 j hj]; exact isCol_ne (q2 j hj)
  refine Ev_of omX9_mistake.1 (Nat.le_of_ble_eq_true rfl) ?_
  refine Z_go kX9_mistake okX9 [] 80 ?_
  refine ⟨fun (h : x < 0) => ?_, fun (h : ¬ x < 0) => ⟨fun (h7 : x ≤ nI 6) => ?_, fun (h7 : ¬ x ≤ nI 6) => ?_⟩⟩
  · rw [if_pos (Or.inl h)]; exact ⟨rfl, _, rfl, hC, hS⟩
  · rw [if_neg (fun z => z.elim h (fun z => Int32.not_lt.mpr h7 z))]
    refine ⟨rfl, (c_firstWrong (t := t) h1 p1 p2 p3 q1).fr [3, 4, 1, 2] rfl (by decide) rfl ?_⟩
    rw [← misL_congr h2]
    cases hk : misL t tn (lnD D W m) W with
    | none => exact ⟨fun z => absurd rfl z, fun _ => ⟨rfl, _, rfl, hC, hS⟩⟩
    | some i =>
      have hi := fs1_some _ _ _ hk
      have hi2 : i < R * W := by omega
      obtain ⟨dW1, d2, d3⟩ := dm_lt hi2
      have hne2 : ¬ oI (some i) = -nI 4 := by rw [oI_none (fun j hj => by cases hj; omega)]; simp
      refine ⟨fun _ => ?_, fun z => absurd hne2 z⟩
      dsimp only
      rw [← tldL_congr h2]
      refine ⟨fun (z0 : x = nI 0) => ?_, fun (z0 : ¬ x = nI 0) => ⟨fun (z1 : x = nI 1) => ?_, fun (z1 : ¬ x = nI 1) => ⟨fun (z2 : x = nI 2) => ?_, fun (z2 : ¬ x = nI 2) => ⟨fun (z3 : x = nI 3) => ?_, fun (z3 : ¬ x = nI 3) => ⟨fun (z4 : x = nI 4) => ?_, fun (z4 : ¬ x = nI 4) => ⟨fun (z5 : x = nI 5) => ?_, fun (z5 : ¬ x = nI 5) => ?_⟩⟩⟩⟩⟩⟩
      · rw [if_pos z0]; exact ⟨rfl, _, rfl, hC, hS⟩
      · rw [if_neg z0, if_pos z1]
        refine ⟨rfl, (c_rowOfPlan (j := i) p2 dW1 (by omega)).fr [1, 2] rfl (by decide) rfl ?_⟩
        exact ⟨rfl, _, rfl, hC, hS⟩
      · rw [if_neg z0, if_neg z1, if_pos z2]
        refine ⟨rfl, (c_placeOfPlan (j := i) p2 dW1 (by omega)).fr [1, 2] rfl (by decide) rfl ?_⟩
        exact ⟨rfl, _, rfl, hC, hS⟩
      · rw [if_neg z0, if_neg z1, if_neg z2, if_pos z3]
        refine ⟨rfl, (c_planAt (j := i) h1 p1 p2 p3 hi2).fr [1, 2] rfl (by decide) rfl ?_⟩
        exact ⟨rfl, _, rfl, hC, hS⟩
      · rw [if_neg z0, if_neg z1, if_neg z2, if_neg z3, if_pos z4]
        refine ⟨rfl, (c_kindOf (t := t) (a := i) h1 p1 p2 p3 q1 (by omega) hne).fr [3, 4, 1, 2] rfl (by decide) rfl ?_⟩
        exact ⟨rfl, _, rfl, hC, hS⟩
      · rw [if_neg z0, if_neg z1, if_neg z2, if_neg z3, if_neg z4, if_pos z5]
        refine ⟨rfl, (c_kindOf (t := t) (a := i) h1 p1 p2 p3 q1 (by omega) hne).fr [3, 4, 1, 2] rfl (by decide) rfl ?_⟩
        refine ⟨rfl, (c_asTold (t := t) (a := i) (k := kndL (tldL t tn (lnD D W m) W (R * W) i)) h1 p1 p2 p3 q1 kndL_le (by omega) hne).fr [3, 4, 1, 2] rfl (by decide) rfl ?_⟩
        exact ⟨rfl, _, rfl, hC, hS⟩
      · rw [if_neg z0, if_neg z1, if_neg z2, if_neg z3, if_neg z4, if_neg z5]
        have e : nI tn - nI i = nI (tn - i) := pk_sub (by omega)
        exact ⟨by rw [← e]; rfl, _, rfl, hC, hS⟩
  · rw [if_pos (Or.inr (Int32.not_le.mp h7))]; exact ⟨rfl, _, rfl, hC, hS⟩
theorem x_paint (hS : okSg S) (hC : RC S C) (r c x : Int32) : Ev g mX9_paint [vr 0, vi r, vi c, vi x] (cW S C) (CV (op_paint S r c x)) := by
  obtain ⟨⟨R, W, m, D⟩, ⟨tn, T⟩, ⟨n, TP⟩, ⟨sn, w⟩, im, sh, tf, rf⟩ := S
  obtain ⟨b, t, tp, ⟨st, nx, tk, fro, dR, dW, dm, db⟩, te, ⟨sl, ln⟩, sd, ia, sa⟩ := C
  obtain ⟨⟨p1, p2, p3, p4, p5⟩, ⟨q1, q2⟩, ⟨o3, o4⟩, ⟨o5, o5b⟩, o6, o7, o8, o9⟩ := id hS
  obtain ⟨h1, h2, h3, h4, h5, h6⟩ := id hC
  have p1 : R ≤ 12 := p1
  have p2 : W ≤ 16 := p2
  have p3 : m ≤ 1 := p3
  have p4 : R = 0 → W = 0 := p4
  have p5 : R ≠ 0 → 1 ≤ W := p5
  have q1 : tn ≤ R * W := q1
  have q2 : ∀ j, j < tn → isCol (T j) = true := q2
  have hRW := RW_le p1 p2
  unfold op_paint
  dsimp only
  refine Ev_of omX9_paint.1 (Nat.le_of_ble_eq_true rfl) ?_
  refine Z_go kX9_paint okX9 [] 80 ?_
  refine ⟨rfl, (c_hasBead r c).fr [1, 2] rfl (by decide) rfl ?_⟩
  cases hh : (hasRow R r && hasRow W c) with
  | false => exact ⟨fun _ => ⟨rfl, _, rfl, hC, hS⟩, fun z => absurd rfl z⟩
  | true =>
    rw [Bool.and_eq_true] at hh
    obtain ⟨k, hk, rfl, e1⟩ := hasRow_of (by omega) hh.1
    obtain ⟨j, hj, rfl, e2⟩ := hasRow_of (by omega) hh.2
    rw [e1, e2]
    refine ⟨fun z => (z1 z).elim, fun _ => ?_⟩
    refine (c_isColour x).use ?_
    cases hx : isCol x with
    | false => exact ⟨fun z => absurd rfl z, fun _ => ⟨rfl, _, rfl, hC, hS⟩⟩
    | true =>
      refine ⟨fun _ => ?_, fun (z : ¬ ¬ nI 1 = 0) => absurd z1 z⟩
      simp only [Bool.and_self, if_true]
      refine ⟨rfl, (c_colourAt h1 p1 p2 hk hj).fr [1, 2] rfl (by decide) rfl ?_⟩
      refine ⟨rfl, (c_put x (by omega) (by omega)).fr [1, 2] rfl (by decide) rfl ?_⟩
      refine ⟨rfl, (upd b (k * 16 + j) x, t, tp, (st, nx, tk, fro, dR, dW, dm, db), te, (sl, ln), sd, ia, sa), rfl, ⟨?_, fun i (hi : i < 0) => absurd hi (by omega), h3, h4, h5, h6⟩, ⟨p1, p2, p3, p4, p5⟩, ⟨Nat.zero_le _, fun i (hi : i < 0) => absurd hi (by omega)⟩, ⟨o3, o4⟩, ⟨o5, o5b⟩, o6, o7, o8, o9⟩
      intro q d hq hd
      unfold setD
      by_cases e : q = k ∧ d = j
      · rw [if_pos e, e.1, e.2, updS]
      · rw [if_neg e, updN (by omega)]; exact h1 q d hq hd
theorem x_dye (hS : okSg S) (hC : RC S C) (x y : Int32) : Ev g mX9_dye [vr 0, vi x, vi y] (cW S C) (CV (op_dye S x y)) := by
  obtain ⟨⟨R, W, m, D⟩, ⟨tn, T⟩, ⟨n, TP⟩, ⟨sn, w⟩, im, sh, tf, rf⟩ := S
  obtain ⟨b, t, tp, ⟨st, nx, tk, fro, dR, dW, dm, db⟩, te, ⟨sl, ln⟩, sd, ia, sa⟩ := C
  obtain ⟨⟨p1, p2, p3, p4, p5⟩, ⟨q1, q2⟩, ⟨o3, o4⟩, ⟨o5, o5b⟩, o6, o7, o8, o9⟩ := id hS
  obtain ⟨h1, h2, h3, h4, h5, h6⟩ := id hC
  have p1 : R ≤ 12 := p1
  have p2 : W ≤ 16 := p2
  have p3 : m ≤ 1 := p3
  have p4 : R = 0 → W = 0 := p4
  have p5 : R ≠ 0 → 1 ≤ W := p5
  have q1 : tn ≤ R * W := q1
  have q2 : ∀ j, j < tn → isCol (T j) = true := q2
  have hRW := RW_le p1 p2
  unfold op_dye
  dsimp only
  refine Ev_of omX9_dye.1 (Nat.le_of_ble_eq_true rfl) ?_
  refine Z_go kX9_dye okX9 [] 80 ?_
  refine (c_isColour x).use ?_
  cases hx : isCol x with
  | false => exact ⟨fun _ => ⟨rfl, _, rfl, hC, hS⟩, fun z => absurd rfl z⟩
  | true =>
    refine ⟨fun z => (z1 z).elim, fun _ => ?_⟩
    refine (c_isColour y).use ?_
    cases hy : isCol y with
    | false => exact ⟨fun z => absurd rfl z, fun _ => ⟨rfl, _, rfl, hC, hS⟩⟩
    | true =>
      refine ⟨fun _ => ?_, fun (z : ¬ ¬ nI 1 = 0) => absurd z1 z⟩
      obtain ⟨b', hd, hb'⟩ := c_dyeAll (g := g) (m := m) x y h1 p1 p2
      refine ⟨rfl, (c_manyInAll x h1 p1 p2).fr [1, 2] rfl (by decide) rfl ?_⟩
      refine ⟨rfl, hd.fr [1, 2] rfl (by decide) rfl ?_⟩
      exact ⟨rfl, (b', t, tp, (st, nx, tk, fro, dR, dW, dm, db), te, (sl, ln), sd, ia, sa), rfl, ⟨hb', fun i (hi : i < 0) => absurd hi (by omega), h3, h4, h5, h6⟩, ⟨p1, p2, p3, p4, p5⟩, ⟨Nat.zero_le _, fun i (hi : i < 0) => absurd hi (by omega)⟩, ⟨o3, o4⟩, ⟨o5, o5b⟩, o6, o7, o8, o9⟩
theorem x_swap (hS : okSg S) (hC : RC S C) (r s : Int32) : Ev g mX9_swap [vr 0, vi r, vi s] (cW S C) (CV (op_swap S r s)) := by
  obtain ⟨⟨R, W, m, D⟩, ⟨tn, T⟩, ⟨n, TP⟩, ⟨sn, w⟩, im, sh, tf, rf⟩ := S
  obtain ⟨b, t, tp, ⟨st, nx, tk, fro, dR, dW, dm, db⟩, te, ⟨sl, ln⟩, sd, ia, sa⟩ := C
  obtain ⟨⟨p1, p2, p3, p4, p5⟩, ⟨q1, q2⟩, ⟨o3, o4⟩, ⟨o5, o5b⟩, o6, o7, o8, o9⟩ := id hS
  obtain ⟨h1, h2, h3, h4, h5, h6⟩ := id hC
  have p1 : R ≤ 12 := p1
  have p2 : W ≤ 16 := p2
  have p3 : m ≤ 1 := p3
  have p4 : R = 0 → W = 0 := p4
  have p5 : R ≠ 0 → 1 ≤ W := p5
  have q1 : tn ≤ R * W := q1
  have q2 : ∀ j, j < tn → isCol (T j) = true := q2
  have hRW := RW_le p1 p2
  unfold op_swap
  dsimp only
  refine Ev_of omX9_swap.1 (Nat.le_of_ble_eq_true rfl) ?_
  refine Z_go kX9_swap okX9 [] 80 ?_
  refine ⟨rfl, (c_hasRow r).fr [1, 2] rfl (by decide) rfl ?_⟩
  cases hr : hasRow R r with
  | false => exact ⟨fun _ => ⟨rfl, _, rfl, hC, hS⟩, fun z => absurd rfl z⟩
  | true =>
    refine ⟨fun z => (z1 z).elim, fun _ => ?_⟩
    refine ⟨rfl, (c_hasRow s).fr [1, 2] rfl (by decide) rfl ?_⟩
    cases hs : hasRow R s with
    | false => exact ⟨fun z => absurd rfl z, fun _ => ⟨rfl, _, rfl, hC, hS⟩⟩
    | true =>
      refine ⟨fun _ => ?_, fun (z : ¬ ¬ nI 1 = 0) => absurd z1 z⟩
      obtain ⟨k, hk, rfl, e1⟩ := hasRow_of (by omega) hr
      obtain ⟨j, hj, rfl, e2⟩ := hasRow_of (by omega) hs
      rw [e1, e2]
      obtain ⟨b', hd, hb'⟩ := c_exchange (g := g) (m := m) h1 p1 p2 hk hj
      refine ⟨rfl, (c_sameBeads h1 p1 p2 hk hj).fr [1, 2] rfl (by decide) rfl ?_⟩
      refine ⟨rfl, hd.fr [1, 2] rfl (by decide) rfl ?_⟩
      simp only [Bool.and_self, if_true]
      cases ha : al (fun c => decide (D k c = D j c)) 0 W with
      | false => exact ⟨fun _ => ⟨rfl, (b', t, tp, (st, nx, tk, fro, dR, dW, dm, db), te, (sl, ln), sd, ia, sa), rfl, ⟨hb', fun i (hi : i < 0) => absurd hi (by omega), h3, h4, h5, h6⟩, ⟨p1, p2, p3, p4, p5⟩, ⟨Nat.zero_le _, fun i (hi : i < 0) => absurd hi (by omega)⟩, ⟨o3, o4⟩, ⟨o5, o5b⟩, o6, o7, o8, o9⟩, fun z => absurd rfl z⟩
      | true => exact ⟨fun z => (z1 z).elim, fun _ => ⟨rfl, (b', t, tp, (st, nx, tk, fro, dR, dW, dm, db), te, (sl, ln), sd, ia, sa), rfl, ⟨hb', fun i (hi : i < 0) => absurd hi (by omega), h3, h4, h5, h6⟩, ⟨p1, p2, p3, p4, p5⟩, ⟨Nat.zero_le _, fun i (hi : i < 0) => absurd hi (by omega)⟩, ⟨o3, o4⟩, ⟨o5, o5b⟩, o6, o7, o8, o9⟩⟩
theorem x_change (hS : okSg S) (hC : RC S C) (r x : Int32) : Ev g mX9_change [vr 0, vi r, vi x] (cW S C) (CV (op_change S r x)) := by
  obtain ⟨⟨R, W, m, D⟩, ⟨tn, T⟩, ⟨n, TP⟩, ⟨sn, w⟩, im, sh, tf, rf⟩ := S
  obtain ⟨b, t, tp, ⟨st, nx, tk, fro, dR, dW, dm, db⟩, te, ⟨sl, ln⟩, sd, ia, sa⟩ := C
  obtain ⟨⟨p1, p2, p3, p4, p5⟩, ⟨q1, q2⟩, ⟨o3, o4⟩, ⟨o5, o5b⟩, o6, o7, o8, o9⟩ := id hS
  obtain ⟨h1, h2, h3, h4, h5, h6⟩ := id hC
  have p1 : R ≤ 12 := p1
  have p2 : W ≤ 16 := p2
  have p3 : m ≤ 1 := p3
  have p4 : R = 0 → W = 0 := p4
  have p5 : R ≠ 0 → 1 ≤ W := p5
  have q1 : tn ≤ R * W := q1
  have q2 : ∀ j, j < tn → isCol (T j) = true := q2
  have hRW := RW_le p1 p2
  unfold op_change
  dsimp only
  refine Ev_of omX9_change.1 (Nat.le_of_ble_eq_true rfl) ?_
  refine Z_go kX9_change okX9 [42] 80 ?_
  refine ⟨rfl, (c_hasRow r).fr [1, 2] rfl (by decide) rfl ?_⟩
  cases hr : hasRow R r with
  | false => exact ⟨fun _ => ⟨rfl, _, rfl, hC, hS⟩, fun z => absurd rfl z⟩
  | true =>
    refine ⟨fun z => (z1 z).elim, fun _ => ?_⟩
    refine ⟨fun (h7 : x < 0) => ?_, fun (h7 : ¬ x < 0) => ⟨fun (h8 : x ≤ nI 3) => ?_, fun (h8 : ¬ x ≤ nI 3) => ?_⟩⟩
    · have : hasRow 4 x = false := by simp [hasRow, h7]
      rw [this]; exact ⟨rfl, _, rfl, hC, hS⟩
    · obtain ⟨q, hq, rfl⟩ := in_n (by omega) h7 h8
      have hx : hasRow 4 (nI q) = true := by
        unfold hasRow
        rw [decide_eq_true_eq, nI_ltI (by omega) (by omega)]
        exact ⟨h7, by omega⟩
      rw [hx]
      simp only [Bool.and_self, if_true]
      obtain ⟨k, hk, rfl, e1⟩ := hasRow_of (by omega) hr
      rw [e1]
      have hW1 : 1 ≤ W := p5 (by omega)
      have th0 : ∀ (p : Pic), okTh p (0, T) := fun p => ⟨Nat.zero_le _, fun i (hi : i < 0) => absurd hi (by omega)⟩
      have hq4 : q = 0 ∨ q = 1 ∨ q = 2 ∨ q = 3 := by omega
      rcases hq4 with rfl | rfl | rfl | rfl
      · rw [if_neg (fun z => absurd z.1 (by decide)), if_pos rfl]
        obtain ⟨b', hd, hb'⟩ := c_turn (g := g) (m := m) h1 p1 p2 hk
        refine ⟨fun _ => ?_, fun z => absurd (show ¬ nI 0 = nI 3 by decide) z⟩
        refine Z_go kX9_change okX9 [] 80 ?_
        refine ⟨fun _ => ?_, fun z => absurd rfl z⟩
        refine ⟨rfl, hd.fr [1, 2] rfl (by decide) rfl ?_⟩
        exact ⟨rfl, (b', t, tp, (st, nx, tk, fro, dR, dW, dm, db), te, (sl, ln), sd, ia, sa), rfl, ⟨hb', fun i (hi : i < 0) => absurd hi (by omega), h3, h4, h5, h6⟩, ⟨p1, p2, p3, p4, p5⟩, th0 _, ⟨o3, o4⟩, ⟨o5, o5b⟩, o6, o7, o8, o9⟩
      · rw [if_neg (fun z => absurd z.1 (by decide)), if_neg (by decide), if_pos rfl]
        obtain ⟨b', hd, hb'⟩ := c_moveOn (g := g) (m := m) h1 p1 p2 hk hW1
        refine ⟨fun _ => ?_, fun z => absurd (show ¬ nI 1 = nI 3 by decide) z⟩
        refine Z_go kX9_change okX9 [] 80 ?_
        refine ⟨fun z => absurd z (by decide), fun _ => ⟨fun _ => ?_, fun z => absurd rfl z⟩⟩
        refine ⟨rfl, hd.fr [1, 2] rfl (by decide) rfl ?_⟩
        exact ⟨rfl, (b', t, tp, (st, nx, tk, fro, dR, dW, dm, db), te, (sl, ln), sd, ia, sa), rfl, ⟨hb', fun i (hi : i < 0) => absurd hi (by omega), h3, h4, h5, h6⟩, ⟨p1, p2, p3, p4, p5⟩, th0 _, ⟨o3, o4⟩, ⟨o5, o5b⟩, o6, o7, o8, o9⟩
      · rw [if_neg (fun z => absurd z.1 (by decide)), if_neg (by decide), if_neg (by decide), if_pos rfl]
        obtain ⟨b', hd, hb'⟩ := c_drop (g := g) (m := m) h1 p1 p2 hk
        refine ⟨fun _ => ?_, fun z => absurd (show ¬ nI 2 = nI 3 by decide) z⟩
        refine Z_go kX9_change okX9 [] 80 ?_
        refine ⟨fun z => absurd z (by decide), fun _ => ⟨fun z => absurd z (by decide), fun _ => ⟨fun _ => ?_, fun z => absurd rfl z⟩⟩⟩
        refine ⟨rfl, hd.fr [1, 2] rfl (by decide) rfl ?_⟩
        refine ⟨rfl, (b', t, tp, (st, nx, tk, fro, dR, dW, dm, db), te, (sl, ln), sd, ia, sa), rfl, ⟨?_, fun i (hi : i < 0) => absurd hi (by omega), h3, h4, h5, h6⟩, ⟨by show R - 1 ≤ 12; omega, ?_, p3, ?_, ?_⟩, th0 _, ⟨o3, o4⟩, ⟨o5, o5b⟩, o6, o7, o8, o9⟩
        · intro q c hq hc
          refine hb' q c hq ?_
          split at hc <;> omega
        · show (if R - 1 = 0 then 0 else W) ≤ 16
          split <;> omega
        · intro z
          exact if_pos z
        · intro z
          show 1 ≤ (if R - 1 = 0 then 0 else W)
          rw [if_neg z]; exact hW1
      · by_cases hR : 12 ≤ R
        · rw [if_pos ⟨rfl, hR⟩]
          refine ⟨fun z => absurd rfl z, fun _ => ⟨fun (z : nI R < nI 12) => ?_, fun _ => ⟨rfl, _, rfl, hC, hS⟩⟩⟩
          rw [nI_ltI (by omega) (by omega)] at z; omega
        · rw [if_neg (fun z => hR z.2), if_neg (by decide), if_neg (by decide), if_neg (by decide)]
          obtain ⟨b', hd, hb'⟩ := c_repeat (g := g) (m := m) h1 (by omega) p2 hk
          refine ⟨fun z => absurd rfl z, fun _ => ⟨fun _ => ?_, fun (z : ¬ nI R < nI 12) => absurd (nI_lt (by omega) (by omega)) z⟩⟩
          refine Z_go kX9_change okX9 [] 80 ?_
          refine ⟨fun z => absurd z (by decide), fun _ => ⟨fun z => absurd z (by decide), fun _ => ⟨fun z => absurd z (by decide), fun _ => ?_⟩⟩⟩
          refine ⟨rfl, hd.fr [1, 2] rfl (by decide) rfl ?_⟩
          exact ⟨rfl, (b', t, tp, (st, nx, tk, fro, dR, dW, dm, db), te, (sl, ln), sd, ia, sa), rfl, ⟨hb', fun i (hi : i < 0) => absurd hi (by omega), h3, h4, h5, h6⟩, ⟨by show R + 1 ≤ 12; omega, p2, p3, fun (z : R + 1 = 0) => absurd z (by omega), fun _ => hW1⟩, th0 _, ⟨o3, o4⟩, ⟨o5, o5b⟩, o6, o7, o8, o9⟩
    · have : hasRow 4 x = false := by
        unfold hasRow
        rw [decide_eq_false_iff_not]
        rintro ⟨z1, z2⟩
        obtain ⟨q, hq, rfl⟩ := nI_of z1
        rw [nI_ltI hq (by omega)] at z2
        rw [nI_leI hq (by omega)] at h8
        omega
      rw [this]; exact ⟨rfl, _, rfl, hC, hS⟩
end CMP
