section CMP
variable {g : GG} {S : Sg} {C : Ca}
/-- C with another teller -/
def Cte (C : Ca) (te : Nat × (Nat → Int32)) : Ca := match C with
  | (b, t, tp, rd, _, sl, sd, ia, sa) => (b, t, tp, rd, te, sl, sd, ia, sa)
theorem x_best (hS : okSg S) (hC : RC S C) {r : Nat} (hr : r < S.1.1) {Q : Option AV → AH → Prop}
    (k : ∀ tl, Q (some (vi (nI ((wrdN (lnP S.1) S.1.2.1 r (frmL (lnP S.1) S.1.2.1 r)).getD 0)))) (cW S (Cte C (tbS (lnP S.1) S.1.2.1 r (frmL (lnP S.1) S.1.2.1 r) tl).2))) : Ev g mX8_tellBest [vr 10, vr 1, vi (nI r)] (cW S C) Q := by
  obtain ⟨⟨R, W, m, D⟩, ⟨tn, T⟩, ⟨n, TP⟩, ⟨sn, w⟩, im, sh, tf, rf⟩ := S
  obtain ⟨b, t, tp, ⟨st, nx, tk, fro, dR, dW, dm, db⟩, te, ⟨sl, ln⟩, sd, ia, sa⟩ := C
  obtain ⟨⟨p1, p2, p3, p4, p5⟩, ⟨q1, q2⟩, ⟨o3, o4⟩, ⟨o5, o5b⟩, o6, o7, o8, o9⟩ := id hS
  obtain ⟨h1, h2, h3, h4, h5, h6⟩ := id hC
  have p1 : R ≤ 12 := p1
  have p2 : W ≤ 16 := p2
  have p3 : m ≤ 1 := p3
  have p4 : R = 0 → W = 0 := p4
  have p5 : R ≠ 0 → 1 ≤ W := p5
  have q1 : tn ≤ R * W := q1
  have q2 : ∀ j, j < tn → isCol (T j) = true := q2
  have hRW := RW_le p1 p2
  have hr : r < R := hr
  have hW1 : 1 ≤ W := p5 (by omega)
  obtain ⟨tl, hd⟩ := c_tellBest (g := g) (x := te) h1 p1 p2 hW1 p3 hr
  obtain ⟨j, hj⟩ := Option.isSome_iff_exists.mp (frm_some (L := lnD D W m) (W := W) (r := r))
  have k := k tl
  change Q (some (vi (nI ((wrdN (lnD D W m) W r (frmL (lnD D W m) W r)).getD 0)))) _ at k
  rw [hj] at k hd
  exact hd.fr [10, 11, 1, 2] rfl (by decide) rfl k
theorem x_wia_loop (hS : okSg S) {Q : Option AV → AH → Prop} : ∀ (q c s : Nat) (C : Ca), RC S C → c + q = S.1.1 → (∀ C', RC S C' → Q (some (vi (nI (s + sm (fun r => (wrdN (lnP S.1) S.1.2.1 r (frmL (lnP S.1) S.1.2.1 r)).getD 0) c q)))) (cW S C')) →
    Z g mX9_wordsInAll 36 Q 4 [some (vr 0), some (vi (nI s)), some (vi (nI c))] [] (cW S C) := by
  intro q
  induction q with
  | zero =>
    intro c s C hC h hQ
    have hQ := hQ C hC
    obtain ⟨⟨R, W, m, D⟩, ⟨tn, T⟩, ⟨n, TP⟩, ⟨sn, w⟩, im, sh, tf, rf⟩ := S
    obtain ⟨b, t, tp, ⟨st, nx, tk, fro, dR, dW, dm, db⟩, te, ⟨sl, ln⟩, sd, ia, sa⟩ := C
    obtain ⟨⟨p1, p2, p3, p4, p5⟩, ⟨q1, q2⟩, ⟨o3, o4⟩, ⟨o5, o5b⟩, o6, o7, o8, o9⟩ := id hS
    obtain ⟨h1, h2, h3, h4, h5, h6⟩ := id hC
    have p1 : R ≤ 12 := p1
    have p2 : W ≤ 16 := p2
    have p3 : m ≤ 1 := p3
    have p4 : R = 0 → W = 0 := p4
    have p5 : R ≠ 0 → 1 ≤ W := p5
    have q1 : tn ≤ R * W := q1
    have q2 : ∀ j, j < tn → isCol (T j) = true := q2
    have hRW := RW_le p1 p2
    have h : c + 0 = R := h
    refine Z_go kX9_wordsInAll okX9 [4] 80 ?_
    refine ⟨fun _ => hQ, fun (z : ¬ nI R ≤ nI c) => absurd (nI_le (by omega) (by omega)) z⟩
  | succ q ih =>
    intro c s C hC h hQ
    have hb := fun Q' k => x_best (g := g) (r := c) (Q := Q') hS hC (by omega) k
    have ih2 := fun tl => ih (c + 1) (s + (wrdN (lnP S.1) S.1.2.1 c (frmL (lnP S.1) S.1.2.1 c)).getD 0) (Cte C (tbS (lnP S.1) S.1.2.1 c (frmL (lnP S.1) S.1.2.1 c) tl).2) hC (by omega) (fun C' hC' => by
      have := hQ C' hC'
      simpa [sm, Nat.add_assoc] using this)
    obtain ⟨⟨R, W, m, D⟩, ⟨tn, T⟩, ⟨n, TP⟩, ⟨sn, w⟩, im, sh, tf, rf⟩ := S
    obtain ⟨b, t, tp, ⟨st, nx, tk, fro, dR, dW, dm, db⟩, te, ⟨sl, ln⟩, sd, ia, sa⟩ := C
    obtain ⟨⟨p1, p2, p3, p4, p5⟩, ⟨q1, q2⟩, ⟨o3, o4⟩, ⟨o5, o5b⟩, o6, o7, o8, o9⟩ := id hS
    obtain ⟨h1, h2, h3, h4, h5, h6⟩ := id hC
    have p1 : R ≤ 12 := p1
    have p2 : W ≤ 16 := p2
    have p3 : m ≤ 1 := p3
    have p4 : R = 0 → W = 0 := p4
    have p5 : R ≠ 0 → 1 ≤ W := p5
    have q1 : tn ≤ R * W := q1
    have q2 : ∀ j, j < tn → isCol (T j) = true := q2
    have hRW := RW_le p1 p2
    have h : c + (q + 1) = R := h
    refine Z_go kX9_wordsInAll okX9 [4] 80 ?_
    refine ⟨fun (z : nI R ≤ nI c) => ?_, fun _ => ?_⟩
    · rw [nI_leI (by omega) (by omega)] at z; omega
    · refine ⟨rfl, hb _ (fun tl => ?_)⟩
      have k := ih2 tl
      rw [nI_a1 c, ← nI_add s] at k
      exact k
theorem x_cia_loop (hS : okSg S) (hC : RC S C) {Q : Option AV → AH → Prop} : ∀ (q c s : Nat), c + q = 6 → Q (some (vi (nI (s + sm (fun c => fl (decide (0 < manyA S.1.2.2.2 S.1.1 S.1.2.1 (nI c)))) c q)))) (cW S C) →
    Z g mX9_coloursInAll 36 Q 4 [some (vr 0), some (vi (nI s)), some (vi (nI c))] [] (cW S C) := by
  intro q
  induction q with
  | zero =>
    intro c s h hQ
    obtain ⟨⟨R, W, m, D⟩, ⟨tn, T⟩, ⟨n, TP⟩, ⟨sn, w⟩, im, sh, tf, rf⟩ := S
    obtain ⟨b, t, tp, ⟨st, nx, tk, fro, dR, dW, dm, db⟩, te, ⟨sl, ln⟩, sd, ia, sa⟩ := C
    obtain ⟨⟨p1, p2, p3, p4, p5⟩, ⟨q1, q2⟩, ⟨o3, o4⟩, ⟨o5, o5b⟩, o6, o7, o8, o9⟩ := id hS
    obtain ⟨h1, h2, h3, h4, h5, h6⟩ := id hC
    have p1 : R ≤ 12 := p1
    have p2 : W ≤ 16 := p2
    have p3 : m ≤ 1 := p3
    have p4 : R = 0 → W = 0 := p4
    have p5 : R ≠ 0 → 1 ≤ W := p5
    have q1 : tn ≤ R * W := q1
    have q2 : ∀ j, j < tn → isCol (T j) = true := q2
    have hRW := RW_le p1 p2
    refine Z_go kX9_coloursInAll okX9 [4] 80 ?_
    refine ⟨fun _ => hQ, fun (z : ¬ nI 6 ≤ nI c) => absurd (nI_le (by omega) (by omega)) z⟩
  | succ q ih =>
    intro c s h hQ
    have ih2 := fun s hq => ih (c + 1) s (by omega) hq
    obtain ⟨⟨R, W, m, D⟩, ⟨tn, T⟩, ⟨n, TP⟩, ⟨sn, w⟩, im, sh, tf, rf⟩ := S
    obtain ⟨b, t, tp, ⟨st, nx, tk, fro, dR, dW, dm, db⟩, te, ⟨sl, ln⟩, sd, ia, sa⟩ := C
    obtain ⟨⟨p1, p2, p3, p4, p5⟩, ⟨q1, q2⟩, ⟨o3, o4⟩, ⟨o5, o5b⟩, o6, o7, o8, o9⟩ := id hS
    obtain ⟨h1, h2, h3, h4, h5, h6⟩ := id hC
    have p1 : R ≤ 12 := p1
    have p2 : W ≤ 16 := p2
    have p3 : m ≤ 1 := p3
    have p4 : R = 0 → W = 0 := p4
    have p5 : R ≠ 0 → 1 ≤ W := p5
    have q1 : tn ≤ R * W := q1
    have q2 : ∀ j, j < tn → isCol (T j) = true := q2
    have hRW := RW_le p1 p2
    dsimp only at hQ ih2
    have hle : manyA D R W (nI c) ≤ 192 := by
      have := sm_le (f := fun r => manyR D W r (nI c)) (k := W) R 0 (fun i _ _ => manyR_le)
      unfold manyA
      rw [Nat.mul_comm] at this
      omega
    refine Z_go kX9_coloursInAll okX9 [4] 80 ?_
    refine ⟨fun (z : nI 6 ≤ nI c) => ?_, fun _ => ?_⟩
    · rw [nI_leI (by omega) (by omega)] at z; omega
    · refine ⟨rfl, (c_manyInAll (nI c) h1 p1 p2).fr [1, 2] rfl (by decide) rfl ?_⟩
      refine ⟨fun (z : nI (manyA D R W (nI c)) ≤ nI 0) => ?_, fun (z : ¬ nI (manyA D R W (nI c)) ≤ nI 0) => ?_⟩
      · rw [nI_leI (by omega) (by omega)] at z
        have z2 : ¬ 0 < manyA D R W (nI c) := by omega
        have k := ih2 s (by simpa [sm, z2, fl] using hQ)
        rw [nI_a1 c] at k
        exact k
      · rw [nI_leI (by omega) (by omega)] at z
        have z2 : 0 < manyA D R W (nI c) := by omega
        have k := ih2 (s + 1) (by simpa [sm, z2, fl, Nat.add_assoc] using hQ)
        rw [nI_a1 c, nI_a1 s] at k
        exact k
theorem x_rule (hS : okSg S) (hC : RC S C) (x : Int32) : Ev g mX9_rule [vr 0, vi x] (cW S C) (CV (op_rule S x)) := by
  have w1 : Ev g mX9_wordsInAll [vr 0] (cW S C) (fun v A => v = some (vi (nI (allW (lnP S.1) S.1.2.1 S.1.1))) ∧ ∃ C', A = cW S C' ∧ RC S C') := by
    have k := x_wia_loop (g := g) (Q := fun v A => v = some (vi (nI (allW (lnP S.1) S.1.2.1 S.1.1))) ∧ ∃ C', A = cW S C' ∧ RC S C') hS S.1.1 0 0 C hC (by omega) (fun C' hC' => ⟨by rw [Nat.zero_add]; rfl, C', rfl, hC'⟩)
    obtain ⟨⟨R, W, m, D⟩, ⟨tn, T⟩, ⟨n, TP⟩, ⟨sn, w⟩, im, sh, tf, rf⟩ := S
    obtain ⟨b, t, tp, ⟨st, nx, tk, fro, dR, dW, dm, db⟩, te, ⟨sl, ln⟩, sd, ia, sa⟩ := C
    obtain ⟨⟨p1, p2, p3, p4, p5⟩, ⟨q1, q2⟩, ⟨o3, o4⟩, ⟨o5, o5b⟩, o6, o7, o8, o9⟩ := id hS
    obtain ⟨h1, h2, h3, h4, h5, h6⟩ := id hC
    have p1 : R ≤ 12 := p1
    have p2 : W ≤ 16 := p2
    have p3 : m ≤ 1 := p3
    have p4 : R = 0 → W = 0 := p4
    have p5 : R ≠ 0 → 1 ≤ W := p5
    have q1 : tn ≤ R * W := q1
    have q2 : ∀ j, j < tn → isCol (T j) = true := q2
    have hRW := RW_le p1 p2
    refine Ev_of omX9_wordsInAll.1 (Nat.le_of_ble_eq_true rfl) ?_
    refine Z_go kX9_wordsInAll okX9 [4] 80 ?_
    exact k
  have w2 : Dt g mX9_coloursInAll [vr 0] (cW S C) (some (vi (nI (allC S.1.2.2.2 S.1.1 S.1.2.1)))) (cW S C) := by
    have k := x_cia_loop (g := g) (Q := fun r B => r = some (vi (nI (allC S.1.2.2.2 S.1.1 S.1.2.1))) ∧ B = cW S C) hS hC 6 0 0 (by omega) ⟨by rw [Nat.zero_add]; rfl, rfl⟩
    obtain ⟨⟨R, W, m, D⟩, ⟨tn, T⟩, ⟨n, TP⟩, ⟨sn, w⟩, im, sh, tf, rf⟩ := S
    obtain ⟨b, t, tp, ⟨st, nx, tk, fro, dR, dW, dm, db⟩, te, ⟨sl, ln⟩, sd, ia, sa⟩ := C
    obtain ⟨⟨p1, p2, p3, p4, p5⟩, ⟨q1, q2⟩, ⟨o3, o4⟩, ⟨o5, o5b⟩, o6, o7, o8, o9⟩ := id hS
    obtain ⟨h1, h2, h3, h4, h5, h6⟩ := id hC
    have p1 : R ≤ 12 := p1
    have p2 : W ≤ 16 := p2
    have p3 : m ≤ 1 := p3
    have p4 : R = 0 → W = 0 := p4
    have p5 : R ≠ 0 → 1 ≤ W := p5
    have q1 : tn ≤ R * W := q1
    have q2 : ∀ j, j < tn → isCol (T j) = true := q2
    have hRW := RW_le p1 p2
    refine Ev_of omX9_coloursInAll.1 (Nat.le_of_ble_eq_true rfl) ?_
    refine Z_go kX9_coloursInAll okX9 [4] 80 ?_
    exact k
  obtain ⟨⟨R, W, m, D⟩, ⟨tn, T⟩, ⟨n, TP⟩, ⟨sn, w⟩, im, sh, tf, rf⟩ := S
  obtain ⟨b, t, tp, ⟨st, nx, tk, fro, dR, dW, dm, db⟩, te, ⟨sl, ln⟩, sd, ia, sa⟩ := C
  obtain ⟨⟨p1, p2, p3, p4, p5⟩, ⟨q1, q2⟩, ⟨o3, o4⟩, ⟨o5, o5b⟩, o6, o7, o8, o9⟩ := id hS
  obtain ⟨h1, h2, h3, h4, h5, h6⟩ := id hC
  have p1 : R ≤ 12 := p1
  have p2 : W ≤ 16 := p2
  have p3 : m ≤ 1 := p3
  have p4 : R = 0 → W = 0 := p4
  have p5 : R ≠ 0 → 1 ≤ W := p5
  have q1 : tn ≤ R * W := q1
  have q2 : ∀ j, j < tn → isCol (T j) = true := q2
  have hRW := RW_le p1 p2
  unfold op_rule
  dsimp only
  refine Ev_of omX9_rule.1 (Nat.le_of_ble_eq_true rfl) ?_
  refine Z_go kX9_rule okX9 [] 80 ?_
  refine ⟨fun (z0 : x = nI 0) => ?_, fun (z0 : ¬ x = nI 0) => ⟨fun (z1 : x = nI 1) => ?_, fun (z1 : ¬ x = nI 1) => ⟨fun (z2 : x = nI 2) => ?_, fun (z2 : ¬ x = nI 2) => ⟨fun (z3 : x = nI 3) => ?_, fun (z3 : ¬ x = nI 3) => ⟨fun (z4 : x = nI 4) => ?_, fun (z4 : ¬ x = nI 4) => ⟨fun (z5 : x = nI 5) => ?_, fun (z5 : ¬ x = nI 5) => ⟨fun (z6 : x = nI 6) => ?_, fun (z6 : ¬ x = nI 6) => ⟨fun (z7 : x = nI 7) => ?_, fun (z7 : ¬ x = nI 7) => ⟨fun (z8 : x = nI 8) => ?_, fun (z8 : ¬ x = nI 8) => ⟨fun (z9 : x = nI 9) => ?_, fun (z9 : ¬ x = nI 9) => ?_⟩⟩⟩⟩⟩⟩⟩⟩⟩⟩
  · rw [if_pos z0]; exact ⟨rfl, _, rfl, hC, hS⟩
  · rw [if_neg z0, if_pos z1]; exact ⟨rfl, _, rfl, hC, hS⟩
  · rw [if_neg z0, if_neg z1, if_pos z2]; exact ⟨rfl, _, rfl, hC, hS⟩
  · rw [if_neg z0, if_neg z1, if_neg z2, if_pos z3]
    refine ⟨rfl, (c_size p1 p2).fr [1, 2] rfl (by decide) rfl ?_⟩
    exact ⟨rfl, _, rfl, hC, hS⟩
  · rw [if_neg z0, if_neg z1, if_neg z2, if_neg z3, if_pos z4]
    refine ⟨rfl, w1.mono (fun v A _ hv => ?_)⟩
    obtain ⟨hv, C', rfl, hC'⟩ := hv
    subst hv
    exact ⟨rfl, C', rfl, hC', hS⟩
  · rw [if_neg z0, if_neg z1, if_neg z2, if_neg z3, if_neg z4, if_pos z5]
    refine ⟨rfl, (c_linesUnlike h1 p1 p2 p3).fr [1, 2] rfl (by decide) rfl ?_⟩
    exact ⟨rfl, _, rfl, hC, hS⟩
  · rw [if_neg z0, if_neg z1, if_neg z2, if_neg z3, if_neg z4, if_neg z5, if_pos z6]
    refine ⟨rfl, (c_runsInAll h1 p1 p2 p3).fr [1, 2] rfl (by decide) rfl ?_⟩
    exact ⟨rfl, _, rfl, hC, hS⟩
  · rw [if_neg z0, if_neg z1, if_neg z2, if_neg z3, if_neg z4, if_neg z5, if_neg z6, if_pos z7]
    refine ⟨rfl, w2.use ?_⟩
    exact ⟨rfl, _, rfl, hC, hS⟩
  · rw [if_neg z0, if_neg z1, if_neg z2, if_neg z3, if_neg z4, if_neg z5, if_neg z6, if_neg z7, if_pos z8]; exact ⟨rfl, _, rfl, hC, hS⟩
  · rw [if_neg z0, if_neg z1, if_neg z2, if_neg z3, if_neg z4, if_neg z5, if_neg z6, if_neg z7, if_neg z8, if_pos z9]; exact ⟨rfl, _, rfl, hC, hS⟩
  · rw [if_neg z0, if_neg z1, if_neg z2, if_neg z3, if_neg z4, if_neg z5, if_neg z6, if_neg z7, if_neg z8, if_neg z9]; exact ⟨rfl, _, rfl, hC, hS⟩
theorem x_row (hS : okSg S) (hC : RC S C) (r x : Int32) : Ev g mX9_row [vr 0, vi r, vi x] (cW S C) (CV (op_row S r x)) := by
  have hb := fun k hk Q' kk => x_best (g := g) (r := k) (Q := Q') hS hC hk kk
  obtain ⟨⟨R, W, m, D⟩, ⟨tn, T⟩, ⟨n, TP⟩, ⟨sn, w⟩, im, sh, tf, rf⟩ := S
  obtain ⟨b, t, tp, ⟨st, nx, tk, fro, dR, dW, dm, db⟩, te, ⟨sl, ln⟩, sd, ia, sa⟩ := C
  obtain ⟨⟨p1, p2, p3, p4, p5⟩, ⟨q1, q2⟩, ⟨o3, o4⟩, ⟨o5, o5b⟩, o6, o7, o8, o9⟩ := id hS
  obtain ⟨h1, h2, h3, h4, h5, h6⟩ := id hC
  have p1 : R ≤ 12 := p1
  have p2 : W ≤ 16 := p2
  have p3 : m ≤ 1 := p3
  have p4 : R = 0 → W = 0 := p4
  have p5 : R ≠ 0 → 1 ≤ W := p5
  have q1 : tn ≤ R * W := q1
  have q2 : ∀ j, j < tn → isCol (T j) = true := q2
  have hRW := RW_le p1 p2
  unfold op_row
  dsimp only
  refine Ev_of omX9_row.1 (Nat.le_of_ble_eq_true rfl) ?_
  refine Z_go kX9_row okX9 [] 80 ?_
  refine ⟨rfl, (c_hasRow r).fr [1, 2] rfl (by decide) rfl ?_⟩
  cases hh : hasRow R r with
  | false => exact ⟨fun z => absurd rfl z, fun _ => ⟨rfl, _, rfl, hC, hS⟩⟩
  | true =>
    obtain ⟨k, hk, rfl, e1⟩ := hasRow_of (by omega) hh
    rw [e1]
    have hW1 : 1 ≤ W := p5 (by omega)
    obtain ⟨j, hj⟩ := Option.isSome_iff_exists.mp (frm_some (L := lnD D W m) (W := W) (r := k))
    refine ⟨fun _ => ?_, fun (z : ¬ ¬ nI 1 = 0) => absurd z1 z⟩
    simp only [if_true]
    refine ⟨fun (z0 : x = nI 0) => ?_, fun (z0 : ¬ x = nI 0) => ⟨fun (z1 : x = nI 1) => ?_, fun (z1 : ¬ x = nI 1) => ⟨fun (z2 : x = nI 2) => ?_, fun (z2 : ¬ x = nI 2) => ⟨fun (z3 : x = nI 3) => ?_, fun (z3 : ¬ x = nI 3) => ⟨fun (z4 : x = nI 4) => ?_, fun (z4 : ¬ x = nI 4) => ⟨fun (z5 : x = nI 5) => ?_, fun (z5 : ¬ x = nI 5) => ?_⟩⟩⟩⟩⟩⟩
    · rw [if_pos z0]
      refine ⟨rfl, hb k hk _ (fun tl => ?_)⟩
      refine ⟨vin (by omega) (by omega), ?_⟩
      rw [show (nI 0).toNatClampNeg = 0 from rfl]
      exact ⟨by rw [tbS_0]; rfl, Cte (b, t, tp, (st, nx, tk, fro, dR, dW, dm, db), te, (sl, ln), sd, ia, sa) _, rfl, hC, hS⟩
    · rw [if_neg z0, if_pos z1]
      refine ⟨rfl, hb k hk _ (fun tl => ?_)⟩
      refine ⟨?_, Cte (b, t, tp, (st, nx, tk, fro, dR, dW, dm, db), te, (sl, ln), sd, ia, sa) _, rfl, hC, hS⟩
      show some (vi (nI ((wrdN (lnD D W m) W k (frmL (lnD D W m) W k)).getD 0))) = some (vi (oI (wrdN (lnD D W m) W k (frmL (lnD D W m) W k))))
      rw [hj]
      rfl
    · rw [if_neg z0, if_neg z1, if_pos z2]
      refine ⟨rfl, (c_runsOf h1 p1 p2 p3 hk).fr [1, 2] rfl (by decide) rfl ?_⟩
      exact ⟨rfl, _, rfl, hC, hS⟩
    · rw [if_neg z0, if_neg z1, if_neg z2, if_pos z3]
      refine ⟨rfl, (c_firstLike h1 p1 p2 p3 hk).fr [1, 2] rfl (by decide) rfl ?_⟩
      exact ⟨rfl, _, rfl, hC, hS⟩
    · rw [if_neg z0, if_neg z1, if_neg z2, if_neg z3, if_pos z4]
      refine ⟨rfl, (c_manyLike h1 p1 p2 p3 hk).fr [1, 2] rfl (by decide) rfl ?_⟩
      exact ⟨rfl, _, rfl, hC, hS⟩
    · rw [if_neg z0, if_neg z1, if_neg z2, if_neg z3, if_neg z4, if_pos z5]
      refine ⟨rfl, (c_partOf h1 p1 p2 p3 hk hW1).fr [1, 2] rfl (by decide) rfl ?_⟩
      exact ⟨rfl, _, rfl, hC, hS⟩
    · rw [if_neg z0, if_neg z1, if_neg z2, if_neg z3, if_neg z4, if_neg z5]
      exact ⟨rfl, _, rfl, hC, hS⟩
theorem x_words (hS : okSg S) (hC : RC S C) (r f : Int32) : Ev g mX9_words [vr 0, vi r, vi f] (cW S C) (CV (op_words S r f)) := by
  obtain ⟨⟨R, W, m, D⟩, ⟨tn, T⟩, ⟨n, TP⟩, ⟨sn, w⟩, im, sh, tf, rf⟩ := S
  obtain ⟨b, t, tp, ⟨st, nx, tk, fro, dR, dW, dm, db⟩, te, ⟨sl, ln⟩, sd, ia, sa⟩ := C
  obtain ⟨⟨p1, p2, p3, p4, p5⟩, ⟨q1, q2⟩, ⟨o3, o4⟩, ⟨o5, o5b⟩, o6, o7, o8, o9⟩ := id hS
  obtain ⟨h1, h2, h3, h4, h5, h6⟩ := id hC
  have p1 : R ≤ 12 := p1
  have p2 : W ≤ 16 := p2
  have p3 : m ≤ 1 := p3
  have p4 : R = 0 → W = 0 := p4
  have p5 : R ≠ 0 → 1 ≤ W := p5
  have q1 : tn ≤ R * W := q1
  have q2 : ∀ j, j < tn → isCol (T j) = true := q2
  have hRW := RW_le p1 p2
  unfold op_words
  dsimp only
  refine Ev_of omX9_words.1 (Nat.le_of_ble_eq_true rfl) ?_
  refine Z_go kX9_words okX9 [] 80 ?_
  refine ⟨rfl, (c_hasRow r).fr [1, 2] rfl (by decide) rfl ?_⟩
  cases hh : hasRow R r with
  | false => exact ⟨fun _ => ⟨rfl, _, rfl, hC, hS⟩, fun z => absurd rfl z⟩
  | true =>
    obtain ⟨k, hk, rfl, e1⟩ := hasRow_of (by omega) hh
    rw [e1]
    have hW1 : 1 ≤ W := p5 (by omega)
    refine ⟨fun z => (z1 z).elim, fun _ => ?_⟩
    refine ⟨fun (h7 : f < 0) => ?_, fun (h7 : ¬ f < 0) => ⟨fun (h8 : f < nI 5) => ?_, fun (h8 : ¬ f < nI 5) => ?_⟩⟩
    · have : hasRow 5 f = false := by simp [hasRow, h7]
      rw [this]; exact ⟨rfl, _, rfl, hC, hS⟩
    · have hf : hasRow 5 f = true := by simp [hasRow, h7, h8]
      rw [hf]
      obtain ⟨j, hj, rfl, e2⟩ := hasRow_of (by omega) hf
      rw [e2]
      refine ⟨rfl, (c_tellBy (x := te) h1 p1 p2 hW1 p3 hk (by omega)).fr [10, 11, 1, 2] rfl (by decide) rfl ?_⟩
      exact ⟨by rw [tbS_n hW1]; rfl, Cte (b, t, tp, (st, nx, tk, fro, dR, dW, dm, db), te, (sl, ln), sd, ia, sa) _, rfl, hC, hS⟩
    · have : hasRow 5 f = false := by simp [hasRow, h8]
      rw [this]; exact ⟨rfl, _, rfl, hC, hS⟩
theorem x_word (hS : okSg S) (hC : RC S C) (r i : Int32) : Ev g mX9_word [vr 0, vi r, vi i] (cW S C) (CV (op_word S r i)) := by
  have hb := fun k hk Q' kk => x_best (g := g) (r := k) (Q := Q') hS hC hk kk
  obtain ⟨⟨R, W, m, D⟩, ⟨tn, T⟩, ⟨n, TP⟩, ⟨sn, w⟩, im, sh, tf, rf⟩ := S
  obtain ⟨b, t, tp, ⟨st, nx, tk, fro, dR, dW, dm, db⟩, te, ⟨sl, ln⟩, sd, ia, sa⟩ := C
  obtain ⟨⟨p1, p2, p3, p4, p5⟩, ⟨q1, q2⟩, ⟨o3, o4⟩, ⟨o5, o5b⟩, o6, o7, o8, o9⟩ := id hS
  obtain ⟨h1, h2, h3, h4, h5, h6⟩ := id hC
  have p1 : R ≤ 12 := p1
  have p2 : W ≤ 16 := p2
  have p3 : m ≤ 1 := p3
  have p4 : R = 0 → W = 0 := p4
  have p5 : R ≠ 0 → 1 ≤ W := p5
  have q1 : tn ≤ R * W := q1
  have q2 : ∀ j, j < tn → isCol (T j) = true := q2
  have hRW := RW_le p1 p2
  unfold op_word
  dsimp only
  refine Ev_of omX9_word.1 (Nat.le_of_ble_eq_true rfl) ?_
  refine Z_go kX9_word okX9 [] 80 ?_
  refine ⟨rfl, (c_hasRow r).fr [1, 2] rfl (by decide) rfl ?_⟩
  cases hh : hasRow R r with
  | false => exact ⟨fun _ => ⟨rfl, _, rfl, hC, hS⟩, fun z => absurd rfl z⟩
  | true =>
    obtain ⟨k, hk, rfl, e1⟩ := hasRow_of (by omega) hh
    rw [e1]
    have hW1 : 1 ≤ W := p5 (by omega)
    obtain ⟨j, hj⟩ := Option.isSome_iff_exists.mp (frm_some (L := lnD D W m) (W := W) (r := k))
    have hj34 := wrdN_le p2 hW1 hj
    refine ⟨fun z => (z1 z).elim, fun _ => ?_⟩
    simp only [if_true]
    refine ⟨fun (h7 : 0 ≤ i) => ?_, fun (h7 : ¬ 0 ≤ i) => ?_⟩
    · have h0 : ¬ i < 0 := Int32.not_lt.mpr h7
      rw [if_neg h0]
      refine ⟨rfl, hb k hk _ (fun tl => ?_)⟩
      have hlen : (tbS (lnD D W m) W k (frmL (lnD D W m) W k) tl).2.1 = j := tbS_len (by rw [tbS_n hW1]; exact hj)
      refine ⟨fun (h8 : nI (tbS (lnD D W m) W k (frmL (lnD D W m) W k) tl).2.1 ≤ i) => ?_, fun (h8 : ¬ nI (tbS (lnD D W m) W k (frmL (lnD D W m) W k) tl).2.1 ≤ i) => ?_⟩
      · rw [hlen] at h8
        rw [hj]
        rw [if_neg (show ¬ i < oI (some j) from Int32.not_lt.mpr h8)]
        exact ⟨rfl, Cte (b, t, tp, (st, nx, tk, fro, dR, dW, dm, db), te, (sl, ln), sd, ia, sa) _, rfl, hC, hS⟩
      · rw [hlen] at h8
        obtain ⟨y, hy, rfl⟩ := nI_of h0
        rw [nI_leI (by omega) hy] at h8
        rw [hj, if_pos (show nI y < oI (some j) from nI_lt (by omega) (by omega)), nOf_n hy]
        refine ⟨vin (by omega) (by omega), ?_⟩
        rw [nI_clamp (by omega)]
        refine ⟨?_, Cte (b, t, tp, (st, nx, tk, fro, dR, dW, dm, db), te, (sl, ln), sd, ia, sa) _, rfl, hC, hS⟩
        unfold wrdA
        rw [← tbS_ind (tl := tl) (tl' := fun _ => 0) y (by rw [hlen]; omega)]
        rfl
    · rw [if_pos (Int32.not_le.mp h7)]
      exact ⟨rfl, _, rfl, hC, hS⟩
end CMP
