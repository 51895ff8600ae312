section CMP
variable {g : GG} {S : Sg} {C : Ca}
theorem op_string_neg {S : Sg} {x : Int32} (h : (op_string S x).1 < 0) (hS : okSg S) : (op_string S x).2 = S := by
  obtain ⟨⟨R, W, m, D⟩, ⟨tn, T⟩, ⟨n, TP⟩, ⟨sn, w⟩, im, sh, tf, rf⟩ := S
  obtain ⟨⟨p1, p2, -⟩, ⟨q1, -⟩, -⟩ := hS
  have hRW : R * W ≤ 192 := RW_le p1 p2
  have q1 : tn ≤ R * W := q1
  unfold op_string at h ⊢
  dsimp only at h ⊢
  split at h
  · rename_i h2
    rw [if_pos h2]
    split at h
    · rename_i h3; rw [if_pos h3]
    · exact absurd h (nI_pos (by omega))
  · rename_i h2; rw [if_neg h2]
theorem op_string_rf {S : Sg} {x : Int32} : (op_string S x).2.2.2.2.2.2.2.2 = S.2.2.2.2.2.2.2 := by
  obtain ⟨⟨R, W, m, D⟩, ⟨tn, T⟩, ⟨n, TP⟩, ⟨sn, w⟩, im, sh, tf, rf⟩ := S
  unfold op_string
  dsimp only
  split
  · split <;> rfl
  · rfl
theorem fltS_le {ln : Int32} {n : Nat} {l i : Int32} : fltS ln n l i ≤ 3 := by
  unfold fltS; split; omega; split; omega; split <;> omega
theorem fltS_0 {ln : Int32} {n : Nat} {l i : Int32} (hn : n ≤ 32) (h7 : fltS ln n l i = 0) : ∃ y, y < n ∧ i = nI y := by
  unfold fltS at h7
  split at h7
  · cases h7
  · split at h7
    · cases h7
    · split at h7
      · cases h7
      · rename_i z
        have z1 : ¬ i < 0 := fun z2 => z (Or.inl z2)
        have z2 : ¬ nI n ≤ i := fun z2 => z (Or.inr z2)
        obtain ⟨y, hy, rfl⟩ := nI_of z1
        rw [nI_leI (by omega) hy] at z2
        exact ⟨y, by omega, rfl⟩
theorem runS_0 {k : Nat} {ln f : Int32} {i : Nat} {S : Sg} : runS k ln f 0 i S = (nI i, S) := rfl
theorem runS_s {k : Nat} {ln f : Int32} {q i : Nat} {S : Sg} : runS k ln f (q + 1) i S = if fltS (S.2.2.2.2.2.1 k).1 (S.2.2.2.2.2.1 k).2.1 ln (f + nI i) = 0 then
      (if (op_string (setR S 0) ((S.2.2.2.2.2.1 k).2.2 (nOf (f + nI i)))).1 < 0 then (nI i, setR S 0) else runS k ln f q (i + 1) (op_string (setR S 0) ((S.2.2.2.2.2.1 k).2.2 (nOf (f + nI i)))).2)
      else (nI i, setR S (fltS (S.2.2.2.2.2.1 k).1 (S.2.2.2.2.2.1 k).2.1 ln (f + nI i))) := rfl
theorem run_loop0 {l f : Int32} {N : Nat} (hN : N ≤ 32) {Q : Option AV → AH → Prop} : ∀ (z i : Nat) (S : Sg) (C : Ca), okSg S → RC S C → S.2.2.2.2.2.2.2 = 0 → i + z = N →
    (∀ C', RC (runS 0 l f z i S).2 C' → okSg (runS 0 l f z i S).2 → Q (some (vi (runS 0 l f z i S).1)) (cW (runS 0 l f z i S).2 C')) →
    Z g mX9_run 36 Q 44 [some (vr 0), some (vi (nI 0)), some (vi l), some (vi f), some (vi (nI N)), some (vr 28), some (vi (nI i))] [] (cW S C) := by
  intro z
  induction z with
  | zero =>
    intro i S C hS hC hrf h hQ
    have hQ := hQ C hC hS
    obtain ⟨⟨R, W, m, D⟩, ⟨tn, T⟩, ⟨n, TP⟩, ⟨sn, w⟩, im, sh, tf, rf⟩ := S
    obtain ⟨b, t, tp, ⟨st, nx, tk, fro, dR, dW, dm, db⟩, te, ⟨sl, ln⟩, sd, ia, sa⟩ := C
    obtain ⟨⟨p1, p2, p3, p4, p5⟩, ⟨q1, q2⟩, ⟨o3, o4⟩, ⟨o5, o5b⟩, o6, o7, o8, o9⟩ := id hS
    obtain ⟨h1, h2, h3, h4, h5, h6⟩ := id hC
    have p1 : R ≤ 12 := p1
    have p2 : W ≤ 16 := p2
    have p3 : m ≤ 1 := p3
    have p4 : R = 0 → W = 0 := p4
    have p5 : R ≠ 0 → 1 ≤ W := p5
    have q1 : tn ≤ R * W := q1
    have q2 : ∀ j, j < tn → isCol (T j) = true := q2
    have hRW := RW_le p1 p2
    rw [runS_0] at hQ
    refine Z_go kX9_run okX9 [44] 80 ?_
    refine ⟨fun _ => ?_, fun (z : ¬ nI N ≤ nI i) => absurd (nI_le (by omega) (by omega)) z⟩
    rw [show nI N = nI i by rw [show N = i by omega]]
    exact hQ
  | succ z ih =>
    intro i S C hS hC hrf h hQ
    rw [runS_s] at hQ
    have hst := fun x => x_string (g := g) (S := S) (C := C) hS hC x
    have hset : setR S 0 = S := by
      obtain ⟨p, th, tp, sl, im, sh, tf, rf⟩ := S
      have hrf : rf = 0 := hrf
      subst hrf
      rfl
    rw [hset] at hQ
    have hneg := fun x (hx : (op_string S x).1 < 0) => op_string_neg hx hS
    have hrf2 := fun x => (op_string_rf (S := S) (x := x)).trans hrf
    obtain ⟨⟨R, W, m, D⟩, ⟨tn, T⟩, ⟨n, TP⟩, ⟨sn, w⟩, im, sh, tf, rf⟩ := S
    obtain ⟨b, t, tp, ⟨st, nx, tk, fro, dR, dW, dm, db⟩, te, ⟨sl, ln⟩, sd, ia, sa⟩ := C
    obtain ⟨⟨p1, p2, p3, p4, p5⟩, ⟨q1, q2⟩, ⟨o3, o4⟩, ⟨o5, o5b⟩, o6, o7, o8, o9⟩ := id hS
    obtain ⟨h1, h2, h3, h4, h5, h6⟩ := id hC
    have p1 : R ≤ 12 := p1
    have p2 : W ≤ 16 := p2
    have p3 : m ≤ 1 := p3
    have p4 : R = 0 → W = 0 := p4
    have p5 : R ≠ 0 → 1 ≤ W := p5
    have q1 : tn ≤ R * W := q1
    have q2 : ∀ j, j < tn → isCol (T j) = true := q2
    have hRW := RW_le p1 p2
    have hrf : rf = 0 := hrf
    subst hrf
    dsimp only at hQ
    obtain ⟨o71, o72⟩ := o7 0 (by omega)
    have hle := fltS_le (ln := (sh 0).1) (n := (sh 0).2.1) (l := l) (i := f + nI i)
    refine Z_go kX9_run okX9 [44, 65] 80 ?_
    refine ⟨fun (z : nI N ≤ nI i) => ?_, fun _ => ?_⟩
    · rw [nI_leI (by omega) (by omega)] at z; omega
    · refine ⟨rfl, (c_faultAt (ln := (sh 0).1) (asked := l) (i := f + nI i) (n := (sh 0).2.1) (c := sa 0)).fr [28, 29] rfl (by decide) rfl ?_⟩
      have fin : Z g mX9_run 36 Q 65 [some (vr 0), some (vi (nI 0)), some (vi l), some (vi f), some (vi (nI N)), some (vr 28), some (vi (nI i))] [] (cW ((R, W, m, D), (tn, T), (n, TP), (sn, w), im, sh, tf, fltS (sh 0).1 (sh 0).2.1 l (f + nI i)) (b, t, tp, (st, nx, tk, fro, dR, dW, dm, db), te, (sl, ln), sd, ia, sa)) := by
        by_cases h0 : fltS (sh 0).1 (sh 0).2.1 l (f + nI i) = 0
        · rw [if_pos h0] at hQ
          rw [h0]
          obtain ⟨y, hy, ey⟩ := fltS_0 o71 h0
          refine Z_go kX9_run okX9 [44] 80 ?_
          refine ⟨fun z => absurd rfl z, fun _ => ?_⟩
          rw [ey, nOf_n (by omega)] at hQ
          refine ⟨by rw [ey]; exact vp_in_nI (by omega) (by omega), ?_⟩
          rw [ey, nI_clamp (by omega), h6 0 (by omega) y (by omega)]
          refine ⟨rfl, (hst ((sh 0).2.2 y)).mono (fun v A' _ hv => ?_)⟩
          obtain ⟨rfl, C', rfl, hC', hS'⟩ := hv
          by_cases hn : (op_string ((R, W, m, D), (tn, T), (n, TP), (sn, w), im, sh, tf, 0) ((sh 0).2.2 y)).1 < 0
          · rw [if_pos hn] at hQ
            rw [hneg _ hn] at hC' hS' ⊢
            refine ⟨fun (z : 0 ≤ _) => absurd hn (Int32.not_lt.mpr z), fun _ => hQ C' hC' hS'⟩
          · rw [if_neg hn] at hQ
            refine ⟨fun _ => ?_, fun (z : ¬ 0 ≤ _) => absurd (Int32.not_le.mp z) hn⟩
            have k := ih (i + 1) _ C' hS' hC' (hrf2 _) (by omega) hQ
            rw [nI_a1 i] at k
            exact k
        · rw [if_neg h0] at hQ
          refine Z_go kX9_run okX9 [44] 80 ?_
          refine ⟨fun _ => ?_, fun (z : ¬ ¬ nI _ = nI 0) => ?_⟩
          · exact hQ (b, t, tp, (st, nx, tk, fro, dR, dW, dm, db), te, (sl, ln), sd, ia, sa) hC ⟨⟨p1, p2, p3, p4, p5⟩, ⟨q1, q2⟩, ⟨o3, o4⟩, ⟨o5, o5b⟩, o6, o7, o8, by show fltS _ _ _ _ ≤ 4; omega⟩
          · rw [nI_eq (by omega) (by omega)] at z
            exact absurd h0 z
      exact fin
theorem run_loop1 {l f : Int32} {N : Nat} (hN : N ≤ 32) {Q : Option AV → AH → Prop} : ∀ (z i : Nat) (S : Sg) (C : Ca), okSg S → RC S C → S.2.2.2.2.2.2.2 = 0 → i + z = N →
    (∀ C', RC (runS 1 l f z i S).2 C' → okSg (runS 1 l f z i S).2 → Q (some (vi (runS 1 l f z i S).1)) (cW (runS 1 l f z i S).2 C')) →
    Z g mX9_run 36 Q 44 [some (vr 0), some (vi (nI 1)), some (vi l), some (vi f), some (vi (nI N)), some (vr 30), some (vi (nI i))] [] (cW S C) := by
  intro z
  induction z with
  | zero =>
    intro i S C hS hC hrf h hQ
    have hQ := hQ C hC hS
    obtain ⟨⟨R, W, m, D⟩, ⟨tn, T⟩, ⟨n, TP⟩, ⟨sn, w⟩, im, sh, tf, rf⟩ := S
    obtain ⟨b, t, tp, ⟨st, nx, tk, fro, dR, dW, dm, db⟩, te, ⟨sl, ln⟩, sd, ia, sa⟩ := C
    obtain ⟨⟨p1, p2, p3, p4, p5⟩, ⟨q1, q2⟩, ⟨o3, o4⟩, ⟨o5, o5b⟩, o6, o7, o8, o9⟩ := id hS
    obtain ⟨h1, h2, h3, h4, h5, h6⟩ := id hC
    have p1 : R ≤ 12 := p1
    have p2 : W ≤ 16 := p2
    have p3 : m ≤ 1 := p3
    have p4 : R = 0 → W = 0 := p4
    have p5 : R ≠ 0 → 1 ≤ W := p5
    have q1 : tn ≤ R * W := q1
    have q2 : ∀ j, j < tn → isCol (T j) = true := q2
    have hRW := RW_le p1 p2
    rw [runS_0] at hQ
    refine Z_go kX9_run okX9 [44] 80 ?_
    refine ⟨fun _ => ?_, fun (z : ¬ nI N ≤ nI i) => absurd (nI_le (by omega) (by omega)) z⟩
    rw [show nI N = nI i by rw [show N = i by omega]]
    exact hQ
  | succ z ih =>
    intro i S C hS hC hrf h hQ
    rw [runS_s] at hQ
    have hst := fun x => x_string (g := g) (S := S) (C := C) hS hC x
    have hset : setR S 0 = S := by
      obtain ⟨p, th, tp, sl, im, sh, tf, rf⟩ := S
      have hrf : rf = 0 := hrf
      subst hrf
      rfl
    rw [hset] at hQ
    have hneg := fun x (hx : (op_string S x).1 < 0) => op_string_neg hx hS
    have hrf2 := fun x => (op_string_rf (S := S) (x := x)).trans hrf
    obtain ⟨⟨R, W, m, D⟩, ⟨tn, T⟩, ⟨n, TP⟩, ⟨sn, w⟩, im, sh, tf, rf⟩ := S
    obtain ⟨b, t, tp, ⟨st, nx, tk, fro, dR, dW, dm, db⟩, te, ⟨sl, ln⟩, sd, ia, sa⟩ := C
    obtain ⟨⟨p1, p2, p3, p4, p5⟩, ⟨q1, q2⟩, ⟨o3, o4⟩, ⟨o5, o5b⟩, o6, o7, o8, o9⟩ := id hS
    obtain ⟨h1, h2, h3, h4, h5, h6⟩ := id hC
    have p1 : R ≤ 12 := p1
    have p2 : W ≤ 16 := p2
    have p3 : m ≤ 1 := p3
    have p4 : R = 0 → W = 0 := p4
    have p5 : R ≠ 0 → 1 ≤ W := p5
    have q1 : tn ≤ R * W := q1
    have q2 : ∀ j, j < tn → isCol (T j) = true := q2
    have hRW := RW_le p1 p2
    have hrf : rf = 0 := hrf
    subst hrf
    dsimp only at hQ
    obtain ⟨o71, o72⟩ := o7 1 (by omega)
    have hle := fltS_le (ln := (sh 1).1) (n := (sh 1).2.1) (l := l) (i := f + nI i)
    refine Z_go kX9_run okX9 [44, 65] 80 ?_
    refine ⟨fun (z : nI N ≤ nI i) => ?_, fun _ => ?_⟩
    · rw [nI_leI (by omega) (by omega)] at z; omega
    · refine ⟨rfl, (c_faultAt (ln := (sh 1).1) (asked := l) (i := f + nI i) (n := (sh 1).2.1) (c := sa 1)).fr [30, 31] rfl (by decide) rfl ?_⟩
      have fin : Z g mX9_run 36 Q 65 [some (vr 0), some (vi (nI 1)), some (vi l), some (vi f), some (vi (nI N)), some (vr 30), some (vi (nI i))] [] (cW ((R, W, m, D), (tn, T), (n, TP), (sn, w), im, sh, tf, fltS (sh 1).1 (sh 1).2.1 l (f + nI i)) (b, t, tp, (st, nx, tk, fro, dR, dW, dm, db), te, (sl, ln), sd, ia, sa)) := by
        by_cases h0 : fltS (sh 1).1 (sh 1).2.1 l (f + nI i) = 0
        · rw [if_pos h0] at hQ
          rw [h0]
          obtain ⟨y, hy, ey⟩ := fltS_0 o71 h0
          refine Z_go kX9_run okX9 [44] 80 ?_
          refine ⟨fun z => absurd rfl z, fun _ => ?_⟩
          rw [ey, nOf_n (by omega)] at hQ
          refine ⟨by rw [ey]; exact vp_in_nI (by omega) (by omega), ?_⟩
          rw [ey, nI_clamp (by omega), h6 1 (by omega) y (by omega)]
          refine ⟨rfl, (hst ((sh 1).2.2 y)).mono (fun v A' _ hv => ?_)⟩
          obtain ⟨rfl, C', rfl, hC', hS'⟩ := hv
          by_cases hn : (op_string ((R, W, m, D), (tn, T), (n, TP), (sn, w), im, sh, tf, 0) ((sh 1).2.2 y)).1 < 0
          · rw [if_pos hn] at hQ
            rw [hneg _ hn] at hC' hS' ⊢
            refine ⟨fun (z : 0 ≤ _) => absurd hn (Int32.not_lt.mpr z), fun _ => hQ C' hC' hS'⟩
          · rw [if_neg hn] at hQ
            refine ⟨fun _ => ?_, fun (z : ¬ 0 ≤ _) => absurd (Int32.not_le.mp z) hn⟩
            have k := ih (i + 1) _ C' hS' hC' (hrf2 _) (by omega) hQ
            rw [nI_a1 i] at k
            exact k
        · rw [if_neg h0] at hQ
          refine Z_go kX9_run okX9 [44] 80 ?_
          refine ⟨fun _ => ?_, fun (z : ¬ ¬ nI _ = nI 0) => ?_⟩
          · exact hQ (b, t, tp, (st, nx, tk, fro, dR, dW, dm, db), te, (sl, ln), sd, ia, sa) hC ⟨⟨p1, p2, p3, p4, p5⟩, ⟨q1, q2⟩, ⟨o3, o4⟩, ⟨o5, o5b⟩, o6, o7, o8, by show fltS _ _ _ _ ≤ 4; omega⟩
          · rw [nI_eq (by omega) (by omega)] at z
            exact absurd h0 z
      exact fin
theorem run_loop2 {l f : Int32} {N : Nat} (hN : N ≤ 32) {Q : Option AV → AH → Prop} : ∀ (z i : Nat) (S : Sg) (C : Ca), okSg S → RC S C → S.2.2.2.2.2.2.2 = 0 → i + z = N →
    (∀ C', RC (runS 2 l f z i S).2 C' → okSg (runS 2 l f z i S).2 → Q (some (vi (runS 2 l f z i S).1)) (cW (runS 2 l f z i S).2 C')) →
    Z g mX9_run 36 Q 44 [some (vr 0), some (vi (nI 2)), some (vi l), some (vi f), some (vi (nI N)), some (vr 32), some (vi (nI i))] [] (cW S C) := by
  intro z
  induction z with
  | zero =>
    intro i S C hS hC hrf h hQ
    have hQ := hQ C hC hS
    obtain ⟨⟨R, W, m, D⟩, ⟨tn, T⟩, ⟨n, TP⟩, ⟨sn, w⟩, im, sh, tf, rf⟩ := S
    obtain ⟨b, t, tp, ⟨st, nx, tk, fro, dR, dW, dm, db⟩, te, ⟨sl, ln⟩, sd, ia, sa⟩ := C
    obtain ⟨⟨p1, p2, p3, p4, p5⟩, ⟨q1, q2⟩, ⟨o3, o4⟩, ⟨o5, o5b⟩, o6, o7, o8, o9⟩ := id hS
    obtain ⟨h1, h2, h3, h4, h5, h6⟩ := id hC
    have p1 : R ≤ 12 := p1
    have p2 : W ≤ 16 := p2
    have p3 : m ≤ 1 := p3
    have p4 : R = 0 → W = 0 := p4
    have p5 : R ≠ 0 → 1 ≤ W := p5
    have q1 : tn ≤ R * W := q1
    have q2 : ∀ j, j < tn → isCol (T j) = true := q2
    have hRW := RW_le p1 p2
    rw [runS_0] at hQ
    refine Z_go kX9_run okX9 [44] 80 ?_
    refine ⟨fun _ => ?_, fun (z : ¬ nI N ≤ nI i) => absurd (nI_le (by omega) (by omega)) z⟩
    rw [show nI N = nI i by rw [show N = i by omega]]
    exact hQ
  | succ z ih =>
    intro i S C hS hC hrf h hQ
    rw [runS_s] at hQ
    have hst := fun x => x_string (g := g) (S := S) (C := C) hS hC x
    have hset : setR S 0 = S := by
      obtain ⟨p, th, tp, sl, im, sh, tf, rf⟩ := S
      have hrf : rf = 0 := hrf
      subst hrf
      rfl
    rw [hset] at hQ
    have hneg := fun x (hx : (op_string S x).1 < 0) => op_string_neg hx hS
    have hrf2 := fun x => (op_string_rf (S := S) (x := x)).trans hrf
    obtain ⟨⟨R, W, m, D⟩, ⟨tn, T⟩, ⟨n, TP⟩, ⟨sn, w⟩, im, sh, tf, rf⟩ := S
    obtain ⟨b, t, tp, ⟨st, nx, tk, fro, dR, dW, dm, db⟩, te, ⟨sl, ln⟩, sd, ia, sa⟩ := C
    obtain ⟨⟨p1, p2, p3, p4, p5⟩, ⟨q1, q2⟩, ⟨o3, o4⟩, ⟨o5, o5b⟩, o6, o7, o8, o9⟩ := id hS
    obtain ⟨h1, h2, h3, h4, h5, h6⟩ := id hC
    have p1 : R ≤ 12 := p1
    have p2 : W ≤ 16 := p2
    have p3 : m ≤ 1 := p3
    have p4 : R = 0 → W = 0 := p4
    have p5 : R ≠ 0 → 1 ≤ W := p5
    have q1 : tn ≤ R * W := q1
    have q2 : ∀ j, j < tn → isCol (T j) = true := q2
    have hRW := RW_le p1 p2
    have hrf : rf = 0 := hrf
    subst hrf
    dsimp only at hQ
    obtain ⟨o71, o72⟩ := o7 2 (by omega)
    have hle := fltS_le (ln := (sh 2).1) (n := (sh 2).2.1) (l := l) (i := f + nI i)
    refine Z_go kX9_run okX9 [44, 65] 80 ?_
    refine ⟨fun (z : nI N ≤ nI i) => ?_, fun _ => ?_⟩
    · rw [nI_leI (by omega) (by omega)] at z; omega
    · refine ⟨rfl, (c_faultAt (ln := (sh 2).1) (asked := l) (i := f + nI i) (n := (sh 2).2.1) (c := sa 2)).fr [32, 33] rfl (by decide) rfl ?_⟩
      have fin : Z g mX9_run 36 Q 65 [some (vr 0), some (vi (nI 2)), some (vi l), some (vi f), some (vi (nI N)), some (vr 32), some (vi (nI i))] [] (cW ((R, W, m, D), (tn, T), (n, TP), (sn, w), im, sh, tf, fltS (sh 2).1 (sh 2).2.1 l (f + nI i)) (b, t, tp, (st, nx, tk, fro, dR, dW, dm, db), te, (sl, ln), sd, ia, sa)) := by
        by_cases h0 : fltS (sh 2).1 (sh 2).2.1 l (f + nI i) = 0
        · rw [if_pos h0] at hQ
          rw [h0]
          obtain ⟨y, hy, ey⟩ := fltS_0 o71 h0
          refine Z_go kX9_run okX9 [44] 80 ?_
          refine ⟨fun z => absurd rfl z, fun _ => ?_⟩
          rw [ey, nOf_n (by omega)] at hQ
          refine ⟨by rw [ey]; exact vp_in_nI (by omega) (by omega), ?_⟩
          rw [ey, nI_clamp (by omega), h6 2 (by omega) y (by omega)]
          refine ⟨rfl, (hst ((sh 2).2.2 y)).mono (fun v A' _ hv => ?_)⟩
          obtain ⟨rfl, C', rfl, hC', hS'⟩ := hv
          by_cases hn : (op_string ((R, W, m, D), (tn, T), (n, TP), (sn, w), im, sh, tf, 0) ((sh 2).2.2 y)).1 < 0
          · rw [if_pos hn] at hQ
            rw [hneg _ hn] at hC' hS' ⊢
            refine ⟨fun (z : 0 ≤ _) => absurd hn (Int32.not_lt.mpr z), fun _ => hQ C' hC' hS'⟩
          · rw [if_neg hn] at hQ
            refine ⟨fun _ => ?_, fun (z : ¬ 0 ≤ _) => absurd (Int32.not_le.mp z) hn⟩
            have k := ih (i + 1) _ C' hS' hC' (hrf2 _) (by omega) hQ
            rw [nI_a1 i] at k
            exact k
        · rw [if_neg h0] at hQ
          refine Z_go kX9_run okX9 [44] 80 ?_
          refine ⟨fun _ => ?_, fun (z : ¬ ¬ nI _ = nI 0) => ?_⟩
          · exact hQ (b, t, tp, (st, nx, tk, fro, dR, dW, dm, db), te, (sl, ln), sd, ia, sa) hC ⟨⟨p1, p2, p3, p4, p5⟩, ⟨q1, q2⟩, ⟨o3, o4⟩, ⟨o5, o5b⟩, o6, o7, o8, by show fltS _ _ _ _ ≤ 4; omega⟩
          · rw [nI_eq (by omega) (by omega)] at z
            exact absurd h0 z
      exact fin
theorem run_loop3 {l f : Int32} {N : Nat} (hN : N ≤ 32) {Q : Option AV → AH → Prop} : ∀ (z i : Nat) (S : Sg) (C : Ca), okSg S → RC S C → S.2.2.2.2.2.2.2 = 0 → i + z = N →
    (∀ C', RC (runS 3 l f z i S).2 C' → okSg (runS 3 l f z i S).2 → Q (some (vi (runS 3 l f z i S).1)) (cW (runS 3 l f z i S).2 C')) →
    Z g mX9_run 36 Q 44 [some (vr 0), some (vi (nI 3)), some (vi l), some (vi f), some (vi (nI N)), some (vr 34), some (vi (nI i))] [] (cW S C) := by
  intro z
  induction z with
  | zero =>
    intro i S C hS hC hrf h hQ
    have hQ := hQ C hC hS
    obtain ⟨⟨R, W, m, D⟩, ⟨tn, T⟩, ⟨n, TP⟩, ⟨sn, w⟩, im, sh, tf, rf⟩ := S
    obtain ⟨b, t, tp, ⟨st, nx, tk, fro, dR, dW, dm, db⟩, te, ⟨sl, ln⟩, sd, ia, sa⟩ := C
    obtain ⟨⟨p1, p2, p3, p4, p5⟩, ⟨q1, q2⟩, ⟨o3, o4⟩, ⟨o5, o5b⟩, o6, o7, o8, o9⟩ := id hS
    obtain ⟨h1, h2, h3, h4, h5, h6⟩ := id hC
    have p1 : R ≤ 12 := p1
    have p2 : W ≤ 16 := p2
    have p3 : m ≤ 1 := p3
    have p4 : R = 0 → W = 0 := p4
    have p5 : R ≠ 0 → 1 ≤ W := p5
    have q1 : tn ≤ R * W := q1
    have q2 : ∀ j, j < tn → isCol (T j) = true := q2
    have hRW := RW_le p1 p2
    rw [runS_0] at hQ
    refine Z_go kX9_run okX9 [44] 80 ?_
    refine ⟨fun _ => ?_, fun (z : ¬ nI N ≤ nI i) => absurd (nI_le (by omega) (by omega)) z⟩
    rw [show nI N = nI i by rw [show N = i by omega]]
    exact hQ
  | succ z ih =>
    intro i S C hS hC hrf h hQ
    rw [runS_s] at hQ
    have hst := fun x => x_string (g := g) (S := S) (C := C) hS hC x
    have hset : setR S 0 = S := by
      obtain ⟨p, th, tp, sl, im, sh, tf, rf⟩ := S
      have hrf : rf = 0 := hrf
      subst hrf
      rfl
    rw [hset] at hQ
    have hneg := fun x (hx : (op_string S x).1 < 0) => op_string_neg hx hS
    have hrf2 := fun x => (op_string_rf (S := S) (x := x)).trans hrf
    obtain ⟨⟨R, W, m, D⟩, ⟨tn, T⟩, ⟨n, TP⟩, ⟨sn, w⟩, im, sh, tf, rf⟩ := S
    obtain ⟨b, t, tp, ⟨st, nx, tk, fro, dR, dW, dm, db⟩, te, ⟨sl, ln⟩, sd, ia, sa⟩ := C
    obtain ⟨⟨p1, p2, p3, p4, p5⟩, ⟨q1, q2⟩, ⟨o3, o4⟩, ⟨o5, o5b⟩, o6, o7, o8, o9⟩ := id hS
    obtain ⟨h1, h2, h3, h4, h5, h6⟩ := id hC
    have p1 : R ≤ 12 := p1
    have p2 : W ≤ 16 := p2
    have p3 : m ≤ 1 := p3
    have p4 : R = 0 → W = 0 := p4
    have p5 : R ≠ 0 → 1 ≤ W := p5
    have q1 : tn ≤ R * W := q1
    have q2 : ∀ j, j < tn → isCol (T j) = true := q2
    have hRW := RW_le p1 p2
    have hrf : rf = 0 := hrf
    subst hrf
    dsimp only at hQ
    obtain ⟨o71, o72⟩ := o7 3 (by omega)
    have hle := fltS_le (ln := (sh 3).1) (n := (sh 3).2.1) (l := l) (i := f + nI i)
    refine Z_go kX9_run okX9 [44, 65] 80 ?_
    refine ⟨fun (z : nI N ≤ nI i) => ?_, fun _ => ?_⟩
    · rw [nI_leI (by omega) (by omega)] at z; omega
    · refine ⟨rfl, (c_faultAt (ln := (sh 3).1) (asked := l) (i := f + nI i) (n := (sh 3).2.1) (c := sa 3)).fr [34, 35] rfl (by decide) rfl ?_⟩
      have fin : Z g mX9_run 36 Q 65 [some (vr 0), some (vi (nI 3)), some (vi l), some (vi f), some (vi (nI N)), some (vr 34), some (vi (nI i))] [] (cW ((R, W, m, D), (tn, T), (n, TP), (sn, w), im, sh, tf, fltS (sh 3).1 (sh 3).2.1 l (f + nI i)) (b, t, tp, (st, nx, tk, fro, dR, dW, dm, db), te, (sl, ln), sd, ia, sa)) := by
        by_cases h0 : fltS (sh 3).1 (sh 3).2.1 l (f + nI i) = 0
        · rw [if_pos h0] at hQ
          rw [h0]
          obtain ⟨y, hy, ey⟩ := fltS_0 o71 h0
          refine Z_go kX9_run okX9 [44] 80 ?_
          refine ⟨fun z => absurd rfl z, fun _ => ?_⟩
          rw [ey, nOf_n (by omega)] at hQ
          refine ⟨by rw [ey]; exact vp_in_nI (by omega) (by omega), ?_⟩
          rw [ey, nI_clamp (by omega), h6 3 (by omega) y (by omega)]
          refine ⟨rfl, (hst ((sh 3).2.2 y)).mono (fun v A' _ hv => ?_)⟩
          obtain ⟨rfl, C', rfl, hC', hS'⟩ := hv
          by_cases hn : (op_string ((R, W, m, D), (tn, T), (n, TP), (sn, w), im, sh, tf, 0) ((sh 3).2.2 y)).1 < 0
          · rw [if_pos hn] at hQ
            rw [hneg _ hn] at hC' hS' ⊢
            refine ⟨fun (z : 0 ≤ _) => absurd hn (Int32.not_lt.mpr z), fun _ => hQ C' hC' hS'⟩
          · rw [if_neg hn] at hQ
            refine ⟨fun _ => ?_, fun (z : ¬ 0 ≤ _) => absurd (Int32.not_le.mp z) hn⟩
            have k := ih (i + 1) _ C' hS' hC' (hrf2 _) (by omega) hQ
            rw [nI_a1 i] at k
            exact k
        · rw [if_neg h0] at hQ
          refine Z_go kX9_run okX9 [44] 80 ?_
          refine ⟨fun _ => ?_, fun (z : ¬ ¬ nI _ = nI 0) => ?_⟩
          · exact hQ (b, t, tp, (st, nx, tk, fro, dR, dW, dm, db), te, (sl, ln), sd, ia, sa) hC ⟨⟨p1, p2, p3, p4, p5⟩, ⟨q1, q2⟩, ⟨o3, o4⟩, ⟨o5, o5b⟩, o6, o7, o8, by show fltS _ _ _ _ ≤ 4; omega⟩
          · rw [nI_eq (by omega) (by omega)] at z
            exact absurd h0 z
      exact fin
theorem x_run (hS : okSg S) (hC : RC S C) (k l f v : Int32) : Ev g mX9_run [vr 0, vi k, vi l, vi f, vi v] (cW S C) (CV (op_run S k l f v)) := by
  have hk0 : okSg (setR S 0) := by
    obtain ⟨⟨R, W, m, D⟩, ⟨tn, T⟩, ⟨n, TP⟩, ⟨sn, w⟩, im, sh, tf, rf⟩ := S
    obtain ⟨p1, q1, o3, o5, o6, o7, o8, o9⟩ := hS
    exact ⟨p1, q1, o3, o5, o6, o7, o8, by show 0 ≤ 4; omega⟩
  have hc0 : RC (setR S 0) C := by
    obtain ⟨⟨R, W, m, D⟩, ⟨tn, T⟩, ⟨n, TP⟩, ⟨sn, w⟩, im, sh, tf, rf⟩ := S
    exact hC
  have e0 : (setR S 0).2.2.2.2.2.2.2 = 0 := by
    obtain ⟨p, th, tp, sl, im, sh, tf, rf⟩ := S
    rfl
  have h33 : ∀ x : Int32, hasRow 33 x = (decide (¬ x < 0) && decide (x ≤ nI 32)) := by
    intro x
    unfold hasRow
    by_cases h0 : x < 0
    · simp [h0]
    · obtain ⟨k, hk, rfl⟩ := nI_of h0
      have e : (nI k < nI 33) = (nI k ≤ nI 32) := propext (by rw [nI_ltI hk (by omega), nI_leI hk (by omega)]; omega)
      simp [h0, e]
  unfold op_run
  have r0 := fun N hN Q' hq => run_loop0 (g := g) (l := l) (f := f) (N := N) hN (Q := Q') N 0 (setR S 0) C hk0 hc0 e0 (by omega) hq
  have r1 := fun N hN Q' hq => run_loop1 (g := g) (l := l) (f := f) (N := N) hN (Q := Q') N 0 (setR S 0) C hk0 hc0 e0 (by omega) hq
  have r2 := fun N hN Q' hq => run_loop2 (g := g) (l := l) (f := f) (N := N) hN (Q := Q') N 0 (setR S 0) C hk0 hc0 e0 (by omega) hq
  have r3 := fun N hN Q' hq => run_loop3 (g := g) (l := l) (f := f) (N := N) hN (Q := Q') N 0 (setR S 0) C hk0 hc0 e0 (by omega) hq
  obtain ⟨⟨R, W, m, D⟩, ⟨tn, T⟩, ⟨n, TP⟩, ⟨sn, w⟩, im, sh, tf, rf⟩ := S
  obtain ⟨b, t, tp, ⟨st, nx, tk, fro, dR, dW, dm, db⟩, te, ⟨sl, ln⟩, sd, ia, sa⟩ := C
  obtain ⟨⟨p1, p2, p3, p4, p5⟩, ⟨q1, q2⟩, ⟨o3, o4⟩, ⟨o5, o5b⟩, o6, o7, o8, o9⟩ := id hS
  obtain ⟨h1, h2, h3, h4, h5, h6⟩ := id hC
  have p1 : R ≤ 12 := p1
  have p2 : W ≤ 16 := p2
  have p3 : m ≤ 1 := p3
  have p4 : R = 0 → W = 0 := p4
  have p5 : R ≠ 0 → 1 ≤ W := p5
  have q1 : tn ≤ R * W := q1
  have q2 : ∀ j, j < tn → isCol (T j) = true := q2
  have hRW := RW_le p1 p2
  refine Ev_of omX9_run.1 (Nat.le_of_ble_eq_true rfl) ?_
  refine Z_go kX9_run okX9 [44] 80 ?_
  refine (c_isSheet k).use ?_
  cases hk : hasRow 4 k with
  | false => exact ⟨fun _ => ⟨rfl, _, rfl, hC, hS⟩, fun z => absurd rfl z⟩
  | true =>
    refine ⟨fun z => (z1 z).elim, fun _ => ?_⟩
    refine (c_isLane l).use ?_
    cases hl : hasRow 3 l with
    | false => exact ⟨fun _ => ⟨rfl, _, rfl, hC, hS⟩, fun z => absurd rfl z⟩
    | true =>
      refine ⟨fun z => (z1 z).elim, fun _ => ?_⟩
      rw [h33]
      refine ⟨fun (h7 : v < 0) => ?_, fun (h7 : ¬ v < 0) => ⟨fun (h8 : v ≤ nI 32) => ?_, fun (h8 : ¬ v ≤ nI 32) => ?_⟩⟩
      · rw [decide_eq_false (fun z => z h7)]; exact ⟨rfl, _, rfl, hC, hS⟩
      · rw [decide_eq_true h7, decide_eq_true h8]
        simp only [Bool.and_self, if_true]
        obtain ⟨N, hN, rfl⟩ := in_n (by omega) h7 h8
        obtain ⟨j, hj, rfl, e1⟩ := hasRow_of (by omega) hk
        rw [e1, nOf_n (by omega)]
        have hj4 : j = 0 ∨ j = 1 ∨ j = 2 ∨ j = 3 := by omega
        rcases hj4 with rfl | rfl | rfl | rfl
        · refine ⟨Or.inr rfl, vin (by omega) (by omega), ?_⟩
          rw [show (nI 0).toNatClampNeg = 0 from rfl]
          exact r0 N hN _ (fun C' hC' hS' => ⟨rfl, C', rfl, hC', hS'⟩)
        · refine ⟨Or.inr rfl, vin (by omega) (by omega), ?_⟩
          rw [show (nI 1).toNatClampNeg = 1 from rfl]
          exact r1 N hN _ (fun C' hC' hS' => ⟨rfl, C', rfl, hC', hS'⟩)
        · refine ⟨Or.inr rfl, vin (by omega) (by omega), ?_⟩
          rw [show (nI 2).toNatClampNeg = 2 from rfl]
          exact r2 N hN _ (fun C' hC' hS' => ⟨rfl, C', rfl, hC', hS'⟩)
        · refine ⟨Or.inr rfl, vin (by omega) (by omega), ?_⟩
          rw [show (nI 3).toNatClampNeg = 3 from rfl]
          exact r3 N hN _ (fun C' hC' hS' => ⟨rfl, C', rfl, hC', hS'⟩)
      · rw [decide_eq_false h8, Bool.and_false]; exact ⟨rfl, _, rfl, hC, hS⟩
end CMP
