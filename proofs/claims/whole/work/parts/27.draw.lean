section CMP
variable {g : GG} {S : Sg} {C : Ca}
theorem draw_loop {R W m tn n sn tf rf kc N : Nat} {D0 : Nat → Nat → Int32} {T TP t tp sl ln : Nat → Int32} {w : Nat → Nat} {im : Nat → Bool × Pic × Thr} {sh : Nat → Int32 × Nat × (Nat → Int32)} {rd : Nat × Nat × Nat × Bool × Nat × Nat × Nat × (Nat → Int32)} {te : Nat × (Nat → Int32)} {ia : Nat → (Nat → Int32) × (Nat → Int32)} {sa : Nat → Nat → Int32} {v1 v3 : Int32} {Q : Option AV → AH → Prop} (hN : N ≤ 12) (hW : W ≤ 16) (hW1 : 1 ≤ W) (hk1 : 1 ≤ kc) (hk : kc ≤ 6) : ∀ (q r : Nat) (b : Nat → Int32) (sd : Int32) (D : Nat → Nat → Int32), r + q = N → Hd b D r W →
    (∀ b', Hd b' (itA (drR W kc) q r (sd, D)).2 N W → Z g mX9_draw 36 Q 84 [some (vr 0), some (vi v1), some (vi (nI N)), some (vi v3), some (vi (nI kc)), some (vi (nI N))] [] (cW ((R, W, m, D0), (tn, T), (n, TP), (sn, w), im, sh, tf, rf) (b', t, tp, rd, te, (sl, ln), (itA (drR W kc) q r (sd, D)).1, ia, sa))) →
    Z g mX9_draw 36 Q 64 [some (vr 0), some (vi v1), some (vi (nI N)), some (vi v3), some (vi (nI kc)), some (vi (nI r))] [] (cW ((R, W, m, D0), (tn, T), (n, TP), (sn, w), im, sh, tf, rf) (b, t, tp, rd, te, (sl, ln), sd, ia, sa)) := by
  intro q
  induction q with
  | zero =>
    intro r b sd D h1 hb hQ
    have hQ := hQ b (by rw [show N = r by omega]; exact hb)
    obtain ⟨st, nx, tk, fro, dR, dW, dm, db⟩ := rd
    refine Z_go kX9_draw okX9 [64, 84] 80 ?_
    refine ⟨fun _ => ?_, fun (z : ¬ nI N ≤ nI r) => absurd (nI_le (by omega) (by omega)) z⟩
    rw [show nI r = nI N by rw [show r = N by omega]]
    exact hQ
  | succ q ih =>
    intro r b sd D h1 hb hQ
    rw [itA_s] at hQ
    have hd := fun Q' h => x_drawRow (g := g) (R := R) (m := m) (tn := tn) (n := n) (sn := sn) (tf := tf) (rf := rf) (r := r) (kc := kc) (D0 := D0) (D := D) (T := T) (TP := TP) (b := b) (t := t) (tp := tp) (sl := sl) (ln := ln) (w := w) (im := im) (sh := sh) (rd := rd) (te := te) (ia := ia) (sa := sa) (sd := sd) (Q := Q') (by omega) hW hW1 hk1 hk hb h
    generalize drR W kc = f at hQ hd ih
    generalize f r (sd, D) = y at hQ hd
    obtain ⟨sd', D'⟩ := y
    obtain ⟨st, nx, tk, fro, dR, dW, dm, db⟩ := rd
    refine Z_go kX9_draw okX9 [64, 84] 80 ?_
    refine ⟨fun (z : nI N ≤ nI r) => ?_, fun _ => ?_⟩
    · rw [nI_leI (by omega) (by omega)] at z; omega
    · refine ⟨rfl, hd _ (fun b' hb' => ?_)⟩
      have k := ih (r + 1) b' sd' D' (by omega) hb' hQ
      rw [nI_a1 r] at k
      exact k
theorem x_draw (hS : okSg S) (hC : RC S C) (s nn ww kk : Int32) : Ev g mX9_draw [vr 0, vi s, vi nn, vi ww, vi kk] (cW S C) (CV (op_draw S s nn ww kk)) := by
  obtain ⟨⟨R, W, m, D⟩, ⟨tn, T⟩, ⟨n, TP⟩, ⟨sn, w⟩, im, sh, tf, rf⟩ := S
  obtain ⟨b, t, tp, ⟨st, nx, tk, fro, dR, dW, dm, db⟩, te, ⟨sl, ln⟩, sd, ia, sa⟩ := C
  obtain ⟨⟨p1, p2, p3, p4, p5⟩, ⟨q1, q2⟩, ⟨o3, o4⟩, ⟨o5, o5b⟩, o6, o7, o8, o9⟩ := id hS
  obtain ⟨h1, h2, h3, h4, h5, h6⟩ := id hC
  have p1 : R ≤ 12 := p1
  have p2 : W ≤ 16 := p2
  have p3 : m ≤ 1 := p3
  have p4 : R = 0 → W = 0 := p4
  have p5 : R ≠ 0 → 1 ≤ W := p5
  have q1 : tn ≤ R * W := q1
  have q2 : ∀ j, j < tn → isCol (T j) = true := q2
  have hRW := RW_le p1 p2
  unfold op_draw
  dsimp only
  refine Ev_of omX9_draw.1 (Nat.le_of_ble_eq_true rfl) ?_
  refine Z_go kX9_draw okX9 [64] 80 ?_
  refine ⟨fun (z1 : nn < nI 1) => ?_, fun (z1 : ¬ nn < nI 1) => ⟨fun (z2 : nI 12 < nn) => ?_, fun (z2 : ¬ nI 12 < nn) => ⟨fun (z3 : ww < nI 1) => ?_, fun (z3 : ¬ ww < nI 1) => ⟨fun (z4 : nI 16 < ww) => ?_, fun (z4 : ¬ nI 16 < ww) => ⟨fun (z5 : kk < nI 1) => ?_, fun (z5 : ¬ kk < nI 1) => ⟨fun (z6 : kk ≤ nI 6) => ?_, fun (z6 : ¬ kk ≤ nI 6) => ?_⟩⟩⟩⟩⟩⟩
  · rw [if_pos (Or.inl z1)]; exact ⟨rfl, _, rfl, hC, hS⟩
  · rw [if_pos (Or.inr (Or.inl z2))]; exact ⟨rfl, _, rfl, hC, hS⟩
  · rw [if_pos (Or.inr (Or.inr (Or.inl z3)))]; exact ⟨rfl, _, rfl, hC, hS⟩
  · rw [if_pos (Or.inr (Or.inr (Or.inr (Or.inl z4))))]; exact ⟨rfl, _, rfl, hC, hS⟩
  · rw [if_pos (Or.inr (Or.inr (Or.inr (Or.inr (Or.inl z5)))))]; exact ⟨rfl, _, rfl, hC, hS⟩
  · rw [if_neg (by
      rintro (z | z | z | z | z | z)
      · exact z1 z
      · exact z2 z
      · exact z3 z
      · exact z4 z
      · exact z5 z
      · exact Int32.not_lt.mpr z6 z)]
    have nat : ∀ (x : Int32) (N : Nat), N ≤ 16 → ¬ x < nI 1 → ¬ nI N < x → ∃ k, 1 ≤ k ∧ k ≤ N ∧ x = nI k := by
      intro x N hN h1 h2
      have h0 : ¬ x < 0 := fun z => h1 (Int32.lt_trans z (by decide +kernel))
      obtain ⟨k, hk, rfl⟩ := nI_of h0
      rw [nI_ltI hk (by omega)] at h1
      rw [nI_ltI (by omega) hk] at h2
      exact ⟨k, by omega, by omega, rfl⟩
    obtain ⟨N, n1, n2, rfl⟩ := nat nn 12 (by omega) z1 z2
    obtain ⟨V, v1, v2, rfl⟩ := nat ww 16 (by omega) z3 z4
    obtain ⟨K, k1, k2, rfl⟩ := nat kk 6 (by omega) z5 (Int32.not_lt.mpr z6)
    rw [nOf_n (by omega), nOf_n (by omega), nOf_n (by omega)]
    refine draw_loop (g := g) (R := N) (W := V) (m := m) (tn := tn) (n := n) (sn := sn) (tf := tf) (rf := rf) (kc := K) (N := N) (D0 := D) (T := T) (TP := TP) (t := t) (tp := tp) (sl := sl) (ln := ln) (w := w) (im := im) (sh := sh) (rd := (st, nx, tk, fro, dR, dW, dm, db)) (te := te) (ia := ia) (sa := sa) (v1 := s) (v3 := nI V) n2 v2 v1 k1 k2 N 0 b s D (by omega) (fun r c (h : r < 0) => absurd h (by omega)) (fun b' hb' => ?_)
    refine Z_go kX9_draw okX9 [] 80 ?_
    refine ⟨rfl, (c_size (b := b') n2 v2).fr [1, 2] rfl (by decide) rfl ?_⟩
    exact ⟨rfl, (b', t, tp, (st, nx, tk, fro, dR, dW, dm, db), te, (sl, ln), (drA V K N 0 (s, D)).1, ia, sa), rfl, ⟨hb', fun i (hi : i < 0) => absurd hi (by omega), h3, h4, h5, h6⟩, ⟨n2, v2, p3, fun (z : N = 0) => absurd z (by omega), fun _ => v1⟩, ⟨Nat.zero_le _, fun i (hi : i < 0) => absurd hi (by omega)⟩, ⟨o3, o4⟩, ⟨o5, o5b⟩, o6, o7, o8, o9⟩
  · rw [if_pos (Or.inr (Or.inr (Or.inr (Or.inr (Or.inr (Int32.not_le.mp z6))))))]; exact ⟨rfl, _, rfl, hC, hS⟩
end CMP
