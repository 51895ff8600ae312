/-! the component: its world, and every call -/
/-- arrays and scratch: beads, thread, tape, reader (start, next, token, fro, rows, width, mode, beads), teller, slip's words and line, seed, images' beads and threads, sheets' cells -/
abbrev Ca : Type := (Nat → Int32) × (Nat → Int32) × (Nat → Int32) × (Nat × Nat × Nat × Bool × Nat × Nat × Nat × (Nat → Int32)) × (Nat × (Nat → Int32)) × ((Nat → Int32) × (Nat → Int32)) × Int32 × (Nat → (Nat → Int32) × (Nat → Int32)) × (Nat → Nat → Int32)
def imA (i : Nat) : Nat := 18 + 5 * i
def shA (i : Nat) : Nat := 28 + 2 * i
def cW (S : Sg) (C : Ca) : AH := match S, C with
  | ((R, W, m, _), (tn, _), (n, _), (sn, _), im, sh, tf, rf), (b, t, tp, (st, nx, tk, fro, dR, dW, dm, db), te, (sl, ln), sd, ia, sa) =>
    [ob 9 [vr 1, vr 3, vr 5, vr 7, vr 10, vr 12, vr 15, vr 16, vr 17, vi (nI tf), vi (nI rf)],
     ob 2 [vr 2, vi (nI R), vi (nI W), vi (nI m)], ar 0 192 b,
     ob 6 [vr 4, vi (nI tn)], ar 0 192 t,
     ob 7 [vr 6, vi (nI n)], ar 0 300 tp,
     ob 3 [vr 8, vi (nI st), vi (nI nx), vi (nI tk), vi (nI (fl fro))], ob 2 [vr 9, vi (nI dR), vi (nI dW), vi (nI dm)], ar 0 192 db,
     ob 8 [vr 11, vi (nI te.1)], ar 0 40 te.2,
     ob 5 [vr 13, vi (nI sn), vr 14], ar 0 16 ln, ar 0 40 sl,
     ob 0 [vi sd],
     rr 2 2 imA, rr 3 4 shA,
     ob 1 [vr 19, vr 21, vi (nI (fl (im 0).1))], ob 2 [vr 20, vi (nI (im 0).2.1.1), vi (nI (im 0).2.1.2.1), vi (nI (im 0).2.1.2.2.1)], ar 0 192 (ia 0).1, ob 6 [vr 22, vi (nI (im 0).2.2.1)], ar 0 192 (ia 0).2,
     ob 1 [vr 24, vr 26, vi (nI (fl (im 1).1))], ob 2 [vr 25, vi (nI (im 1).2.1.1), vi (nI (im 1).2.1.2.1), vi (nI (im 1).2.1.2.2.1)], ar 0 192 (ia 1).1, ob 6 [vr 27, vi (nI (im 1).2.2.1)], ar 0 192 (ia 1).2,
     ob 4 [vr 29, vi (nI (sh 0).2.1), vi (sh 0).1], ar 0 32 (sa 0), ob 4 [vr 31, vi (nI (sh 1).2.1), vi (sh 1).1], ar 0 32 (sa 1),
     ob 4 [vr 33, vi (nI (sh 2).2.1), vi (sh 2).1], ar 0 32 (sa 2), ob 4 [vr 35, vi (nI (sh 3).2.1), vi (sh 3).1], ar 0 32 (sa 3)]
/-- the arrays hold the state -/
def RC (S : Sg) (C : Ca) : Prop := match S, C with
  | ((R, W, m, D), (tn, T), (n, TP), (sn, w), im, sh, tf, rf), (b, t, tp, _, _, (sl, _), _, ia, sa) =>
    Hd b D R W ∧ (∀ j, j < tn → t j = T j) ∧ tp = TP ∧ (∀ j, j < sn → sl j = nI (w j)) ∧
    (∀ k, k < 2 → Hd (ia k).1 (im k).2.1.2.2.2 (im k).2.1.1 (im k).2.1.2.1 ∧ ∀ j, j < (im k).2.2.1 → (ia k).2 j = (im k).2.2.2 j) ∧ (∀ k, k < 4 → ∀ j, j < 32 → sa k j = (sh k).2.2 j)
def CV (a : Int32 × Sg) : Option AV → AH → Prop := fun v A => v = some (vi a.1) ∧ ∃ C, A = cW a.2 C ∧ RC a.2 C ∧ okSg a.2
theorem nOf_n {k : Nat} (h : k < 2 ^ 31) : nOf (nI k) = k := nI_clamp h
theorem hasRow_of {N : Nat} {r : Int32} (hN : N ≤ 1000) (h : hasRow N r = true) : ∃ k, k < N ∧ r = nI k ∧ nOf r = k := by
  have h := of_decide_eq_true h
  obtain ⟨j, hj, rfl⟩ := nI_of h.1
  have h2 := h.2
  rw [nI_ltI hj (by omega)] at h2
  exact ⟨j, h2, rfl, nOf_n hj⟩
theorem hasRow_no {N : Nat} {r : Int32} (h : hasRow N r = false) : r < 0 ∨ nI N ≤ r := by
  have h := of_decide_eq_false h
  by_cases h1 : r < 0
  · exact Or.inl h1
  · exact Or.inr (Int32.not_lt.mp (fun z => h ⟨h1, z⟩))
theorem isCol_of {x : Int32} (h : isCol x = true) : ∃ k, k ≤ 5 ∧ x = nI k := by
  have h := of_decide_eq_true h
  obtain ⟨j, hj, rfl⟩ := nI_of h.1
  have h2 := h.2
  rw [nI_ltI hj (by omega)] at h2
  exact ⟨j, by omega, rfl⟩
theorem isCol_ne {x : Int32} (h : isCol x = true) : ¬ x = -nI 4 := by
  obtain ⟨k, hk, rfl⟩ := isCol_of h
  intro e
  have e2 := congrArg Int32.toInt e
  rw [nI_toInt (by omega)] at e2
  have : (-nI 4).toInt = -4 := by decide +kernel
  omega
theorem z1 : nI 1 = 0 → False := by decide
section CMP
variable {g : GG} {S : Sg} {C : Ca}
theorem x_feed (hS : okSg S) (hC : RC S C) (c : Int32) : Ev g mX9_feed [vr 0, vi c] (cW S C) (CV (op_feed S c)) := by
  obtain ⟨⟨R, W, m, D⟩, ⟨tn, T⟩, ⟨n, TP⟩, ⟨sn, w⟩, im, sh, tf, rf⟩ := S
  obtain ⟨b, t, tp, ⟨st, nx, tk, fro, dR, dW, dm, db⟩, te, ⟨sl, ln⟩, sd, ia, sa⟩ := C
  obtain ⟨⟨p1, p2, p3, p4, p5⟩, ⟨q1, q2⟩, ⟨o3, o4⟩, ⟨o5, o5b⟩, o6, o7, o8, o9⟩ := id hS
  obtain ⟨h1, h2, h3, h4, h5, h6⟩ := id hC
  have p1 : R ≤ 12 := p1
  have p2 : W ≤ 16 := p2
  have p3 : m ≤ 1 := p3
  have p4 : R = 0 → W = 0 := p4
  have p5 : R ≠ 0 → 1 ≤ W := p5
  have q1 : tn ≤ R * W := q1
  have q2 : ∀ j, j < tn → isCol (T j) = true := q2
  have hRW := RW_le p1 p2
  unfold op_feed
  dsimp only
  refine Ev_of omX9_feed.1 (Nat.le_of_ble_eq_true rfl) ?_
  refine Z_go kX9_feed okX9 [] 80 ?_
  refine ⟨fun (h : c < 0) => ?_, fun (h : ¬ c < 0) => ⟨fun (h7 : c ≤ nI 127) => ?_, fun (h7 : ¬ c ≤ nI 127) => ?_⟩⟩
  · rw [if_pos (Or.inl h)]; exact ⟨rfl, _, rfl, hC, hS⟩
  · rw [if_neg (fun z => z.elim h (fun z => Int32.not_lt.mpr h7 z))]
    by_cases hn : n = 300
    · rw [if_pos hn]
      refine ⟨rfl, (c_ttake_full hn).fr [5, 6] rfl (by decide) rfl ?_⟩
      refine ⟨fun _ => ⟨rfl, _, rfl, hC, hS⟩, fun z => absurd rfl z⟩
    · rw [if_neg hn]
      refine ⟨rfl, (c_ttake (by omega)).fr [5, 6] rfl (by decide) rfl ?_⟩
      refine ⟨fun z => (z1 z).elim, fun _ => ⟨rfl, (b, t, upd tp n c, (st, nx, tk, fro, dR, dW, dm, db), te, (sl, ln), sd, ia, sa), rfl, ⟨h1, h2, ?_, h4, h5, h6⟩, ⟨p1, p2, p3, p4, p5⟩, ⟨q1, q2⟩, ⟨by omega, ?_⟩, ⟨o5, o5b⟩, o6, o7, o8, o9⟩⟩
      · rw [h3]
      · intro j hj
        by_cases e : j = n
        · rw [e, updS]; exact h
        · rw [updN e]; exact o4 j (by omega)
  · rw [if_pos (Or.inr (Int32.not_le.mp h7))]; exact ⟨rfl, _, rfl, hC, hS⟩
theorem in_n {k : Int32} {n : Nat} (hn : n < 2 ^ 31) (h : ¬ k < 0) (h2 : k ≤ nI n) : ∃ j, j ≤ n ∧ k = nI j := by
  obtain ⟨j, hj, rfl⟩ := nI_of h
  rw [nI_leI hj hn] at h2
  exact ⟨j, h2, rfl⟩
theorem x_end (hS : okSg S) (hC : RC S C) (k : Int32) : Ev g mX9_end [vr 0, vi k] (cW S C) (CV (op_end S k)) := by
  obtain ⟨⟨R, W, m, D⟩, ⟨tn, T⟩, ⟨n, TP⟩, ⟨sn, w⟩, im, sh, tf, rf⟩ := S
  obtain ⟨b, t, tp, ⟨st, nx, tk, fro, dR, dW, dm, db⟩, te, ⟨sl, ln⟩, sd, ia, sa⟩ := C
  obtain ⟨⟨p1, p2, p3, p4, p5⟩, ⟨q1, q2⟩, ⟨o3, o4⟩, ⟨o5, o5b⟩, o6, o7, o8, o9⟩ := id hS
  obtain ⟨h1, h2, h3, h4, h5, h6⟩ := id hC
  have p1 : R ≤ 12 := p1
  have p2 : W ≤ 16 := p2
  have p3 : m ≤ 1 := p3
  have p4 : R = 0 → W = 0 := p4
  have p5 : R ≠ 0 → 1 ≤ W := p5
  have q1 : tn ≤ R * W := q1
  have q2 : ∀ j, j < tn → isCol (T j) = true := q2
  have hRW := RW_le p1 p2
  unfold op_end
  dsimp only
  refine Ev_of omX9_end.1 (Nat.le_of_ble_eq_true rfl) ?_
  refine Z_go kX9_end okX9 [] 80 ?_
  refine ⟨fun (h : k < 0) => ?_, fun (h : ¬ k < 0) => ⟨fun (h7 : k ≤ nI n) => ?_, fun (h7 : ¬ k ≤ nI n) => ?_⟩⟩
  · rw [if_pos (Or.inl h)]; exact ⟨rfl, _, rfl, hC, hS⟩
  · rw [if_neg (fun z => z.elim h (fun z => Int32.not_lt.mpr h7 z))]
    obtain ⟨j, hj, rfl⟩ := in_n (by omega) h h7
    rw [nOf_n (by omega)]
    exact ⟨rfl, (b, t, tp, (st, nx, tk, fro, dR, dW, dm, db), te, (sl, ln), sd, ia, sa), rfl, ⟨h1, h2, h3, h4, h5, h6⟩, ⟨p1, p2, p3, p4, p5⟩, ⟨q1, q2⟩, ⟨by omega, fun i hi => o4 i (by omega)⟩, ⟨o5, o5b⟩, o6, o7, o8, o9⟩
  · rw [if_pos (Or.inr (Int32.not_le.mp h7))]; exact ⟨rfl, _, rfl, hC, hS⟩
theorem x_fault (hS : okSg S) (hC : RC S C) : Ev g mX9_fault [vr 0] (cW S C) (CV (op_fault S)) := by
  obtain ⟨⟨R, W, m, D⟩, ⟨tn, T⟩, ⟨n, TP⟩, ⟨sn, w⟩, im, sh, tf, rf⟩ := S
  obtain ⟨b, t, tp, ⟨st, nx, tk, fro, dR, dW, dm, db⟩, te, ⟨sl, ln⟩, sd, ia, sa⟩ := C
  obtain ⟨⟨p1, p2, p3, p4, p5⟩, ⟨q1, q2⟩, ⟨o3, o4⟩, ⟨o5, o5b⟩, o6, o7, o8, o9⟩ := id hS
  obtain ⟨h1, h2, h3, h4, h5, h6⟩ := id hC
  have p1 : R ≤ 12 := p1
  have p2 : W ≤ 16 := p2
  have p3 : m ≤ 1 := p3
  have p4 : R = 0 → W = 0 := p4
  have p5 : R ≠ 0 → 1 ≤ W := p5
  have q1 : tn ≤ R * W := q1
  have q2 : ∀ j, j < tn → isCol (T j) = true := q2
  have hRW := RW_le p1 p2
  refine Ev_of omX9_fault.1 (Nat.le_of_ble_eq_true rfl) ?_
  refine Z_go kX9_fault okX9 [] 80 ?_
  exact ⟨rfl, _, rfl, hC, hS⟩
theorem x_torn (hS : okSg S) (hC : RC S C) : Ev g mX9_torn [vr 0] (cW S C) (CV (op_torn S)) := by
  obtain ⟨⟨R, W, m, D⟩, ⟨tn, T⟩, ⟨n, TP⟩, ⟨sn, w⟩, im, sh, tf, rf⟩ := S
  obtain ⟨b, t, tp, ⟨st, nx, tk, fro, dR, dW, dm, db⟩, te, ⟨sl, ln⟩, sd, ia, sa⟩ := C
  obtain ⟨⟨p1, p2, p3, p4, p5⟩, ⟨q1, q2⟩, ⟨o3, o4⟩, ⟨o5, o5b⟩, o6, o7, o8, o9⟩ := id hS
  obtain ⟨h1, h2, h3, h4, h5, h6⟩ := id hC
  have p1 : R ≤ 12 := p1
  have p2 : W ≤ 16 := p2
  have p3 : m ≤ 1 := p3
  have p4 : R = 0 → W = 0 := p4
  have p5 : R ≠ 0 → 1 ≤ W := p5
  have q1 : tn ≤ R * W := q1
  have q2 : ∀ j, j < tn → isCol (T j) = true := q2
  have hRW := RW_le p1 p2
  refine Ev_of omX9_torn.1 (Nat.le_of_ble_eq_true rfl) ?_
  refine Z_go kX9_torn okX9 [] 80 ?_
  exact ⟨rfl, _, rfl, hC, hS⟩
theorem x_tell (hS : okSg S) (hC : RC S C) (v : Int32) : Ev g mX9_tell [vr 0, vi v] (cW S C) (CV (op_tell S v)) := by
  obtain ⟨⟨R, W, m, D⟩, ⟨tn, T⟩, ⟨n, TP⟩, ⟨sn, w⟩, im, sh, tf, rf⟩ := S
  obtain ⟨b, t, tp, ⟨st, nx, tk, fro, dR, dW, dm, db⟩, te, ⟨sl, ln⟩, sd, ia, sa⟩ := C
  obtain ⟨⟨p1, p2, p3, p4, p5⟩, ⟨q1, q2⟩, ⟨o3, o4⟩, ⟨o5, o5b⟩, o6, o7, o8, o9⟩ := id hS
  obtain ⟨h1, h2, h3, h4, h5, h6⟩ := id hC
  have p1 : R ≤ 12 := p1
  have p2 : W ≤ 16 := p2
  have p3 : m ≤ 1 := p3
  have p4 : R = 0 → W = 0 := p4
  have p5 : R ≠ 0 → 1 ≤ W := p5
  have q1 : tn ≤ R * W := q1
  have q2 : ∀ j, j < tn → isCol (T j) = true := q2
  have hRW := RW_le p1 p2
  unfold op_tell
  dsimp only
  refine Ev_of omX9_tell.1 (Nat.le_of_ble_eq_true rfl) ?_
  refine Z_go kX9_tell okX9 [] 80 ?_
  refine ⟨fun (h : v < 0) => ?_, fun (h : ¬ v < 0) => ⟨fun (h7 : v ≤ nI 99) => ?_, fun (h7 : ¬ v ≤ nI 99) => ?_⟩⟩
  · rw [if_pos (Or.inl h)]; exact ⟨rfl, _, rfl, hC, hS⟩
  · rw [if_neg (fun z => z.elim h (fun z => Int32.not_lt.mpr h7 z))]
    obtain ⟨k, hk, rfl⟩ := in_n (by omega) h h7
    by_cases hn : sn = 40
    · rw [if_pos hn]
      refine ⟨rfl, (c_sltake_full hn).fr [12, 13, 14] rfl (by decide) rfl ?_⟩
      refine ⟨fun _ => ⟨rfl, _, rfl, hC, hS⟩, fun z => absurd rfl z⟩
    · rw [if_neg hn, nOf_n (by omega)]
      refine ⟨rfl, (c_sltake (by omega)).fr [12, 13, 14] rfl (by decide) rfl ?_⟩
      refine ⟨fun z => (z1 z).elim, fun _ => ⟨rfl, (b, t, tp, (st, nx, tk, fro, dR, dW, dm, db), te, (upd sl sn (nI k), ln), sd, ia, sa), rfl, ⟨h1, h2, h3, ?_, h5, h6⟩, ⟨p1, p2, p3, p4, p5⟩, ⟨q1, q2⟩, ⟨o3, o4⟩, ⟨by omega, ?_⟩, o6, o7, o8, o9⟩⟩
      · intro j hj
        show upd sl sn (nI k) j = nI (if j = sn then k else w j)
        by_cases e : j = sn
        · rw [e, updS, if_pos rfl]
        · rw [updN e, if_neg e]; exact h4 j (by omega)
      · intro j hj
        by_cases e : j = sn
        · dsimp only; rw [if_pos e]; exact hk
        · dsimp only; rw [if_neg e]; exact o5b j (by omega)
  · rw [if_pos (Or.inr (Int32.not_le.mp h7))]; exact ⟨rfl, _, rfl, hC, hS⟩
theorem x_tear (hS : okSg S) (hC : RC S C) : Ev g mX9_tear [vr 0] (cW S C) (CV (op_tear S)) := by
  obtain ⟨⟨R, W, m, D⟩, ⟨tn, T⟩, ⟨n, TP⟩, ⟨sn, w⟩, im, sh, tf, rf⟩ := S
  obtain ⟨b, t, tp, ⟨st, nx, tk, fro, dR, dW, dm, db⟩, te, ⟨sl, ln⟩, sd, ia, sa⟩ := C
  obtain ⟨⟨p1, p2, p3, p4, p5⟩, ⟨q1, q2⟩, ⟨o3, o4⟩, ⟨o5, o5b⟩, o6, o7, o8, o9⟩ := id hS
  obtain ⟨h1, h2, h3, h4, h5, h6⟩ := id hC
  have p1 : R ≤ 12 := p1
  have p2 : W ≤ 16 := p2
  have p3 : m ≤ 1 := p3
  have p4 : R = 0 → W = 0 := p4
  have p5 : R ≠ 0 → 1 ≤ W := p5
  have q1 : tn ≤ R * W := q1
  have q2 : ∀ j, j < tn → isCol (T j) = true := q2
  have hRW := RW_le p1 p2
  unfold op_tear
  dsimp only
  refine Ev_of omX9_tear.1 (Nat.le_of_ble_eq_true rfl) ?_
  refine Z_go kX9_tear okX9 [] 80 ?_
  exact ⟨rfl, (b, t, tp, (st, nx, tk, fro, dR, dW, dm, db), te, (sl, ln), sd, ia, sa), rfl, ⟨h1, h2, h3, fun i hi => absurd hi (by omega), h5, h6⟩, ⟨p1, p2, p3, p4, p5⟩, ⟨q1, q2⟩, ⟨o3, o4⟩, ⟨by omega, fun i hi => absurd hi (by omega)⟩, o6, o7, o8, o9⟩
theorem x_bead (hS : okSg S) (hC : RC S C) (r c : Int32) : Ev g mX9_bead [vr 0, vi r, vi c] (cW S C) (CV (op_bead S r c)) := by
  obtain ⟨⟨R, W, m, D⟩, ⟨tn, T⟩, ⟨n, TP⟩, ⟨sn, w⟩, im, sh, tf, rf⟩ := S
  obtain ⟨b, t, tp, ⟨st, nx, tk, fro, dR, dW, dm, db⟩, te, ⟨sl, ln⟩, sd, ia, sa⟩ := C
  obtain ⟨⟨p1, p2, p3, p4, p5⟩, ⟨q1, q2⟩, ⟨o3, o4⟩, ⟨o5, o5b⟩, o6, o7, o8, o9⟩ := id hS
  obtain ⟨h1, h2, h3, h4, h5, h6⟩ := id hC
  have p1 : R ≤ 12 := p1
  have p2 : W ≤ 16 := p2
  have p3 : m ≤ 1 := p3
  have p4 : R = 0 → W = 0 := p4
  have p5 : R ≠ 0 → 1 ≤ W := p5
  have q1 : tn ≤ R * W := q1
  have q2 : ∀ j, j < tn → isCol (T j) = true := q2
  have hRW := RW_le p1 p2
  unfold op_bead
  dsimp only
  refine Ev_of omX9_bead.1 (Nat.le_of_ble_eq_true rfl) ?_
  refine Z_go kX9_bead okX9 [] 80 ?_
  refine ⟨rfl, (c_hasBead r c).fr [1, 2] rfl (by decide) rfl ?_⟩
  cases hh : (hasRow R r && hasRow W c) with
  | false => exact ⟨fun _ => ⟨rfl, _, rfl, hC, hS⟩, fun z => absurd rfl z⟩
  | true =>
    rw [Bool.and_eq_true] at hh
    obtain ⟨k, hk, rfl, e1⟩ := hasRow_of (by omega) hh.1
    obtain ⟨j, hj, rfl, e2⟩ := hasRow_of (by omega) hh.2
    rw [e1, e2]
    refine ⟨fun z => (z1 z).elim, fun _ => ?_⟩
    refine ⟨rfl, (c_colourAt h1 p1 p2 hk hj).fr [1, 2] rfl (by decide) rfl ?_⟩
    exact ⟨rfl, _, rfl, hC, hS⟩
theorem x_many (hS : okSg S) (hC : RC S C) (r x : Int32) : Ev g mX9_many [vr 0, vi r, vi x] (cW S C) (CV (op_many S r x)) := by
  obtain ⟨⟨R, W, m, D⟩, ⟨tn, T⟩, ⟨n, TP⟩, ⟨sn, w⟩, im, sh, tf, rf⟩ := S
  obtain ⟨b, t, tp, ⟨st, nx, tk, fro, dR, dW, dm, db⟩, te, ⟨sl, ln⟩, sd, ia, sa⟩ := C
  obtain ⟨⟨p1, p2, p3, p4, p5⟩, ⟨q1, q2⟩, ⟨o3, o4⟩, ⟨o5, o5b⟩, o6, o7, o8, o9⟩ := id hS
  obtain ⟨h1, h2, h3, h4, h5, h6⟩ := id hC
  have p1 : R ≤ 12 := p1
  have p2 : W ≤ 16 := p2
  have p3 : m ≤ 1 := p3
  have p4 : R = 0 → W = 0 := p4
  have p5 : R ≠ 0 → 1 ≤ W := p5
  have q1 : tn ≤ R * W := q1
  have q2 : ∀ j, j < tn → isCol (T j) = true := q2
  have hRW := RW_le p1 p2
  unfold op_many
  dsimp only
  refine Ev_of omX9_many.1 (Nat.le_of_ble_eq_true rfl) ?_
  refine Z_go kX9_many okX9 [] 80 ?_
  refine (c_isColour x).use ?_
  cases hx : isCol x with
  | false => exact ⟨fun z => absurd rfl z, fun _ => ⟨rfl, _, rfl, hC, hS⟩⟩
  | true =>
    refine ⟨fun _ => ?_, fun (z : ¬ ¬ nI 1 = 0) => absurd z1 z⟩
    rw [if_pos rfl]
    refine ⟨fun (h : ¬ r = -nI 4) => ?_, fun (h : ¬ ¬ r = -nI 4) => ?_⟩
    · rw [if_neg h]
      refine ⟨rfl, (c_hasRow r).fr [1, 2] rfl (by decide) rfl ?_⟩
      cases hh : hasRow R r with
      | false => exact ⟨fun _ => ⟨rfl, _, rfl, hC, hS⟩, fun z => absurd rfl z⟩
      | true =>
        obtain ⟨k, hk, rfl, e1⟩ := hasRow_of (by omega) hh
        rw [e1]
        refine ⟨fun z => (z1 z).elim, fun _ => ?_⟩
        refine ⟨rfl, (c_manyIn x h1 p1 hk p2).fr [1, 2] rfl (by decide) rfl ?_⟩
        exact ⟨rfl, _, rfl, hC, hS⟩
    · rw [if_pos (Classical.not_not.mp h)]
      refine ⟨rfl, (c_manyInAll x h1 p1 p2).fr [1, 2] rfl (by decide) rfl ?_⟩
      exact ⟨rfl, _, rfl, hC, hS⟩
theorem x_string (hS : okSg S) (hC : RC S C) (x : Int32) : Ev g mX9_string [vr 0, vi x] (cW S C) (CV (op_string S x)) := by
  obtain ⟨⟨R, W, m, D⟩, ⟨tn, T⟩, ⟨n, TP⟩, ⟨sn, w⟩, im, sh, tf, rf⟩ := S
  obtain ⟨b, t, tp, ⟨st, nx, tk, fro, dR, dW, dm, db⟩, te, ⟨sl, ln⟩, sd, ia, sa⟩ := C
  obtain ⟨⟨p1, p2, p3, p4, p5⟩, ⟨q1, q2⟩, ⟨o3, o4⟩, ⟨o5, o5b⟩, o6, o7, o8, o9⟩ := id hS
  obtain ⟨h1, h2, h3, h4, h5, h6⟩ := id hC
  have p1 : R ≤ 12 := p1
  have p2 : W ≤ 16 := p2
  have p3 : m ≤ 1 := p3
  have p4 : R = 0 → W = 0 := p4
  have p5 : R ≠ 0 → 1 ≤ W := p5
  have q1 : tn ≤ R * W := q1
  have q2 : ∀ j, j < tn → isCol (T j) = true := q2
  have hRW := RW_le p1 p2
  unfold op_string
  dsimp only
  refine Ev_of omX9_string.1 (Nat.le_of_ble_eq_true rfl) ?_
  refine Z_go kX9_string okX9 [] 80 ?_
  refine (c_isColour x).use ?_
  cases hx : isCol x with
  | false => exact ⟨fun z => absurd rfl z, fun _ => ⟨rfl, _, rfl, hC, hS⟩⟩
  | true =>
    refine ⟨fun _ => ?_, fun (z : ¬ ¬ nI 1 = 0) => absurd z1 z⟩
    rw [if_pos rfl]
    refine ⟨rfl, (c_size p1 p2).fr [1, 2] rfl (by decide) rfl ?_⟩
    refine ⟨fun (h : nI tn < nI (R * W)) => ?_, fun (h : ¬ nI tn < nI (R * W)) => ?_⟩
    · rw [nI_ltI (by omega) (by omega)] at h
      rw [if_neg (by omega)]
      refine ⟨rfl, (c_stake (by omega)).fr [3, 4] rfl (by decide) rfl ?_⟩
      refine ⟨rfl, (b, upd t tn x, tp, (st, nx, tk, fro, dR, dW, dm, db), te, (sl, ln), sd, ia, sa), rfl, ⟨h1, ?_, h3, h4, h5, h6⟩, ⟨p1, p2, p3, p4, p5⟩, ⟨h, ?_⟩, ⟨o3, o4⟩, ⟨o5, o5b⟩, o6, o7, o8, o9⟩
      · intro j hj
        by_cases e : j = tn
        · rw [e, updS, updS]
        · rw [updN e, updN e]; exact h2 j (by omega)
      · intro j hj
        have hj : j < tn + 1 := hj
        show isCol (upd T tn x j) = true
        by_cases e : j = tn
        · rw [e, updS]; exact hx
        · rw [updN e]; exact q2 j (by omega)
    · rw [nI_ltI (by omega) (by omega)] at h
      rw [if_pos (by omega)]
      exact ⟨rfl, _, rfl, hC, hS⟩
theorem x_off (hS : okSg S) (hC : RC S C) (k : Int32) : Ev g mX9_off [vr 0, vi k] (cW S C) (CV (op_off S k)) := by
  obtain ⟨⟨R, W, m, D⟩, ⟨tn, T⟩, ⟨n, TP⟩, ⟨sn, w⟩, im, sh, tf, rf⟩ := S
  obtain ⟨b, t, tp, ⟨st, nx, tk, fro, dR, dW, dm, db⟩, te, ⟨sl, ln⟩, sd, ia, sa⟩ := C
  obtain ⟨⟨p1, p2, p3, p4, p5⟩, ⟨q1, q2⟩, ⟨o3, o4⟩, ⟨o5, o5b⟩, o6, o7, o8, o9⟩ := id hS
  obtain ⟨h1, h2, h3, h4, h5, h6⟩ := id hC
  have p1 : R ≤ 12 := p1
  have p2 : W ≤ 16 := p2
  have p3 : m ≤ 1 := p3
  have p4 : R = 0 → W = 0 := p4
  have p5 : R ≠ 0 → 1 ≤ W := p5
  have q1 : tn ≤ R * W := q1
  have q2 : ∀ j, j < tn → isCol (T j) = true := q2
  have hRW := RW_le p1 p2
  unfold op_off
  dsimp only
  refine Ev_of omX9_off.1 (Nat.le_of_ble_eq_true rfl) ?_
  refine Z_go kX9_off okX9 [] 80 ?_
  refine ⟨fun (h : k < 0) => ?_, fun (h : ¬ k < 0) => ⟨fun (h7 : k ≤ nI tn) => ?_, fun (h7 : ¬ k ≤ nI tn) => ?_⟩⟩
  · rw [if_pos (Or.inl h)]; exact ⟨rfl, _, rfl, hC, hS⟩
  · rw [if_neg (fun z => z.elim h (fun z => Int32.not_lt.mpr h7 z))]
    obtain ⟨j, hj, rfl⟩ := in_n (by omega) h h7
    rw [nOf_n (by omega)]
    have e : nI tn - nI j = nI (tn - j) := pk_sub hj
    refine ⟨by rw [← e], (b, t, tp, (st, nx, tk, fro, dR, dW, dm, db), te, (sl, ln), sd, ia, sa), ?_, ⟨h1, fun i hi => h2 i (by omega), h3, h4, h5, h6⟩, ⟨p1, p2, p3, p4, p5⟩, ⟨by show tn - j ≤ R * W; omega, fun i hi => q2 i (by have : i < tn - j := hi; omega)⟩, ⟨o3, o4⟩, ⟨o5, o5b⟩, o6, o7, o8, o9⟩
    unfold cW
    dsimp only
    rw [← e]
    rfl
  · rw [if_pos (Or.inr (Int32.not_le.mp h7))]; exact ⟨rfl, _, rfl, hC, hS⟩
theorem x_plan (hS : okSg S) (hC : RC S C) (i : Int32) : Ev g mX9_plan [vr 0, vi i] (cW S C) (CV (op_plan S i)) := by
  obtain ⟨⟨R, W, m, D⟩, ⟨tn, T⟩, ⟨n, TP⟩, ⟨sn, w⟩, im, sh, tf, rf⟩ := S
  obtain ⟨b, t, tp, ⟨st, nx, tk, fro, dR, dW, dm, db⟩, te, ⟨sl, ln⟩, sd, ia, sa⟩ := C
  obtain ⟨⟨p1, p2, p3, p4, p5⟩, ⟨q1, q2⟩, ⟨o3, o4⟩, ⟨o5, o5b⟩, o6, o7, o8, o9⟩ := id hS
  obtain ⟨h1, h2, h3, h4, h5, h6⟩ := id hC
  have p1 : R ≤ 12 := p1
  have p2 : W ≤ 16 := p2
  have p3 : m ≤ 1 := p3
  have p4 : R = 0 → W = 0 := p4
  have p5 : R ≠ 0 → 1 ≤ W := p5
  have q1 : tn ≤ R * W := q1
  have q2 : ∀ j, j < tn → isCol (T j) = true := q2
  have hRW := RW_le p1 p2
  unfold op_plan
  dsimp only
  refine Ev_of omX9_plan.1 (Nat.le_of_ble_eq_true rfl) ?_
  refine Z_go kX9_plan okX9 [] 80 ?_
  refine ⟨fun (h : 0 ≤ i) => ?_, fun (h : ¬ 0 ≤ i) => ?_⟩
  · have h0 : ¬ i < 0 := Int32.not_lt.mpr h
    rw [if_neg h0]
    by_cases h7 : nI (R * W) ≤ i
    · rw [if_pos h7]
      refine ⟨rfl, (c_planAt_out p1 p2 (Or.inr h7)).fr [1, 2] rfl (by decide) rfl ?_⟩
      exact ⟨rfl, _, rfl, hC, hS⟩
    · rw [if_neg h7]
      obtain ⟨j, hj, rfl⟩ := nI_of h0
      rw [nI_leI (by omega) hj] at h7
      rw [nOf_n hj]
      refine ⟨rfl, (c_planAt h1 p1 p2 p3 (by omega)).fr [1, 2] rfl (by decide) rfl ?_⟩
      exact ⟨rfl, _, rfl, hC, hS⟩
  · rw [if_pos (Int32.not_le.mp h)]; exact ⟨rfl, _, rfl, hC, hS⟩
theorem x_mode (hS : okSg S) (hC : RC S C) (v : Int32) : Ev g mX9_mode [vr 0, vi v] (cW S C) (CV (op_mode S v)) := by
  obtain ⟨⟨R, W, m, D⟩, ⟨tn, T⟩, ⟨n, TP⟩, ⟨sn, w⟩, im, sh, tf, rf⟩ := S
  obtain ⟨b, t, tp, ⟨st, nx, tk, fro, dR, dW, dm, db⟩, te, ⟨sl, ln⟩, sd, ia, sa⟩ := C
  obtain ⟨⟨p1, p2, p3, p4, p5⟩, ⟨q1, q2⟩, ⟨o3, o4⟩, ⟨o5, o5b⟩, o6, o7, o8, o9⟩ := id hS
  obtain ⟨h1, h2, h3, h4, h5, h6⟩ := id hC
  have p1 : R ≤ 12 := p1
  have p2 : W ≤ 16 := p2
  have p3 : m ≤ 1 := p3
  have p4 : R = 0 → W = 0 := p4
  have p5 : R ≠ 0 → 1 ≤ W := p5
  have q1 : tn ≤ R * W := q1
  have q2 : ∀ j, j < tn → isCol (T j) = true := q2
  have hRW := RW_le p1 p2
  unfold op_mode
  dsimp only
  refine Ev_of omX9_mode.1 (Nat.le_of_ble_eq_true rfl) ?_
  refine Z_go kX9_mode okX9 [] 80 ?_
  refine ⟨fun (h : v < 0) => ?_, fun (h : ¬ v < 0) => ⟨fun (h7 : v ≤ nI 1) => ?_, fun (h7 : ¬ v ≤ nI 1) => ?_⟩⟩
  · rw [if_pos (Or.inl h)]; exact ⟨rfl, _, rfl, hC, hS⟩
  · rw [if_neg (fun z => z.elim h (fun z => Int32.not_lt.mpr h7 z))]
    obtain ⟨j, hj, rfl⟩ := in_n (by omega) h h7
    rw [nOf_n (by omega)]
    exact ⟨rfl, (b, t, tp, (st, nx, tk, fro, dR, dW, dm, db), te, (sl, ln), sd, ia, sa), rfl, ⟨h1, fun i hi => absurd hi (by omega), h3, h4, h5, h6⟩, ⟨p1, p2, hj, p4, p5⟩, ⟨Nat.zero_le _, fun i (hi : i < 0) => absurd hi (by omega)⟩, ⟨o3, o4⟩, ⟨o5, o5b⟩, o6, o7, o8, o9⟩
  · rw [if_pos (Or.inr (Int32.not_le.mp h7))]; exact ⟨rfl, _, rfl, hC, hS⟩
theorem vin {k n : Nat} (h : k < n) (hn : n ≤ 1000) : vp_in (nI k) n := vp_in_nI h (by omega)
theorem x_imagesThere (hS : okSg S) (hC : RC S C) : Dt g mX9_imagesThere [vr 0] (cW S C) (some (vi (nI (fl (S.2.2.2.2.1 0).1 + fl (S.2.2.2.2.1 1).1)))) (cW S C) := by
  obtain ⟨⟨R, W, m, D⟩, ⟨tn, T⟩, ⟨n, TP⟩, ⟨sn, w⟩, im, sh, tf, rf⟩ := S
  obtain ⟨b, t, tp, ⟨st, nx, tk, fro, dR, dW, dm, db⟩, te, ⟨sl, ln⟩, sd, ia, sa⟩ := C
  obtain ⟨⟨p1, p2, p3, p4, p5⟩, ⟨q1, q2⟩, ⟨o3, o4⟩, ⟨o5, o5b⟩, o6, o7, o8, o9⟩ := id hS
  obtain ⟨h1, h2, h3, h4, h5, h6⟩ := id hC
  have p1 : R ≤ 12 := p1
  have p2 : W ≤ 16 := p2
  have p3 : m ≤ 1 := p3
  have p4 : R = 0 → W = 0 := p4
  have p5 : R ≠ 0 → 1 ≤ W := p5
  have q1 : tn ≤ R * W := q1
  have q2 : ∀ j, j < tn → isCol (T j) = true := q2
  have hRW := RW_le p1 p2
  dsimp only
  have e1 : nI 0 + nI 1 = nI 1 := by decide +kernel
  have e2 : nI 1 + nI 1 = nI 2 := by decide +kernel
  have step : ∀ s : Nat, Z g mX9_imagesThere 36 (fun r B => r = some (vi (nI (s + fl (im 1).1))) ∧ B = cW ((R, W, m, D), (tn, T), (n, TP), (sn, w), im, sh, tf, rf) (b, t, tp, (st, nx, tk, fro, dR, dW, dm, db), te, (sl, ln), sd, ia, sa)) 4 [some (vr 0), some (vi (nI s)), some (vi (nI 1))] [] (cW ((R, W, m, D), (tn, T), (n, TP), (sn, w), im, sh, tf, rf) (b, t, tp, (st, nx, tk, fro, dR, dW, dm, db), te, (sl, ln), sd, ia, sa)) := by
    intro s
    refine Z_go kX9_imagesThere okX9 [] 80 ?_
    refine ⟨fun z => absurd (show nI 2 ≤ nI 1 from z) (by decide), fun _ => ⟨Or.inl rfl, vin (by omega) (by omega), ?_⟩⟩
    rw [show (nI 1).toNatClampNeg = 1 from rfl]
    cases e3 : (im 1).1 with
    | false => exact ⟨fun _ => ⟨fun _ => ⟨rfl, rfl⟩, fun z => absurd (show nI 2 ≤ nI 1 + nI 1 by decide) z⟩, fun z => absurd (show nI (fl (im 1).1) = 0 by rw [e3]; rfl) z⟩
    | true => exact ⟨fun z => absurd (show nI (fl (im 1).1) = 0 from z) (by rw [e3]; decide), fun _ => ⟨fun _ => ⟨by rw [nI_add]; rfl, rfl⟩, fun z => absurd (show nI 2 ≤ nI 1 + nI 1 by decide) z⟩⟩
  refine Ev_of omX9_imagesThere.1 (Nat.le_of_ble_eq_true rfl) ?_
  refine Z_go kX9_imagesThere okX9 [4] 80 ?_
  refine Z_go kX9_imagesThere okX9 [4] 80 ?_
  refine ⟨fun z => absurd (show nI 2 ≤ nI 0 from z) (by decide), fun _ => ⟨Or.inl rfl, vin (by omega) (by omega), ?_⟩⟩
  rw [show (nI 0).toNatClampNeg = 0 from rfl]
  cases e0 : (im 0).1 with
  | false =>
    refine ⟨fun _ => ?_, fun z => absurd (show nI (fl (im 0).1) = 0 by rw [e0]; rfl) z⟩
    have k := step 0
    rw [← e1] at k
    exact k
  | true =>
    refine ⟨fun z => absurd (show nI (fl (im 0).1) = 0 from z) (by rw [e0]; decide), fun _ => ?_⟩
    have k := step 1
    rw [← e1] at k
    exact k
theorem x_count (hS : okSg S) (hC : RC S C) (x : Int32) : Ev g mX9_count [vr 0, vi x] (cW S C) (CV (op_count S x)) := by
  have hi := x_imagesThere (g := g) hS hC
  obtain ⟨⟨R, W, m, D⟩, ⟨tn, T⟩, ⟨n, TP⟩, ⟨sn, w⟩, im, sh, tf, rf⟩ := S
  obtain ⟨b, t, tp, ⟨st, nx, tk, fro, dR, dW, dm, db⟩, te, ⟨sl, ln⟩, sd, ia, sa⟩ := C
  obtain ⟨⟨p1, p2, p3, p4, p5⟩, ⟨q1, q2⟩, ⟨o3, o4⟩, ⟨o5, o5b⟩, o6, o7, o8, o9⟩ := id hS
  obtain ⟨h1, h2, h3, h4, h5, h6⟩ := id hC
  have p1 : R ≤ 12 := p1
  have p2 : W ≤ 16 := p2
  have p3 : m ≤ 1 := p3
  have p4 : R = 0 → W = 0 := p4
  have p5 : R ≠ 0 → 1 ≤ W := p5
  have q1 : tn ≤ R * W := q1
  have q2 : ∀ j, j < tn → isCol (T j) = true := q2
  have hRW := RW_le p1 p2
  unfold op_count
  dsimp only
  refine Ev_of omX9_count.1 (Nat.le_of_ble_eq_true rfl) ?_
  refine Z_go kX9_count okX9 [] 80 ?_
  refine ⟨fun (z0 : x = nI 0) => ?_, fun (z0 : ¬ x = nI 0) => ⟨fun (z1 : x = nI 1) => ?_, fun (z1 : ¬ x = nI 1) => ⟨fun (z2 : x = nI 2) => ?_, fun (z2 : ¬ x = nI 2) => ?_⟩⟩⟩
  · rw [if_pos z0]
    refine ⟨rfl, hi.use ?_⟩
    exact ⟨rfl, _, rfl, hC, hS⟩
  · rw [if_neg z0, if_pos z1]; exact ⟨rfl, _, rfl, hC, hS⟩
  · rw [if_neg z0, if_neg z1, if_pos z2]
    refine ⟨Or.inr rfl, vin (by omega) (by omega), ?_⟩
    refine ⟨fun (h : ¬ (sh 0).1 = -nI 4) => ?_, fun (h : ¬ ¬ (sh 0).1 = -nI 4) => ?_⟩
    · rw [if_neg h]
      refine ⟨Or.inr rfl, vin (by omega) (by omega), ?_⟩
      exact ⟨rfl, _, rfl, hC, hS⟩
    · rw [if_pos (Classical.not_not.mp h)]; exact ⟨rfl, _, rfl, hC, hS⟩
  · rw [if_neg z0, if_neg z1, if_neg z2]; exact ⟨rfl, _, rfl, hC, hS⟩
end CMP
