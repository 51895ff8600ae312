section CMP
variable {g : GG} {S : Sg} {C : Ca}
theorem c_isSheet {A : AH} (x : Int32) : Dt g mX9_isSheet [vi x] A (some (vi (nI (fl (hasRow 4 x))))) A := by
  refine Ev_of omX9_isSheet.1 (Nat.le_of_ble_eq_true rfl) ?_
  refine Z_go kX9_isSheet okX9 [] 80 ?_
  refine ⟨fun (h : x < 0) => ⟨Or.inl rfl, ?_, rfl⟩, fun (h : ¬ x < 0) => ⟨fun (h2 : nI 4 ≤ x) => ⟨Or.inl rfl, ?_, rfl⟩, fun (h2 : ¬ nI 4 ≤ x) => ⟨Or.inr rfl, ?_, rfl⟩⟩⟩
  · simp [hasRow, h, fl]
  · have : ¬ x < nI 4 := Int32.not_lt.mpr h2
    simp [hasRow, this, fl]
  · have : x < nI 4 := Int32.not_le.mp h2
    simp [hasRow, this, h, fl]
theorem c_isLane {A : AH} (x : Int32) : Dt g mX9_isLane [vi x] A (some (vi (nI (fl (hasRow 3 x))))) A := by
  refine Ev_of omX9_isLane.1 (Nat.le_of_ble_eq_true rfl) ?_
  refine Z_go kX9_isLane okX9 [] 80 ?_
  refine ⟨fun (h : x < 0) => ⟨Or.inl rfl, ?_, rfl⟩, fun (h : ¬ x < 0) => ⟨fun (h2 : nI 3 ≤ x) => ⟨Or.inl rfl, ?_, rfl⟩, fun (h2 : ¬ nI 3 ≤ x) => ⟨Or.inr rfl, ?_, rfl⟩⟩⟩
  · simp [hasRow, h, fl]
  · have : ¬ x < nI 3 := Int32.not_lt.mpr h2
    simp [hasRow, this, fl]
  · have : x < nI 3 := Int32.not_le.mp h2
    simp [hasRow, this, h, fl]
theorem cpyH {b b' : Nat → Int32} {D : Nat → Nat → Int32} {R W : Nat} (hR : R ≤ 12) (hW : W ≤ 16) (h : Hd b D R W) : Hd (va_cpy b b' 0 0 192) D R W := by
  intro r c hr hc
  rw [sb_cpy0 (by omega)]
  exact h r c hr hc
theorem x_keep (hS : okSg S) (hC : RC S C) (k : Int32) : Ev g mX9_keep [vr 0, vi k] (cW S C) (CV (op_keep S k)) := by
  obtain ⟨⟨R, W, m, D⟩, ⟨tn, T⟩, ⟨n, TP⟩, ⟨sn, w⟩, im, sh, tf, rf⟩ := S
  obtain ⟨b, t, tp, ⟨st, nx, tk, fro, dR, dW, dm, db⟩, te, ⟨sl, ln⟩, sd, ia, sa⟩ := C
  obtain ⟨⟨p1, p2, p3, p4, p5⟩, ⟨q1, q2⟩, ⟨o3, o4⟩, ⟨o5, o5b⟩, o6, o7, o8, o9⟩ := id hS
  obtain ⟨h1, h2, h3, h4, h5, h6⟩ := id hC
  have p1 : R ≤ 12 := p1
  have p2 : W ≤ 16 := p2
  have p3 : m ≤ 1 := p3
  have p4 : R = 0 → W = 0 := p4
  have p5 : R ≠ 0 → 1 ≤ W := p5
  have q1 : tn ≤ R * W := q1
  have q2 : ∀ j, j < tn → isCol (T j) = true := q2
  have hRW := RW_le p1 p2
  unfold op_keep
  dsimp only
  cases hk : hasRow 2 k with
  | false =>
    rw [if_neg (by simp)]
    refine Ev_of omX9_keep.1 (Nat.le_of_ble_eq_true rfl) ?_
    refine Z_go kX9_keep okX9 [] 80 ?_
    refine ⟨fun _ => ⟨rfl, _, rfl, hC, hS⟩, fun (h : ¬ k < 0) => ⟨fun (h7 : k < nI 2) => ?_, fun _ => ⟨rfl, _, rfl, hC, hS⟩⟩⟩
    rcases hasRow_no hk with z | z
    · exact absurd z h
    · exact absurd h7 (Int32.not_lt.mpr z)
  | true =>
    rw [if_pos rfl]
    obtain ⟨j, hj, rfl, e1⟩ := hasRow_of (by omega) hk
    rw [e1]
    have hj2 : j = 0 ∨ j = 1 := by omega
    rcases hj2 with rfl | rfl
    · have fin : ∀ v : Int32, v = nI (fl (im 0).1) → Z g mX9_keep 36 (CV (nI (fl (im 0).1), (R, W, m, D), (tn, T), (n, TP), (sn, w), (fun j => if j = 0 then (true, (R, W, m, D), (tn, T)) else im j), sh, tf, rf)) 30 [some (vr 0), some (vi (nI 0)), some (vr 18), none] [vi v] (cW ((R, W, m, D), (tn, T), (n, TP), (sn, w), im, sh, tf, rf) (b, t, tp, (st, nx, tk, fro, dR, dW, dm, db), te, (sl, ln), sd, ia, sa)) := by
        intro v hv
        refine Z_go kX9_keep okX9 [] 80 ?_
        refine ⟨Or.inr rfl, ?_⟩
        refine ⟨rfl, (c_become (R := (im 0).2.1.1) (W := (im 0).2.1.2.1) (m := (im 0).2.1.2.2.1) (b := (ia 0).1) (R' := R) (W' := W) (m' := m) (b' := b)).fr [19, 20, 1, 2] rfl (by decide) rfl ?_⟩
        refine ⟨rfl, (c_sbecome (tn := (im 0).2.2.1) (t := (ia 0).2) (tn' := tn) (t' := t)).fr [21, 22, 3, 4] rfl (by decide) rfl ?_⟩
        refine ⟨by rw [hv], (b, t, tp, (st, nx, tk, fro, dR, dW, dm, db), te, (sl, ln), sd, (fun j => if j = 0 then (va_cpy b (ia 0).1 0 0 192, va_cpy t (ia 0).2 0 0 192) else ia j), sa), rfl, ⟨h1, h2, h3, h4, ?_, h6⟩, ⟨p1, p2, p3, p4, p5⟩, ⟨q1, q2⟩, ⟨o3, o4⟩, ⟨o5, o5b⟩, ?_, o7, o8, o9⟩
        · intro z hz
          by_cases e : z = 0
          · subst e
            refine ⟨cpyH p1 p2 h1, fun j hj => ?_⟩
            have hj : j < tn := hj
            show va_cpy t (ia 0).2 0 0 192 j = T j
            rw [sb_cpy0 (by omega)]
            exact h2 j hj
          · dsimp only
            rw [if_neg e, if_neg e]
            exact h5 z hz
        · intro z hz
          by_cases e : z = 0
          · subst e
            exact ⟨⟨p1, p2, p3, p4, p5⟩, ⟨q1, q2⟩⟩
          · dsimp only
            rw [if_neg e]
            exact o6 z hz
      refine Ev_of omX9_keep.1 (Nat.le_of_ble_eq_true rfl) ?_
      refine Z_go kX9_keep okX9 [30] 80 ?_
      refine ⟨fun (h : nI 0 < 0) => absurd h (nI_pos (by omega)), fun _ => ⟨fun _ => ?_, fun (h : ¬ nI 0 < nI 2) => absurd (nI_lt (by omega) (by omega)) h⟩⟩
      refine ⟨Or.inl rfl, vin (by omega) (by omega), ?_⟩
      rw [show (nI 0).toNatClampNeg = 0 from rfl]
      cases e0 : (im 0).1 with
      | false =>
        refine ⟨fun _ => ?_, fun z => absurd (show nI (fl (im 0).1) = 0 by rw [e0]; rfl) z⟩
        have k := fin (nI 0) (by rw [e0]; rfl)
        rw [e0] at k
        exact k
      | true =>
        refine ⟨fun z => absurd (show nI (fl (im 0).1) = 0 from z) (by rw [e0]; decide), fun _ => ?_⟩
        have k := fin (nI 1) (by rw [e0]; rfl)
        rw [e0] at k
        exact k
    · have fin : ∀ v : Int32, v = nI (fl (im 1).1) → Z g mX9_keep 36 (CV (nI (fl (im 1).1), (R, W, m, D), (tn, T), (n, TP), (sn, w), (fun j => if j = 1 then (true, (R, W, m, D), (tn, T)) else im j), sh, tf, rf)) 30 [some (vr 0), some (vi (nI 1)), some (vr 23), none] [vi v] (cW ((R, W, m, D), (tn, T), (n, TP), (sn, w), im, sh, tf, rf) (b, t, tp, (st, nx, tk, fro, dR, dW, dm, db), te, (sl, ln), sd, ia, sa)) := by
        intro v hv
        refine Z_go kX9_keep okX9 [] 80 ?_
        refine ⟨Or.inr rfl, ?_⟩
        refine ⟨rfl, (c_become (R := (im 1).2.1.1) (W := (im 1).2.1.2.1) (m := (im 1).2.1.2.2.1) (b := (ia 1).1) (R' := R) (W' := W) (m' := m) (b' := b)).fr [24, 25, 1, 2] rfl (by decide) rfl ?_⟩
        refine ⟨rfl, (c_sbecome (tn := (im 1).2.2.1) (t := (ia 1).2) (tn' := tn) (t' := t)).fr [26, 27, 3, 4] rfl (by decide) rfl ?_⟩
        refine ⟨by rw [hv], (b, t, tp, (st, nx, tk, fro, dR, dW, dm, db), te, (sl, ln), sd, (fun j => if j = 1 then (va_cpy b (ia 1).1 0 0 192, va_cpy t (ia 1).2 0 0 192) else ia j), sa), rfl, ⟨h1, h2, h3, h4, ?_, h6⟩, ⟨p1, p2, p3, p4, p5⟩, ⟨q1, q2⟩, ⟨o3, o4⟩, ⟨o5, o5b⟩, ?_, o7, o8, o9⟩
        · intro z hz
          by_cases e : z = 1
          · subst e
            refine ⟨cpyH p1 p2 h1, fun j hj => ?_⟩
            have hj : j < tn := hj
            show va_cpy t (ia 1).2 0 0 192 j = T j
            rw [sb_cpy0 (by omega)]
            exact h2 j hj
          · dsimp only
            rw [if_neg e, if_neg e]
            exact h5 z hz
        · intro z hz
          by_cases e : z = 1
          · subst e
            exact ⟨⟨p1, p2, p3, p4, p5⟩, ⟨q1, q2⟩⟩
          · dsimp only
            rw [if_neg e]
            exact o6 z hz
      refine Ev_of omX9_keep.1 (Nat.le_of_ble_eq_true rfl) ?_
      refine Z_go kX9_keep okX9 [30] 80 ?_
      refine ⟨fun (h : nI 1 < 0) => absurd h (nI_pos (by omega)), fun _ => ⟨fun _ => ?_, fun (h : ¬ nI 1 < nI 2) => absurd (nI_lt (by omega) (by omega)) h⟩⟩
      refine ⟨Or.inl rfl, vin (by omega) (by omega), ?_⟩
      rw [show (nI 1).toNatClampNeg = 1 from rfl]
      cases e0 : (im 1).1 with
      | false =>
        refine ⟨fun _ => ?_, fun z => absurd (show nI (fl (im 1).1) = 0 by rw [e0]; rfl) z⟩
        have k := fin (nI 0) (by rw [e0]; rfl)
        rw [e0] at k
        exact k
      | true =>
        refine ⟨fun z => absurd (show nI (fl (im 1).1) = 0 from z) (by rw [e0]; decide), fun _ => ?_⟩
        have k := fin (nI 1) (by rw [e0]; rfl)
        rw [e0] at k
        exact k
theorem x_back (hS : okSg S) (hC : RC S C) (k : Int32) : Ev g mX9_back [vr 0, vi k] (cW S C) (CV (op_back S k)) := by
  obtain ⟨⟨R, W, m, D⟩, ⟨tn, T⟩, ⟨n, TP⟩, ⟨sn, w⟩, im, sh, tf, rf⟩ := S
  obtain ⟨b, t, tp, ⟨st, nx, tk, fro, dR, dW, dm, db⟩, te, ⟨sl, ln⟩, sd, ia, sa⟩ := C
  obtain ⟨⟨p1, p2, p3, p4, p5⟩, ⟨q1, q2⟩, ⟨o3, o4⟩, ⟨o5, o5b⟩, o6, o7, o8, o9⟩ := id hS
  obtain ⟨h1, h2, h3, h4, h5, h6⟩ := id hC
  have p1 : R ≤ 12 := p1
  have p2 : W ≤ 16 := p2
  have p3 : m ≤ 1 := p3
  have p4 : R = 0 → W = 0 := p4
  have p5 : R ≠ 0 → 1 ≤ W := p5
  have q1 : tn ≤ R * W := q1
  have q2 : ∀ j, j < tn → isCol (T j) = true := q2
  have hRW := RW_le p1 p2
  unfold op_back
  dsimp only
  cases hk : hasRow 2 k with
  | false =>
    rw [if_neg (by simp)]
    refine Ev_of omX9_back.1 (Nat.le_of_ble_eq_true rfl) ?_
    refine Z_go kX9_back okX9 [] 80 ?_
    refine ⟨fun _ => ⟨rfl, _, rfl, hC, hS⟩, fun (h : ¬ k < 0) => ⟨fun (h7 : k < nI 2) => ?_, fun _ => ⟨rfl, _, rfl, hC, hS⟩⟩⟩
    rcases hasRow_no hk with z | z
    · exact absurd z h
    · exact absurd h7 (Int32.not_lt.mpr z)
  | true =>
    rw [if_pos rfl]
    obtain ⟨j, hj, rfl, e1⟩ := hasRow_of (by omega) hk
    rw [e1]
    have hj2 : j = 0 ∨ j = 1 := by omega
    rcases hj2 with rfl | rfl
    · refine Ev_of omX9_back.1 (Nat.le_of_ble_eq_true rfl) ?_
      refine Z_go kX9_back okX9 [] 80 ?_
      refine ⟨fun (h : nI 0 < 0) => absurd h (nI_pos (by omega)), fun _ => ⟨fun _ => ?_, fun (h : ¬ nI 0 < nI 2) => absurd (nI_lt (by omega) (by omega)) h⟩⟩
      refine ⟨Or.inl rfl, vin (by omega) (by omega), ?_⟩
      rw [show (nI 0).toNatClampNeg = 0 from rfl]
      cases e0 : (im 0).1 with
      | false =>
        rw [if_neg (by simp)]
        exact ⟨fun z => absurd (show nI (fl (im 0).1) = 0 by rw [e0]; rfl) z, fun _ => ⟨rfl, _, rfl, hC, hS⟩⟩
      | true =>
        rw [if_pos rfl]
        refine ⟨fun _ => ?_, fun (z : ¬ ¬ nI (fl (im 0).1) = 0) => absurd (by rw [e0]; decide) z⟩
        obtain ⟨i1, i2⟩ := h5 0 (by omega)
        obtain ⟨w1, w2⟩ := o6 0 (by omega)
        obtain ⟨u1, u2, u3, u4, u5⟩ := id w1
        have hu : (im 0).2.2.1 ≤ 192 := Nat.le_trans w2.1 (RW_le u1 u2)
        refine ⟨rfl, (c_become (R := R) (W := W) (m := m) (b := b) (R' := (im 0).2.1.1) (W' := (im 0).2.1.2.1) (m' := (im 0).2.1.2.2.1) (b' := (ia 0).1)).fr [1, 2, 19, 20] rfl (by decide) rfl ?_⟩
        refine ⟨rfl, (c_sbecome (tn := tn) (t := t) (tn' := (im 0).2.2.1) (t' := (ia 0).2)).fr [3, 4, 21, 22] rfl (by decide) rfl ?_⟩
        refine ⟨rfl, (va_cpy (ia 0).1 b 0 0 192, va_cpy (ia 0).2 t 0 0 192, tp, (st, nx, tk, fro, dR, dW, dm, db), te, (sl, ln), sd, ia, sa), rfl, ⟨cpyH u1 u2 i1, fun j (hj : j < (im 0).2.2.1) => ?_, h3, h4, h5, h6⟩, w1, w2, ⟨o3, o4⟩, ⟨o5, o5b⟩, o6, o7, o8, o9⟩
        rw [sb_cpy0 (by omega)]
        exact i2 j hj
    · refine Ev_of omX9_back.1 (Nat.le_of_ble_eq_true rfl) ?_
      refine Z_go kX9_back okX9 [] 80 ?_
      refine ⟨fun (h : nI 1 < 0) => absurd h (nI_pos (by omega)), fun _ => ⟨fun _ => ?_, fun (h : ¬ nI 1 < nI 2) => absurd (nI_lt (by omega) (by omega)) h⟩⟩
      refine ⟨Or.inl rfl, vin (by omega) (by omega), ?_⟩
      rw [show (nI 1).toNatClampNeg = 1 from rfl]
      cases e0 : (im 1).1 with
      | false =>
        rw [if_neg (by simp)]
        exact ⟨fun z => absurd (show nI (fl (im 1).1) = 0 by rw [e0]; rfl) z, fun _ => ⟨rfl, _, rfl, hC, hS⟩⟩
      | true =>
        rw [if_pos rfl]
        refine ⟨fun _ => ?_, fun (z : ¬ ¬ nI (fl (im 1).1) = 0) => absurd (by rw [e0]; decide) z⟩
        obtain ⟨i1, i2⟩ := h5 1 (by omega)
        obtain ⟨w1, w2⟩ := o6 1 (by omega)
        obtain ⟨u1, u2, u3, u4, u5⟩ := id w1
        have hu : (im 1).2.2.1 ≤ 192 := Nat.le_trans w2.1 (RW_le u1 u2)
        refine ⟨rfl, (c_become (R := R) (W := W) (m := m) (b := b) (R' := (im 1).2.1.1) (W' := (im 1).2.1.2.1) (m' := (im 1).2.1.2.2.1) (b' := (ia 1).1)).fr [1, 2, 24, 25] rfl (by decide) rfl ?_⟩
        refine ⟨rfl, (c_sbecome (tn := tn) (t := t) (tn' := (im 1).2.2.1) (t' := (ia 1).2)).fr [3, 4, 26, 27] rfl (by decide) rfl ?_⟩
        refine ⟨rfl, (va_cpy (ia 1).1 b 0 0 192, va_cpy (ia 1).2 t 0 0 192, tp, (st, nx, tk, fro, dR, dW, dm, db), te, (sl, ln), sd, ia, sa), rfl, ⟨cpyH u1 u2 i1, fun j (hj : j < (im 1).2.2.1) => ?_, h3, h4, h5, h6⟩, w1, w2, ⟨o3, o4⟩, ⟨o5, o5b⟩, o6, o7, o8, o9⟩
        rw [sb_cpy0 (by omega)]
        exact i2 j hj
theorem x_sheet (hS : okSg S) (hC : RC S C) (k l v : Int32) : Ev g mX9_sheet [vr 0, vi k, vi l, vi v] (cW S C) (CV (op_sheet S k l v)) := by
  obtain ⟨⟨R, W, m, D⟩, ⟨tn, T⟩, ⟨n, TP⟩, ⟨sn, w⟩, im, sh, tf, rf⟩ := S
  obtain ⟨b, t, tp, ⟨st, nx, tk, fro, dR, dW, dm, db⟩, te, ⟨sl, ln⟩, sd, ia, sa⟩ := C
  obtain ⟨⟨p1, p2, p3, p4, p5⟩, ⟨q1, q2⟩, ⟨o3, o4⟩, ⟨o5, o5b⟩, o6, o7, o8, o9⟩ := id hS
  obtain ⟨h1, h2, h3, h4, h5, h6⟩ := id hC
  have p1 : R ≤ 12 := p1
  have p2 : W ≤ 16 := p2
  have p3 : m ≤ 1 := p3
  have p4 : R = 0 → W = 0 := p4
  have p5 : R ≠ 0 → 1 ≤ W := p5
  have q1 : tn ≤ R * W := q1
  have q2 : ∀ j, j < tn → isCol (T j) = true := q2
  have hRW := RW_le p1 p2
  unfold op_sheet
  dsimp only
  refine Ev_of omX9_sheet.1 (Nat.le_of_ble_eq_true rfl) ?_
  refine Z_go kX9_sheet okX9 [] 80 ?_
  refine (c_isSheet k).use ?_
  cases hk : hasRow 4 k with
  | false => exact ⟨fun _ => ⟨rfl, _, rfl, hC, hS⟩, fun z => absurd rfl z⟩
  | true =>
    refine ⟨fun z => (z1 z).elim, fun _ => ?_⟩
    refine (c_isLane l).use ?_
    cases hl : hasRow 3 l with
    | false => exact ⟨fun _ => ⟨rfl, _, rfl, hC, hS⟩, fun z => absurd rfl z⟩
    | true =>
      refine ⟨fun z => (z1 z).elim, fun _ => ⟨fun (h7 : v ≤ nI 32) => ?_, fun (h7 : ¬ v ≤ nI 32) => ?_⟩⟩
      · rw [decide_eq_true h7]
        simp only [Bool.and_self, if_true]
        refine ⟨fun (h8 : 0 ≤ v) => ?_, fun (h8 : ¬ 0 ≤ v) => ?_⟩
        · have h0 : ¬ v < 0 := Int32.not_lt.mpr h8
          rw [if_neg h0]
          obtain ⟨i, hi, rfl⟩ := in_n (by omega) h0 h7
          obtain ⟨j, hj, rfl, e1⟩ := hasRow_of (by omega) hk
          rw [e1, nOf_n (by omega)]
          obtain ⟨lk, hlk, rfl, e2⟩ := hasRow_of (by omega) hl
          have hlane : nI lk = -nI 4 ∨ nI lk = nI 0 ∨ nI lk = nI 1 ∨ nI lk = nI 2 := by
            have : lk = 0 ∨ lk = 1 ∨ lk = 2 := by omega
            rcases this with rfl | rfl | rfl
            · exact Or.inr (Or.inl rfl)
            · exact Or.inr (Or.inr (Or.inl rfl))
            · exact Or.inr (Or.inr (Or.inr rfl))
          have hj4 : j = 0 ∨ j = 1 ∨ j = 2 ∨ j = 3 := by omega
          rcases hj4 with rfl | rfl | rfl | rfl
          · refine ⟨Or.inr rfl, vin (by omega) (by omega), ?_⟩
            rw [show (nI 0).toNatClampNeg = 0 from rfl]
            refine ⟨rfl, (c_renew (l0 := (sh 0).1) (n0 := (sh 0).2.1) (c := sa 0)).fr [28, 29] rfl (by decide) rfl ?_⟩
            refine ⟨rfl, (b, t, tp, (st, nx, tk, fro, dR, dW, dm, db), te, (sl, ln), sd, ia, (fun j => if j = 0 then zI (sa 0) 32 else sa j)), rfl, ⟨h1, h2, h3, h4, h5, ?_⟩, ⟨p1, p2, p3, p4, p5⟩, ⟨q1, q2⟩, ⟨o3, o4⟩, ⟨o5, o5b⟩, o6, ?_, o8, o9⟩
            · intro z hz y hy
              by_cases e : z = 0
              · subst e
                show zI (sa 0) 32 y = 0
                unfold zI
                rw [if_pos hy]
              · dsimp only
                rw [if_neg e, if_neg e]
                exact h6 z hz y hy
            · intro z hz
              by_cases e : z = 0
              · subst e
                exact ⟨hi, hlane⟩
              · dsimp only
                rw [if_neg e]
                exact o7 z hz
          · refine ⟨Or.inr rfl, vin (by omega) (by omega), ?_⟩
            rw [show (nI 1).toNatClampNeg = 1 from rfl]
            refine ⟨rfl, (c_renew (l0 := (sh 1).1) (n0 := (sh 1).2.1) (c := sa 1)).fr [30, 31] rfl (by decide) rfl ?_⟩
            refine ⟨rfl, (b, t, tp, (st, nx, tk, fro, dR, dW, dm, db), te, (sl, ln), sd, ia, (fun j => if j = 1 then zI (sa 1) 32 else sa j)), rfl, ⟨h1, h2, h3, h4, h5, ?_⟩, ⟨p1, p2, p3, p4, p5⟩, ⟨q1, q2⟩, ⟨o3, o4⟩, ⟨o5, o5b⟩, o6, ?_, o8, o9⟩
            · intro z hz y hy
              by_cases e : z = 1
              · subst e
                show zI (sa 1) 32 y = 0
                unfold zI
                rw [if_pos hy]
              · dsimp only
                rw [if_neg e, if_neg e]
                exact h6 z hz y hy
            · intro z hz
              by_cases e : z = 1
              · subst e
                exact ⟨hi, hlane⟩
              · dsimp only
                rw [if_neg e]
                exact o7 z hz
          · refine ⟨Or.inr rfl, vin (by omega) (by omega), ?_⟩
            rw [show (nI 2).toNatClampNeg = 2 from rfl]
            refine ⟨rfl, (c_renew (l0 := (sh 2).1) (n0 := (sh 2).2.1) (c := sa 2)).fr [32, 33] rfl (by decide) rfl ?_⟩
            refine ⟨rfl, (b, t, tp, (st, nx, tk, fro, dR, dW, dm, db), te, (sl, ln), sd, ia, (fun j => if j = 2 then zI (sa 2) 32 else sa j)), rfl, ⟨h1, h2, h3, h4, h5, ?_⟩, ⟨p1, p2, p3, p4, p5⟩, ⟨q1, q2⟩, ⟨o3, o4⟩, ⟨o5, o5b⟩, o6, ?_, o8, o9⟩
            · intro z hz y hy
              by_cases e : z = 2
              · subst e
                show zI (sa 2) 32 y = 0
                unfold zI
                rw [if_pos hy]
              · dsimp only
                rw [if_neg e, if_neg e]
                exact h6 z hz y hy
            · intro z hz
              by_cases e : z = 2
              · subst e
                exact ⟨hi, hlane⟩
              · dsimp only
                rw [if_neg e]
                exact o7 z hz
          · refine ⟨Or.inr rfl, vin (by omega) (by omega), ?_⟩
            rw [show (nI 3).toNatClampNeg = 3 from rfl]
            refine ⟨rfl, (c_renew (l0 := (sh 3).1) (n0 := (sh 3).2.1) (c := sa 3)).fr [34, 35] rfl (by decide) rfl ?_⟩
            refine ⟨rfl, (b, t, tp, (st, nx, tk, fro, dR, dW, dm, db), te, (sl, ln), sd, ia, (fun j => if j = 3 then zI (sa 3) 32 else sa j)), rfl, ⟨h1, h2, h3, h4, h5, ?_⟩, ⟨p1, p2, p3, p4, p5⟩, ⟨q1, q2⟩, ⟨o3, o4⟩, ⟨o5, o5b⟩, o6, ?_, o8, o9⟩
            · intro z hz y hy
              by_cases e : z = 3
              · subst e
                show zI (sa 3) 32 y = 0
                unfold zI
                rw [if_pos hy]
              · dsimp only
                rw [if_neg e, if_neg e]
                exact h6 z hz y hy
            · intro z hz
              by_cases e : z = 3
              · subst e
                exact ⟨hi, hlane⟩
              · dsimp only
                rw [if_neg e]
                exact o7 z hz
        · rw [if_pos (Int32.not_le.mp h8)]; exact ⟨rfl, _, rfl, hC, hS⟩
      · rw [decide_eq_false h7]
        exact ⟨rfl, _, rfl, hC, hS⟩
theorem x_lay (hS : okSg S) (hC : RC S C) (k i v : Int32) : Ev g mX9_lay [vr 0, vi k, vi i, vi v] (cW S C) (CV (op_lay S k i v)) := by
  obtain ⟨⟨R, W, m, D⟩, ⟨tn, T⟩, ⟨n, TP⟩, ⟨sn, w⟩, im, sh, tf, rf⟩ := S
  obtain ⟨b, t, tp, ⟨st, nx, tk, fro, dR, dW, dm, db⟩, te, ⟨sl, ln⟩, sd, ia, sa⟩ := C
  obtain ⟨⟨p1, p2, p3, p4, p5⟩, ⟨q1, q2⟩, ⟨o3, o4⟩, ⟨o5, o5b⟩, o6, o7, o8, o9⟩ := id hS
  obtain ⟨h1, h2, h3, h4, h5, h6⟩ := id hC
  have p1 : R ≤ 12 := p1
  have p2 : W ≤ 16 := p2
  have p3 : m ≤ 1 := p3
  have p4 : R = 0 → W = 0 := p4
  have p5 : R ≠ 0 → 1 ≤ W := p5
  have q1 : tn ≤ R * W := q1
  have q2 : ∀ j, j < tn → isCol (T j) = true := q2
  have hRW := RW_le p1 p2
  unfold op_lay
  dsimp only
  refine Ev_of omX9_lay.1 (Nat.le_of_ble_eq_true rfl) ?_
  refine Z_go kX9_lay okX9 [] 80 ?_
  refine (c_isSheet k).use ?_
  cases hk : hasRow 4 k with
  | false => exact ⟨fun z => absurd rfl z, fun _ => ⟨rfl, _, rfl, hC, hS⟩⟩
  | true =>
    refine ⟨fun _ => ?_, fun (z : ¬ ¬ nI 1 = 0) => absurd z1 z⟩
    rw [if_pos rfl]
    obtain ⟨j, hj, rfl, e1⟩ := hasRow_of (by omega) hk
    rw [e1]
    have hj4 : j = 0 ∨ j = 1 ∨ j = 2 ∨ j = 3 := by omega
    rcases hj4 with rfl | rfl | rfl | rfl
    · refine ⟨Or.inr rfl, vin (by omega) (by omega), ?_⟩
      rw [show (nI 0).toNatClampNeg = 0 from rfl]
      refine ⟨rfl, (c_faultAt (ln := (sh 0).1) (asked := (sh 0).1) (i := i) (n := (sh 0).2.1) (c := sa 0)).fr [28, 29] rfl (by decide) rfl ?_⟩
      have hle : fltS (sh 0).1 (sh 0).2.1 (sh 0).1 i ≤ 3 := by unfold fltS; split; omega; split; omega; split <;> omega
      refine ⟨fun (h7 : nI (fltS (sh 0).1 (sh 0).2.1 (sh 0).1 i) = nI 0) => ?_, fun (h7 : ¬ nI (fltS (sh 0).1 (sh 0).2.1 (sh 0).1 i) = nI 0) => ?_⟩
      · rw [nI_eq (by omega) (by omega)] at h7
        rw [if_pos h7]
        obtain ⟨o71, o72⟩ := o7 0 (by omega)
        have hin : ∃ y, y < (sh 0).2.1 ∧ i = nI y := by
          unfold fltS at h7
          split at h7
          · cases h7
          · split at h7
            · cases h7
            · split at h7
              · cases h7
              · rename_i z
                have z1 : ¬ i < 0 := fun z2 => z (Or.inl z2)
                have z2 : ¬ nI (sh 0).2.1 ≤ i := fun z2 => z (Or.inr z2)
                obtain ⟨y, hy, rfl⟩ := nI_of z1
                rw [nI_leI (by omega) hy] at z2
                exact ⟨y, by omega, rfl⟩
        obtain ⟨y, hy, rfl⟩ := hin
        rw [nOf_n (by omega)]
        refine ⟨rfl, (c_sput (ln := (sh 0).1) (v := v) (n := (sh 0).2.1) (k := y) (c := sa 0) (by omega)).fr [28, 29] rfl (by decide) rfl ?_⟩
        refine ⟨rfl, (b, t, tp, (st, nx, tk, fro, dR, dW, dm, db), te, (sl, ln), sd, ia, (fun j => if j = 0 then upd (sa 0) y (celV (sh 0).1 v) else sa j)), rfl, ⟨h1, h2, h3, h4, h5, ?_⟩, ⟨p1, p2, p3, p4, p5⟩, ⟨q1, q2⟩, ⟨o3, o4⟩, ⟨o5, o5b⟩, o6, ?_, o8, o9⟩
        · intro z hz x hx
          by_cases e : z = 0
          · subst e
            show upd (sa 0) y (celV (sh 0).1 v) x = upd (sh 0).2.2 y (celV (sh 0).1 v) x
            by_cases e2 : x = y
            · rw [e2, updS, updS]
            · rw [updN e2, updN e2]; exact h6 0 hz x hx
          · dsimp only
            rw [if_neg e, if_neg e]
            exact h6 z hz x hx
        · intro z hz
          by_cases e : z = 0
          · subst e
            exact ⟨o71, o72⟩
          · dsimp only
            rw [if_neg e]
            exact o7 z hz
      · rw [nI_eq (by omega) (by omega)] at h7
        rw [if_neg h7]
        exact ⟨rfl, _, rfl, hC, hS⟩
    · refine ⟨Or.inr rfl, vin (by omega) (by omega), ?_⟩
      rw [show (nI 1).toNatClampNeg = 1 from rfl]
      refine ⟨rfl, (c_faultAt (ln := (sh 1).1) (asked := (sh 1).1) (i := i) (n := (sh 1).2.1) (c := sa 1)).fr [30, 31] rfl (by decide) rfl ?_⟩
      have hle : fltS (sh 1).1 (sh 1).2.1 (sh 1).1 i ≤ 3 := by unfold fltS; split; omega; split; omega; split <;> omega
      refine ⟨fun (h7 : nI (fltS (sh 1).1 (sh 1).2.1 (sh 1).1 i) = nI 0) => ?_, fun (h7 : ¬ nI (fltS (sh 1).1 (sh 1).2.1 (sh 1).1 i) = nI 0) => ?_⟩
      · rw [nI_eq (by omega) (by omega)] at h7
        rw [if_pos h7]
        obtain ⟨o71, o72⟩ := o7 1 (by omega)
        have hin : ∃ y, y < (sh 1).2.1 ∧ i = nI y := by
          unfold fltS at h7
          split at h7
          · cases h7
          · split at h7
            · cases h7
            · split at h7
              · cases h7
              · rename_i z
                have z1 : ¬ i < 0 := fun z2 => z (Or.inl z2)
                have z2 : ¬ nI (sh 1).2.1 ≤ i := fun z2 => z (Or.inr z2)
                obtain ⟨y, hy, rfl⟩ := nI_of z1
                rw [nI_leI (by omega) hy] at z2
                exact ⟨y, by omega, rfl⟩
        obtain ⟨y, hy, rfl⟩ := hin
        rw [nOf_n (by omega)]
        refine ⟨rfl, (c_sput (ln := (sh 1).1) (v := v) (n := (sh 1).2.1) (k := y) (c := sa 1) (by omega)).fr [30, 31] rfl (by decide) rfl ?_⟩
        refine ⟨rfl, (b, t, tp, (st, nx, tk, fro, dR, dW, dm, db), te, (sl, ln), sd, ia, (fun j => if j = 1 then upd (sa 1) y (celV (sh 1).1 v) else sa j)), rfl, ⟨h1, h2, h3, h4, h5, ?_⟩, ⟨p1, p2, p3, p4, p5⟩, ⟨q1, q2⟩, ⟨o3, o4⟩, ⟨o5, o5b⟩, o6, ?_, o8, o9⟩
        · intro z hz x hx
          by_cases e : z = 1
          · subst e
            show upd (sa 1) y (celV (sh 1).1 v) x = upd (sh 1).2.2 y (celV (sh 1).1 v) x
            by_cases e2 : x = y
            · rw [e2, updS, updS]
            · rw [updN e2, updN e2]; exact h6 1 hz x hx
          · dsimp only
            rw [if_neg e, if_neg e]
            exact h6 z hz x hx
        · intro z hz
          by_cases e : z = 1
          · subst e
            exact ⟨o71, o72⟩
          · dsimp only
            rw [if_neg e]
            exact o7 z hz
      · rw [nI_eq (by omega) (by omega)] at h7
        rw [if_neg h7]
        exact ⟨rfl, _, rfl, hC, hS⟩
    · refine ⟨Or.inr rfl, vin (by omega) (by omega), ?_⟩
      rw [show (nI 2).toNatClampNeg = 2 from rfl]
      refine ⟨rfl, (c_faultAt (ln := (sh 2).1) (asked := (sh 2).1) (i := i) (n := (sh 2).2.1) (c := sa 2)).fr [32, 33] rfl (by decide) rfl ?_⟩
      have hle : fltS (sh 2).1 (sh 2).2.1 (sh 2).1 i ≤ 3 := by unfold fltS; split; omega; split; omega; split <;> omega
      refine ⟨fun (h7 : nI (fltS (sh 2).1 (sh 2).2.1 (sh 2).1 i) = nI 0) => ?_, fun (h7 : ¬ nI (fltS (sh 2).1 (sh 2).2.1 (sh 2).1 i) = nI 0) => ?_⟩
      · rw [nI_eq (by omega) (by omega)] at h7
        rw [if_pos h7]
        obtain ⟨o71, o72⟩ := o7 2 (by omega)
        have hin : ∃ y, y < (sh 2).2.1 ∧ i = nI y := by
          unfold fltS at h7
          split at h7
          · cases h7
          · split at h7
            · cases h7
            · split at h7
              · cases h7
              · rename_i z
                have z1 : ¬ i < 0 := fun z2 => z (Or.inl z2)
                have z2 : ¬ nI (sh 2).2.1 ≤ i := fun z2 => z (Or.inr z2)
                obtain ⟨y, hy, rfl⟩ := nI_of z1
                rw [nI_leI (by omega) hy] at z2
                exact ⟨y, by omega, rfl⟩
        obtain ⟨y, hy, rfl⟩ := hin
        rw [nOf_n (by omega)]
        refine ⟨rfl, (c_sput (ln := (sh 2).1) (v := v) (n := (sh 2).2.1) (k := y) (c := sa 2) (by omega)).fr [32, 33] rfl (by decide) rfl ?_⟩
        refine ⟨rfl, (b, t, tp, (st, nx, tk, fro, dR, dW, dm, db), te, (sl, ln), sd, ia, (fun j => if j = 2 then upd (sa 2) y (celV (sh 2).1 v) else sa j)), rfl, ⟨h1, h2, h3, h4, h5, ?_⟩, ⟨p1, p2, p3, p4, p5⟩, ⟨q1, q2⟩, ⟨o3, o4⟩, ⟨o5, o5b⟩, o6, ?_, o8, o9⟩
        · intro z hz x hx
          by_cases e : z = 2
          · subst e
            show upd (sa 2) y (celV (sh 2).1 v) x = upd (sh 2).2.2 y (celV (sh 2).1 v) x
            by_cases e2 : x = y
            · rw [e2, updS, updS]
            · rw [updN e2, updN e2]; exact h6 2 hz x hx
          · dsimp only
            rw [if_neg e, if_neg e]
            exact h6 z hz x hx
        · intro z hz
          by_cases e : z = 2
          · subst e
            exact ⟨o71, o72⟩
          · dsimp only
            rw [if_neg e]
            exact o7 z hz
      · rw [nI_eq (by omega) (by omega)] at h7
        rw [if_neg h7]
        exact ⟨rfl, _, rfl, hC, hS⟩
    · refine ⟨Or.inr rfl, vin (by omega) (by omega), ?_⟩
      rw [show (nI 3).toNatClampNeg = 3 from rfl]
      refine ⟨rfl, (c_faultAt (ln := (sh 3).1) (asked := (sh 3).1) (i := i) (n := (sh 3).2.1) (c := sa 3)).fr [34, 35] rfl (by decide) rfl ?_⟩
      have hle : fltS (sh 3).1 (sh 3).2.1 (sh 3).1 i ≤ 3 := by unfold fltS; split; omega; split; omega; split <;> omega
      refine ⟨fun (h7 : nI (fltS (sh 3).1 (sh 3).2.1 (sh 3).1 i) = nI 0) => ?_, fun (h7 : ¬ nI (fltS (sh 3).1 (sh 3).2.1 (sh 3).1 i) = nI 0) => ?_⟩
      · rw [nI_eq (by omega) (by omega)] at h7
        rw [if_pos h7]
        obtain ⟨o71, o72⟩ := o7 3 (by omega)
        have hin : ∃ y, y < (sh 3).2.1 ∧ i = nI y := by
          unfold fltS at h7
          split at h7
          · cases h7
          · split at h7
            · cases h7
            · split at h7
              · cases h7
              · rename_i z
                have z1 : ¬ i < 0 := fun z2 => z (Or.inl z2)
                have z2 : ¬ nI (sh 3).2.1 ≤ i := fun z2 => z (Or.inr z2)
                obtain ⟨y, hy, rfl⟩ := nI_of z1
                rw [nI_leI (by omega) hy] at z2
                exact ⟨y, by omega, rfl⟩
        obtain ⟨y, hy, rfl⟩ := hin
        rw [nOf_n (by omega)]
        refine ⟨rfl, (c_sput (ln := (sh 3).1) (v := v) (n := (sh 3).2.1) (k := y) (c := sa 3) (by omega)).fr [34, 35] rfl (by decide) rfl ?_⟩
        refine ⟨rfl, (b, t, tp, (st, nx, tk, fro, dR, dW, dm, db), te, (sl, ln), sd, ia, (fun j => if j = 3 then upd (sa 3) y (celV (sh 3).1 v) else sa j)), rfl, ⟨h1, h2, h3, h4, h5, ?_⟩, ⟨p1, p2, p3, p4, p5⟩, ⟨q1, q2⟩, ⟨o3, o4⟩, ⟨o5, o5b⟩, o6, ?_, o8, o9⟩
        · intro z hz x hx
          by_cases e : z = 3
          · subst e
            show upd (sa 3) y (celV (sh 3).1 v) x = upd (sh 3).2.2 y (celV (sh 3).1 v) x
            by_cases e2 : x = y
            · rw [e2, updS, updS]
            · rw [updN e2, updN e2]; exact h6 3 hz x hx
          · dsimp only
            rw [if_neg e, if_neg e]
            exact h6 z hz x hx
        · intro z hz
          by_cases e : z = 3
          · subst e
            exact ⟨o71, o72⟩
          · dsimp only
            rw [if_neg e]
            exact o7 z hz
      · rw [nI_eq (by omega) (by omega)] at h7
        rw [if_neg h7]
        exact ⟨rfl, _, rfl, hC, hS⟩
end CMP
