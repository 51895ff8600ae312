/-! the reference: images and sheets -/
section MOD
variable {g : GG} {a : Nat → Nat → Int32} {f : Nat → Int32} {R W m tn : Nat} {D : Nat → Nat → Int32} {T : Nat → Int32}
theorem hasRow_K {x : Int32} {N : Nat} (hN : N ≤ 1000) : decide (¬ (x < 0 ∨ nI N < x)) = hasRow (N + 1) x := by
  unfold hasRow
  by_cases h0 : x < 0
  · simp [h0]
  · obtain ⟨k, hk, rfl⟩ := nI_of h0
    have e : (nI k < nI (N + 1)) ↔ ¬ nI N < nI k := by
      rw [nI_ltI hk (by omega), nI_ltI (by omega) hk]; omega
    simp [h0, e]
theorem m_inH {A : AH} (x : Int32) (k : Nat) (hk : k ≤ 1000) : Dt g mX10_in [vl x.toInt64, vl (lN 0), vl (lN k)] A (some (vi (nI (fl (hasRow (k + 1) x))))) A := by
  have h := m_inK (g := g) (A := A) x k (by omega)
  rw [hasRow_K hk] at h
  exact h
theorem m_isSheet {A : AH} (k l : Int32) : Dt g mX10_isSheet [vi k, vi l] A (some (vi (nI (fl (hasRow 4 k && hasRow 3 l))))) A := by
  refine Ev_of omX10_isSheet.1 (Nat.le_of_ble_eq_true rfl) ?_
  refine Z_go kX10_isSheet okX10 [] 80 ?_
  refine (m_inH k 3 (by omega)).use ?_
  cases hasRow (3 + 1) k with
  | false => exact ⟨fun _ => ⟨Or.inl rfl, rfl, rfl⟩, fun z => absurd rfl z⟩
  | true =>
    refine ⟨fun z => (z1 z).elim, fun _ => ?_⟩
    refine (m_inH l 2 (by omega)).use ?_
    cases hasRow (2 + 1) l with
    | false => exact ⟨fun _ => ⟨Or.inl rfl, rfl, rfl⟩, fun z => absurd rfl z⟩
    | true => exact ⟨fun z => (z1 z).elim, fun _ => ⟨Or.inr rfl, rfl, rfl⟩⟩
/-- s is copied to the image k -/
theorem keep_loop {k : Nat} (hk : k < 2) {v2 : Int32} {Q : Option AV → AH → Prop} : ∀ (n c : Nat) (s : Nat → Int32), c + n = 388 →
    (∀ s', (∀ j, s' j = if 388 * k + c ≤ j ∧ j < 388 * k + 388 then a 1 (j - 388 * k) else s j) → Q (some (vi v2)) (mW (aU a 3 s') f)) →
    Z g mX10_keep 11 Q 31 [some (vr 0), some (vi (nI k)), some (vi v2), some (vi (nI c))] [] (mW (aU a 3 s) f) := by
  intro n
  induction n with
  | zero =>
    intro c s h1 hQ
    refine Z_go kX10_keep okX10 [31] 80 ?_
    refine ⟨fun _ => hQ s (fun j => by rw [if_neg (by omega)]), fun (h : ¬ nI 388 ≤ nI c) => absurd (nI_le (by omega) (by omega)) h⟩
  | succ n ih =>
    intro c s h1 hQ
    have e : nI 388 * nI k + nI c = nI (388 * k + c) := by rw [pk_mul, nI_add]
    refine Z_go kX10_keep okX10 [31] 80 ?_
    refine ⟨fun (h : nI 388 ≤ nI c) => ?_, fun _ => ?_⟩
    · rw [nI_leI (by omega) (by omega)] at h; omega
    · refine ⟨vin (by omega) (by omega), ?_⟩
      refine ⟨by rw [e]; exact vin (by omega) (by omega), ?_⟩
      rw [e, nI_clamp (show c < 2 ^ 31 by omega), nI_clamp (show 388 * k + c < 2 ^ 31 by omega)]
      have kk := ih (c + 1) (upd s (388 * k + c) (a 1 c)) (by omega) (fun s' hs' => hQ s' (fun j => by
        rw [hs' j]
        by_cases e1 : j = 388 * k + c
        · rw [if_neg (by omega), if_pos (by omega), e1, updS, show 388 * k + c - 388 * k = c by omega]
        · by_cases e2 : 388 * k + c ≤ j ∧ j < 388 * k + 388
          · rw [if_pos e2, if_pos (by omega)]
          · rw [if_neg e2, if_neg (by omega), updN e1]))
      rw [nI_a1 c] at kk
      exact kk
theorem back_loop {k : Nat} (hk : k < 2) {Q : Option AV → AH → Prop} : ∀ (n c : Nat) (s : Nat → Int32), c + n = 388 →
    (∀ s', (∀ j, s' j = if c ≤ j ∧ j < 388 then a 3 (388 * k + j) else s j) → Q (some (vi (s' 0))) (mW (aU a 1 s') f)) →
    Z g mX10_back 11 Q 26 [some (vr 0), some (vi (nI k)), some (vi (nI c))] [] (mW (aU a 1 s) f) := by
  intro n
  induction n with
  | zero =>
    intro c s h1 hQ
    refine Z_go kX10_back okX10 [26] 80 ?_
    refine ⟨fun _ => ⟨vin (by omega) (by omega), hQ s (fun j => by rw [if_neg (by omega)])⟩, fun (h : ¬ nI 388 ≤ nI c) => absurd (nI_le (by omega) (by omega)) h⟩
  | succ n ih =>
    intro c s h1 hQ
    have e : nI 388 * nI k + nI c = nI (388 * k + c) := by rw [pk_mul, nI_add]
    refine Z_go kX10_back okX10 [26] 80 ?_
    refine ⟨fun (h : nI 388 ≤ nI c) => ?_, fun _ => ?_⟩
    · rw [nI_leI (by omega) (by omega)] at h; omega
    · refine ⟨by rw [e]; exact vin (by omega) (by omega), ?_⟩
      refine ⟨vin (by omega) (by omega), ?_⟩
      rw [e, nI_clamp (show c < 2 ^ 31 by omega), nI_clamp (show 388 * k + c < 2 ^ 31 by omega)]
      have kk := ih (c + 1) (upd s c (a 3 (388 * k + c))) (by omega) (fun s' hs' => hQ s' (fun j => by
        rw [hs' j]
        by_cases e1 : j = c
        · rw [if_neg (by omega), if_pos (by omega), e1, updS]
        · by_cases e2 : c ≤ j ∧ j < 388
          · rw [if_pos e2, if_pos (by omega)]
          · rw [if_neg e2, if_neg (by omega), updN e1]))
      rw [nI_a1 c] at kk
      exact kk
theorem HT_eq {s s' : Nat → Int32} {p : Pic} {t : Thr} (hp : okP p) (ht : okTh p t) (h : HT s p t) (he : ∀ j, j < 388 → s' j = s j) : HT s' p t := by
  obtain ⟨R, W, m, D⟩ := p
  obtain ⟨n, T⟩ := t
  obtain ⟨p1, p2, -⟩ := hp
  obtain ⟨q1, -⟩ := ht
  have p1 : R ≤ 12 := p1
  have p2 : W ≤ 16 := p2
  have q1 : n ≤ R * W := q1
  have := RW_le p1 p2
  obtain ⟨⟨h1, h2, h3, h4⟩, h5, h6⟩ := h
  have h5 : s 3 = nI n := h5
  have h6 : ∀ j, j < n → s (196 + j) = T j := h6
  refine ⟨⟨(he 0 (by omega)).trans h1, fun z => (he 1 (by omega)).trans (h2 z), (he 2 (by omega)).trans h3, fun r c hr hc => ?_⟩, (he 3 (by omega)).trans h5, fun j hj => ?_⟩
  · have hr : r < R := hr
    have hc : c < W := hc
    exact (he _ (by omega)).trans (h4 r c hr hc)
  · have hj : j < n := hj
    exact (he _ (by omega)).trans (h6 j hj)
theorem sheet_loop {k : Nat} (hk : k < 4) {v2 v3 : Int32} {Q : Option AV → AH → Prop} : ∀ (n c : Nat) (s : Nat → Int32), c + n = 32 →
    (∀ s', (∀ j, s' j = if 32 * k + c ≤ j ∧ j < 32 * k + 32 then nI 0 else s j) → Q (some (vi (nI 1))) (mW (aU a 10 s') f)) →
    Z g mX10_sheet 11 Q 40 [some (vr 0), some (vi (nI k)), some (vi v2), some (vi v3), some (vi (nI c))] [] (mW (aU a 10 s) f) := by
  intro n
  induction n with
  | zero =>
    intro c s h1 hQ
    refine Z_go kX10_sheet okX10 [40] 80 ?_
    refine ⟨fun _ => hQ s (fun j => by rw [if_neg (by omega)]), fun (h : ¬ nI 32 ≤ nI c) => absurd (nI_le (by omega) (by omega)) h⟩
  | succ n ih =>
    intro c s h1 hQ
    have e : nI 32 * nI k + nI c = nI (32 * k + c) := by rw [pk_mul, nI_add]
    refine Z_go kX10_sheet okX10 [40] 80 ?_
    refine ⟨fun (h : nI 32 ≤ nI c) => ?_, fun _ => ?_⟩
    · rw [nI_leI (by omega) (by omega)] at h; omega
    · refine ⟨by rw [e]; exact vin (by omega) (by omega), ?_⟩
      rw [e, nI_clamp (show 32 * k + c < 2 ^ 31 by omega)]
      have kk := ih (c + 1) (upd s (32 * k + c) (nI 0)) (by omega) (fun s' hs' => hQ s' (fun j => by
        rw [hs' j]
        by_cases e1 : j = 32 * k + c
        · rw [if_neg (by omega), if_pos (by omega), e1, updS]
        · by_cases e2 : 32 * k + c ≤ j ∧ j < 32 * k + 32
          · rw [if_pos e2, if_pos (by omega)]
          · rw [if_neg e2, if_neg (by omega), updN e1]))
      rw [nI_a1 c] at kk
      exact kk
end MOD
section MOD
variable {g : GG} {S : Sg} {a : Nat → Nat → Int32} {f : Nat → Int32}
theorem y_keep (hS : okSg S) (hM : RM S a f) (k : Int32) : Ev g mX10_keep [vr 0, vi k] (mW a f) (MV (op_keep S k)) := by
  obtain ⟨⟨R, W, m, D⟩, ⟨tn, T⟩, ⟨n, TP⟩, ⟨sn, w⟩, im, sh, tf, rf⟩ := S
  obtain ⟨⟨p1, p2, p3, p4, p5⟩, ⟨q1, q2⟩, ⟨o3, o4⟩, ⟨o5, o5b⟩, o6, o7, o8, o9⟩ := id hS
  obtain ⟨⟨hs, ht3, htT⟩, hi, ⟨htp, h5⟩, ⟨h12, hsl⟩, hsh, h9, h19⟩ := id hM
  have hs : HM (a 1) R W m D := hs
  have ht3 : a 1 3 = nI tn := ht3
  have htT : ∀ j, j < tn → a 1 (196 + j) = T j := htT
  have p1 : R ≤ 12 := p1
  have p2 : W ≤ 16 := p2
  have p3 : m ≤ 1 := p3
  have p4 : R = 0 → W = 0 := p4
  have p5 : R ≠ 0 → 1 ≤ W := p5
  have q1 : tn ≤ R * W := q1
  have q2 : ∀ j, j < tn → isCol (T j) = true := q2
  have hRW := RW_le p1 p2
  unfold op_keep
  dsimp only
  refine Ev_of omX10_keep.1 (Nat.le_of_ble_eq_true rfl) ?_
  refine Z_go kX10_keep okX10 [31] 80 ?_
  refine (m_inH k 1 (by omega)).use ?_
  cases hk : hasRow (1 + 1) k with
  | false =>
    exact ⟨fun z => absurd rfl z, fun _ => ⟨rfl, _, _, rfl, hM⟩⟩
  | true =>
    obtain ⟨q, hq, rfl, e1⟩ := hasRow_of (by omega) hk
    rw [e1]
    refine ⟨fun _ => ?_, fun (z : ¬ ¬ nI 1 = 0) => absurd z1 z⟩
    simp only [if_true]
    refine ⟨vin (by omega) (by omega), ?_⟩
    rw [nI_clamp (show q < 2 ^ 31 by omega), (hi q (by omega)).1]
    refine (m_flag _).use ?_
    refine ⟨vin (by omega) (by omega), Or.inr rfl, ?_⟩
    rw [nI_clamp (show q < 2 ^ 31 by omega)]
    refine keep_loop (a := aU a 4 (upd (a 4) q (nI 1))) hq 388 0 (a 3) (by omega) (fun s' hs' => ?_)
    have hs' : ∀ j, s' j = if 388 * q + 0 ≤ j ∧ j < 388 * q + 388 then a 1 (j - 388 * q) else a 3 j := hs'
    refine ⟨rfl, aU (aU a 4 (upd (a 4) q (nI 1))) 3 s', f, rfl, ⟨hs, ht3, htT⟩, fun z hz => ?_, ⟨htp, h5⟩, ⟨h12, hsl⟩, hsh, h9, h19⟩
    by_cases e : z = q
    · subst e
      dsimp only
      rw [if_pos rfl]
      refine ⟨updS (f := a 4) (k := z), HT_eq ⟨p1, p2, p3, p4, p5⟩ ⟨q1, q2⟩ ⟨hs, ht3, htT⟩ (fun j hj => ?_)⟩
      show s' (388 * z + j) = a 1 j
      rw [hs', if_pos (by omega), show 388 * z + j - 388 * z = j by omega]
    · dsimp only
      rw [if_neg e]
      refine ⟨(updN (f := a 4) e).trans (hi z hz).1, HT_eq (o6 z hz).1 (o6 z hz).2 (hi z hz).2 (fun j hj => ?_)⟩
      show s' (388 * z + j) = a 3 (388 * z + j)
      rw [hs', if_neg (by omega)]
theorem y_back (hS : okSg S) (hM : RM S a f) (k : Int32) : Ev g mX10_back [vr 0, vi k] (mW a f) (MV (op_back S k)) := by
  obtain ⟨⟨R, W, m, D⟩, ⟨tn, T⟩, ⟨n, TP⟩, ⟨sn, w⟩, im, sh, tf, rf⟩ := S
  obtain ⟨⟨p1, p2, p3, p4, p5⟩, ⟨q1, q2⟩, ⟨o3, o4⟩, ⟨o5, o5b⟩, o6, o7, o8, o9⟩ := id hS
  obtain ⟨⟨hs, ht3, htT⟩, hi, ⟨htp, h5⟩, ⟨h12, hsl⟩, hsh, h9, h19⟩ := id hM
  have hs : HM (a 1) R W m D := hs
  have ht3 : a 1 3 = nI tn := ht3
  have htT : ∀ j, j < tn → a 1 (196 + j) = T j := htT
  have p1 : R ≤ 12 := p1
  have p2 : W ≤ 16 := p2
  have p3 : m ≤ 1 := p3
  have p4 : R = 0 → W = 0 := p4
  have p5 : R ≠ 0 → 1 ≤ W := p5
  have q1 : tn ≤ R * W := q1
  have q2 : ∀ j, j < tn → isCol (T j) = true := q2
  have hRW := RW_le p1 p2
  unfold op_back
  dsimp only
  refine Ev_of omX10_back.1 (Nat.le_of_ble_eq_true rfl) ?_
  refine Z_go kX10_back okX10 [26] 80 ?_
  refine (m_inH k 1 (by omega)).use ?_
  cases hk : hasRow (1 + 1) k with
  | false =>
    exact ⟨fun z => absurd rfl z, fun _ => ⟨rfl, _, _, rfl, hM⟩⟩
  | true =>
    obtain ⟨q, hq, rfl, e1⟩ := hasRow_of (by omega) hk
    rw [e1]
    refine ⟨fun _ => ?_, fun (z : ¬ ¬ nI 1 = 0) => absurd z1 z⟩
    simp only [if_true]
    refine ⟨vin (by omega) (by omega), ?_⟩
    rw [nI_clamp (show q < 2 ^ 31 by omega), (hi q (by omega)).1]
    have hq2 := (hi q (by omega)).2
    cases hb : (im q).1 with
    | false => exact ⟨fun z => absurd rfl z, fun _ => ⟨rfl, _, _, rfl, hM⟩⟩
    | true =>
      refine ⟨fun _ => ?_, fun (z : ¬ ¬ nI 1 = 0) => absurd z1 z⟩
      simp only [if_true]
      refine back_loop (a := a) hq 388 0 (a 1) (by omega) (fun s' hs' => ?_)
      have hh : HT s' (im q).2.1 (im q).2.2 := HT_eq (o6 q (by omega)).1 (o6 q (by omega)).2 hq2 (fun j hj => by rw [hs', if_pos (by omega)])
      exact ⟨by rw [hh.1.1], aU a 1 s', f, rfl, hh, hi, ⟨htp, h5⟩, ⟨h12, hsl⟩, hsh, h9, h19⟩
theorem y_sheet (hS : okSg S) (hM : RM S a f) (k l v : Int32) : Ev g mX10_sheet [vr 0, vi k, vi l, vi v] (mW a f) (MV (op_sheet S k l v)) := by
  obtain ⟨⟨R, W, m, D⟩, ⟨tn, T⟩, ⟨n, TP⟩, ⟨sn, w⟩, im, sh, tf, rf⟩ := S
  obtain ⟨⟨p1, p2, p3, p4, p5⟩, ⟨q1, q2⟩, ⟨o3, o4⟩, ⟨o5, o5b⟩, o6, o7, o8, o9⟩ := id hS
  obtain ⟨⟨hs, ht3, htT⟩, hi, ⟨htp, h5⟩, ⟨h12, hsl⟩, hsh, h9, h19⟩ := id hM
  have hs : HM (a 1) R W m D := hs
  have ht3 : a 1 3 = nI tn := ht3
  have htT : ∀ j, j < tn → a 1 (196 + j) = T j := htT
  have p1 : R ≤ 12 := p1
  have p2 : W ≤ 16 := p2
  have p3 : m ≤ 1 := p3
  have p4 : R = 0 → W = 0 := p4
  have p5 : R ≠ 0 → 1 ≤ W := p5
  have q1 : tn ≤ R * W := q1
  have q2 : ∀ j, j < tn → isCol (T j) = true := q2
  have hRW := RW_le p1 p2
  unfold op_sheet
  dsimp only
  refine Ev_of omX10_sheet.1 (Nat.le_of_ble_eq_true rfl) ?_
  refine Z_go kX10_sheet okX10 [40] 80 ?_
  refine (m_isSheet k l).use ?_
  cases hkl : (hasRow 4 k && hasRow 3 l) with
  | false => exact ⟨fun _ => ⟨rfl, _, _, rfl, hM⟩, fun z => absurd rfl z⟩
  | true =>
    obtain ⟨hk, -⟩ := Bool.and_eq_true_iff.mp hkl
    obtain ⟨q, hq, rfl, e1⟩ := hasRow_of (by omega) hk
    rw [e1]
    refine ⟨fun z => (z1 z).elim, fun _ => ⟨fun (z : v ≤ nI 32) => ?_, fun (z : ¬ v ≤ nI 32) => ?_⟩⟩
    · rw [decide_eq_true z]
      simp only [Bool.and_self, if_true]
      refine ⟨fun (z2 : 0 ≤ v) => ?_, fun (z2 : ¬ 0 ≤ v) => ?_⟩
      · rw [if_neg (Int32.not_lt.mpr z2)]
        obtain ⟨N, hN, rfl⟩ := nI_of (Int32.not_lt.mpr z2)
        rw [nOf_n hN]
        refine ⟨vin (by omega) (by omega), ?_⟩
        refine ⟨vin (by omega) (by omega), ?_⟩
        rw [nI_clamp (show q < 2 ^ 31 by omega)]
        refine sheet_loop (a := aU (aU a 8 (upd (a 8) q l)) 9 (upd (a 9) q (nI N))) hq 32 0 (a 10) (by omega) (fun s' hs' => ?_)
        have hs' : ∀ j, s' j = if 32 * q + 0 ≤ j ∧ j < 32 * q + 32 then nI 0 else a 10 j := hs'
        refine ⟨rfl, aU (aU (aU a 8 (upd (a 8) q l)) 9 (upd (a 9) q (nI N))) 10 s', f, rfl, ⟨hs, ht3, htT⟩, hi, ⟨htp, h5⟩, ⟨h12, hsl⟩, fun y hy => ?_, h9, h19⟩
        by_cases e : y = q
        · subst e
          dsimp only
          rw [if_pos rfl]
          refine ⟨updS (f := a 8) (k := y), updS (f := a 9) (k := y), fun j hj => ?_⟩
          show s' (32 * y + j) = nI 0
          rw [hs', if_pos (by omega)]
        · dsimp only
          rw [if_neg e]
          refine ⟨(updN (f := a 8) e).trans (hsh y hy).1, (updN (f := a 9) e).trans (hsh y hy).2.1, fun j hj => ?_⟩
          show s' (32 * y + j) = _
          rw [hs', if_neg (by omega)]
          exact (hsh y hy).2.2 j hj
      · rw [if_pos (Int32.not_le.mp z2)]; exact ⟨rfl, _, _, rfl, hM⟩
    · rw [decide_eq_false z]
      simp only [Bool.and_false, Bool.false_eq_true, if_false]
      exact ⟨rfl, _, _, rfl, hM⟩
theorem y_lay (hS : okSg S) (hM : RM S a f) (k i v : Int32) : Ev g mX10_lay [vr 0, vi k, vi i, vi v] (mW a f) (MV (op_lay S k i v)) := by
  obtain ⟨⟨R, W, m, D⟩, ⟨tn, T⟩, ⟨n, TP⟩, ⟨sn, w⟩, im, sh, tf, rf⟩ := S
  obtain ⟨⟨p1, p2, p3, p4, p5⟩, ⟨q1, q2⟩, ⟨o3, o4⟩, ⟨o5, o5b⟩, o6, o7, o8, o9⟩ := id hS
  obtain ⟨⟨hs, ht3, htT⟩, hi, ⟨htp, h5⟩, ⟨h12, hsl⟩, hsh, h9, h19⟩ := id hM
  have hs : HM (a 1) R W m D := hs
  have ht3 : a 1 3 = nI tn := ht3
  have htT : ∀ j, j < tn → a 1 (196 + j) = T j := htT
  have p1 : R ≤ 12 := p1
  have p2 : W ≤ 16 := p2
  have p3 : m ≤ 1 := p3
  have p4 : R = 0 → W = 0 := p4
  have p5 : R ≠ 0 → 1 ≤ W := p5
  have q1 : tn ≤ R * W := q1
  have q2 : ∀ j, j < tn → isCol (T j) = true := q2
  have hRW := RW_le p1 p2
  unfold op_lay
  dsimp only
  refine Ev_of omX10_lay.1 (Nat.le_of_ble_eq_true rfl) ?_
  refine Z_go kX10_lay okX10 [45] 80 ?_
  have h := m_isSheet (g := g) (A := mW a f) k (nI 0)
  rw [show hasRow 3 (nI 0) = true by decide +kernel, Bool.and_true] at h
  refine h.use ?_
  cases hk : hasRow 4 k with
  | false => exact ⟨fun z => absurd rfl z, fun _ => ⟨rfl, _, _, rfl, hM⟩⟩
  | true =>
    obtain ⟨q, hq, rfl, e1⟩ := hasRow_of (by omega) hk
    rw [e1]
    obtain ⟨o71, o72⟩ := o7 q hq
    obtain ⟨s8, s9, s10⟩ := hsh q hq
    simp only [if_true]
    refine ⟨fun _ => ?_, fun (z : ¬ ¬ nI 1 = 0) => absurd z1 z⟩
    refine ⟨vin (by omega) (by omega), ?_⟩
    rw [nI_clamp (show q < 2 ^ 31 by omega), s8]
    refine ⟨fun (z : ¬ (sh q).1 = -nI 4) => ?_, fun (z : ¬ ¬ (sh q).1 = -nI 4) => ?_⟩
    · refine ⟨vin (by omega) (by omega), ?_⟩
      rw [nI_clamp (show q < 2 ^ 31 by omega), s9]
      have hh := m_in0 (g := g) (A := mW a f) i (nI (sh q).2.1 - nI 1)
      rw [hasRow_in (by omega)] at hh
      refine hh.use ?_
      cases hr : hasRow (sh q).2.1 i with
      | false =>
        have e3 : fltS (sh q).1 (sh q).2.1 (sh q).1 i = 3 := by
          unfold fltS; rw [if_neg z, if_neg (fun y => y rfl), if_pos (hasRow_no hr)]
        rw [e3, if_neg (by decide)]
        exact ⟨fun z => absurd rfl z, fun _ => ⟨congrArg (fun x => some (vi x)) (show -nI 13 = -nI 10 - nI 3 by decide +kernel), _, _, rfl, hM⟩⟩
      | true =>
        obtain ⟨y, hy, rfl, e2⟩ := hasRow_of (by omega) hr
        have e0 : fltS (sh q).1 (sh q).2.1 (sh q).1 (nI y) = 0 := by
          unfold fltS
          rw [if_neg z, if_neg (fun y => y rfl), if_neg]
          rintro (h1 | h1)
          · exact nI_pos (by omega) h1
          · rw [nI_leI (by omega) (by omega)] at h1; omega
        rw [e0, if_pos rfl, e2]
        refine ⟨fun _ => ?_, fun (z : ¬ ¬ nI 1 = 0) => absurd z1 z⟩
        have e : nI 32 * nI q + nI y = nI (32 * q + y) := by rw [pk_mul, nI_add]
        have fin : ∀ x : Int32, x = celV (sh q).1 v → MV (nI 1, (R, W, m, D), (tn, T), (n, TP), (sn, w), im, (fun j => if j = q then ((sh j).1, (sh j).2.1, upd (sh j).2.2 y (celV (sh j).1 v)) else sh j), tf, rf) (some (vi (nI 1))) (mW (aU a 10 (upd (a 10) (32 * q + y) x)) f) := by
          intro x hx
          refine ⟨rfl, _, f, rfl, ⟨hs, ht3, htT⟩, hi, ⟨htp, h5⟩, ⟨h12, hsl⟩, fun j hj => ?_, h9, h19⟩
          by_cases ej : j = q
          · subst ej
            dsimp only
            rw [if_pos rfl]
            refine ⟨s8, s9, fun c hc => ?_⟩
            show upd (a 10) (32 * j + y) x (32 * j + c) = upd (sh j).2.2 y (celV (sh j).1 v) c
            by_cases ec : c = y
            · rw [ec, updS, updS, hx]
            · rw [updN ec, updN (by omega)]; exact s10 c hc
          · dsimp only
            rw [if_neg ej]
            refine ⟨(hsh j hj).1, (hsh j hj).2.1, fun c hc => ?_⟩
            show upd (a 10) (32 * q + y) x (32 * j + c) = _
            rw [updN (by omega)]
            exact (hsh j hj).2.2 c hc
        unfold celV at fin
        refine Z_go kX10_lay okX10 [] 80 ?_
        refine ⟨vin (by omega) (by omega), ?_⟩
        rw [nI_clamp (show q < 2 ^ 31 by omega), s8]
        refine ⟨fun (c1 : ¬ (sh q).1 = nI 0) => ?_, fun (c1 : ¬ ¬ (sh q).1 = nI 0) => ?_⟩
        · refine ⟨vin (by omega) (by omega), ?_⟩
          rw [nI_clamp (show q < 2 ^ 31 by omega), s8]
          rw [if_neg c1] at fin
          refine ⟨fun (c2 : ¬ (sh q).1 = nI 1) => ?_, fun (c2 : ¬ ¬ (sh q).1 = nI 1) => ?_⟩
          · rw [if_neg c2] at fin
            refine ⟨by rw [e]; exact vin (by omega) (by omega), ?_⟩
            rw [e, nI_clamp (show 32 * q + y < 2 ^ 31 by omega)]
            exact fin _ rfl
          · rw [if_pos (Classical.not_not.mp c2)] at fin
            refine ⟨by rw [e]; exact vin (by omega) (by omega), ?_⟩
            rw [e, nI_clamp (show 32 * q + y < 2 ^ 31 by omega)]
            exact fin _ rfl
        · rw [if_pos (Classical.not_not.mp c1)] at fin
          refine ⟨by rw [e]; exact vin (by omega) (by omega), ?_⟩
          rw [e, nI_clamp (show 32 * q + y < 2 ^ 31 by omega)]
          exact fin _ rfl
    · have e1 : fltS (sh q).1 (sh q).2.1 (sh q).1 i = 1 := by
        unfold fltS; rw [if_pos (Classical.not_not.mp z)]
      rw [e1, if_neg (by decide)]
      exact ⟨congrArg (fun x => some (vi x)) (show -nI 11 = -nI 10 - nI 1 by decide +kernel), _, _, rfl, hM⟩
end MOD
