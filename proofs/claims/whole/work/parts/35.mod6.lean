/-! the reference: calls that write a little -/
section MOD
variable {g : GG} {a : Nat → Nat → Int32} {f : Nat → Int32} {R W m tn : Nat} {D : Nat → Nat → Int32} {T : Nat → Int32}
theorem in_dec {x z : Int32} : (decide (¬ x < 0) && decide (x ≤ z)) = decide (¬ (x < 0 ∨ z < x)) := by
  by_cases c1 : x < 0
  · simp [c1]
  · by_cases c2 : z < x
    · simp [c1, c2, show ¬ x ≤ z from Int32.not_le.mpr c2]
    · simp [c1, c2, show x ≤ z from Int32.not_lt.mp c2]
theorem m_inZ {A : AH} (x z : Int32) : Dt g mX10_in [vl x.toInt64, vl (lN 0), vl z.toInt64] A (some (vi (nI (fl (decide (¬ (x < 0 ∨ z < x))))))) A := by
  have h := m_in0 (g := g) (A := A) x z
  rw [in_dec] at h
  exact h
theorem m_inK {A : AH} (x : Int32) (k : Nat) (hk : k < 2 ^ 31) : Dt g mX10_in [vl x.toInt64, vl (lN 0), vl (lN k)] A (some (vi (nI (fl (decide (¬ (x < 0 ∨ nI k < x))))))) A := by
  have h := m_inZ (g := g) (A := A) x (nI k)
  rw [← lN_i64 hk] at h
  exact h
theorem HM_b {s : Nat → Int32} {r c : Nat} {x : Int32} (hR : R ≤ 12) (hW : W ≤ 16) (h : HM s R W m D) (hr : r < R) (hc : c < W) : HM (upd s (4 + 16 * r + c) x) R W m (setD D r c x) := by
  refine ⟨(updN (by omega)).trans h.1, fun z => (updN (by omega)).trans (h.2.1 z), (updN (by omega)).trans h.2.2.1, fun q d hq hd => ?_⟩
  unfold setD
  by_cases e : q = r ∧ d = c
  · obtain ⟨rfl, rfl⟩ := e
    rw [if_pos ⟨rfl, rfl⟩, updS]
  · rw [if_neg e, updN (by omega)]
    exact h.2.2.2 q d hq hd
theorem HM_m {s : Nat → Int32} {k : Nat} (h : HM s R W m D) : HM (upd s 2 (nI k)) R W k D :=
  ⟨(updN (by omega)).trans h.1, fun z => (updN (by omega)).trans (h.2.1 z), updS, fun r c hr hc => (updN (by omega)).trans (h.2.2.2 r c hr hc)⟩
theorem HT_z {s T : Nat → Int32} (hR : R ≤ 12) (hW : W ≤ 16) (h : HM s R W m D) : HT (upd s 3 (nI 0)) (R, W, m, D) (0, T) := ⟨HM_o hR hW h (Or.inl rfl), updS, fun i (hi2 : i < 0) => absurd hi2 (by omega)⟩
theorem HT_s {s T : Nat → Int32} {x : Int32} (hR : R ≤ 12) (hW : W ≤ 16) (h : HM s R W m D) (htT : ∀ j, j < tn → s (196 + j) = T j) : HT (upd (upd s (196 + tn) x) 3 (nI (tn + 1))) (R, W, m, D) (tn + 1, upd T tn x) := by
  refine ⟨HM_o hR hW (HM_o hR hW h (Or.inr (by omega))) (Or.inl rfl), updS, fun j hj => ?_⟩
  show upd (upd s (196 + tn) x) 3 (nI (tn + 1)) (196 + j) = upd T tn x j
  rw [updN (by omega)]
  by_cases e2 : j = tn
  · rw [e2, updS, updS]
  · rw [updN e2, updN (by omega)]
    exact htT j (by have hj : j < tn + 1 := hj; omega)
theorem HT_o {s T : Nat → Int32} {k : Nat} (hR : R ≤ 12) (hW : W ≤ 16) (h : HM s R W m D) (hk : k ≤ tn) (htT : ∀ j, j < tn → s (196 + j) = T j) : HT (upd s 3 (nI k)) (R, W, m, D) (k, T) := by
  refine ⟨HM_o hR hW h (Or.inl rfl), updS, fun j hj => ?_⟩
  show upd s 3 (nI k) (196 + j) = T j
  rw [updN (by omega)]
  exact htT j (by have hj : j < k := hj; omega)
end MOD
section MOD
variable {g : GG} {S : Sg} {a : Nat → Nat → Int32} {f : Nat → Int32}
theorem y_feed (hS : okSg S) (hM : RM S a f) (c : Int32) : Ev g mX10_feed [vr 0, vi c] (mW a f) (MV (op_feed S c)) := by
  obtain ⟨⟨R, W, m, D⟩, ⟨tn, T⟩, ⟨n, TP⟩, ⟨sn, w⟩, im, sh, tf, rf⟩ := S
  obtain ⟨⟨p1, p2, p3, p4, p5⟩, ⟨q1, q2⟩, ⟨o3, o4⟩, ⟨o5, o5b⟩, o6, o7, o8, o9⟩ := id hS
  obtain ⟨⟨hs, ht3, htT⟩, hi, ⟨htp, h5⟩, ⟨h12, hsl⟩, hsh, h9, h19⟩ := id hM
  have hs : HM (a 1) R W m D := hs
  have ht3 : a 1 3 = nI tn := ht3
  have htT : ∀ j, j < tn → a 1 (196 + j) = T j := htT
  have p1 : R ≤ 12 := p1
  have p2 : W ≤ 16 := p2
  have p3 : m ≤ 1 := p3
  have p4 : R = 0 → W = 0 := p4
  have p5 : R ≠ 0 → 1 ≤ W := p5
  have q1 : tn ≤ R * W := q1
  have q2 : ∀ j, j < tn → isCol (T j) = true := q2
  have hRW := RW_le p1 p2
  unfold op_feed
  dsimp only
  refine Ev_of omX10_feed.1 (Nat.le_of_ble_eq_true rfl) ?_
  refine Z_go kX10_feed okX10 [] 80 ?_
  refine (m_inK c 127 (by omega)).use ?_
  by_cases hx : c < 0 ∨ nI 127 < c
  · rw [if_pos hx, decide_eq_false (fun z => z hx)]
    exact ⟨fun z => absurd rfl z, fun _ => ⟨rfl, _, _, rfl, hM⟩⟩
  · rw [if_neg hx, decide_eq_true hx]
    refine ⟨fun _ => ?_, fun (z : ¬ ¬ nI 1 = 0) => absurd z1 z⟩
    refine ⟨fun (z : ¬ f 5 = nI 300) => ?_, fun (z : ¬ ¬ f 5 = nI 300) => ?_⟩
    · rw [h5, nI_eq (by omega) (by omega)] at z
      rw [if_neg z]
      refine ⟨by rw [h5]; exact vin (by omega) (by omega), ?_⟩
      refine ⟨by show some (vi (f 5 + nI 1)) = _; rw [h5, nI_add], aU a 5 (upd (a 5) (f 5).toNatClampNeg c), fU f 5 (f 5 + nI 1), rfl, ⟨hs, ht3, htT⟩, hi, ⟨?_, ?_⟩, ⟨h12, hsl⟩, hsh, h9, h19⟩
      · show upd (a 5) (f 5).toNatClampNeg c = upd TP n c
        rw [h5, nI_clamp (by omega), htp]
      · show f 5 + nI 1 = nI (n + 1)
        rw [h5, nI_add]
    · rw [h5, nI_eq (by omega) (by omega)] at z
      rw [if_pos (Classical.not_not.mp z)]
      exact ⟨rfl, _, _, rfl, hM⟩
theorem y_end (hS : okSg S) (hM : RM S a f) (k : Int32) : Ev g mX10_end [vr 0, vi k] (mW a f) (MV (op_end S k)) := by
  obtain ⟨⟨R, W, m, D⟩, ⟨tn, T⟩, ⟨n, TP⟩, ⟨sn, w⟩, im, sh, tf, rf⟩ := S
  obtain ⟨⟨p1, p2, p3, p4, p5⟩, ⟨q1, q2⟩, ⟨o3, o4⟩, ⟨o5, o5b⟩, o6, o7, o8, o9⟩ := id hS
  obtain ⟨⟨hs, ht3, htT⟩, hi, ⟨htp, h5⟩, ⟨h12, hsl⟩, hsh, h9, h19⟩ := id hM
  have hs : HM (a 1) R W m D := hs
  have ht3 : a 1 3 = nI tn := ht3
  have htT : ∀ j, j < tn → a 1 (196 + j) = T j := htT
  have p1 : R ≤ 12 := p1
  have p2 : W ≤ 16 := p2
  have p3 : m ≤ 1 := p3
  have p4 : R = 0 → W = 0 := p4
  have p5 : R ≠ 0 → 1 ≤ W := p5
  have q1 : tn ≤ R * W := q1
  have q2 : ∀ j, j < tn → isCol (T j) = true := q2
  have hRW := RW_le p1 p2
  unfold op_end
  dsimp only
  refine Ev_of omX10_end.1 (Nat.le_of_ble_eq_true rfl) ?_
  refine Z_go kX10_end okX10 [] 80 ?_
  refine (m_inZ k (f 5)).use ?_
  rw [h5]
  by_cases hx : k < 0 ∨ nI n < k
  · rw [if_pos hx, decide_eq_false (fun z => z hx)]
    exact ⟨fun z => absurd rfl z, fun _ => ⟨rfl, _, _, rfl, hM⟩⟩
  · rw [if_neg hx, decide_eq_true hx]
    refine ⟨fun _ => ?_, fun (z : ¬ ¬ nI 1 = 0) => absurd z1 z⟩
    obtain ⟨j, hj, rfl⟩ := nI_of (fun z => hx (Or.inl z))
    refine ⟨by show some (vi (f 5)) = _; rw [h5], a, fU f 5 (nI j), rfl, ⟨hs, ht3, htT⟩, hi, ⟨htp, ?_⟩, ⟨h12, hsl⟩, hsh, h9, h19⟩
    show nI j = nI (nOf (nI j))
    rw [nOf_n hj]
theorem y_tell (hS : okSg S) (hM : RM S a f) (v : Int32) : Ev g mX10_tell [vr 0, vi v] (mW a f) (MV (op_tell S v)) := by
  obtain ⟨⟨R, W, m, D⟩, ⟨tn, T⟩, ⟨n, TP⟩, ⟨sn, w⟩, im, sh, tf, rf⟩ := S
  obtain ⟨⟨p1, p2, p3, p4, p5⟩, ⟨q1, q2⟩, ⟨o3, o4⟩, ⟨o5, o5b⟩, o6, o7, o8, o9⟩ := id hS
  obtain ⟨⟨hs, ht3, htT⟩, hi, ⟨htp, h5⟩, ⟨h12, hsl⟩, hsh, h9, h19⟩ := id hM
  have hs : HM (a 1) R W m D := hs
  have ht3 : a 1 3 = nI tn := ht3
  have htT : ∀ j, j < tn → a 1 (196 + j) = T j := htT
  have p1 : R ≤ 12 := p1
  have p2 : W ≤ 16 := p2
  have p3 : m ≤ 1 := p3
  have p4 : R = 0 → W = 0 := p4
  have p5 : R ≠ 0 → 1 ≤ W := p5
  have q1 : tn ≤ R * W := q1
  have q2 : ∀ j, j < tn → isCol (T j) = true := q2
  have hRW := RW_le p1 p2
  unfold op_tell
  dsimp only
  refine Ev_of omX10_tell.1 (Nat.le_of_ble_eq_true rfl) ?_
  refine Z_go kX10_tell okX10 [] 80 ?_
  refine (m_inK v 99 (by omega)).use ?_
  by_cases hx : v < 0 ∨ nI 99 < v
  · rw [if_pos hx, decide_eq_false (fun z => z hx)]
    exact ⟨fun z => absurd rfl z, fun _ => ⟨rfl, _, _, rfl, hM⟩⟩
  · rw [if_neg hx, decide_eq_true hx]
    refine ⟨fun _ => ?_, fun (z : ¬ ¬ nI 1 = 0) => absurd z1 z⟩
    obtain ⟨j, hj, rfl⟩ := nI_of (fun z => hx (Or.inl z))
    refine ⟨fun (z : ¬ f 12 = nI 40) => ?_, fun (z : ¬ ¬ f 12 = nI 40) => ?_⟩
    · rw [h12, nI_eq (by omega) (by omega)] at z
      rw [if_neg z]
      refine ⟨by rw [h12]; exact vin (by omega) (by omega), ?_⟩
      refine ⟨by show some (vi (f 12 + nI 1)) = _; rw [h12, nI_add], aU a 6 (upd (a 6) (f 12).toNatClampNeg (nI j)), fU f 12 (f 12 + nI 1), rfl, ⟨hs, ht3, htT⟩, hi, ⟨htp, h5⟩, ⟨?_, ?_⟩, hsh, h9, h19⟩
      · show f 12 + nI 1 = nI (sn + 1)
        rw [h12, nI_add]
      · intro i hi2
        show upd (a 6) (f 12).toNatClampNeg (nI j) i = nI (if i = sn then nOf (nI j) else w i)
        rw [h12, nI_clamp (by omega), nOf_n hj]
        by_cases e : i = sn
        · rw [e, updS, if_pos rfl]
        · rw [updN e, if_neg e]
          exact hsl i (by have hi2 : i < sn + 1 := hi2; omega)
    · rw [h12, nI_eq (by omega) (by omega)] at z
      rw [if_pos (Classical.not_not.mp z)]
      exact ⟨rfl, _, _, rfl, hM⟩
theorem y_tear (hM : RM S a f) : Ev g mX10_tear [vr 0] (mW a f) (MV (op_tear S)) := by
  obtain ⟨p, t, ⟨n, TP⟩, ⟨sn, w⟩, im, sh, tf, rf⟩ := S
  obtain ⟨hp, hi, ht, ⟨h12, hsl⟩, hsh, h9, h19⟩ := id hM
  refine Ev_of omX10_tear.1 (Nat.le_of_ble_eq_true rfl) ?_
  refine Z_go kX10_tear okX10 [] 80 ?_
  exact ⟨by show some (vi (f 12)) = _; rw [h12]; rfl, a, fU f 12 (nI 0), rfl, hp, hi, ht, ⟨rfl, fun j (hj : j < 0) => absurd hj (by omega)⟩, hsh, h9, h19⟩
theorem y_string (hS : okSg S) (hM : RM S a f) (x : Int32) : Ev g mX10_string [vr 0, vi x] (mW a f) (MV (op_string S x)) := by
  obtain ⟨⟨R, W, m, D⟩, ⟨tn, T⟩, ⟨n, TP⟩, ⟨sn, w⟩, im, sh, tf, rf⟩ := S
  obtain ⟨⟨p1, p2, p3, p4, p5⟩, ⟨q1, q2⟩, ⟨o3, o4⟩, ⟨o5, o5b⟩, o6, o7, o8, o9⟩ := id hS
  obtain ⟨⟨hs, ht3, htT⟩, hi, ⟨htp, h5⟩, ⟨h12, hsl⟩, hsh, h9, h19⟩ := id hM
  have hs : HM (a 1) R W m D := hs
  have ht3 : a 1 3 = nI tn := ht3
  have htT : ∀ j, j < tn → a 1 (196 + j) = T j := htT
  have p1 : R ≤ 12 := p1
  have p2 : W ≤ 16 := p2
  have p3 : m ≤ 1 := p3
  have p4 : R = 0 → W = 0 := p4
  have p5 : R ≠ 0 → 1 ≤ W := p5
  have q1 : tn ≤ R * W := q1
  have q2 : ∀ j, j < tn → isCol (T j) = true := q2
  have hRW := RW_le p1 p2
  unfold op_string
  dsimp only
  refine Ev_of omX10_string.1 (Nat.le_of_ble_eq_true rfl) ?_
  refine Z_go kX10_string okX10 [] 80 ?_
  refine (m_isColour x).use ?_
  cases hc : isCol x with
  | false => exact ⟨fun z => absurd rfl z, fun _ => ⟨rfl, _, _, rfl, hM⟩⟩
  | true =>
    simp only [if_true]
    refine ⟨fun _ => ?_, fun (z : ¬ ¬ nI 1 = 0) => absurd z1 z⟩
    refine ⟨vin (by omega) (by omega), ?_⟩
    rw [show (nI 3).toNatClampNeg = 3 from rfl, ht3]
    refine ⟨rfl, (m_beads hs p1 p4).use ?_⟩
    have e : nI 196 + nI tn = nI (196 + tn) := nI_add _ _
    refine ⟨fun (z : ¬ nI tn = nI (R * W)) => ?_, fun (z : ¬ ¬ nI tn = nI (R * W)) => ?_⟩
    · rw [nI_eq (by omega) (by omega)] at z
      rw [if_neg (by omega)]
      refine ⟨vin (by omega) (by omega), ?_⟩
      rw [show (nI 3).toNatClampNeg = 3 from rfl, ht3]
      refine ⟨by rw [e]; exact vin (by omega) (by omega), ?_⟩
      rw [e, nI_clamp (by omega)]
      refine ⟨vin (by omega) (by omega), ?_⟩
      rw [show (nI 3).toNatClampNeg = 3 from rfl, updN (show ¬ 3 = 196 + tn by omega), ht3]
      refine ⟨vin (by omega) (by omega), ?_⟩
      refine ⟨vin (by omega) (by omega), ?_⟩
      rw [show (nI 3).toNatClampNeg = 3 from rfl, updS, ← nI_a1]
      refine ⟨rfl, aU a 1 (upd (upd (a 1) (196 + tn) x) 3 (nI (tn + 1))), f, rfl, HT_s p1 p2 hs htT, hi, ⟨htp, h5⟩, ⟨h12, hsl⟩, hsh, h9, h19⟩
    · rw [nI_eq (by omega) (by omega)] at z
      rw [if_pos (by omega)]
      exact ⟨rfl, _, _, rfl, hM⟩
theorem y_off (hS : okSg S) (hM : RM S a f) (k : Int32) : Ev g mX10_off [vr 0, vi k] (mW a f) (MV (op_off S k)) := by
  obtain ⟨⟨R, W, m, D⟩, ⟨tn, T⟩, ⟨n, TP⟩, ⟨sn, w⟩, im, sh, tf, rf⟩ := S
  obtain ⟨⟨p1, p2, p3, p4, p5⟩, ⟨q1, q2⟩, ⟨o3, o4⟩, ⟨o5, o5b⟩, o6, o7, o8, o9⟩ := id hS
  obtain ⟨⟨hs, ht3, htT⟩, hi, ⟨htp, h5⟩, ⟨h12, hsl⟩, hsh, h9, h19⟩ := id hM
  have hs : HM (a 1) R W m D := hs
  have ht3 : a 1 3 = nI tn := ht3
  have htT : ∀ j, j < tn → a 1 (196 + j) = T j := htT
  have p1 : R ≤ 12 := p1
  have p2 : W ≤ 16 := p2
  have p3 : m ≤ 1 := p3
  have p4 : R = 0 → W = 0 := p4
  have p5 : R ≠ 0 → 1 ≤ W := p5
  have q1 : tn ≤ R * W := q1
  have q2 : ∀ j, j < tn → isCol (T j) = true := q2
  have hRW := RW_le p1 p2
  unfold op_off
  dsimp only
  refine Ev_of omX10_off.1 (Nat.le_of_ble_eq_true rfl) ?_
  refine Z_go kX10_off okX10 [] 80 ?_
  refine ⟨vin (by omega) (by omega), ?_⟩
  rw [show (nI 3).toNatClampNeg = 3 from rfl, ht3]
  refine (m_inZ k (nI tn)).use ?_
  by_cases hx : k < 0 ∨ nI tn < k
  · rw [if_pos hx, decide_eq_false (fun z => z hx)]
    exact ⟨fun z => absurd rfl z, fun _ => ⟨rfl, _, _, rfl, hM⟩⟩
  · rw [if_neg hx, decide_eq_true hx]
    refine ⟨fun _ => ?_, fun (z : ¬ ¬ nI 1 = 0) => absurd z1 z⟩
    obtain ⟨j, hj, rfl⟩ := nI_of (fun z => hx (Or.inl z))
    have hjt : j ≤ tn := by
      have : ¬ nI tn < nI j := fun z => hx (Or.inr z)
      rw [nI_ltI (by omega) hj] at this
      omega
    rw [nOf_n hj]
    refine ⟨vin (by omega) (by omega), ?_⟩
    rw [show (nI 3).toNatClampNeg = 3 from rfl, ht3]
    refine ⟨vin (by omega) (by omega), ?_⟩
    refine ⟨vin (by omega) (by omega), ?_⟩
    rw [show (nI 3).toNatClampNeg = 3 from rfl, updS, pk_sub hjt]
    refine ⟨rfl, aU a 1 (upd (a 1) 3 (nI (tn - j))), f, rfl, HT_o p1 p2 hs (by omega) htT, hi, ⟨htp, h5⟩, ⟨h12, hsl⟩, hsh, h9, h19⟩
theorem y_mode (hS : okSg S) (hM : RM S a f) (v : Int32) : Ev g mX10_mode [vr 0, vi v] (mW a f) (MV (op_mode S v)) := by
  obtain ⟨⟨R, W, m, D⟩, ⟨tn, T⟩, ⟨n, TP⟩, ⟨sn, w⟩, im, sh, tf, rf⟩ := S
  obtain ⟨⟨p1, p2, p3, p4, p5⟩, ⟨q1, q2⟩, ⟨o3, o4⟩, ⟨o5, o5b⟩, o6, o7, o8, o9⟩ := id hS
  obtain ⟨⟨hs, ht3, htT⟩, hi, ⟨htp, h5⟩, ⟨h12, hsl⟩, hsh, h9, h19⟩ := id hM
  have hs : HM (a 1) R W m D := hs
  have ht3 : a 1 3 = nI tn := ht3
  have htT : ∀ j, j < tn → a 1 (196 + j) = T j := htT
  have p1 : R ≤ 12 := p1
  have p2 : W ≤ 16 := p2
  have p3 : m ≤ 1 := p3
  have p4 : R = 0 → W = 0 := p4
  have p5 : R ≠ 0 → 1 ≤ W := p5
  have q1 : tn ≤ R * W := q1
  have q2 : ∀ j, j < tn → isCol (T j) = true := q2
  have hRW := RW_le p1 p2
  unfold op_mode
  dsimp only
  refine Ev_of omX10_mode.1 (Nat.le_of_ble_eq_true rfl) ?_
  refine Z_go kX10_mode okX10 [] 80 ?_
  refine (m_inK v 1 (by omega)).use ?_
  by_cases hx : v < 0 ∨ nI 1 < v
  · rw [if_pos hx, decide_eq_false (fun z => z hx)]
    exact ⟨fun z => absurd rfl z, fun _ => ⟨rfl, _, _, rfl, hM⟩⟩
  · rw [if_neg hx, decide_eq_true hx]
    refine ⟨fun _ => ?_, fun (z : ¬ ¬ nI 1 = 0) => absurd z1 z⟩
    obtain ⟨j, hj, rfl⟩ := nI_of (fun z => hx (Or.inl z))
    rw [nOf_n hj]
    refine ⟨vin (by omega) (by omega), ?_⟩
    rw [show (nI 2).toNatClampNeg = 2 from rfl, hs.2.2.1]
    refine ⟨vin (by omega) (by omega), ?_⟩
    refine ⟨vin (by omega) (by omega), ?_⟩
    rw [show (nI 2).toNatClampNeg = 2 from rfl, show (nI 3).toNatClampNeg = 3 from rfl]
    exact ⟨rfl, aU a 1 (upd (upd (a 1) 2 (nI j)) 3 (nI 0)), f, rfl, HT_z p1 p2 (HM_m hs), hi, ⟨htp, h5⟩, ⟨h12, hsl⟩, hsh, h9, h19⟩
theorem y_paint (hS : okSg S) (hM : RM S a f) (r c x : Int32) : Ev g mX10_paint [vr 0, vi r, vi c, vi x] (mW a f) (MV (op_paint S r c x)) := by
  obtain ⟨⟨R, W, m, D⟩, ⟨tn, T⟩, ⟨n, TP⟩, ⟨sn, w⟩, im, sh, tf, rf⟩ := S
  obtain ⟨⟨p1, p2, p3, p4, p5⟩, ⟨q1, q2⟩, ⟨o3, o4⟩, ⟨o5, o5b⟩, o6, o7, o8, o9⟩ := id hS
  obtain ⟨⟨hs, ht3, htT⟩, hi, ⟨htp, h5⟩, ⟨h12, hsl⟩, hsh, h9, h19⟩ := id hM
  have hs : HM (a 1) R W m D := hs
  have ht3 : a 1 3 = nI tn := ht3
  have htT : ∀ j, j < tn → a 1 (196 + j) = T j := htT
  have p1 : R ≤ 12 := p1
  have p2 : W ≤ 16 := p2
  have p3 : m ≤ 1 := p3
  have p4 : R = 0 → W = 0 := p4
  have p5 : R ≠ 0 → 1 ≤ W := p5
  have q1 : tn ≤ R * W := q1
  have q2 : ∀ j, j < tn → isCol (T j) = true := q2
  have hRW := RW_le p1 p2
  unfold op_paint
  dsimp only
  refine Ev_of omX10_paint.1 (Nat.le_of_ble_eq_true rfl) ?_
  refine Z_go kX10_paint okX10 [] 80 ?_
  refine ⟨rfl, (m_isRow hs p1 r).use ?_⟩
  cases hh : hasRow R r with
  | false => exact ⟨fun _ => ⟨rfl, _, _, rfl, hM⟩, fun z => absurd rfl z⟩
  | true =>
    obtain ⟨k, hk, rfl, e1⟩ := hasRow_of (by omega) hh
    refine ⟨fun z => (z1 z).elim, fun _ => ?_⟩
    refine ⟨vin (by omega) (by omega), ?_⟩
    rw [show (nI 1).toNatClampNeg = 1 from rfl, hs.2.1 (by omega)]
    have h := m_in0 (g := g) (A := mW a f) c (nI W - nI 1)
    rw [hasRow_in (by omega)] at h
    refine h.use ?_
    cases hc : hasRow W c with
    | false => exact ⟨fun _ => ⟨rfl, _, _, rfl, hM⟩, fun z => absurd rfl z⟩
    | true =>
      obtain ⟨j, hj, rfl, e2⟩ := hasRow_of (by omega) hc
      refine ⟨fun z => (z1 z).elim, fun _ => ?_⟩
      refine (m_isColour x).use ?_
      cases hx : isCol x with
      | false => exact ⟨fun z => absurd rfl z, fun _ => ⟨rfl, _, _, rfl, hM⟩⟩
      | true =>
        rw [e1, e2]
        refine ⟨fun _ => ?_, fun (z : ¬ ¬ nI 1 = 0) => absurd z1 z⟩
        refine ⟨rfl, (m_beadOf hs p1 p2 hk hj).use ?_⟩
        have e : nI 4 + nI 16 * nI k + nI j = nI (4 + 16 * k + j) := by rw [pk_mul, nI_add, nI_add]
        refine ⟨by rw [e]; exact vin (by omega) (by omega), ?_⟩
        refine ⟨vin (by omega) (by omega), ?_⟩
        rw [e, nI_clamp (by omega), show (nI 3).toNatClampNeg = 3 from rfl]
        exact ⟨rfl, aU a 1 (upd (upd (a 1) (4 + 16 * k + j) x) 3 (nI 0)), f, rfl, HT_z p1 p2 (HM_b p1 p2 hs hk hj), hi, ⟨htp, h5⟩, ⟨h12, hsl⟩, hsh, h9, h19⟩
end MOD
