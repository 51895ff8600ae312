/-! the reference: what its arrays hold; the calls that read -/
def aU (a : Nat → Nat → Int32) (k : Nat) (v : Nat → Int32) : Nat → Nat → Int32 := fun j => if j = k then v else a j
def fU (f : Nat → Int32) (k : Nat) (v : Int32) : Nat → Int32 := fun j => if j = k then v else f j
def HT (s : Nat → Int32) (p : Pic) (t : Thr) : Prop := HM s p.1 p.2.1 p.2.2.1 p.2.2.2 ∧ s 3 = nI t.1 ∧ ∀ j, j < t.1 → s (196 + j) = t.2 j
def RM (S : Sg) (a : Nat → Nat → Int32) (f : Nat → Int32) : Prop := match S with
  | (p, t, (n, TP), (sn, w), im, sh, tf, rf) =>
    HT (a 1) p t ∧ (∀ k, k < 2 → a 4 k = nI (fl (im k).1) ∧ HT (fun i => a 3 (388 * k + i)) (im k).2.1 (im k).2.2) ∧ (a 5 = TP ∧ f 5 = nI n) ∧ (f 12 = nI sn ∧ ∀ j, j < sn → a 6 j = nI (w j)) ∧
    (∀ k, k < 4 → a 8 k = (sh k).1 ∧ a 9 k = nI (sh k).2.1 ∧ ∀ j, j < 32 → a 10 (32 * k + j) = (sh k).2.2 j) ∧ f 9 = nI tf ∧ f 19 = nI rf
def MV (x : Int32 × Sg) : Option AV → AH → Prop := fun v A => v = some (vi x.1) ∧ ∃ a f, A = mW a f ∧ RM x.2 a f
theorem al_of {p : Nat → Bool} : ∀ (n c : Nat), (∀ i, c ≤ i → i < c + n → p i = true) → al p c n = true := by
  intro n
  induction n with
  | zero => intro c _; rfl
  | succ n ih => intro c h; simp only [al, h c (Nat.le_refl _) (by omega), ih (c + 1) (fun i a b => h i (by omega) (by omega)), Bool.and_self]
theorem fs1_first {p : Nat → Bool} : ∀ (r c n : Nat), r < n → p (c + r) = true → fs1 p c n = some ((fs1 p c r).getD (c + r)) := by
  intro r
  induction r with
  | zero =>
    intro c n h1 h2
    obtain ⟨n, rfl⟩ : ∃ k, n = k + 1 := ⟨n - 1, by omega⟩
    simp only [fs1]
    rw [if_pos (show p c = true from h2)]; rfl
  | succ r ih =>
    intro c n h1 h2
    obtain ⟨n, rfl⟩ : ∃ k, n = k + 1 := ⟨n - 1, by omega⟩
    simp only [fs1]
    by_cases h : p c = true
    · rw [if_pos h, if_pos h]; rfl
    · rw [if_neg h, if_neg h, ih (c + 1) n (by omega) (by rw [show c + 1 + r = c + (r + 1) by omega]; exact h2), show c + 1 + r = c + (r + 1) by omega]
theorem first_eq {L : Nat → Nat → Int32} {W r R : Nat} (hr : r < R) : likeL L W r R false = some (firstL L W r) := by
  unfold likeL firstL likeL
  have h := fs1_first (p := fun s => sameL L W r s false) r 0 R hr (by
    show sameL L W r (0 + r) false = true
    rw [Nat.zero_add]
    unfold sameL
    exact al_of _ _ (fun i _ _ => by simp [smp]))
  rw [Nat.zero_add] at h
  exact h
section MOD
variable {g : GG} {S : Sg} {a : Nat → Nat → Int32} {f : Nat → Int32}
theorem y_rule (hS : okSg S) (hM : RM S a f) (x : Int32) : Ev g mX10_rule [vr 0, vi x] (mW a f) (MV (op_rule S x)) := by
  obtain ⟨⟨R, W, m, D⟩, ⟨tn, T⟩, ⟨n, TP⟩, ⟨sn, w⟩, im, sh, tf, rf⟩ := S
  obtain ⟨⟨p1, p2, p3, p4, p5⟩, ⟨q1, q2⟩, ⟨o3, o4⟩, ⟨o5, o5b⟩, o6, o7, o8, o9⟩ := id hS
  obtain ⟨⟨hs, ht3, htT⟩, hi, ⟨htp, h5⟩, ⟨h12, hsl⟩, hsh, h9, h19⟩ := id hM
  have hs : HM (a 1) R W m D := hs
  have ht3 : a 1 3 = nI tn := ht3
  have htT : ∀ j, j < tn → a 1 (196 + j) = T j := htT
  have p1 : R ≤ 12 := p1
  have p2 : W ≤ 16 := p2
  have p3 : m ≤ 1 := p3
  have p4 : R = 0 → W = 0 := p4
  have p5 : R ≠ 0 → 1 ≤ W := p5
  have q1 : tn ≤ R * W := q1
  have q2 : ∀ j, j < tn → isCol (T j) = true := q2
  have hRW := RW_le p1 p2
  unfold op_rule
  dsimp only
  refine Ev_of omX10_rule.1 (Nat.le_of_ble_eq_true rfl) ?_
  refine Z_go kX10_rule okX10 [] 80 ?_
  refine ⟨fun (z0 : x = nI 0) => ?_, fun (z0 : ¬ x = nI 0) => ⟨fun (z1 : x = nI 1) => ?_, fun (z1 : ¬ x = nI 1) => ⟨fun (z2 : x = nI 2) => ?_, fun (z2 : ¬ x = nI 2) => ⟨fun (z3 : x = nI 3) => ?_, fun (z3 : ¬ x = nI 3) => ⟨fun (z4 : x = nI 4) => ?_, fun (z4 : ¬ x = nI 4) => ⟨fun (z5 : x = nI 5) => ?_, fun (z5 : ¬ x = nI 5) => ⟨fun (z6 : x = nI 6) => ?_, fun (z6 : ¬ x = nI 6) => ⟨fun (z7 : x = nI 7) => ?_, fun (z7 : ¬ x = nI 7) => ⟨fun (z8 : x = nI 8) => ?_, fun (z8 : ¬ x = nI 8) => ⟨fun (z9 : x = nI 9) => ?_, fun (z9 : ¬ x = nI 9) => ?_⟩⟩⟩⟩⟩⟩⟩⟩⟩⟩
  · rw [if_pos z0]
    refine ⟨vin (by omega) (by omega), ?_⟩
    rw [show (nI 0).toNatClampNeg = 0 from rfl, hs.1]
    exact ⟨rfl, _, _, rfl, hM⟩
  · rw [if_neg z0, if_pos z1]
    refine ⟨rfl, (m_width hs p1 p4).use ?_⟩
    exact ⟨rfl, _, _, rfl, hM⟩
  · rw [if_neg z0, if_neg z1, if_pos z2]
    refine ⟨vin (by omega) (by omega), ?_⟩
    rw [show (nI 2).toNatClampNeg = 2 from rfl, hs.2.2.1]
    exact ⟨rfl, _, _, rfl, hM⟩
  · rw [if_neg z0, if_neg z1, if_neg z2, if_pos z3]
    refine ⟨rfl, (m_beads hs p1 p4).use ?_⟩
    exact ⟨rfl, _, _, rfl, hM⟩
  · rw [if_neg z0, if_neg z1, if_neg z2, if_neg z3, if_pos z4]
    refine ⟨rfl, (m_allWords hs p1 p2 p3 p5).use ?_⟩
    exact ⟨rfl, _, _, rfl, hM⟩
  · rw [if_neg z0, if_neg z1, if_neg z2, if_neg z3, if_neg z4, if_pos z5]
    refine ⟨rfl, (m_unlike hs p1 p2 p3).use ?_⟩
    exact ⟨rfl, _, _, rfl, hM⟩
  · rw [if_neg z0, if_neg z1, if_neg z2, if_neg z3, if_neg z4, if_neg z5, if_pos z6]
    refine ⟨rfl, (m_allRuns hs p1 p2 p3).use ?_⟩
    exact ⟨rfl, _, _, rfl, hM⟩
  · rw [if_neg z0, if_neg z1, if_neg z2, if_neg z3, if_neg z4, if_neg z5, if_neg z6, if_pos z7]
    refine ⟨rfl, (m_colours hs p1 p2).use ?_⟩
    exact ⟨rfl, _, _, rfl, hM⟩
  · rw [if_neg z0, if_neg z1, if_neg z2, if_neg z3, if_neg z4, if_neg z5, if_neg z6, if_neg z7, if_pos z8]
    refine ⟨vin (by omega) (by omega), ?_⟩
    rw [show (nI 3).toNatClampNeg = 3 from rfl, ht3]
    exact ⟨rfl, _, _, rfl, hM⟩
  · rw [if_neg z0, if_neg z1, if_neg z2, if_neg z3, if_neg z4, if_neg z5, if_neg z6, if_neg z7, if_neg z8, if_pos z9]
    exact ⟨by rw [← h12], _, _, rfl, hM⟩
  · rw [if_neg z0, if_neg z1, if_neg z2, if_neg z3, if_neg z4, if_neg z5, if_neg z6, if_neg z7, if_neg z8, if_neg z9]; exact ⟨rfl, _, _, rfl, hM⟩
theorem y_bead (hS : okSg S) (hM : RM S a f) (r c : Int32) : Ev g mX10_bead [vr 0, vi r, vi c] (mW a f) (MV (op_bead S r c)) := by
  obtain ⟨⟨R, W, m, D⟩, ⟨tn, T⟩, ⟨n, TP⟩, ⟨sn, w⟩, im, sh, tf, rf⟩ := S
  obtain ⟨⟨p1, p2, p3, p4, p5⟩, ⟨q1, q2⟩, ⟨o3, o4⟩, ⟨o5, o5b⟩, o6, o7, o8, o9⟩ := id hS
  obtain ⟨⟨hs, ht3, htT⟩, hi, ⟨htp, h5⟩, ⟨h12, hsl⟩, hsh, h9, h19⟩ := id hM
  have hs : HM (a 1) R W m D := hs
  have ht3 : a 1 3 = nI tn := ht3
  have htT : ∀ j, j < tn → a 1 (196 + j) = T j := htT
  have p1 : R ≤ 12 := p1
  have p2 : W ≤ 16 := p2
  have p3 : m ≤ 1 := p3
  have p4 : R = 0 → W = 0 := p4
  have p5 : R ≠ 0 → 1 ≤ W := p5
  have q1 : tn ≤ R * W := q1
  have q2 : ∀ j, j < tn → isCol (T j) = true := q2
  have hRW := RW_le p1 p2
  unfold op_bead
  dsimp only
  refine Ev_of omX10_bead.1 (Nat.le_of_ble_eq_true rfl) ?_
  refine Z_go kX10_bead okX10 [] 80 ?_
  refine ⟨rfl, (m_isRow hs p1 r).use ?_⟩
  cases hh : hasRow R r with
  | false => exact ⟨fun _ => ⟨rfl, _, _, rfl, hM⟩, fun z => absurd rfl z⟩
  | true =>
    obtain ⟨k, hk, rfl, e1⟩ := hasRow_of (by omega) hh
    refine ⟨fun z => (z1 z).elim, fun _ => ?_⟩
    refine ⟨vin (by omega) (by omega), ?_⟩
    rw [show (nI 1).toNatClampNeg = 1 from rfl, hs.2.1 (by omega)]
    have h := m_in0 (g := g) (A := mW a f) c (nI W - nI 1)
    rw [hasRow_in (by omega)] at h
    refine h.use ?_
    cases hc : hasRow W c with
    | false => exact ⟨fun _ => ⟨rfl, _, _, rfl, hM⟩, fun z => absurd rfl z⟩
    | true =>
      obtain ⟨j, hj, rfl, e2⟩ := hasRow_of (by omega) hc
      refine ⟨fun z => (z1 z).elim, fun _ => ?_⟩
      refine ⟨rfl, (m_beadOf hs p1 p2 hk hj).use ?_⟩
      exact ⟨by rw [e1, e2]; rfl, _, _, rfl, hM⟩
theorem y_many (hS : okSg S) (hM : RM S a f) (r x : Int32) : Ev g mX10_many [vr 0, vi r, vi x] (mW a f) (MV (op_many S r x)) := by
  obtain ⟨⟨R, W, m, D⟩, ⟨tn, T⟩, ⟨n, TP⟩, ⟨sn, w⟩, im, sh, tf, rf⟩ := S
  obtain ⟨⟨p1, p2, p3, p4, p5⟩, ⟨q1, q2⟩, ⟨o3, o4⟩, ⟨o5, o5b⟩, o6, o7, o8, o9⟩ := id hS
  obtain ⟨⟨hs, ht3, htT⟩, hi, ⟨htp, h5⟩, ⟨h12, hsl⟩, hsh, h9, h19⟩ := id hM
  have hs : HM (a 1) R W m D := hs
  have ht3 : a 1 3 = nI tn := ht3
  have htT : ∀ j, j < tn → a 1 (196 + j) = T j := htT
  have p1 : R ≤ 12 := p1
  have p2 : W ≤ 16 := p2
  have p3 : m ≤ 1 := p3
  have p4 : R = 0 → W = 0 := p4
  have p5 : R ≠ 0 → 1 ≤ W := p5
  have q1 : tn ≤ R * W := q1
  have q2 : ∀ j, j < tn → isCol (T j) = true := q2
  have hRW := RW_le p1 p2
  unfold op_many
  dsimp only
  refine Ev_of omX10_many.1 (Nat.le_of_ble_eq_true rfl) ?_
  refine Z_go kX10_many okX10 [14] 80 ?_
  have go : Z g mX10_many 11 (MV (if isCol x = true then (if r = -nI 4 then nI (manyA D R W x) else if hasRow R r = true then nI (manyR D W (nOf r) x) else -nI 1) else -nI 1, ((R, W, m, D), (tn, T), (n, TP), (sn, w), im, sh, tf, rf))) 14 [some (vr 0), some (vi r), some (vi x)] [] (mW a f) ∨ (¬ r = -nI 4 ∧ hasRow R r = false) := by
    by_cases hr : r = -nI 4
    · refine Or.inl ?_
      rw [if_pos hr]
      refine Z_go kX10_many okX10 [] 80 ?_
      refine (m_isColour x).use ?_
      cases hc : isCol x with
      | false => exact ⟨fun _ => ⟨rfl, _, _, rfl, hM⟩, fun z => absurd rfl z⟩
      | true =>
        refine ⟨fun z => (z1 z).elim, fun _ => ?_⟩
        subst hr
        refine ⟨rfl, (m_manyAll hs p1 p2 x).use ?_⟩
        exact ⟨rfl, _, _, rfl, hM⟩
    · rw [if_neg hr]
      cases hh : hasRow R r with
      | false => exact Or.inr ⟨hr, rfl⟩
      | true =>
        refine Or.inl ?_
        obtain ⟨k, hk, rfl, e1⟩ := hasRow_of (by omega) hh
        rw [e1]
        refine Z_go kX10_many okX10 [] 80 ?_
        refine (m_isColour x).use ?_
        cases hc : isCol x with
        | false => exact ⟨fun _ => ⟨rfl, _, _, rfl, hM⟩, fun z => absurd rfl z⟩
        | true =>
          refine ⟨fun z => (z1 z).elim, fun _ => ?_⟩
          refine ⟨rfl, (m_manyRow hs p1 p2 hk x).use ?_⟩
          exact ⟨rfl, _, _, rfl, hM⟩
  rcases go with go | ⟨g1, g2⟩
  · refine ⟨fun (z : r = -nI 4) => go, fun (z : ¬ r = -nI 4) => ?_⟩
    refine ⟨rfl, (m_isRow hs p1 r).use ?_⟩
    cases hh : hasRow R r with
    | false =>
      rw [if_neg z]
      exact ⟨fun _ => ⟨by cases isCol x <;> rfl, _, _, rfl, hM⟩, fun z => absurd rfl z⟩
    | true =>
      rw [hh] at go
      exact ⟨fun z => (z1 z).elim, fun _ => go⟩
  · refine ⟨fun (z : r = -nI 4) => absurd z g1, fun (z : ¬ r = -nI 4) => ?_⟩
    refine ⟨rfl, (m_isRow hs p1 r).use ?_⟩
    rw [g2, if_neg z]
    exact ⟨fun _ => ⟨by cases isCol x <;> rfl, _, _, rfl, hM⟩, fun z => absurd rfl z⟩
theorem y_row (hS : okSg S) (hM : RM S a f) (r x : Int32) : Ev g mX10_row [vr 0, vi r, vi x] (mW a f) (MV (op_row S r x)) := by
  obtain ⟨⟨R, W, m, D⟩, ⟨tn, T⟩, ⟨n, TP⟩, ⟨sn, w⟩, im, sh, tf, rf⟩ := S
  obtain ⟨⟨p1, p2, p3, p4, p5⟩, ⟨q1, q2⟩, ⟨o3, o4⟩, ⟨o5, o5b⟩, o6, o7, o8, o9⟩ := id hS
  obtain ⟨⟨hs, ht3, htT⟩, hi, ⟨htp, h5⟩, ⟨h12, hsl⟩, hsh, h9, h19⟩ := id hM
  have hs : HM (a 1) R W m D := hs
  have ht3 : a 1 3 = nI tn := ht3
  have htT : ∀ j, j < tn → a 1 (196 + j) = T j := htT
  have p1 : R ≤ 12 := p1
  have p2 : W ≤ 16 := p2
  have p3 : m ≤ 1 := p3
  have p4 : R = 0 → W = 0 := p4
  have p5 : R ≠ 0 → 1 ≤ W := p5
  have q1 : tn ≤ R * W := q1
  have q2 : ∀ j, j < tn → isCol (T j) = true := q2
  have hRW := RW_le p1 p2
  unfold op_row
  dsimp only
  refine Ev_of omX10_row.1 (Nat.le_of_ble_eq_true rfl) ?_
  refine Z_go kX10_row okX10 [] 80 ?_
  refine ⟨rfl, (m_isRow hs p1 r).use ?_⟩
  cases hh : hasRow R r with
  | false => exact ⟨fun z => absurd rfl z, fun _ => ⟨rfl, _, _, rfl, hM⟩⟩
  | true =>
    obtain ⟨k, hk, rfl, e1⟩ := hasRow_of (by omega) hh
    rw [e1]
    have hW1 : 1 ≤ W := p5 (by omega)
    refine ⟨fun _ => ?_, fun (z : ¬ ¬ nI 1 = 0) => absurd z1 z⟩
    simp only [if_true]
    refine ⟨fun (z0 : x = nI 0) => ?_, fun (z0 : ¬ x = nI 0) => ⟨fun (z1 : x = nI 1) => ?_, fun (z1 : ¬ x = nI 1) => ⟨fun (z2 : x = nI 2) => ?_, fun (z2 : ¬ x = nI 2) => ⟨fun (z3 : x = nI 3) => ?_, fun (z3 : ¬ x = nI 3) => ⟨fun (z4 : x = nI 4) => ?_, fun (z4 : ¬ x = nI 4) => ⟨fun (z5 : x = nI 5) => ?_, fun (z5 : ¬ x = nI 5) => ?_⟩⟩⟩⟩⟩⟩
    · rw [if_pos z0]
      refine ⟨rfl, (m_formOf hs p1 p2 p3 hk hW1).use ?_⟩
      exact ⟨rfl, _, _, rfl, hM⟩
    · rw [if_neg z0, if_pos z1]
      refine ⟨rfl, (m_formOf hs p1 p2 p3 hk hW1).use ?_⟩
      refine ⟨rfl, (m_wordsBy hs p1 p2 p3 hk hW1 frm_le).use ?_⟩
      exact ⟨rfl, _, _, rfl, hM⟩
    · rw [if_neg z0, if_neg z1, if_pos z2]
      refine ⟨vin (by omega) (by omega), ?_⟩
      rw [show (nI 1).toNatClampNeg = 1 from rfl, hs.2.1 (by omega)]
      refine ⟨rfl, (m_runsOf hs p1 p2 p3 hk (Nat.le_refl _)).use ?_⟩
      exact ⟨rfl, _, _, rfl, hM⟩
    · rw [if_neg z0, if_neg z1, if_neg z2, if_pos z3]
      refine ⟨vin (by omega) (by omega), ?_⟩
      rw [show (nI 0).toNatClampNeg = 0 from rfl, hs.1]
      refine ⟨rfl, (m_likeOf (t := false) hs p1 p2 p3 hk (Nat.le_refl _)).use ?_⟩
      exact ⟨by rw [first_eq hk]; rfl, _, _, rfl, hM⟩
    · rw [if_neg z0, if_neg z1, if_neg z2, if_neg z3, if_pos z4]
      refine ⟨rfl, (m_likes hs p1 p2 p3 hk).use ?_⟩
      exact ⟨rfl, _, _, rfl, hM⟩
    · rw [if_neg z0, if_neg z1, if_neg z2, if_neg z3, if_neg z4, if_pos z5]
      refine ⟨rfl, (m_partOf hs p1 p2 p3 hk hW1).use ?_⟩
      exact ⟨rfl, _, _, rfl, hM⟩
    · rw [if_neg z0, if_neg z1, if_neg z2, if_neg z3, if_neg z4, if_neg z5]; exact ⟨rfl, _, _, rfl, hM⟩
theorem y_words (hS : okSg S) (hM : RM S a f) (r x : Int32) : Ev g mX10_words [vr 0, vi r, vi x] (mW a f) (MV (op_words S r x)) := by
  obtain ⟨⟨R, W, m, D⟩, ⟨tn, T⟩, ⟨n, TP⟩, ⟨sn, w⟩, im, sh, tf, rf⟩ := S
  obtain ⟨⟨p1, p2, p3, p4, p5⟩, ⟨q1, q2⟩, ⟨o3, o4⟩, ⟨o5, o5b⟩, o6, o7, o8, o9⟩ := id hS
  obtain ⟨⟨hs, ht3, htT⟩, hi, ⟨htp, h5⟩, ⟨h12, hsl⟩, hsh, h9, h19⟩ := id hM
  have hs : HM (a 1) R W m D := hs
  have ht3 : a 1 3 = nI tn := ht3
  have htT : ∀ j, j < tn → a 1 (196 + j) = T j := htT
  have p1 : R ≤ 12 := p1
  have p2 : W ≤ 16 := p2
  have p3 : m ≤ 1 := p3
  have p4 : R = 0 → W = 0 := p4
  have p5 : R ≠ 0 → 1 ≤ W := p5
  have q1 : tn ≤ R * W := q1
  have q2 : ∀ j, j < tn → isCol (T j) = true := q2
  have hRW := RW_le p1 p2
  unfold op_words
  dsimp only
  refine Ev_of omX10_words.1 (Nat.le_of_ble_eq_true rfl) ?_
  refine Z_go kX10_words okX10 [] 80 ?_
  refine ⟨rfl, (m_isRow hs p1 r).use ?_⟩
  cases hh : hasRow R r with
  | false => exact ⟨fun _ => ⟨rfl, _, _, rfl, hM⟩, fun z => absurd rfl z⟩
  | true =>
    obtain ⟨k, hk, rfl, e1⟩ := hasRow_of (by omega) hh
    rw [e1]
    have hW1 : 1 ≤ W := p5 (by omega)
    refine ⟨fun z => (z1 z).elim, fun _ => ?_⟩
    have h := m_in0 (g := g) (A := mW a f) x (nI 5 - nI 1)
    rw [hasRow_in (by omega)] at h
    refine h.use ?_
    cases hc : hasRow 5 x with
    | false => exact ⟨fun _ => ⟨rfl, _, _, rfl, hM⟩, fun z => absurd rfl z⟩
    | true =>
      obtain ⟨j, hj, rfl, e2⟩ := hasRow_of (by omega) hc
      rw [e2]
      refine ⟨fun z => (z1 z).elim, fun _ => ?_⟩
      refine ⟨rfl, (m_wordsBy hs p1 p2 p3 hk hW1 (by omega)).use ?_⟩
      exact ⟨rfl, _, _, rfl, hM⟩
theorem y_word (hS : okSg S) (hM : RM S a f) (r i : Int32) : Ev g mX10_word [vr 0, vi r, vi i] (mW a f) (MV (op_word S r i)) := by
  obtain ⟨⟨R, W, m, D⟩, ⟨tn, T⟩, ⟨n, TP⟩, ⟨sn, w⟩, im, sh, tf, rf⟩ := S
  obtain ⟨⟨p1, p2, p3, p4, p5⟩, ⟨q1, q2⟩, ⟨o3, o4⟩, ⟨o5, o5b⟩, o6, o7, o8, o9⟩ := id hS
  obtain ⟨⟨hs, ht3, htT⟩, hi, ⟨htp, h5⟩, ⟨h12, hsl⟩, hsh, h9, h19⟩ := id hM
  have hs : HM (a 1) R W m D := hs
  have ht3 : a 1 3 = nI tn := ht3
  have htT : ∀ j, j < tn → a 1 (196 + j) = T j := htT
  have p1 : R ≤ 12 := p1
  have p2 : W ≤ 16 := p2
  have p3 : m ≤ 1 := p3
  have p4 : R = 0 → W = 0 := p4
  have p5 : R ≠ 0 → 1 ≤ W := p5
  have q1 : tn ≤ R * W := q1
  have q2 : ∀ j, j < tn → isCol (T j) = true := q2
  have hRW := RW_le p1 p2
  unfold op_word
  dsimp only
  refine Ev_of omX10_word.1 (Nat.le_of_ble_eq_true rfl) ?_
  refine Z_go kX10_word okX10 [] 80 ?_
  refine ⟨rfl, (m_isRow hs p1 r).use ?_⟩
  cases hh : hasRow R r with
  | false => exact ⟨fun _ => ⟨rfl, _, _, rfl, hM⟩, fun z => absurd rfl z⟩
  | true =>
    obtain ⟨k, hk, rfl, e1⟩ := hasRow_of (by omega) hh
    rw [e1]
    have hW1 : 1 ≤ W := p5 (by omega)
    obtain ⟨j, hj⟩ := Option.isSome_iff_exists.mp (frm_some (L := lnD D W m) (W := W) (r := k))
    have hj34 := wrdN_le p2 hW1 hj
    simp only [if_true]
    refine ⟨fun z => (z1 z).elim, fun _ => ⟨fun (z : 0 ≤ i) => ?_, fun (z : ¬ 0 ≤ i) => ?_⟩⟩
    · have h0 : ¬ i < 0 := Int32.not_lt.mpr z
      rw [if_neg h0]
      refine ⟨rfl, (m_formOf hs p1 p2 p3 hk hW1).use ?_⟩
      refine ⟨rfl, (m_wordsBy hs p1 p2 p3 hk hW1 frm_le).use ?_⟩
      obtain ⟨q, hq, rfl⟩ := nI_of h0
      have hwo := fun hi => m_wordOf (g := g) (f := f) (i := q) hs p1 p2 p3 hk hW1 hi
      rw [hj] at hwo ⊢
      refine ⟨fun (z2 : nI j ≤ nI q) => ?_, fun (z2 : ¬ nI j ≤ nI q) => ?_⟩
      · rw [if_neg (show ¬ nI q < oI (some j) from Int32.not_lt.mpr z2)]; exact ⟨rfl, _, _, rfl, hM⟩
      · rw [if_pos (show nI q < oI (some j) from Int32.not_le.mp z2)]
        rw [nI_leI (by omega) (by omega)] at z2
        refine ⟨rfl, (hwo (by show q < j; omega)).use ?_⟩
        exact ⟨by rw [nOf_n hq], _, _, rfl, hM⟩
    · rw [if_pos (Int32.not_le.mp z)]; exact ⟨rfl, _, _, rfl, hM⟩
end MOD
