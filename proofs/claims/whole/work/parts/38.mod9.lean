/-! the reference: rows dyed, copied, turned, swapped -/
section MOD
variable {g : GG} {a : Nat → Nat → Int32} {f : Nat → Int32} {R W m tn : Nat} {D : Nat → Nat → Int32} {T : Nat → Int32}
/-- the first numbers and the thread stay -/
def Kp (s s' : Nat → Int32) : Prop := ∀ j, (j < 4 ∨ 196 ≤ j) → s' j = s j
theorem dyeM_loop {x y v3 : Int32} (hR : R ≤ 12) {Q : Option AV → AH → Prop} : ∀ (n c : Nat) (s : Nat → Int32), c + n = 4 + 16 * R → 4 ≤ c → s 0 = nI R →
    (∀ s', (∀ j, s' j = if c ≤ j ∧ j < 4 + 16 * R then (if s j = x then y else s j) else s j) → Q (some (vi v3)) (mW (aU a 1 (upd s' 3 (nI 0))) f)) →
    Z g mX10_dye 11 Q 27 [some (vr 0), some (vi x), some (vi y), some (vi v3), some (vi (nI c))] [] (mW (aU a 1 s) f) := by
  have e : nI 4 + nI 16 * nI R = nI (4 + 16 * R) := by rw [pk_mul, nI_add]
  intro n
  induction n with
  | zero =>
    intro c s h1 h4 h0 hQ
    refine Z_go kX10_dye okX10 [27] 80 ?_
    refine ⟨vin (by omega) (by omega), ?_⟩
    rw [show (nI 0).toNatClampNeg = 0 from rfl, show aU a 1 s 1 0 = nI R from h0]
    refine ⟨fun _ => ?_, fun (h : ¬ nI 4 + nI 16 * nI R ≤ nI c) => ?_⟩
    · exact ⟨vin (by omega) (by omega), hQ s (fun j => by rw [if_neg (by omega)])⟩
    · rw [e, nI_leI (by omega) (by omega)] at h; omega
  | succ n ih =>
    intro c s h1 h4 h0 hQ
    have fin : ∀ v : Int32, v = (if s c = x then y else s c) → Z g mX10_dye 11 Q 27 [some (vr 0), some (vi x), some (vi y), some (vi v3), some (vi (nI c + nI 1))] [] (mW (aU a 1 (upd s c v)) f) := by
      intro v hv
      have k := ih (c + 1) (upd s c v) (by omega) (by omega) ((updN (by omega)).trans h0) (fun s' hs' => hQ s' (fun j => by
        rw [hs' j]
        by_cases e1 : j = c
        · subst e1
          rw [if_neg (by omega), updS, if_pos (by omega), hv]
        · rw [updN e1]
          by_cases e2 : c ≤ j ∧ j < 4 + 16 * R
          · rw [if_pos e2, if_pos (by omega)]
          · rw [if_neg e2, if_neg (by omega)]))
      rw [nI_a1 c] at k
      exact k
    refine Z_go kX10_dye okX10 [27] 80 ?_
    refine ⟨vin (by omega) (by omega), ?_⟩
    rw [show (nI 0).toNatClampNeg = 0 from rfl, show aU a 1 s 1 0 = nI R from h0]
    refine ⟨fun (h : nI 4 + nI 16 * nI R ≤ nI c) => ?_, fun _ => ?_⟩
    · rw [e, nI_leI (by omega) (by omega)] at h; omega
    · refine ⟨vin (by omega) (by omega), ?_⟩
      rw [nI_clamp (show c < 2 ^ 31 by omega)]
      refine ⟨fun (h : ¬ s c = x) => ?_, fun (h : ¬ ¬ s c = x) => ?_⟩
      · refine ⟨vin (by omega) (by omega), ?_⟩
        refine ⟨vin (by omega) (by omega), ?_⟩
        rw [nI_clamp (show c < 2 ^ 31 by omega)]
        exact fin _ (by rw [if_neg h]; rfl)
      · refine ⟨vin (by omega) (by omega), ?_⟩
        rw [nI_clamp (show c < 2 ^ 31 by omega)]
        exact fin _ (by rw [if_pos (Classical.not_not.mp h)])
theorem copies_loop {q t : Nat} (hq : q < 12) (ht : t < 12) {s0 : Nat → Int32} {Q : Option AV → AH → Prop} (hQ : ∀ s', (∀ j, s' j = if 4 + 16 * t ≤ j ∧ j < 4 + 16 * t + 16 then s0 (j + 16 * q - 16 * t) else s0 j) → Q none (mW (aU a 1 s') f)) : ∀ (n c : Nat) (s : Nat → Int32), c + n = 16 → (∀ j, s j = if 4 + 16 * t ≤ j ∧ j < 4 + 16 * t + c then s0 (j + 16 * q - 16 * t) else s0 j) →
    Z g mX10_copiesRow 11 Q 2 [some (vr 0), some (vi (nI q)), some (vi (nI t)), some (vi (nI c))] [] (mW (aU a 1 s) f) := by
  intro n
  induction n with
  | zero =>
    intro c s h1 hs
    have h1 : c = 16 := by omega
    subst h1
    refine Z_go kX10_copiesRow okX10 [2] 80 ?_
    exact ⟨fun _ => hQ s hs, fun (h : ¬ nI 16 ≤ nI 16) => absurd (nI_le (by omega) (by omega)) h⟩
  | succ n ih =>
    intro c s h1 hs
    have e1 : nI 4 + nI 16 * nI t + nI c = nI (4 + 16 * t + c) := by rw [pk_mul, nI_add, nI_add]
    have e2 : nI 4 + nI 16 * nI q + nI c = nI (4 + 16 * q + c) := by rw [pk_mul, nI_add, nI_add]
    refine Z_go kX10_copiesRow okX10 [2] 80 ?_
    refine ⟨fun (h : nI 16 ≤ nI c) => ?_, fun _ => ?_⟩
    · rw [nI_leI (by omega) (by omega)] at h; omega
    · refine ⟨by rw [e2]; exact vin (by omega) (by omega), ?_⟩
      refine ⟨by rw [e1]; exact vin (by omega) (by omega), ?_⟩
      rw [e1, e2, nI_clamp (show 4 + 16 * q + c < 2 ^ 31 by omega), nI_clamp (show 4 + 16 * t + c < 2 ^ 31 by omega)]
      have k := ih (c + 1) (upd s (4 + 16 * t + c) (s (4 + 16 * q + c))) (by omega) (fun j => by
        by_cases e : j = 4 + 16 * t + c
        · subst e
          rw [updS, hs, if_neg (by omega), if_pos (by omega)]
          congr 1; omega
        · rw [updN e, hs]
          by_cases e3 : 4 + 16 * t ≤ j ∧ j < 4 + 16 * t + c
          · rw [if_pos e3, if_pos (by omega)]
          · rw [if_neg e3, if_neg (by omega)])
      rw [nI_a1 c] at k
      exact k
theorem m_copiesRow {q t : Nat} (hq : q < 12) (ht : t < 12) {s : Nat → Int32} {Q : Option AV → AH → Prop} (hQ : ∀ s', (∀ i c, i < 12 → c < 16 → s' (4 + 16 * i + c) = if i = t then s (4 + 16 * q + c) else s (4 + 16 * i + c)) → Kp s s' → Q none (mW (aU a 1 s') f)) : Ev g mX10_copiesRow [vr 0, vi (nI q), vi (nI t)] (mW (aU a 1 s) f) Q := by
  have k := copies_loop (g := g) (a := a) (f := f) hq ht (s0 := s) (Q := Q) (fun s' hs' => hQ s' (fun i c hi hc => by
    rw [hs']
    by_cases e : i = t
    · subst e
      rw [if_pos (by omega), if_pos rfl]
      congr 1; omega
    · rw [if_neg (by omega), if_neg e]) (fun j hj => by rw [hs', if_neg (by omega)])) 16 0 s (by omega) (fun j => by rw [if_neg (by omega)])
  refine Ev_of omX10_copiesRow.1 (Nat.le_of_ble_eq_true rfl) ?_
  refine Z_go kX10_copiesRow okX10 [2] 80 ?_
  exact k
theorem turns_loop {r : Nat} (hr : r < 12) (hW : W ≤ 16) {s0 : Nat → Int32} {v1 : Int32} (h0 : s0 1 = nI W) {Q : Option AV → AH → Prop} (hQ : ∀ s', (∀ j, s' j = if 4 + 16 * r ≤ j ∧ j < 4 + 16 * r + W then s0 (8 + 32 * r + W - 1 - j) else s0 j) → Q none (mW (aU a 1 s') f)) : ∀ (n c : Nat) (s : Nat → Int32) (v4 : Option AV), c + n = W / 2 → (∀ j, s j = if (4 + 16 * r ≤ j ∧ j < 4 + 16 * r + c) ∨ (4 + 16 * r + W - c ≤ j ∧ j < 4 + 16 * r + W) then s0 (8 + 32 * r + W - 1 - j) else s0 j) →
    Z g mX10_turns 11 Q 9 [some (vr 0), some (vi v1), some (vi (nI (4 + 16 * r))), some (vi (nI c)), v4] [] (mW (aU a 1 s) f) := by
  have ed : nI W / nI 2 = nI (W / 2) := pk_div (by omega) (by omega) (by omega)
  intro n
  induction n with
  | zero =>
    intro c s v4 h1 hs
    have hs1 : s 1 = nI W := by rw [hs, if_neg (by omega)]; exact h0
    refine Z_go kX10_turns okX10 [9] 80 ?_
    refine ⟨vin (by omega) (by omega), by decide, ?_⟩
    rw [show (nI 1).toNatClampNeg = 1 from rfl, show aU a 1 s 1 1 = nI W from hs1]
    refine ⟨fun _ => ?_, fun (h : ¬ nI W / nI 2 ≤ nI c) => ?_⟩
    · refine hQ s (fun j => ?_)
      rw [hs j]
      by_cases e1 : 4 + 16 * r ≤ j ∧ j < 4 + 16 * r + W
      · rw [if_pos e1]
        by_cases e2 : (4 + 16 * r ≤ j ∧ j < 4 + 16 * r + c) ∨ (4 + 16 * r + W - c ≤ j ∧ j < 4 + 16 * r + W)
        · rw [if_pos e2]
        · rw [if_neg e2]
          congr 1; omega
      · rw [if_neg e1, if_neg (by omega)]
    · rw [ed, nI_leI (by omega) (by omega)] at h; omega
  | succ n ih =>
    intro c s v4 h1 hs
    have hs1 : s 1 = nI W := by rw [hs, if_neg (by omega)]; exact h0
    have e1 : nI (4 + 16 * r) + nI c = nI (4 + 16 * r + c) := nI_add _ _
    have e2 : nI (4 + 16 * r) + nI W - nI 1 - nI c = nI (4 + 16 * r + W - 1 - c) := by rw [nI_add, pk_sub (by omega), pk_sub (by omega)]
    refine Z_go kX10_turns okX10 [9] 80 ?_
    refine ⟨vin (by omega) (by omega), by decide, ?_⟩
    rw [show (nI 1).toNatClampNeg = 1 from rfl, show aU a 1 s 1 1 = nI W from hs1]
    refine ⟨fun (h : nI W / nI 2 ≤ nI c) => ?_, fun _ => ?_⟩
    · rw [ed, nI_leI (by omega) (by omega)] at h; omega
    · refine ⟨by rw [e1]; exact vin (by omega) (by omega), ?_⟩
      refine ⟨vin (by omega) (by omega), ?_⟩
      rw [show (nI 1).toNatClampNeg = 1 from rfl, show aU a 1 s 1 1 = nI W from hs1]
      refine ⟨by rw [e2]; exact vin (by omega) (by omega), ?_⟩
      refine ⟨by rw [e1]; exact vin (by omega) (by omega), ?_⟩
      refine ⟨vin (by omega) (by omega), ?_⟩
      rw [show (nI 1).toNatClampNeg = 1 from rfl, e1, e2, nI_clamp (show 4 + 16 * r + c < 2 ^ 31 by omega), nI_clamp (show 4 + 16 * r + W - 1 - c < 2 ^ 31 by omega)]
      rw [show upd (aU a 1 s 1) (4 + 16 * r + c) (aU a 1 s 1 (4 + 16 * r + W - 1 - c)) 1 = nI W from (updN (by omega)).trans hs1]
      refine ⟨by rw [e2]; exact vin (by omega) (by omega), ?_⟩
      rw [e2, nI_clamp (show 4 + 16 * r + W - 1 - c < 2 ^ 31 by omega)]
      have k := ih (c + 1) (upd (upd s (4 + 16 * r + c) (s (4 + 16 * r + W - 1 - c))) (4 + 16 * r + W - 1 - c) (s (4 + 16 * r + c))) (some (vi (s (4 + 16 * r + c)))) (by omega) (fun j => by
        by_cases d1 : j = 4 + 16 * r + W - 1 - c
        · subst d1
          rw [updS, if_pos (by omega), hs, if_neg (by omega)]
          congr 1; omega
        · rw [updN d1]
          by_cases d2 : j = 4 + 16 * r + c
          · subst d2
            rw [updS, if_pos (by omega), hs, if_neg (by omega)]
            congr 1; omega
          · rw [updN d2, hs]
            by_cases d3 : (4 + 16 * r ≤ j ∧ j < 4 + 16 * r + c) ∨ (4 + 16 * r + W - c ≤ j ∧ j < 4 + 16 * r + W)
            · rw [if_pos d3, if_pos (by omega)]
            · rw [if_neg d3, if_neg (by omega)])
      rw [nI_a1 c] at k
      exact k
theorem m_turns {r : Nat} (hr : r < 12) (hW : W ≤ 16) {s : Nat → Int32} (h0 : s 1 = nI W) {Q : Option AV → AH → Prop} (hQ : ∀ s', (∀ j, s' j = if 4 + 16 * r ≤ j ∧ j < 4 + 16 * r + W then s (8 + 32 * r + W - 1 - j) else s j) → Q none (mW (aU a 1 s') f)) : Ev g mX10_turns [vr 0, vi (nI r)] (mW (aU a 1 s) f) Q := by
  have e : nI 4 + nI 16 * nI r = nI (4 + 16 * r) := by rw [pk_mul, nI_add]
  have k := turns_loop (g := g) (a := a) (f := f) (v1 := nI r) hr hW h0 hQ (W / 2) 0 s none (by omega) (fun j => by rw [if_neg (by omega)])
  rw [← e] at k
  refine Ev_of omX10_turns.1 (Nat.le_of_ble_eq_true rfl) ?_
  refine Z_go kX10_turns okX10 [9] 80 ?_
  exact k
theorem goesOn_loop {r : Nat} (hr : r < 12) (hW : W ≤ 16) {s0 : Nat → Int32} {v1 v3 : Int32} {Q : Option AV → AH → Prop} (hQ : ∀ s', (∀ j, s' j = if j = 4 + 16 * r then v3 else if 4 + 16 * r < j ∧ j < 4 + 16 * r + W then s0 (j - 1) else s0 j) → Q none (mW (aU a 1 s') f)) : ∀ (c : Nat) (s : Nat → Int32), c < W → (∀ j, s j = if 4 + 16 * r + c < j ∧ j < 4 + 16 * r + W then s0 (j - 1) else s0 j) →
    Z g mX10_goesOn 11 Q 33 [some (vr 0), some (vi v1), some (vi (nI (4 + 16 * r))), some (vi v3), some (vi (nI c))] [] (mW (aU a 1 s) f) := by
  intro c
  induction c with
  | zero =>
    intro s h1 hs
    refine Z_go kX10_goesOn okX10 [33] 80 ?_
    refine ⟨fun _ => ?_, fun (z : ¬ nI 0 ≤ 0) => absurd (by decide) z⟩
    refine ⟨vin (by omega) (by omega), ?_⟩
    rw [nI_clamp (show 4 + 16 * r < 2 ^ 31 by omega)]
    refine hQ (upd s (4 + 16 * r) v3) (fun j => ?_)
    by_cases e : j = 4 + 16 * r
    · rw [if_pos e, e, updS]
    · rw [if_neg e, updN e, hs]
      rfl
  | succ c ih =>
    intro s h1 hs
    have e1 : nI (4 + 16 * r) + nI (c + 1) = nI (4 + 16 * r + (c + 1)) := nI_add _ _
    have e2 : nI (4 + 16 * r + (c + 1)) - nI 1 = nI (4 + 16 * r + c) := by rw [pk_sub (by omega)]; rfl
    have e3 : nI (c + 1) + -nI 1 = nI c := by rw [← Int32.sub_eq_add_neg, pk_sub (by omega)]; rfl
    refine Z_go kX10_goesOn okX10 [33] 80 ?_
    refine ⟨fun (z : nI (c + 1) ≤ 0) => absurd z (nI_nle (by omega) (by omega)), fun _ => ?_⟩
    refine ⟨by rw [e1, e2]; exact vin (by omega) (by omega), ?_⟩
    refine ⟨by rw [e1]; exact vin (by omega) (by omega), ?_⟩
    rw [e1, e2, nI_clamp (show 4 + 16 * r + (c + 1) < 2 ^ 31 by omega), nI_clamp (show 4 + 16 * r + c < 2 ^ 31 by omega)]
    rw [← e3] at ih
    refine ih (upd s (4 + 16 * r + (c + 1)) (s (4 + 16 * r + c))) (by omega) (fun j => ?_)
    by_cases d1 : j = 4 + 16 * r + (c + 1)
    · subst d1
      rw [updS, if_pos (by omega), hs, if_neg (by omega)]
      rfl
    · rw [updN d1, hs]
      by_cases d3 : 4 + 16 * r + (c + 1) < j ∧ j < 4 + 16 * r + W
      · rw [if_pos d3, if_pos (by omega)]
      · rw [if_neg d3, if_neg (by omega)]
theorem m_goesOn {r : Nat} (hr : r < 12) (hW : W ≤ 16) (hW1 : 1 ≤ W) {s : Nat → Int32} (h0 : s 1 = nI W) {Q : Option AV → AH → Prop} (hQ : ∀ s', (∀ j, s' j = if j = 4 + 16 * r then s (4 + 16 * r + W - 1) else if 4 + 16 * r < j ∧ j < 4 + 16 * r + W then s (j - 1) else s j) → Q none (mW (aU a 1 s') f)) : Ev g mX10_goesOn [vr 0, vi (nI r)] (mW (aU a 1 s) f) Q := by
  have e : nI 4 + nI 16 * nI r = nI (4 + 16 * r) := by rw [pk_mul, nI_add]
  have e2 : nI (4 + 16 * r) + nI W - nI 1 = nI (4 + 16 * r + W - 1) := by rw [nI_add, pk_sub (by omega)]
  have e3 : nI W - nI 1 = nI (W - 1) := pk_sub hW1
  have k := goesOn_loop (g := g) (a := a) (f := f) (v1 := nI r) hr hW hQ (W - 1) s (by omega) (fun j => by rw [if_neg (by omega)])
  rw [← e3] at k
  refine Ev_of omX10_goesOn.1 (Nat.le_of_ble_eq_true rfl) ?_
  refine Z_go kX10_goesOn okX10 [33] 80 ?_
  refine ⟨vin (by omega) (by omega), ?_⟩
  rw [show (nI 1).toNatClampNeg = 1 from rfl, show aU a 1 s 1 1 = nI W from h0]
  refine ⟨by rw [e, e2]; exact vin (by omega) (by omega), ?_⟩
  rw [e, e2, nI_clamp (show 4 + 16 * r + W - 1 < 2 ^ 31 by omega)]
  refine ⟨vin (by omega) (by omega), ?_⟩
  rw [show (nI 1).toNatClampNeg = 1 from rfl, show aU a 1 s 1 1 = nI W from h0]
  exact k
end MOD
section MOD
variable {g : GG} {S : Sg} {a : Nat → Nat → Int32} {f : Nat → Int32}
theorem y_dye (hS : okSg S) (hM : RM S a f) (x y : Int32) : Ev g mX10_dye [vr 0, vi x, vi y] (mW a f) (MV (op_dye S x y)) := by
  obtain ⟨⟨R, W, m, D⟩, ⟨tn, T⟩, ⟨n, TP⟩, ⟨sn, w⟩, im, sh, tf, rf⟩ := S
  obtain ⟨⟨p1, p2, p3, p4, p5⟩, ⟨q1, q2⟩, ⟨o3, o4⟩, ⟨o5, o5b⟩, o6, o7, o8, o9⟩ := id hS
  obtain ⟨⟨hs, ht3, htT⟩, hi, ⟨htp, h5⟩, ⟨h12, hsl⟩, hsh, h9, h19⟩ := id hM
  have hs : HM (a 1) R W m D := hs
  have ht3 : a 1 3 = nI tn := ht3
  have htT : ∀ j, j < tn → a 1 (196 + j) = T j := htT
  have p1 : R ≤ 12 := p1
  have p2 : W ≤ 16 := p2
  have p3 : m ≤ 1 := p3
  have p4 : R = 0 → W = 0 := p4
  have p5 : R ≠ 0 → 1 ≤ W := p5
  have q1 : tn ≤ R * W := q1
  have q2 : ∀ j, j < tn → isCol (T j) = true := q2
  have hRW := RW_le p1 p2
  unfold op_dye
  dsimp only
  refine Ev_of omX10_dye.1 (Nat.le_of_ble_eq_true rfl) ?_
  refine Z_go kX10_dye okX10 [27] 80 ?_
  refine (m_isColour x).use ?_
  cases hx : isCol x with
  | false => exact ⟨fun _ => ⟨rfl, _, _, rfl, hM⟩, fun z => absurd rfl z⟩
  | true =>
    refine ⟨fun z => (z1 z).elim, fun _ => ?_⟩
    refine (m_isColour y).use ?_
    cases hy : isCol y with
    | false => exact ⟨fun z => absurd rfl z, fun _ => ⟨rfl, _, _, rfl, hM⟩⟩
    | true =>
      refine ⟨fun _ => ?_, fun (z : ¬ ¬ nI 1 = 0) => absurd z1 z⟩
      simp only [Bool.and_self, if_true]
      refine ⟨rfl, (m_manyAll hs p1 p2 x).use ?_⟩
      refine dyeM_loop (a := a) p1 (16 * R) 4 (a 1) (by omega) (by omega) hs.1 (fun s' hs' => ?_)
      refine ⟨rfl, _, f, rfl, HT_z p1 p2 ⟨?_, fun z => ?_, ?_, fun r c hr hc => ?_⟩, hi, ⟨htp, h5⟩, ⟨h12, hsl⟩, hsh, h9, h19⟩
      · rw [hs', if_neg (by omega)]; exact hs.1
      · rw [hs', if_neg (by omega)]; exact hs.2.1 z
      · rw [hs', if_neg (by omega)]; exact hs.2.2.1
      · rw [hs', if_pos (by omega), hs.2.2.2 r c hr hc]; rfl
end MOD
