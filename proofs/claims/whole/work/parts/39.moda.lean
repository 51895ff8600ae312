/-! the reference: change, swap, draw -/
theorem got_s (x : Int32) : x >>> (nI 16 &&& 31) &&& nI 32767 = nI (gotN x) := by
  rw [pk_and _ 15 (by decide +kernel)]
  congr 1
  have h := pk_shr x (nI 16 &&& 31) 16 (by decide +kernel)
  have h1 : (x >>> (nI 16 &&& 31)).toInt = (x >>> (nI 16 &&& 31)).toBitVec.toInt := rfl
  have h2 : x.toInt = x.toBitVec.toInt := rfl
  rw [h1, h2, BitVec.toInt_eq_toNat_cond, BitVec.toInt_eq_toNat_cond, Int.shiftRight_eq_div_pow] at h
  have l1 := (x >>> (nI 16 &&& 31)).toBitVec.isLt
  have l2 := x.toBitVec.isLt
  unfold gotN
  generalize (x >>> (nI 16 &&& 31)).toBitVec.toNat = u at h l1 ⊢
  generalize x.toBitVec.toNat = v at h l2 ⊢
  split at h <;> split at h <;> omega
section MOD
variable {g : GG} {a : Nat → Nat → Int32} {f : Nat → Int32} {R W m tn : Nat} {D : Nat → Nat → Int32} {T : Nat → Int32}
theorem HM_of {s s' : Nat → Int32} {R' W' : Nat} {D' : Nat → Nat → Int32} (h : HM s R W m D) (k : Kp s s') (hR0 : s' 0 = nI R') (hW : R' ≠ 0 → W' = W ∧ R ≠ 0) (hb : ∀ r c, r < R' → c < W' → s' (4 + 16 * r + c) = D' r c) : HM s' R' W' m D' :=
  ⟨hR0, fun z => by rw [k 1 (by omega), (hW z).1]; exact h.2.1 (hW z).2, by rw [k 2 (by omega)]; exact h.2.2.1, hb⟩
theorem dropM_loop {r : Nat} {v2 : Int32} (hR : R ≤ 12) {s0 : Nat → Int32} (h0 : s0 0 = nI R) {Q : Option AV → AH → Prop} (hQ : ∀ s' v, (∀ i c, i < R - 1 → c < 16 → s' (4 + 16 * i + c) = if r ≤ i then s0 (4 + 16 * (i + 1) + c) else s0 (4 + 16 * i + c)) → Kp s0 s' → Z g mX10_change 11 Q 112 [some (vr 0), some (vi (nI r)), some (vi v2), v] [] (mW (aU a 1 s') f)) : ∀ (n k : Nat) (s : Nat → Int32), k + n = R → r + 1 ≤ k → (∀ i c, i < 12 → c < 16 → s (4 + 16 * i + c) = if r ≤ i ∧ i + 1 < k then s0 (4 + 16 * (i + 1) + c) else s0 (4 + 16 * i + c)) → Kp s0 s →
    Z g mX10_change 11 Q 88 [some (vr 0), some (vi (nI r)), some (vi v2), some (vi (nI k))] [] (mW (aU a 1 s) f) := by
  intro n
  induction n with
  | zero =>
    intro k s h1 h2 hb hk
    refine Z_go kX10_change okX10 [88, 112] 80 ?_
    refine ⟨vin (by omega) (by omega), ?_⟩
    rw [show (nI 0).toNatClampNeg = 0 from rfl, show aU a 1 s 1 0 = nI R from (hk 0 (by omega)).trans h0]
    refine ⟨fun _ => ?_, fun (h : ¬ nI R ≤ nI k) => absurd (nI_le (by omega) (by omega)) h⟩
    refine hQ s _ (fun i c hi hc => ?_) hk
    rw [hb i c (by omega) hc]
    by_cases e : r ≤ i
    · rw [if_pos e, if_pos (by omega)]
    · rw [if_neg e, if_neg (by omega)]
  | succ n ih =>
    intro k s h1 h2 hb hk
    have e : nI k - nI 1 = nI (k - 1) := pk_sub (by omega)
    have hc := fun Q' hq => m_copiesRow (g := g) (a := a) (f := f) (q := k) (t := k - 1) (s := s) (Q := Q') (by omega) (by omega) hq
    rw [← e] at hc
    refine Z_go kX10_change okX10 [88, 112] 80 ?_
    refine ⟨vin (by omega) (by omega), ?_⟩
    rw [show (nI 0).toNatClampNeg = 0 from rfl, show aU a 1 s 1 0 = nI R from (hk 0 (by omega)).trans h0]
    refine ⟨fun (h : nI R ≤ nI k) => ?_, fun _ => ?_⟩
    · rw [nI_leI (by omega) (by omega)] at h; omega
    · refine ⟨rfl, hc _ (fun s' hs' hk' => ?_)⟩
      have kk := ih (k + 1) s' (by omega) (by omega) (fun i c hi hc => by
        rw [hs' i c hi hc]
        by_cases e1 : i = k - 1
        · rw [if_pos e1, if_pos (by omega), hb k c (by omega) hc, if_neg (by omega), e1, show k - 1 + 1 = k by omega]
        · rw [if_neg e1, hb i c hi hc]
          by_cases e2 : r ≤ i ∧ i + 1 < k
          · rw [if_pos e2, if_pos (by omega)]
          · rw [if_neg e2, if_neg (by omega)]) (fun j hj => (hk' j hj).trans (hk j hj))
      rw [nI_a1 k] at kk
      exact kk
theorem repM_loop {r : Nat} {v2 : Int32} (hR : R < 12) {s0 : Nat → Int32} {Q : Option AV → AH → Prop} (hQ : ∀ s' v, (∀ i c, i ≤ R → c < 16 → s' (4 + 16 * i + c) = if r < i then s0 (4 + 16 * (i - 1) + c) else s0 (4 + 16 * i + c)) → Kp s0 s' → Z g mX10_change 11 Q 153 [some (vr 0), some (vi (nI r)), some (vi v2), v] [] (mW (aU a 1 s') f)) : ∀ (n : Nat) (s : Nat → Int32), r + n ≤ R → (∀ i c, i < 12 → c < 16 → s (4 + 16 * i + c) = if r + n < i ∧ i ≤ R then s0 (4 + 16 * (i - 1) + c) else s0 (4 + 16 * i + c)) → Kp s0 s →
    Z g mX10_change 11 Q 134 [some (vr 0), some (vi (nI r)), some (vi v2), some (vi (nI (r + n) - nI 1))] [] (mW (aU a 1 s) f) := by
  intro n
  induction n with
  | zero =>
    intro s h1 hb hk
    refine Z_go kX10_change okX10 [134, 153] 80 ?_
    refine ⟨fun _ => ?_, fun (h : ¬ nI (r + 0) - nI 1 < nI r) => ?_⟩
    · refine hQ s _ (fun i c hi hc => ?_) hk
      rw [hb i c (by omega) hc]
      by_cases e : r < i
      · rw [if_pos e, if_pos (by omega)]
      · rw [if_neg e, if_neg (by omega)]
    · exfalso
      refine h ?_
      rw [Int32.lt_iff_toInt_lt, pk_sub_toInt (by omega) (by omega), nI_toInt (by omega)]
      omega
  | succ n ih =>
    intro s h1 hb hk
    have e : nI (r + (n + 1)) - nI 1 = nI (r + n) := by rw [pk_sub (by omega)]; rfl
    have hc := fun Q' hq => m_copiesRow (g := g) (a := a) (f := f) (q := r + n) (t := r + n + 1) (s := s) (Q := Q') (by omega) (by omega) hq
    rw [nI_a1 (r + n)] at hc
    rw [e]
    refine Z_go kX10_change okX10 [134, 153] 80 ?_
    refine ⟨fun (h : nI (r + n) < nI r) => ?_, fun _ => ?_⟩
    · rw [nI_ltI (by omega) (by omega)] at h; omega
    · refine ⟨rfl, hc _ (fun s' hs' hk' => ?_)⟩
      have kk := ih s' (by omega) (fun i c hi hc => by
        rw [hs' i c hi hc]
        by_cases e1 : i = r + n + 1
        · rw [if_pos e1, if_pos (by omega), hb (r + n) c (by omega) hc, if_neg (by omega), e1, show r + n + 1 - 1 = r + n by omega]
        · rw [if_neg e1, hb i c hi hc]
          by_cases e2 : r + (n + 1) < i ∧ i ≤ R
          · rw [if_pos e2, if_pos (by omega)]
          · rw [if_neg e2, if_neg (by omega)]) (fun j hj => (hk' j hj).trans (hk j hj))
      rw [Int32.sub_eq_add_neg] at kk
      exact kk
theorem swapM_loop {r t : Nat} (hR : R ≤ 12) (hW : W ≤ 16) (hr : r < R) (ht : t < R) (h : HM (a 1) R W m D) {Q : Option AV → AH → Prop} (hQ : ∀ s', HM s' R W m (swapD D r t) → Kp (a 1) s' → Q (some (vi (nI (fl (al (fun c => decide (D r c = D t c)) 0 W))))) (mW (aU a 1 (upd s' 3 (nI 0))) f)) : ∀ (n c : Nat) (s : Nat → Int32) (b : Bool) (v : Option AV), c + n = W → (b && al (fun c => decide (D r c = D t c)) c n) = al (fun c => decide (D r c = D t c)) 0 W → HM s R W m (fun q d => if d < c then swapD D r t q d else D q d) → Kp (a 1) s →
    Z g mX10_swap 11 Q 23 [some (vr 0), some (vi (nI r)), some (vi (nI t)), some (vi (nI (fl b))), some (vi (nI c)), v] [] (mW (aU a 1 s) f) := by
  intro n
  induction n with
  | zero =>
    intro c s b v h1 hb hs hk
    have hb' : b = al (fun c => decide (D r c = D t c)) 0 W := by rw [← hb]; simp [al]
    refine Z_go kX10_swap okX10 [23] 80 ?_
    refine ⟨vin (by omega) (by omega), ?_⟩
    rw [show (nI 1).toNatClampNeg = 1 from rfl, show aU a 1 s 1 1 = nI W from hs.2.1 (by omega)]
    refine ⟨fun _ => ?_, fun (h : ¬ nI W ≤ nI c) => absurd (nI_le (by omega) (by omega)) h⟩
    refine ⟨vin (by omega) (by omega), ?_⟩
    refine (m_flag b).use ?_
    rw [hb']
    exact hQ s ⟨hs.1, hs.2.1, hs.2.2.1, fun q d hq hd => (hs.2.2.2 q d hq hd).trans (if_pos (by omega))⟩ hk
  | succ n ih =>
    intro c s b v h1 hb hs hk
    have hlt : c < W := by omega
    have b1 := m_beadOf (g := g) (a := aU a 1 s) (f := f) hs hR hW hr hlt
    have b2 := m_beadOf (g := g) (a := aU a 1 s) (f := f) hs hR hW ht hlt
    rw [if_neg (by omega)] at b1 b2
    have e1 : nI 4 + nI 16 * nI r + nI c = nI (4 + 16 * r + c) := by rw [pk_mul, nI_add, nI_add]
    have e2 : nI 4 + nI 16 * nI t + nI c = nI (4 + 16 * t + c) := by rw [pk_mul, nI_add, nI_add]
    have go : ∀ b' : Bool, (b && decide (D r c = D t c)) = b' → Z g mX10_swap 11 Q 64 [some (vr 0), some (vi (nI r)), some (vi (nI t)), some (vi (nI (fl b))), some (vi (nI c)), some (vi (D r c))] [vi (nI (fl b'))] (mW (aU a 1 s) f) := by
      intro b' hb'
      refine Z_go kX10_swap okX10 [23] 80 ?_
      refine ⟨rfl, b2.use ?_⟩
      refine ⟨by rw [e1]; exact vin (by omega) (by omega), ?_⟩
      refine ⟨by rw [e2]; exact vin (by omega) (by omega), ?_⟩
      rw [e1, e2, nI_clamp (show 4 + 16 * r + c < 2 ^ 31 by omega), nI_clamp (show 4 + 16 * t + c < 2 ^ 31 by omega)]
      have k := ih (c + 1) (upd (upd s (4 + 16 * r + c) (D t c)) (4 + 16 * t + c) (D r c)) b' (some (vi (D r c))) (by omega) (by rw [← hb, ← hb', Bool.and_assoc]; rfl) (by
        have k1 := HM_b (x := D r c) hR hW (HM_b (x := D t c) hR hW hs hr hlt) ht hlt
        refine ⟨k1.1, k1.2.1, k1.2.2.1, fun q d hq hd => (k1.2.2.2 q d hq hd).trans ?_⟩
        unfold setD swapD
        dsimp only
        by_cases d1 : d = c
        · subst d1
          rw [if_pos (show d < d + 1 by omega)]
          by_cases g1 : q = t
          · rw [if_pos ⟨g1, rfl⟩, if_pos g1]
          · rw [if_neg (fun z => g1 z.1), if_neg g1]
            by_cases g2 : q = r
            · rw [if_pos ⟨g2, rfl⟩, if_pos g2]
            · rw [if_neg (fun z => g2 z.1), if_neg g2, if_neg (by omega)]
        · rw [if_neg (fun z => d1 z.2), if_neg (fun z => d1 z.2)]
          by_cases d2 : d < c
          · rw [if_pos d2, if_pos (show d < c + 1 by omega)]
          · rw [if_neg d2, if_neg (show ¬ d < c + 1 by omega)]) (fun j hj => by rw [updN (by omega), updN (by omega)]; exact hk j hj)
      rw [nI_a1 c] at k
      exact k
    refine Z_go kX10_swap okX10 [23, 64] 80 ?_
    refine ⟨vin (by omega) (by omega), ?_⟩
    rw [show (nI 1).toNatClampNeg = 1 from rfl, show aU a 1 s 1 1 = nI W from hs.2.1 (by omega)]
    refine ⟨fun (h : nI W ≤ nI c) => ?_, fun _ => ?_⟩
    · rw [nI_leI (by omega) (by omega)] at h; omega
    · refine ⟨rfl, b1.use ?_⟩
      cases b with
      | false => exact ⟨fun _ => go false rfl, fun z => absurd rfl z⟩
      | true =>
        refine ⟨fun z => (z1 z).elim, fun _ => ?_⟩
        refine ⟨rfl, b2.use ?_⟩
        exact ⟨fun (h3 : ¬ D r c = D t c) => go false (by simp [h3]), fun (h3 : ¬ ¬ D r c = D t c) => go true (by simp [Classical.not_not.mp h3])⟩
end MOD
section MOD
variable {g : GG} {S : Sg} {a : Nat → Nat → Int32} {f : Nat → Int32}
theorem y_swap (hS : okSg S) (hM : RM S a f) (r t : Int32) : Ev g mX10_swap [vr 0, vi r, vi t] (mW a f) (MV (op_swap S r t)) := by
  obtain ⟨⟨R, W, m, D⟩, ⟨tn, T⟩, ⟨n, TP⟩, ⟨sn, w⟩, im, sh, tf, rf⟩ := S
  obtain ⟨⟨p1, p2, p3, p4, p5⟩, ⟨q1, q2⟩, ⟨o3, o4⟩, ⟨o5, o5b⟩, o6, o7, o8, o9⟩ := id hS
  obtain ⟨⟨hs, ht3, htT⟩, hi, ⟨htp, h5⟩, ⟨h12, hsl⟩, hsh, h9, h19⟩ := id hM
  have hs : HM (a 1) R W m D := hs
  have ht3 : a 1 3 = nI tn := ht3
  have htT : ∀ j, j < tn → a 1 (196 + j) = T j := htT
  have p1 : R ≤ 12 := p1
  have p2 : W ≤ 16 := p2
  have p3 : m ≤ 1 := p3
  have p4 : R = 0 → W = 0 := p4
  have p5 : R ≠ 0 → 1 ≤ W := p5
  have q1 : tn ≤ R * W := q1
  have q2 : ∀ j, j < tn → isCol (T j) = true := q2
  have hRW := RW_le p1 p2
  unfold op_swap
  dsimp only
  refine Ev_of omX10_swap.1 (Nat.le_of_ble_eq_true rfl) ?_
  refine Z_go kX10_swap okX10 [23] 80 ?_
  refine ⟨rfl, (m_isRow hs p1 r).use ?_⟩
  cases hh : hasRow R r with
  | false => exact ⟨fun _ => ⟨rfl, _, _, rfl, hM⟩, fun z => absurd rfl z⟩
  | true =>
    obtain ⟨k, hk, rfl, e1⟩ := hasRow_of (by omega) hh
    refine ⟨fun z => (z1 z).elim, fun _ => ?_⟩
    refine ⟨rfl, (m_isRow hs p1 t).use ?_⟩
    cases hc : hasRow R t with
    | false => exact ⟨fun z => absurd rfl z, fun _ => ⟨rfl, _, _, rfl, hM⟩⟩
    | true =>
      obtain ⟨j, hj, rfl, e2⟩ := hasRow_of (by omega) hc
      rw [e1, e2]
      refine ⟨fun _ => ?_, fun (z : ¬ ¬ nI 1 = 0) => absurd z1 z⟩
      simp only [Bool.and_self, if_true]
      refine swapM_loop (a := a) p1 p2 hk hj hs (fun s' hs' hk' => ?_) W 0 (a 1) true none (by omega) (by rw [Bool.true_and]) ?_ (fun _ _ => rfl)
      · exact ⟨rfl, _, f, rfl, HT_z p1 p2 hs', hi, ⟨htp, h5⟩, ⟨h12, hsl⟩, hsh, h9, h19⟩
      · exact ⟨hs.1, hs.2.1, hs.2.2.1, fun q d hq hd => (hs.2.2.2 q d hq hd).trans (if_neg (by omega)).symm⟩
theorem y_change (hS : okSg S) (hM : RM S a f) (r x : Int32) : Ev g mX10_change [vr 0, vi r, vi x] (mW a f) (MV (op_change S r x)) := by
  obtain ⟨⟨R, W, m, D⟩, ⟨tn, T⟩, ⟨n, TP⟩, ⟨sn, w⟩, im, sh, tf, rf⟩ := S
  obtain ⟨⟨p1, p2, p3, p4, p5⟩, ⟨q1, q2⟩, ⟨o3, o4⟩, ⟨o5, o5b⟩, o6, o7, o8, o9⟩ := id hS
  obtain ⟨⟨hs, ht3, htT⟩, hi, ⟨htp, h5⟩, ⟨h12, hsl⟩, hsh, h9, h19⟩ := id hM
  have hs : HM (a 1) R W m D := hs
  have ht3 : a 1 3 = nI tn := ht3
  have htT : ∀ j, j < tn → a 1 (196 + j) = T j := htT
  have p1 : R ≤ 12 := p1
  have p2 : W ≤ 16 := p2
  have p3 : m ≤ 1 := p3
  have p4 : R = 0 → W = 0 := p4
  have p5 : R ≠ 0 → 1 ≤ W := p5
  have q1 : tn ≤ R * W := q1
  have q2 : ∀ j, j < tn → isCol (T j) = true := q2
  have hRW := RW_le p1 p2
  unfold op_change
  dsimp only
  refine Ev_of omX10_change.1 (Nat.le_of_ble_eq_true rfl) ?_
  refine Z_go kX10_change okX10 [41, 88, 112, 134, 153, 163] 80 ?_
  refine ⟨rfl, (m_isRow hs p1 r).use ?_⟩
  cases hh : hasRow R r with
  | false => exact ⟨fun _ => ⟨rfl, _, _, rfl, hM⟩, fun z => absurd rfl z⟩
  | true =>
    obtain ⟨k, hk, rfl, e1⟩ := hasRow_of (by omega) hh
    rw [e1]
    refine ⟨fun z => (z1 z).elim, fun _ => ?_⟩
    refine (m_inH x 3 (by omega)).use ?_
    cases hc : hasRow (3 + 1) x with
    | false => exact ⟨fun z => absurd rfl z, fun _ => ⟨rfl, _, _, rfl, hM⟩⟩
    | true =>
      obtain ⟨j, hj, rfl, e2⟩ := hasRow_of (by omega) hc
      refine ⟨fun _ => ?_, fun (z : ¬ ¬ nI 1 = 0) => absurd z1 z⟩
      simp only [Bool.and_self, if_true]
      have hW1 : 1 ≤ W := p5 (by omega)
      -- the end
      have fin : ∀ (s : Nat → Int32) (R' W' : Nat) (D' : Nat → Nat → Int32) (v : Option AV), R' ≤ 12 → W' ≤ 16 → HM s R' W' m D' → Z g mX10_change 11 (MV (nI R', (R', W', m, D'), (0, T), (n, TP), (sn, w), im, sh, tf, rf)) 163 [some (vr 0), some (vi (nI k)), some (vi (nI j)), v] [] (mW (aU a 1 s) f) := by
        intro s R' W' D' v g1 g2 hs'
        refine Z_go kX10_change okX10 [] 80 ?_
        refine ⟨vin (by omega) (by omega), ?_⟩
        refine ⟨vin (by omega) (by omega), ?_⟩
        rw [show (nI 0).toNatClampNeg = 0 from rfl, show (nI 3).toNatClampNeg = 3 from rfl]
        refine ⟨?_, aU a 1 (upd s 3 (nI 0)), f, rfl, HT_z g1 g2 hs', hi, ⟨htp, h5⟩, ⟨h12, hsl⟩, hsh, h9, h19⟩
        show some (vi (upd s 3 (nI 0) 0)) = some (vi (nI R'))
        rw [updN (by omega), hs'.1]
      have hj4 : j = 0 ∨ j = 1 ∨ j = 2 ∨ j = 3 := by omega
      rcases hj4 with rfl | rfl | rfl | rfl
      · rw [if_neg (by rintro ⟨z, -⟩; revert z; decide), if_pos rfl]
        refine ⟨fun _ => ?_, fun (z : ¬ ¬ nI 0 = nI 3) => absurd (by decide) z⟩
        refine Z_go kX10_change okX10 [163] 80 ?_
        refine ⟨fun _ => ?_, fun z => absurd rfl z⟩
        refine ⟨rfl, m_turns (a := a) (s := a 1) (by omega) p2 (hs.2.1 (by omega)) (fun s' hs' => ?_)⟩
        refine fin s' R W _ _ p1 p2 (HM_of hs (fun i hi => by rw [hs', if_neg (by omega)]) (by rw [hs', if_neg (by omega)]; exact hs.1) (fun z => ⟨rfl, z⟩) (fun q c hq hc => ?_))
        rw [hs']
        unfold turnD
        by_cases e : q = k
        · subst e
          rw [if_pos (by omega), if_pos rfl, ← hs.2.2.2 q (W - 1 - c) hq (by omega)]
          congr 1; omega
        · rw [if_neg (by omega), if_neg e]; exact hs.2.2.2 q c hq hc
      · rw [if_neg (by rintro ⟨z, -⟩; revert z; decide), if_neg (by decide), if_pos rfl]
        refine ⟨fun _ => ?_, fun (z : ¬ ¬ nI 1 = nI 3) => absurd (by decide) z⟩
        refine Z_go kX10_change okX10 [163] 80 ?_
        refine ⟨fun z => absurd z (by decide), fun _ => ⟨fun _ => ?_, fun z => absurd rfl z⟩⟩
        refine ⟨rfl, m_goesOn (a := a) (s := a 1) (by omega) p2 hW1 (hs.2.1 (by omega)) (fun s' hs' => ?_)⟩
        refine fin s' R W _ _ p1 p2 (HM_of hs (fun i hi => by rw [hs', if_neg (by omega), if_neg (by omega)]) (by rw [hs', if_neg (by omega), if_neg (by omega)]; exact hs.1) (fun z => ⟨rfl, z⟩) (fun q c hq hc => ?_))
        rw [hs']
        unfold moveD
        by_cases e : q = k
        · subst e
          rw [if_pos rfl]
          by_cases e0 : c = 0
          · subst e0
            rw [if_pos (by omega), if_pos rfl, ← hs.2.2.2 q (W - 1) hq (by omega)]
            congr 1; omega
          · rw [if_neg (by omega), if_pos (by omega), if_neg e0, ← hs.2.2.2 q (c - 1) hq (by omega)]
            congr 1; omega
        · rw [if_neg (by omega), if_neg (by omega), if_neg e]; exact hs.2.2.2 q c hq hc
      · rw [if_neg (by rintro ⟨z, -⟩; revert z; decide), if_neg (by decide), if_neg (by decide), if_pos rfl]
        refine ⟨fun _ => ?_, fun (z : ¬ ¬ nI 2 = nI 3) => absurd (by decide) z⟩
        refine Z_go kX10_change okX10 [88, 163] 80 ?_
        refine ⟨fun z => absurd z (by decide), fun _ => ⟨fun z => absurd z (by decide), fun _ => ⟨fun _ => ?_, fun z => absurd rfl z⟩⟩⟩
        have kk := dropM_loop (g := g) (a := a) (f := f) (r := k) (v2 := nI 2) (Q := MV (nI (R - 1), (R - 1, (if R - 1 = 0 then 0 else W), m, dropD D k), (0, T), (n, TP), (sn, w), im, sh, tf, rf)) p1 hs.1 (fun s' v hs' hk' => ?_) (R - (k + 1)) (k + 1) (a 1) (by omega) (by omega) (fun i c hi hc => by rw [if_neg (by omega)]) (fun _ _ => rfl)
        · rw [nI_a1 k] at kk
          exact kk
        · refine Z_go kX10_change okX10 [163] 80 ?_
          refine ⟨vin (by omega) (by omega), ?_⟩
          rw [show (nI 0).toNatClampNeg = 0 from rfl, show aU a 1 s' 1 0 = nI R from (hk' 0 (by omega)).trans hs.1]
          refine ⟨vin (by omega) (by omega), ?_⟩
          rw [show (nI 0).toNatClampNeg = 0 from rfl, pk_sub (show 1 ≤ R by omega)]
          refine fin (upd s' 0 (nI (R - 1))) (R - 1) _ _ v (by omega) (by split <;> omega) (HM_of (s' := upd s' 0 (nI (R - 1))) (s := upd (a 1) 0 (nI (R - 1))) (R := R - 1) (W := W) (D := fun q c => a 1 (4 + 16 * q + c)) ⟨updS, fun z => (updN (by omega)).trans (hs.2.1 (by omega)), (updN (by omega)).trans hs.2.2.1, fun q c hq hc => updN (by omega)⟩ (fun i hi => ?_) updS (fun z => ⟨if_neg z, z⟩) (fun q c hq hc => ?_))
          · by_cases e : i = 0
            · rw [e, updS, updS]
            · rw [updN e, updN e]; exact hk' i hi
          · have hc : c < W := by split at hc <;> omega
            rw [updN (by omega), hs' q c hq (by omega)]
            unfold dropD
            by_cases e : k ≤ q
            · rw [if_pos e, if_neg (by omega)]; exact hs.2.2.2 (q + 1) c (by omega) hc
            · rw [if_neg e, if_pos (by omega)]; exact hs.2.2.2 q c (by omega) hc
      · refine ⟨fun z => absurd rfl z, fun _ => ?_⟩
        refine ⟨vin (by omega) (by omega), ?_⟩
        rw [show (nI 0).toNatClampNeg = 0 from rfl, hs.1]
        refine ⟨fun (z : ¬ nI R = nI 12) => ?_, fun (z : ¬ ¬ nI R = nI 12) => ?_⟩
        · rw [nI_eq (by omega) (by omega)] at z
          rw [if_neg (by omega), if_neg (by decide), if_neg (by decide), if_neg (by decide)]
          refine Z_go kX10_change okX10 [134, 163] 80 ?_
          refine ⟨fun z => absurd z (by decide), fun _ => ⟨fun z => absurd z (by decide), fun _ => ⟨fun z => absurd z (by decide), fun _ => ?_⟩⟩⟩
          refine ⟨vin (by omega) (by omega), ?_⟩
          rw [show (nI 0).toNatClampNeg = 0 from rfl, hs.1]
          have kk := repM_loop (g := g) (a := a) (f := f) (r := k) (v2 := nI 3) (Q := MV (nI (R + 1), (R + 1, W, m, repD D k), (0, T), (n, TP), (sn, w), im, sh, tf, rf)) (R := R) (by omega) (fun s' v hs' hk' => ?_) (R - k) (a 1) (by omega) (fun i c hi hc => by rw [if_neg (by omega)]) (fun _ _ => rfl)
          · rw [show k + (R - k) = R by omega] at kk
            exact kk
          · refine Z_go kX10_change okX10 [163] 80 ?_
            refine ⟨vin (by omega) (by omega), ?_⟩
            rw [show (nI 0).toNatClampNeg = 0 from rfl, show aU a 1 s' 1 0 = nI R from (hk' 0 (by omega)).trans hs.1]
            refine ⟨vin (by omega) (by omega), ?_⟩
            rw [show (nI 0).toNatClampNeg = 0 from rfl, ← nI_a1 R]
            refine fin (upd s' 0 (nI (R + 1))) (R + 1) _ _ v (by omega) p2 (HM_of (s' := upd s' 0 (nI (R + 1))) (s := upd (a 1) 0 (nI (R + 1))) (R := R + 1) (W := W) (D := fun q c => a 1 (4 + 16 * q + c)) ⟨updS, fun z => (updN (by omega)).trans (hs.2.1 (by omega)), (updN (by omega)).trans hs.2.2.1, fun q c hq hc => updN (by omega)⟩ (fun i hi => ?_) updS (fun z => ⟨rfl, z⟩) (fun q c hq hc => ?_))
            · by_cases e : i = 0
              · rw [e, updS, updS]
              · rw [updN e, updN e]; exact hk' i hi
            · rw [updN (by omega), hs' q c (by omega) (by omega)]
              unfold repD
              by_cases e : k < q
              · rw [if_pos e, if_neg (by omega)]; exact hs.2.2.2 (q - 1) c (by omega) hc
              · rw [if_neg e, if_pos (by omega)]; exact hs.2.2.2 q c (by omega) hc
        · rw [nI_eq (by omega) (by omega)] at z
          rw [if_pos ⟨rfl, by omega⟩]
          exact ⟨rfl, _, _, rfl, hM⟩
end MOD
