/-! the reference: names, beads, a row -/
/-- what is drafted -/
def HD (d : Nat → Int32) (R W : Nat) (fro : Bool) (D : Nat → Nat → Int32) : Prop := HM d R W (fl fro) D ∧ d 3 = nI 0
section MOD
variable {g : GG} {a : Nat → Nat → Int32} {f : Nat → Int32} {R W n st nx : Nat} {fro : Bool} {D : Nat → Nat → Int32} {tp : Nat → Int32} {p b s q w : Int32}
theorem m_is {i k : Nat} (hi : i < 2) (h5 : f 5 = nI n) (htp : a 5 = tp) (hn : n ≤ 300) (hst : st ≤ nx) (hnx : nx ≤ n) (hk : k ≤ 3) : Dt g mX10_is [vr 0, vi (nmC i 0), vi (nmC i 1), vi (nmC i 2)] (mW a (tU f (nI nx) (nI st) (nI k) q w)) (some (vi (nI (fl (decide (k = 1) && isNm tp i st nx))))) (mW a (tU f (nI nx) (nI st) (nI k) q w)) := by
  have hb := fun c hc => m_byteAt (g := g) (a := a) (f := tU f (nI nx) (nI st) (nI k) q w) h5 htp hn (k := c) hc
  have e1 : nI st + nI 1 = nI (st + 1) := nI_add _ _
  have e2 : nI st + nI 2 = nI (st + 2) := nI_add _ _
  have b0 := hb st (by omega)
  have b1 := hb (st + 1) (by omega)
  have b2 := hb (st + 2) (by omega)
  rw [← e1] at b1
  rw [← e2] at b2
  have en : isNm tp i st nx = (decide (nx - st = 3) && (decide (tp st = nmC i 0) && (decide (tp (st + 1) = nmC i 1) && (decide (tp (st + 2) = nmC i 2) && true)))) := rfl
  rw [en]
  have ep : nI nx - nI st = nI (nx - st) := pk_sub hst
  generalize nmC i 0 = c0
  generalize nmC i 1 = c1
  generalize nmC i 2 = c2
  refine Ev_of omX10_is.1 (Nat.le_of_ble_eq_true rfl) ?_
  refine Z_go kX10_is okX10 [] 80 ?_
  refine ⟨fun (h : ¬ nI k = nI 1) => ?_, fun (h : ¬ ¬ nI k = nI 1) => ?_⟩
  · rw [nI_eq (by omega) (by omega)] at h
    exact ⟨Or.inl rfl, by rw [decide_eq_false h]; rfl, rfl⟩
  rw [nI_eq (by omega) (by omega)] at h
  rw [decide_eq_true (Classical.not_not.mp h)]
  refine ⟨fun (h : ¬ nI nx - nI st = nI 3) => ?_, fun (h : ¬ ¬ nI nx - nI st = nI 3) => ?_⟩
  · rw [ep, nI_eq (by omega) (by omega)] at h
    exact ⟨Or.inl rfl, by rw [decide_eq_false h]; rfl, rfl⟩
  rw [ep, nI_eq (by omega) (by omega)] at h
  have h := Classical.not_not.mp h
  rw [decide_eq_true h]
  rw [show byA tp n st = tp st by unfold byA; rw [if_pos (by omega)]] at b0
  rw [show byA tp n (st + 1) = tp (st + 1) by unfold byA; rw [if_pos (by omega)]] at b1
  rw [show byA tp n (st + 2) = tp (st + 2) by unfold byA; rw [if_pos (by omega)]] at b2
  refine ⟨rfl, b0.use ?_⟩
  refine ⟨fun (h : ¬ tp st = c0) => ⟨Or.inl rfl, by rw [decide_eq_false h]; rfl, rfl⟩, fun (h : ¬ ¬ tp st = c0) => ?_⟩
  rw [decide_eq_true (Classical.not_not.mp h)]
  refine ⟨rfl, b1.use ?_⟩
  refine ⟨fun (h : ¬ tp (st + 1) = c1) => ⟨Or.inl rfl, by rw [decide_eq_false h]; rfl, rfl⟩, fun (h : ¬ ¬ tp (st + 1) = c1) => ?_⟩
  rw [decide_eq_true (Classical.not_not.mp h)]
  refine ⟨rfl, b2.use ?_⟩
  refine ⟨fun (h : ¬ tp (st + 2) = c2) => ⟨Or.inl rfl, by rw [decide_eq_false h]; rfl, rfl⟩, fun (h : ¬ ¬ tp (st + 2) = c2) => ⟨Or.inr rfl, by rw [decide_eq_true (Classical.not_not.mp h)]; rfl, rfl⟩⟩
theorem areBeads_loop (htp : a 5 = tp) (hn : n ≤ 300) (hnx : nx ≤ n) {v1 : Int32} {Q : Option AV → AH → Prop} : ∀ (z c : Nat) (x : Bool), c + z = nx → Q (some (vi (nI (fl (x && al (bdP tp) c z))))) (mW a (tU f (nI nx) (nI st) s q w)) →
    Z g mX10_areBeads 11 Q 46 [some (vr 0), some (vi v1), some (vi (nI (fl x))), some (vi (nI c))] [] (mW a (tU f (nI nx) (nI st) s q w)) := by
  intro z
  induction z with
  | zero =>
    intro c x h1 hQ
    simp only [al, Bool.and_true] at hQ
    refine Z_go kX10_areBeads okX10 [46] 80 ?_
    refine ⟨fun _ => ?_, fun (h : ¬ nI nx ≤ nI c) => absurd (nI_le (by omega) (by omega)) h⟩
    cases x with
    | false => exact ⟨Or.inl rfl, hQ⟩
    | true => exact ⟨Or.inr rfl, hQ⟩
  | succ z ih =>
    intro c x h1 hQ
    simp only [al] at hQ
    have go : ∀ x' : Bool, (x && bdP tp c) = x' → Z g mX10_areBeads 11 Q 74 [some (vr 0), some (vi v1), some (vi (nI (fl x))), some (vi (nI c))] [vi (nI (fl x'))] (mW a (tU f (nI nx) (nI st) s q w)) := by
      intro x' hx'
      refine Z_go kX10_areBeads okX10 [46] 80 ?_
      have k := ih (c + 1) x' (by omega) (by rw [← hx', Bool.and_assoc]; exact hQ)
      rw [nI_a1 c] at k
      exact k
    refine Z_go kX10_areBeads okX10 [46, 74] 80 ?_
    refine ⟨fun (h : nI nx ≤ nI c) => ?_, fun _ => ?_⟩
    · rw [nI_leI (by omega) (by omega)] at h; omega
    · cases x with
      | false => exact ⟨fun _ => go false rfl, fun z => absurd rfl z⟩
      | true =>
        refine ⟨fun z => (z1 z).elim, fun _ => ?_⟩
        refine ⟨vin (by omega) (by omega), ?_⟩
        rw [nI_clamp (show c < 2 ^ 31 by omega), htp]
        exact ⟨fun (h3 : nI 102 < tp c) => go false (by simp [bdP, show ¬ tp c ≤ nI 102 from Int32.not_le.mpr h3]), fun (h3 : ¬ nI 102 < tp c) => go true (by simp [bdP, show tp c ≤ nI 102 from Int32.not_lt.mp h3])⟩
theorem m_areBeads (h0 : a 2 0 = nI R) (h1 : R ≠ 0 → a 2 1 = nI W) (hR : R ≤ 12) (hW : W ≤ 16) (htp : a 5 = tp) (hn : n ≤ 300) (hst : st ≤ nx) (hnx : nx ≤ n) : Dt g mX10_areBeads [vr 0] (mW a (tU f (nI nx) (nI st) s q w)) (some (vi (nI (fl (isBd tp R W st nx))))) (mW a (tU f (nI nx) (nI st) s q w)) := by
  have ep : nI nx - nI st = nI (nx - st) := pk_sub hst
  have go : ∀ x : Bool, (decide (nx - st ≤ 16) && (decide (R = 0) || decide (nx - st = W))) = x → ∀ v1 : Int32, Z g mX10_areBeads 11 (fun r' B => r' = some (vi (nI (fl (isBd tp R W st nx)))) ∧ B = mW a (tU f (nI nx) (nI st) s q w)) 40 [some (vr 0), some (vi v1), none, none] [vi (nI (fl x))] (mW a (tU f (nI nx) (nI st) s q w)) := by
    intro x hx v1
    refine Z_go kX10_areBeads okX10 [46] 80 ?_
    refine areBeads_loop (f := f) (s := s) (q := q) (w := w) htp hn hnx (nx - st) st x (by omega) ⟨?_, rfl⟩
    unfold isBd
    rw [hx]
  refine Ev_of omX10_areBeads.1 (Nat.le_of_ble_eq_true rfl) ?_
  refine Z_go kX10_areBeads okX10 [40] 80 ?_
  refine ⟨fun (h : nI 16 < nI nx - nI st) => ?_, fun (h : ¬ nI 16 < nI nx - nI st) => ?_⟩
  · rw [ep, nI_ltI (by omega) (by omega)] at h
    exact go false (by rw [decide_eq_false (by omega)]; rfl) _
  · rw [ep, nI_ltI (by omega) (by omega)] at h
    refine ⟨vin (by omega) (by omega), ?_⟩
    rw [show (nI 0).toNatClampNeg = 0 from rfl, h0]
    refine ⟨fun (c2 : nI R = nI 0) => ?_, fun (c2 : ¬ nI R = nI 0) => ?_⟩
    · rw [nI_eq (by omega) (by omega)] at c2
      exact go true (by rw [decide_eq_true (by omega), decide_eq_true c2]; rfl) _
    · rw [nI_eq (by omega) (by omega)] at c2
      refine ⟨vin (by omega) (by omega), ?_⟩
      rw [show (nI 1).toNatClampNeg = 1 from rfl, h1 c2]
      refine ⟨fun (c3 : ¬ nI nx - nI st = nI W) => ?_, fun (c3 : ¬ ¬ nI nx - nI st = nI W) => ?_⟩
      · rw [ep, nI_eq (by omega) (by omega)] at c3
        exact go false (by rw [decide_eq_false c2, decide_eq_false c3]; simp) _
      · rw [ep, nI_eq (by omega) (by omega)] at c3
        exact go true (by rw [decide_eq_true (Classical.not_not.mp c3), decide_eq_true (by omega)]; simp) _
/-- a fault is there: the row ends -/
theorem row_f {v : Option AV} {F : Nat} (h1 : 1 ≤ F) (h4 : F ≤ 4) {Q : Option AV → AH → Prop} (hQ : Q none (mW a (tU f p b s (nI F) w))) : Z g mX10_readRow 11 Q 66 [some (vr 0), v] [] (mW a (tU f p b s (nI F) w)) ∧ Z g mX10_readRow 11 Q 50 [some (vr 0), v] [] (mW a (tU f p b s (nI F) w)) ∧ Z g mX10_readRow 11 Q 25 [some (vr 0), v] [] (mW a (tU f p b s (nI F) w)) := by
  have hn : ¬ nI F = 0 := nI_ne0 (by omega) (by omega)
  have r6 : Z g mX10_readRow 11 Q 66 [some (vr 0), v] [] (mW a (tU f p b s (nI F) w)) := by
    refine Z_go kX10_readRow okX10 [] 80 ?_
    exact ⟨fun _ => ⟨rfl, (m_reads_f h1 h4).use hQ⟩, fun (z : ¬ ¬ nI F = 0) => absurd hn z⟩
  have r5 : Z g mX10_readRow 11 Q 50 [some (vr 0), v] [] (mW a (tU f p b s (nI F) w)) := by
    refine Z_go kX10_readRow okX10 [66] 80 ?_
    exact ⟨fun _ => r6, fun (z : ¬ ¬ nI F = 0) => absurd hn z⟩
  refine ⟨r6, r5, ?_⟩
  refine Z_go kX10_readRow okX10 [50] 80 ?_
  exact ⟨fun _ => r5, fun (z : ¬ ¬ nI F = 0) => absurd hn z⟩
theorem row_loop {L : Nat} (htp : a 5 = tp) (hn : n ≤ 300) (hL : L ≤ 16) (hst : st + L ≤ n) (hR : R < 12) {d0 : Nat → Int32} {Q : Option AV → AH → Prop} (h0 : d0 0 = nI R) (h1 : d0 1 = nI L)
    (hQ : ∀ d v, (∀ j, d j = if 4 + 16 * R ≤ j ∧ j < 4 + 16 * R + L then tp (st + (j - 4 - 16 * R)) - nI 97 else d0 j) → Z g mX10_readRow 11 Q 138 [some (vr 0), v] [] (mW (aU a 2 d) (tU f p (nI st) s q w))) : ∀ (z c : Nat) (d : Nat → Int32), c + z = L → (∀ j, d j = if 4 + 16 * R ≤ j ∧ j < 4 + 16 * R + c then tp (st + (j - 4 - 16 * R)) - nI 97 else d0 j) →
    Z g mX10_readRow 11 Q 90 [some (vr 0), some (vi (nI c))] [] (mW (aU a 2 d) (tU f p (nI st) s q w)) := by
  intro z
  induction z with
  | zero =>
    intro c d h2 hd
    have h2 : c = L := by omega
    subst h2
    have d1 : d 1 = nI c := by rw [hd, if_neg (by omega)]; exact h1
    refine Z_go kX10_readRow okX10 [90, 138] 80 ?_
    refine ⟨vin (by omega) (by omega), ?_⟩
    rw [show (nI 1).toNatClampNeg = 1 from rfl, show aU a 2 d 2 1 = nI c from d1]
    exact ⟨fun _ => hQ d _ hd, fun (h : ¬ nI c ≤ nI c) => absurd (nI_le (by omega) (by omega)) h⟩
  | succ z ih =>
    intro c d h2 hd
    have d1 : d 1 = nI L := by rw [hd, if_neg (by omega)]; exact h1
    have d0' : d 0 = nI R := by rw [hd, if_neg (by omega)]; exact h0
    have e1 : nI 4 + nI 16 * nI R + nI c = nI (4 + 16 * R + c) := by rw [pk_mul, nI_add, nI_add]
    have e2 : nI st + nI c = nI (st + c) := nI_add _ _
    have k := ih (c + 1) (upd d (4 + 16 * R + c) (tp (st + c) - nI 97)) (by omega) (fun j => by
      by_cases e : j = 4 + 16 * R + c
      · subst e
        rw [updS, if_pos (by omega), show 4 + 16 * R + c - 4 - 16 * R = c by omega]
      · rw [updN e, hd]
        by_cases e3 : 4 + 16 * R ≤ j ∧ j < 4 + 16 * R + c
        · rw [if_pos e3, if_pos (by omega)]
        · rw [if_neg e3, if_neg (by omega)])
    rw [nI_a1 c] at k
    refine Z_go kX10_readRow okX10 [90, 138] 80 ?_
    refine ⟨vin (by omega) (by omega), ?_⟩
    rw [show (nI 1).toNatClampNeg = 1 from rfl, show aU a 2 d 2 1 = nI L from d1]
    refine ⟨fun (h : nI L ≤ nI c) => ?_, fun _ => ?_⟩
    · rw [nI_leI (by omega) (by omega)] at h; omega
    · refine ⟨vin (by omega) (by omega), ?_⟩
      rw [show (nI 0).toNatClampNeg = 0 from rfl, show aU a 2 d 2 0 = nI R from d0']
      refine ⟨by show vp_in (nI st + nI c) 300; rw [e2]; exact vin (by omega) (by omega), ?_⟩
      rw [show (tU f p (nI st) s q w 7 + nI c).toNatClampNeg = st + c by show (nI st + nI c).toNatClampNeg = st + c; rw [e2]; exact nI_clamp (by omega), show aU a 2 d 5 (st + c) = tp (st + c) by show a 5 (st + c) = _; rw [htp]]
      refine ⟨by rw [e1]; exact vin (by omega) (by omega), ?_⟩
      rw [e1, nI_clamp (show 4 + 16 * R + c < 2 ^ 31 by omega)]
      exact k
end MOD
