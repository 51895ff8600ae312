/-! the reference: the text -/
def tU (f : Nat → Int32) (p b s q w : Int32) : Nat → Int32 := fun j => if j = 6 then p else if j = 7 then b else if j = 8 then s else if j = 9 then q else if j = 10 then w else f j
/-- the sort of a token, as the reference has it -/
def so (k : Nat) : Nat := if k = 3 then 0 else if k = 1 then 1 else 2
section MOD
variable {g : GG} {a : Nat → Nat → Int32} {f : Nat → Int32} {R W n : Nat} {D : Nat → Nat → Int32} {tp : Nat → Int32} {p b s q w : Int32}
def byA (tp : Nat → Int32) (n p : Nat) : Int32 := if p < n then tp p else -nI 1
theorem m_byteAt (h5 : f 5 = nI n) (htp : a 5 = tp) (hn : n ≤ 300) {k : Nat} (hk : k ≤ 1000) : Dt g mX10_byteAt [vr 0, vi (nI k)] (mW a f) (some (vi (byA tp n k))) (mW a f) := by
  unfold byA
  refine Ev_of omX10_byteAt.1 (Nat.le_of_ble_eq_true rfl) ?_
  refine Z_go kX10_byteAt okX10 [] 80 ?_
  refine ⟨fun (h : f 5 ≤ nI k) => ⟨?_, rfl⟩, fun (h : ¬ f 5 ≤ nI k) => ?_⟩
  · rw [h5, nI_leI (by omega) (by omega)] at h
    rw [if_neg (by omega)]
  · rw [h5, nI_leI (by omega) (by omega)] at h
    refine ⟨vin (by omega) (by omega), ?_, rfl⟩
    rw [nI_clamp (by omega), htp, if_pos (by omega)]
theorem m_req_ok {c : Int32} : Dt g mX10_requires [vr 0, vi (nI 1), vi c] (mW a f) none (mW a f) := by
  refine Ev_of omX10_requires.1 (Nat.le_of_ble_eq_true rfl) ?_
  refine Z_go kX10_requires okX10 [] 80 ?_
  exact ⟨fun _ => ⟨rfl, rfl⟩, fun (z : ¬ ¬ nI 1 = 0) => absurd z1 z⟩
theorem m_req_no {c : Int32} : Dt g mX10_requires [vr 0, vi (nI 0), vi c] (mW a (tU f p b s (nI 0) w)) none (mW a (tU f p b s c b)) := by
  refine Ev_of omX10_requires.1 (Nat.le_of_ble_eq_true rfl) ?_
  refine Z_go kX10_requires okX10 [] 80 ?_
  exact ⟨fun z => absurd rfl z, fun _ => ⟨fun z => absurd rfl z, fun _ => ⟨rfl, rfl⟩⟩⟩
theorem m_req_f {x : Bool} {c : Int32} {k : Nat} (hk : 1 ≤ k) (hk4 : k ≤ 4) : Dt g mX10_requires [vr 0, vi (nI (fl x)), vi c] (mW a (tU f p b s (nI k) w)) none (mW a (tU f p b s (nI k) w)) := by
  refine Ev_of omX10_requires.1 (Nat.le_of_ble_eq_true rfl) ?_
  refine Z_go kX10_requires okX10 [] 80 ?_
  cases x with
  | true => exact ⟨fun _ => ⟨rfl, rfl⟩, fun (z : ¬ ¬ nI 1 = 0) => absurd z1 z⟩
  | false => exact ⟨fun z => absurd rfl z, fun _ => ⟨fun _ => ⟨rfl, rfl⟩, fun (z : ¬ ¬ nI k = 0) => absurd (nI_ne0 (by omega) (by omega)) z⟩⟩
theorem m_reads_f {k : Nat} (hk : 1 ≤ k) (hk4 : k ≤ 4) : Dt g mX10_reads [vr 0] (mW a (tU f p b s (nI k) w)) none (mW a (tU f p b s (nI k) w)) := by
  refine Ev_of omX10_reads.1 (Nat.le_of_ble_eq_true rfl) ?_
  refine Z_go kX10_reads okX10 [8] 80 ?_
  exact ⟨fun (z : nI k ≤ 0) => absurd z (nI_nle (by omega) (by omega)), fun _ => ⟨rfl, rfl⟩⟩
theorem skip_loop (h5 : f 5 = nI n) (htp : a 5 = tp) (hn : n ≤ 300) {v : Option AV} {Q : Option AV → AH → Prop} : ∀ (k c : Nat), c + k = n →
    Z g mX10_reads 11 Q 34 [some (vr 0), v] [] (mW a (tU f (nI (skp tp k c)) b s q w)) →
    Z g mX10_reads 11 Q 8 [some (vr 0), v] [] (mW a (tU f (nI c) b s q w)) := by
  intro k
  induction k with
  | zero =>
    intro c h1 hQ
    have hb := m_byteAt (g := g) (a := a) (f := tU f (nI c) b s q w) h5 htp hn (k := c) (by omega)
    rw [show byA tp n c = -nI 1 by unfold byA; rw [if_neg (by omega)]] at hb
    refine Z_go kX10_reads okX10 [8, 34] 80 ?_
    refine ⟨rfl, hb.use ?_⟩
    exact ⟨fun _ => hQ, fun (z : ¬ ¬ (-nI 1 : Int32) = nI 32) => absurd (by decide) z⟩
  | succ k ih =>
    intro c h1 hQ
    have hb := m_byteAt (g := g) (a := a) (f := tU f (nI c) b s q w) h5 htp hn (k := c) (by omega)
    rw [show byA tp n c = tp c by unfold byA; rw [if_pos (by omega)]] at hb
    simp only [skp] at hQ
    refine Z_go kX10_reads okX10 [8, 34] 80 ?_
    refine ⟨rfl, hb.use ?_⟩
    refine ⟨fun (z : ¬ tp c = nI 32) => ?_, fun (z : ¬ ¬ tp c = nI 32) => ?_⟩
    · rw [if_neg z] at hQ; exact hQ
    · rw [if_pos (Classical.not_not.mp z)] at hQ
      have kk := ih (c + 1) (by omega) hQ
      rw [nI_a1 c] at kk
      exact kk
theorem lett_loop (h5 : f 5 = nI n) (htp : a 5 = tp) (hn : n ≤ 300) {v : Option AV} {Q : Option AV → AH → Prop} : ∀ (k c : Nat), c + k = n →
    Q none (mW a (tU f (nI (ltr tp k c)) b s q w)) →
    Z g mX10_reads 11 Q 82 [some (vr 0), v] [] (mW a (tU f (nI c) b s q w)) := by
  intro k
  induction k with
  | zero =>
    intro c h1 hQ
    have hb := m_byteAt (g := g) (a := a) (f := tU f (nI c) b s q w) h5 htp hn (k := c) (by omega)
    rw [show byA tp n c = -nI 1 by unfold byA; rw [if_neg (by omega)]] at hb
    have hl := m_inN (g := g) (A := mW a (tU f (nI c) b s q w)) (-nI 1) 97 122 (by omega) (by omega)
    rw [show (decide (nI 97 ≤ -nI 1) && decide (-nI 1 ≤ nI 122)) = false by decide +kernel] at hl
    refine Z_go kX10_reads okX10 [82] 80 ?_
    refine ⟨rfl, hb.use ?_⟩
    refine hl.use ?_
    exact ⟨fun _ => hQ, fun z => absurd rfl z⟩
  | succ k ih =>
    intro c h1 hQ
    have hb := m_byteAt (g := g) (a := a) (f := tU f (nI c) b s q w) h5 htp hn (k := c) (by omega)
    rw [show byA tp n c = tp c by unfold byA; rw [if_pos (by omega)]] at hb
    have hl := m_inN (g := g) (A := mW a (tU f (nI c) b s q w)) (tp c) 97 122 (by omega) (by omega)
    rw [show (decide (nI 97 ≤ tp c) && decide (tp c ≤ nI 122)) = lett (tp c) from rfl] at hl
    simp only [ltr] at hQ
    refine Z_go kX10_reads okX10 [82] 80 ?_
    refine ⟨rfl, hb.use ?_⟩
    refine hl.use ?_
    cases h : lett (tp c) with
    | false => rw [h] at hQ; exact ⟨fun _ => hQ, fun z => absurd rfl z⟩
    | true =>
      rw [h] at hQ
      refine ⟨fun z => (z1 z).elim, fun _ => ?_⟩
      have kk := ih (c + 1) (by omega) hQ
      rw [nI_a1 c] at kk
      exact kk
theorem reads_at (h5 : f 5 = nI n) (htp : a 5 = tp) (hn : n ≤ 300) (hpos : ∀ j, j < n → ¬ tp j < 0) {c : Nat} (hc : c ≤ n) {v : Option AV} {Q : Option AV → AH → Prop}
    (q3 : n ≤ c → Q none (mW a (tU f (nI c) (nI c) (nI 0) (nI 0) w)))
    (q1 : ¬ n ≤ c → lett (tp c) = true → Q none (mW a (tU f (nI (ltr tp (n - c) c)) (nI c) (nI 1) (nI 0) w)))
    (q2 : ¬ n ≤ c → lett (tp c) = false → tp c = nI 59 → Q none (mW a (tU f (nI c + nI 1) (nI c) (nI 2) (nI 0) w)))
    (q0 : ¬ n ≤ c → lett (tp c) = false → ¬ tp c = nI 59 → Q none (mW a (tU f (nI c + nI 1) (nI c) (nI 2) (nI 1) (nI c)))) :
    Z g mX10_reads 11 Q 34 [some (vr 0), v] [] (mW a (tU f (nI c) b s (nI 0) w)) := by
  have hb := m_byteAt (g := g) (a := a) (f := tU f (nI c) (nI c) s (nI 0) w) h5 htp hn (k := c) (by omega)
  by_cases hc2 : n ≤ c
  · have q3 := q3 hc2
    rw [show byA tp n c = -nI 1 by unfold byA; rw [if_neg (by omega)]] at hb
    refine Z_go kX10_reads okX10 [] 80 ?_
    refine ⟨rfl, hb.use ?_⟩
    exact ⟨fun (z : 0 ≤ (-nI 1 : Int32)) => absurd z (by decide), fun _ => q3⟩
  · rw [show byA tp n c = tp c by unfold byA; rw [if_pos (by omega)]] at hb
    have hl := m_inN (g := g) (A := mW a (tU f (nI c) (nI c) s (nI 0) w)) (tp c) 97 122 (by omega) (by omega)
    rw [show (decide (nI 97 ≤ tp c) && decide (tp c ≤ nI 122)) = lett (tp c) from rfl] at hl
    have hz := hpos c (by omega)
    cases h : lett (tp c) with
    | true =>
      have k := lett_loop (g := g) (a := a) (f := f) (b := nI c) (s := nI 1) (q := nI 0) (w := w) (v := some (vi (tp c))) (Q := Q) h5 htp hn (n - c) c (by omega) (q1 hc2 h)
      rw [h] at hl
      refine Z_go kX10_reads okX10 [82] 80 ?_
      refine ⟨rfl, hb.use ?_⟩
      refine ⟨fun _ => ?_, fun (z : ¬ 0 ≤ tp c) => absurd (Int32.not_le.mp z) hz⟩
      refine hl.use ?_
      exact ⟨fun z => (z1 z).elim, fun _ => k⟩
    | false =>
      rw [h] at hl
      by_cases h59 : tp c = nI 59
      · have q2 := q2 hc2 h h59
        have hr := m_req_ok (g := g) (a := a) (f := tU f (nI c) (nI c) (nI 2) (nI 0) w) (c := nI 1)
        refine Z_go kX10_reads okX10 [] 80 ?_
        refine ⟨rfl, hb.use ?_⟩
        refine ⟨fun _ => ?_, fun (z : ¬ 0 ≤ tp c) => absurd (Int32.not_le.mp z) hz⟩
        refine hl.use ?_
        refine ⟨fun _ => ?_, fun z => absurd rfl z⟩
        refine ⟨fun (z : ¬ tp c = nI 59) => absurd h59 z, fun _ => ?_⟩
        exact ⟨rfl, hr.use q2⟩
      · have q0 := q0 hc2 h h59
        have hr := m_req_no (g := g) (a := a) (f := f) (p := nI c) (b := nI c) (s := nI 2) (w := w) (c := nI 1)
        refine Z_go kX10_reads okX10 [] 80 ?_
        refine ⟨rfl, hb.use ?_⟩
        refine ⟨fun _ => ?_, fun (z : ¬ 0 ≤ tp c) => absurd (Int32.not_le.mp z) hz⟩
        refine hl.use ?_
        refine ⟨fun _ => ?_, fun z => absurd rfl z⟩
        refine ⟨fun _ => ?_, fun (z : ¬ ¬ tp c = nI 59) => absurd h59 z⟩
        exact ⟨rfl, hr.use q0⟩
/-- a token is read from nx on -/
theorem m_reads (h5 : f 5 = nI n) (htp : a 5 = tp) (hn : n ≤ 300) (hpos : ∀ j, j < n → ¬ tp j < 0) {nx : Nat} (hnx : nx ≤ n) : Dt g mX10_reads [vr 0] (mW a (tU f (nI nx) b s (nI 0) w)) none
    (mW a (tU f (nI (tok tp n nx).2.1) (nI (tok tp n nx).1) (nI (so (tok tp n nx).2.2)) (nI (if (tok tp n nx).2.2 = 0 then 1 else 0)) (if (tok tp n nx).2.2 = 0 then nI (tok tp n nx).1 else w))) := by
  have hsk := skp_le (tp := tp) (n - nx) nx
  have key : ∀ Q : Option AV → AH → Prop, Q none (mW a (tU f (nI (tok tp n nx).2.1) (nI (tok tp n nx).1) (nI (so (tok tp n nx).2.2)) (nI (if (tok tp n nx).2.2 = 0 then 1 else 0)) (if (tok tp n nx).2.2 = 0 then nI (tok tp n nx).1 else w))) → Z g mX10_reads 11 Q 34 [some (vr 0), none] [] (mW a (tU f (nI (skp tp (n - nx) nx)) b s (nI 0) w)) := by
    intro Q hQ
    unfold tok at hQ
    generalize skp tp (n - nx) nx = c at hsk hQ ⊢
    unfold tk1 at hQ
    refine reads_at h5 htp hn hpos (by omega) (fun h1 => ?_) (fun h1 h2 => ?_) (fun h1 h2 h3 => ?_) (fun h1 h2 h3 => ?_)
    · rw [if_pos h1] at hQ; exact hQ
    · rw [if_neg h1, if_pos h2] at hQ; exact hQ
    · rw [if_neg h1, if_neg (by rw [h2]; decide), if_pos h3] at hQ
      dsimp only at hQ
      rw [nI_a1 c] at hQ; exact hQ
    · rw [if_neg h1, if_neg (by rw [h2]; decide), if_neg h3] at hQ
      dsimp only at hQ
      rw [nI_a1 c] at hQ; exact hQ
  refine Ev_of omX10_reads.1 (Nat.le_of_ble_eq_true rfl) ?_
  refine Z_go kX10_reads okX10 [8] 80 ?_
  refine ⟨fun _ => ?_, fun (z : ¬ nI 0 ≤ 0) => absurd (by decide) z⟩
  exact skip_loop (f := f) (b := b) (s := s) (q := nI 0) (w := w) h5 htp hn (n - nx) nx (by omega) (key _ ⟨rfl, rfl⟩)
end MOD
