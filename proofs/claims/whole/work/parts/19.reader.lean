section RDR
variable {g : GG} {R W m n : Nat} {b tp : Nat → Int32} {D : Nat → Nat → Int32} {st nx tk : Nat} {fro : Bool}
def rdW (st nx tk : Nat) (fro : Bool) (R W m : Nat) (b : Nat → Int32) (n : Nat) (tp : Nat → Int32) : AH :=
  [ob 3 [vr 1, vi (nI st), vi (nI nx), vi (nI tk), vi (nI (fl fro))], ob 2 [vr 2, vi (nI R), vi (nI W), vi (nI m)], ar 0 192 b, ob 7 [vr 4, vi (nI n)], ar 0 300 tp]
/-- blanks, letters passed over -/
def skp (tp : Nat → Int32) : Nat → Nat → Nat
  | 0, p => p
  | k + 1, p => if tp p = nI 32 then skp tp k (p + 1) else p
def ltr (tp : Nat → Int32) : Nat → Nat → Nat
  | 0, p => p
  | k + 1, p => if lett (tp p) then ltr tp k (p + 1) else p
theorem skp_le : ∀ (k p : Nat), p ≤ skp tp k p ∧ skp tp k p ≤ p + k := by
  intro k
  induction k with
  | zero => intro p; simp [skp]
  | succ k ih =>
    intro p
    simp only [skp]
    split
    · have := ih (p + 1); omega
    · omega
theorem ltr_le : ∀ (k p : Nat), p ≤ ltr tp k p ∧ ltr tp k p ≤ p + k := by
  intro k
  induction k with
  | zero => intro p; simp [ltr]
  | succ k ih =>
    intro p
    simp only [ltr]
    split
    · have := ih (p + 1); omega
    · omega
theorem ltr_in : ∀ (k p i : Nat), p ≤ i → i < ltr tp k p → lett (tp i) = true := by
  intro k
  induction k with
  | zero => intro p i h1 h2; simp only [ltr] at h2; omega
  | succ k ih =>
    intro p i h1 h2
    simp only [ltr] at h2
    split at h2
    · rename_i h
      by_cases e : i = p
      · rw [e]; exact h
      · exact ih (p + 1) i (by omega) h2
    · omega
/-- a token from p on, with no blanks ahead: where it begins, where the next may, its sort -/
def tk1 (tp : Nat → Int32) (n p : Nat) : Nat × Nat × Nat := if n ≤ p then (p, p, 3) else if lett (tp p) then (p, ltr tp (n - p) p, 1) else (p, p + 1, if tp p = nI 59 then 2 else 0)
def tok (tp : Nat → Int32) (n nx : Nat) : Nat × Nat × Nat := tk1 tp n (skp tp (n - nx) nx)
theorem tok_le (h : nx ≤ n) : nx ≤ (tok tp n nx).1 ∧ (tok tp n nx).1 ≤ (tok tp n nx).2.1 ∧ (tok tp n nx).2.1 ≤ n ∧ (tok tp n nx).2.2 ≤ 3 := by
  have h1 := skp_le (tp := tp) (n - nx) nx
  unfold tok tk1
  generalize skp tp (n - nx) nx = p at h1 ⊢
  have h2 := ltr_le (tp := tp) (n - p) p
  split
  · exact ⟨by show nx ≤ p; omega, by show p ≤ p; omega, by show p ≤ n; omega, by show 3 ≤ 3; omega⟩
  · split
    · exact ⟨by show nx ≤ p; omega, by show p ≤ ltr tp (n - p) p; omega, by show ltr tp (n - p) p ≤ n; omega, by show 1 ≤ 3; omega⟩
    · refine ⟨by show nx ≤ p; omega, by show p ≤ p + 1; omega, by show p + 1 ≤ n; omega, ?_⟩
      show (if tp p = nI 59 then 2 else 0) ≤ 3
      split <;> omega
theorem tok_lt (h : nx ≤ n) (h3 : (tok tp n nx).2.2 ≠ 3) : (tok tp n nx).1 < (tok tp n nx).2.1 := by
  have h1 := skp_le (tp := tp) (n - nx) nx
  unfold tok tk1 at h3 ⊢
  generalize skp tp (n - nx) nx = p at h1 h3 ⊢
  split
  · rename_i h4; rw [if_pos h4] at h3; exact absurd rfl h3
  · rename_i h4
    split
    · rename_i h5
      show p < ltr tp (n - p) p
      obtain ⟨q, hq⟩ : ∃ q, n - p = q + 1 := ⟨n - p - 1, by omega⟩
      rw [hq]
      simp only [ltr]
      rw [if_pos h5]
      have := ltr_le (tp := tp) q (p + 1)
      omega
    · show p < p + 1; omega
theorem tok_in (h3 : (tok tp n nx).2.2 = 1) (i : Nat) (h1 : (tok tp n nx).1 ≤ i) (h2 : i < (tok tp n nx).2.1) : lett (tp i) = true := by
  unfold tok tk1 at h1 h2 h3
  generalize skp tp (n - nx) nx = p at h1 h2 h3
  split at h1
  · rename_i h4; rw [if_pos h4] at h3; cases h3
  · rename_i h4
    rw [if_neg h4] at h2 h3
    split at h1
    · rename_i h5
      rw [if_pos h5] at h2
      exact ltr_in _ _ _ h1 h2
    · rename_i h5
      rw [if_neg h5] at h3
      have h3 : (if tp p = nI 59 then 2 else 0) = 1 := h3
      split at h3 <;> cases h3
theorem readBl_loop {Q : Option AV → AH → Prop} (hn : n ≤ 300) : ∀ (k nx : Nat), nx + k = n → Z g mX3_readToken 5 Q 38 [some (vr 0), some (vr 3)] [] (rdW st (skp tp k nx) tk fro R W m b n tp) →
    Z g mX3_readToken 5 Q 0 [some (vr 0), some (vr 3)] [] (rdW st nx tk fro R W m b n tp) := by
  intro k
  induction k with
  | zero =>
    intro nx h1 hQ
    refine Z_go kX3_readToken okX3 [0, 38] 80 ?_
    refine ⟨fun _ => hQ, fun (h : ¬ nI n ≤ nI nx) => ?_⟩
    exact absurd (nI_le (by omega) (by omega)) h
  | succ k ih =>
    intro nx h1 hQ
    simp only [skp] at hQ
    refine Z_go kX3_readToken okX3 [0, 38] 80 ?_
    refine ⟨fun (h : nI n ≤ nI nx) => ?_, fun _ => ?_⟩
    · rw [nI_leI (by omega) (by omega)] at h; omega
    · refine ⟨vp_in_nI (by omega) (by omega), ?_⟩
      rw [nI_clamp (by omega)]
      refine ⟨fun (h2 : ¬ tp nx = nI 32) => ?_, fun (h2 : ¬ ¬ tp nx = nI 32) => ?_⟩
      · rw [if_neg h2] at hQ
        exact hQ
      · rw [if_pos (Classical.not_not.mp h2)] at hQ
        have k2 := ih (nx + 1) (by omega) hQ
        unfold rdW at k2
        rw [nI_a1 nx] at k2
        exact k2
theorem readLt_loop {Q : Option AV → AH → Prop} (hn : n ≤ 300) : ∀ (k nx : Nat), nx + k = n → Q none (rdW st (ltr tp k nx) 1 fro R W m b n tp) →
    Z g mX3_readToken 5 Q 81 [some (vr 0), some (vr 3)] [] (rdW st nx 1 fro R W m b n tp) := by
  intro k
  induction k with
  | zero =>
    intro nx h1 hQ
    refine Z_go kX3_readToken okX3 [81] 80 ?_
    refine ⟨rfl, (c_isLetter (k := nx) hn (by omega)).fr [3, 4] rfl (by decide) rfl ?_⟩
    have : ¬ nx < n := by omega
    rw [decide_eq_false this]
    refine ⟨fun _ => hQ, fun z => absurd rfl z⟩
  | succ k ih =>
    intro nx h1 hQ
    simp only [ltr] at hQ
    refine Z_go kX3_readToken okX3 [81] 80 ?_
    refine ⟨rfl, (c_isLetter (k := nx) hn (by omega)).fr [3, 4] rfl (by decide) rfl ?_⟩
    have : nx < n := by omega
    rw [decide_eq_true this]
    cases hl : lett (tp nx) with
    | false =>
      rw [hl] at hQ
      exact ⟨fun _ => hQ, fun z => absurd rfl z⟩
    | true =>
      rw [hl] at hQ
      refine ⟨fun (z : nI 1 = 0) => absurd z (by decide), fun _ => ?_⟩
      have k2 := ih (nx + 1) (by omega) hQ
      unfold rdW at k2
      rw [nI_a1 nx] at k2
      exact k2
theorem c_readToken (hn : n ≤ 300) (hnx : nx ≤ n) : Dt g mX3_readToken [vr 0, vr 3] (rdW st nx tk fro R W m b n tp) none (rdW (tok tp n nx).1 (tok tp n nx).2.1 (tok tp n nx).2.2 fro R W m b n tp) := by
  have hs := skp_le (tp := tp) (n - nx) nx
  refine Ev_of omX3_readToken.1 (Nat.le_of_ble_eq_true rfl) ?_
  refine readBl_loop hn (n - nx) nx (by omega) ?_
  unfold tok tk1
  generalize skp tp (n - nx) nx = p at hs ⊢
  refine Z_go kX3_readToken okX3 [81] 80 ?_
  refine ⟨fun (h : nI p < nI n) => ?_, fun (h : ¬ nI p < nI n) => ?_⟩
  · rw [nI_ltI (by omega) (by omega)] at h
    rw [if_neg (by omega)]
    refine ⟨rfl, (c_isLetter (k := p) hn (by omega)).fr [3, 4] rfl (by decide) rfl ?_⟩
    rw [decide_eq_true h]
    cases hl : lett (tp p) with
    | true =>
      refine ⟨fun (z : nI 1 = 0) => absurd z (by decide), fun _ => ?_⟩
      exact readLt_loop hn (n - p) p (by omega) ⟨rfl, rfl⟩
    | false =>
      refine ⟨fun _ => ?_, fun z => absurd rfl z⟩
      refine ⟨vp_in_nI (by omega) (by omega), ?_⟩
      rw [nI_clamp (by omega)]
      refine ⟨fun (h2 : ¬ tp p = nI 59) => ⟨rfl, ?_⟩, fun (h2 : ¬ ¬ tp p = nI 59) => ⟨rfl, ?_⟩⟩
      · simp only [Bool.false_eq_true, if_false]
        rw [if_neg h2]
        unfold rdW
        rw [nI_a1 p]
        rfl
      · simp only [Bool.false_eq_true, if_false]
        rw [if_pos (Classical.not_not.mp h2)]
        unfold rdW
        rw [nI_a1 p]
        rfl
  · rw [nI_ltI (by omega) (by omega)] at h
    rw [if_pos (by omega)]
    exact ⟨rfl, rfl⟩
def unf (tk : Nat) : Nat := if tk = 0 then 1 else 2
theorem c_unfit (ht : tk ≤ 3) : Dt g mX3_unfit [vr 0] (rdW st nx tk fro R W m b n tp) (some (vi (nI (unf tk)))) (rdW st nx tk fro R W m b n tp) := by
  refine Ev_of omX3_unfit.1 (Nat.le_of_ble_eq_true rfl) ?_
  refine Z_go kX3_unfit okX3 [] 80 ?_
  refine ⟨fun (h : ¬ nI tk = nI 0) => ⟨?_, rfl⟩, fun (h : ¬ ¬ nI tk = nI 0) => ⟨?_, rfl⟩⟩
  · rw [nI_eq (by omega) (by omega)] at h; unfold unf; rw [if_neg h]
  · rw [nI_eq (by omega) (by omega)] at h; unfold unf; rw [if_pos (Classical.not_not.mp h)]
def sgF (tk : Nat) : Nat := if tk = 2 then 0 else unf tk
theorem c_readSign (hn : n ≤ 300) (hnx : nx ≤ n) : Dt g mX3_readSign [vr 0, vr 3] (rdW st nx tk fro R W m b n tp) (some (vi (nI (sgF (tok tp n nx).2.2)))) (rdW (tok tp n nx).1 (tok tp n nx).2.1 (tok tp n nx).2.2 fro R W m b n tp) := by
  have ht := tok_le (tp := tp) hnx
  refine Ev_of omX3_readSign.1 (Nat.le_of_ble_eq_true rfl) ?_
  refine Z_go kX3_readSign okX3 [] 80 ?_
  refine ⟨rfl, (c_readToken hn hnx).use ?_⟩
  refine ⟨fun (h : ¬ nI (tok tp n nx).2.2 = nI 2) => ?_, fun (h : ¬ ¬ nI (tok tp n nx).2.2 = nI 2) => ?_⟩
  · rw [nI_eq (by omega) (by omega)] at h
    refine ⟨rfl, (c_unfit ht.2.2.2).use ?_⟩
    refine ⟨?_, rfl⟩
    unfold sgF; rw [if_neg h]
  · rw [nI_eq (by omega) (by omega)] at h
    refine ⟨?_, rfl⟩
    unfold sgF; rw [if_pos (Classical.not_not.mp h)]
/-- the name from st to nx can be beads of a row -/
def bdP (tp : Nat → Int32) (i : Nat) : Bool := decide (tp i ≤ nI 102)
def isBd (tp : Nat → Int32) (R W st nx : Nat) : Bool := decide (nx - st ≤ 16) && (decide (R = 0) || decide (nx - st = W)) && al (bdP tp) st (nx - st)
theorem lett_n {x : Int32} (h : lett x = true) : ∃ j, 97 ≤ j ∧ j ≤ 122 ∧ x = nI j := by
  unfold lett at h
  rw [Bool.and_eq_true] at h
  have h1 := of_decide_eq_true h.1
  have h2 := of_decide_eq_true h.2
  have h0 : ¬ x < 0 := by
    intro h0
    exact Int32.not_lt.mpr h1 (Int32.lt_trans h0 (by decide +kernel))
  obtain ⟨j, hj, rfl⟩ := nI_of h0
  rw [nI_leI (by omega) (by omega)] at h1 h2
  exact ⟨j, h1, h2, rfl⟩
theorem lett_col {x : Int32} (h : lett x = true) : isCol (x - nI 97) = decide (x ≤ nI 102) := by
  obtain ⟨j, h1, h2, rfl⟩ := lett_n h
  rw [pk_sub h1, isCol_n (by omega), decide_eq_decide, nI_leI (by omega) (by omega)]
  omega
theorem isBeads_loop {x : Int32} {Q : Option AV → AH → Prop} (hn : n ≤ 300) (hnx : nx ≤ n) : ∀ (k i : Nat), i + k = nx → (∀ j, i ≤ j → j < nx → lett (tp j) = true) → Q (some (vi (nI (fl (al (bdP tp) i k))))) (rdW st nx tk fro R W m b n tp) →
    Z g mX3_isBeads 5 Q 44 [some (vr 0), some (vr 3), some (vi x), some (vi (nI i))] [] (rdW st nx tk fro R W m b n tp) := by
  intro k
  induction k with
  | zero =>
    intro i h1 hl hQ
    refine Z_go kX3_isBeads okX3 [44] 80 ?_
    refine ⟨fun _ => ⟨Or.inr rfl, hQ⟩, fun (h : ¬ nI nx ≤ nI i) => ?_⟩
    exact absurd (nI_le (by omega) (by omega)) h
  | succ k ih =>
    intro i h1 hl hQ
    refine Z_go kX3_isBeads okX3 [44] 80 ?_
    refine ⟨fun (h : nI nx ≤ nI i) => ?_, fun _ => ?_⟩
    · rw [nI_leI (by omega) (by omega)] at h; omega
    · refine ⟨vp_in_nI (by omega) (by omega), ?_⟩
      rw [nI_clamp (by omega)]
      refine (c_isColour (tp i - nI 97)).use ?_
      rw [lett_col (hl i (Nat.le_refl _) (by omega))]
      cases h3 : decide (tp i ≤ nI 102) with
      | true =>
        refine ⟨fun _ => ?_, fun (z : ¬ ¬ nI 1 = 0) => absurd (by decide) z⟩
        have k2 := ih (i + 1) (by omega) (fun j a1 a2 => hl j (by omega) a2) (by simpa [al, bdP, h3] using hQ)
        rw [nI_a1 i] at k2
        exact k2
      | false =>
        refine ⟨fun z => absurd rfl z, fun _ => ⟨Or.inl rfl, ?_⟩⟩
        simpa [al, bdP, h3, fl] using hQ
theorem c_isBeads (hn : n ≤ 300) (hnx : nx ≤ n) (hst : st ≤ nx) (hR : R ≤ 12) (hW : W ≤ 16) (hl : ∀ j, st ≤ j → j < nx → lett (tp j) = true) : Dt g mX3_isBeads [vr 0, vr 3] (rdW st nx tk fro R W m b n tp) (some (vi (nI (fl (isBd tp R W st nx))))) (rdW st nx tk fro R W m b n tp) := by
  have e : nI nx - nI st = nI (nx - st) := pk_sub hst
  have fin : nx - st ≤ 16 → (R = 0 ∨ nx - st = W) → Z g mX3_isBeads (rdW st nx tk fro R W m b n tp).length (fun r' B => r' = some (vi (nI (fl (isBd tp R W st nx)))) ∧ B = rdW st nx tk fro R W m b n tp) 39 [some (vr 0), some (vr 3), some (vi (nI nx - nI st)), none] [] (rdW st nx tk fro R W m b n tp) := by
    intro h1 h2
    refine Z_go kX3_isBeads okX3 [44] 80 ?_
    refine isBeads_loop hn hnx (nx - st) st (by omega) hl ⟨?_, rfl⟩
    have h3 : (decide (R = 0) || decide (nx - st = W)) = true := by rcases h2 with h2 | h2 <;> simp [h2]
    unfold isBd
    rw [decide_eq_true h1, h3]
    rfl
  refine Ev_of omX3_isBeads.1 (Nat.le_of_ble_eq_true rfl) ?_
  refine Z_go kX3_isBeads okX3 [39] 80 ?_
  refine ⟨fun (h : nI 16 < nI nx - nI st) => ?_, fun (h : ¬ nI 16 < nI nx - nI st) => ⟨fun (h2 : nI R ≤ nI 0) => ?_, fun (h2 : ¬ nI R ≤ nI 0) => ⟨fun (h3 : nI nx - nI st = nI W) => ?_, fun (h3 : ¬ nI nx - nI st = nI W) => ?_⟩⟩⟩
  · rw [e, nI_ltI (by omega) (by omega)] at h
    refine ⟨Or.inl rfl, ?_, rfl⟩
    have : ¬ nx - st ≤ 16 := by omega
    unfold isBd; rw [decide_eq_false this]; rfl
  · rw [e, nI_ltI (by omega) (by omega)] at h
    rw [nI_leI (by omega) (by omega)] at h2
    exact fin (by omega) (Or.inl (by omega))
  · rw [e, nI_ltI (by omega) (by omega)] at h
    rw [e, nI_eq (by omega) (by omega)] at h3
    exact fin (by omega) (Or.inr h3)
  · rw [e, nI_ltI (by omega) (by omega)] at h
    rw [nI_leI (by omega) (by omega)] at h2
    rw [e, nI_eq (by omega) (by omega)] at h3
    refine ⟨Or.inl rfl, ?_, rfl⟩
    have h4 : ¬ R = 0 := by omega
    unfold isBd; rw [decide_eq_false h3, decide_eq_false h4]; simp [fl]
/-- letters become beads of row r, k of them -/
def rwI (b : Nat → Int32) (r : Nat) (tp : Nat → Int32) (st : Nat) : Nat → Nat → Int32
  | 0 => b
  | k + 1 => upd (rwI b r tp st k) (r * 16 + k) (tp (st + k) - nI 97)
theorem rwI_at {r st : Nat} : ∀ k, k ≤ 16 → ∀ q c, c < 16 → rwI b r tp st k (q * 16 + c) = if q = r ∧ c < k then tp (st + c) - nI 97 else b (q * 16 + c) := by
  intro k
  induction k with
  | zero => intro _ q c hc; rw [if_neg (by omega)]; rfl
  | succ k ih =>
    intro hk q c hc
    simp only [rwI]
    by_cases h1 : q * 16 + c = r * 16 + k
    · have h2 : q = r := by omega
      have h3 : c = k := by omega
      rw [h1, updS, if_pos ⟨h2, by omega⟩, h3]
    · rw [updN h1, ih (by omega) q c hc]
      by_cases h5 : q = r ∧ c < k
      · rw [if_pos h5, if_pos ⟨h5.1, by omega⟩]
      · rw [if_neg h5, if_neg (by omega)]
theorem readRow_loop {w r : Nat} {Q : Option AV → AH → Prop} (hn : n ≤ 300) (hr : r < 12) (hw : w ≤ 16) (hst : st + w ≤ n) (hQ : Z g mX3_readRow 5 Q 108 [some (vr 0), some (vr 3), some (vi (nI w))] [] (rdW st nx tk fro (r + 1) w m (rwI b r tp st w) n tp)) : ∀ (k c : Nat), c + k = w →
    Z g mX3_readRow 5 Q 60 [some (vr 0), some (vr 3), some (vi (nI c))] [] (rdW st nx tk fro (r + 1) w m (rwI b r tp st c) n tp) := by
  intro k
  induction k with
  | zero =>
    intro c h1
    refine Z_go kX3_readRow okX3 [60, 108] 80 ?_
    refine ⟨fun _ => ?_, fun (h : ¬ nI w ≤ nI c) => ?_⟩
    · have : c = w := by omega
      rw [this]; exact hQ
    · exact absurd (nI_le (by omega) (by omega)) h
  | succ k ih =>
    intro c h1
    have e : nI (r + 1) - nI 1 = nI r := nI_pred r
    have e2 : nI st + nI c = nI (st + c) := nI_add _ _
    refine Z_go kX3_readRow okX3 [60, 108] 80 ?_
    refine ⟨fun (h : nI w ≤ nI c) => ?_, fun _ => ?_⟩
    · rw [nI_leI (by omega) (by omega)] at h; omega
    · refine ⟨by rw [e2]; exact vp_in_nI (by omega) (by omega), ?_⟩
      rw [e2, nI_clamp (by omega)]
      have hp := c_put (g := g) (R := r + 1) (W := w) (m := m) (b := rwI b r tp st c) (r := r) (c := c) (tp (st + c) - nI 97) hr (by omega)
      rw [← e] at hp
      refine ⟨rfl, hp.fr [1, 2] rfl (by decide) rfl ?_⟩
      have k2 := ih (c + 1) (by omega)
      rw [nI_a1 c] at k2
      exact k2
/-- the letters of the names row and fro: nmC (12j) -/
def isNm (tp : Nat → Int32) (i st nx : Nat) : Bool := decide (nx - st = 3) && al (fun k => decide (tp (st + k) = nmC i k)) 0 3
theorem isName_loop {i : Nat} {Q : Option AV → AH → Prop} (hi : i < 2) (hn : n ≤ 300) (hnx : nx ≤ n) (h3 : st + 3 = nx) : ∀ (k c : Nat), c + k = 3 → Q (some (vi (nI (fl (al (fun k => decide (tp (st + k) = nmC i k)) c k))))) (rdW st nx tk fro R W m b n tp) →
    Z g mX3_isName 5 Q 20 [some (vr 0), some (vr 3), some (vr (1000 + i)), some (vi (nI c))] [] (rdW st nx tk fro R W m b n tp) := by
  intro k
  induction k with
  | zero =>
    intro c h1 hQ
    refine Z_go kX3_isName okX3 [22] 80 ?_
    refine Z_callT (me := mJ0_length) (idx := 98) (n := 0) (vs := []) (rest := [vi (nI c)]) (by decide +kernel) lkRX3_98 omJ0_length (by decide) hi rfl rfl (Nat.le_of_ble_eq_true rfl) ?_
    refine c_length hi ?_
    refine Z_go kX3_isName okX3 [20] 80 ?_
    refine ⟨fun _ => ⟨Or.inr rfl, hQ⟩, fun (h : ¬ nI 3 ≤ nI c) => absurd (nI_le (by omega) (by omega)) h⟩
  | succ k ih =>
    intro c h1 hQ
    have e2 : nI st + nI c = nI (st + c) := nI_add _ _
    refine Z_go kX3_isName okX3 [22] 80 ?_
    refine Z_callT (me := mJ0_length) (idx := 98) (n := 0) (vs := []) (rest := [vi (nI c)]) (by decide +kernel) lkRX3_98 omJ0_length (by decide) hi rfl rfl (Nat.le_of_ble_eq_true rfl) ?_
    refine c_length hi ?_
    refine Z_go kX3_isName okX3 [20, 41] 80 ?_
    refine ⟨fun (h : nI 3 ≤ nI c) => ?_, fun _ => ?_⟩
    · rw [nI_leI (by omega) (by omega)] at h; omega
    · refine ⟨by rw [e2]; exact vp_in_nI (by omega) (by omega), ?_⟩
      rw [e2, nI_clamp (by omega)]
      refine Z_callT (me := mJ0_charAt) (idx := 102) (n := 1) (vs := [vi (nI c)]) (rest := [vi (tp (st + c))]) (by decide +kernel) lkRX3_102 omJ0_charAt (by decide) hi rfl rfl (Nat.le_of_ble_eq_true rfl) ?_
      refine c_charAt hi (by omega) ?_
      refine Z_go kX3_isName okX3 [20] 80 ?_
      refine ⟨fun (h : tp (st + c) = nmC i c) => ?_, fun (h : ¬ tp (st + c) = nmC i c) => ⟨Or.inl rfl, ?_⟩⟩
      · have k2 := ih (c + 1) (by omega) (by simpa [al, h] using hQ)
        rw [nI_a1 c] at k2
        exact k2
      · simpa [al, h, fl] using hQ
theorem c_isName {i : Nat} (hi : i < 2) (hn : n ≤ 300) (hnx : nx ≤ n) (hst : st ≤ nx) : Dt g mX3_isName [vr 0, vr 3, vr (1000 + i)] (rdW st nx tk fro R W m b n tp) (some (vi (nI (fl (isNm tp i st nx))))) (rdW st nx tk fro R W m b n tp) := by
  have e : nI nx - nI st = nI (nx - st) := pk_sub hst
  refine Ev_of omX3_isName.1 (Nat.le_of_ble_eq_true rfl) ?_
  refine Z_go kX3_isName okX3 [10] 80 ?_
  refine Z_callT (me := mJ0_length) (idx := 98) (n := 0) (vs := []) (rest := [vi (nI nx - nI st)]) (by decide +kernel) lkRX3_98 omJ0_length (by decide) hi rfl rfl (Nat.le_of_ble_eq_true rfl) ?_
  refine c_length hi ?_
  refine Z_go kX3_isName okX3 [20] 80 ?_
  refine ⟨fun (h : nI nx - nI st = nI 3) => ?_, fun (h : ¬ nI nx - nI st = nI 3) => ?_⟩
  · rw [e, nI_eq (by omega) (by omega)] at h
    refine isName_loop hi hn hnx (by omega) 3 0 rfl ⟨?_, rfl⟩
    unfold isNm
    rw [decide_eq_true h]
    rfl
  · rw [e, nI_eq (by omega) (by omega)] at h
    refine ⟨Or.inl rfl, ?_, rfl⟩
    unfold isNm
    rw [decide_eq_false h]
    rfl
def rowD (D : Nat → Nat → Int32) (R : Nat) (tp : Nat → Int32) (st : Nat) : Nat → Nat → Int32 := fun q c => if q = R then tp (st + c) - nI 97 else D q c
/-- where a token began, where the next may, the picture told so far: rows, beads, whether to and fro, beads from the left -/
abbrev RX : Type := Nat × Nat × Nat × Nat × Bool × (Nat → Nat → Int32)
/-- a row, behind its name -/
def rwS (tp : Nat → Int32) (n st nx R W : Nat) (fro : Bool) (D : Nat → Nat → Int32) : Nat × RX :=
  if 12 ≤ R then (4, st, nx, R, W, fro, D)
  else if ¬ (tok tp n nx).2.2 = 1 then (unf (tok tp n nx).2.2, (tok tp n nx).1, (tok tp n nx).2.1, R, W, fro, D)
  else if isBd tp R W (tok tp n nx).1 (tok tp n nx).2.1 = false then (3, (tok tp n nx).1, (tok tp n nx).2.1, R, W, fro, D)
  else (sgF (tok tp n (tok tp n nx).2.1).2.2, (tok tp n (tok tp n nx).2.1).1, (tok tp n (tok tp n nx).2.1).2.1, R + 1, (tok tp n nx).2.1 - (tok tp n nx).1, fro, rowD D R tp (tok tp n nx).1)
def frS (tp : Nat → Int32) (n st nx R W : Nat) (fro : Bool) (D : Nat → Nat → Int32) : Nat × RX :=
  if fro then (4, st, nx, R, W, fro, D) else (sgF (tok tp n nx).2.2, (tok tp n nx).1, (tok tp n nx).2.1, R, W, true, D)
/-- a line, whose first token is there -/
def lnS (tp : Nat → Int32) (n st nx tk R W : Nat) (fro : Bool) (D : Nat → Nat → Int32) : Nat × RX :=
  if ¬ tk = 1 then (unf tk, st, nx, R, W, fro, D)
  else if isNm tp 0 st nx then rwS tp n st nx R W fro D
  else if isNm tp 1 st nx then frS tp n st nx R W fro D
  else (2, st, nx, R, W, fro, D)
def rdX (x : RX) (tk : Nat) (b : Nat → Int32) (n : Nat) (tp : Nat → Int32) : AH := rdW x.1 x.2.1 tk x.2.2.2.2.1 x.2.2.1 x.2.2.2.1 (fl x.2.2.2.2.1) b n tp
def okX (x : RX) (b : Nat → Int32) (n : Nat) : Prop := Hd b x.2.2.2.2.2 x.2.2.1 x.2.2.2.1 ∧ x.2.2.1 ≤ 12 ∧ x.2.2.2.1 ≤ 16 ∧ x.2.1 ≤ n ∧ (x.2.2.1 = 0 → x.2.2.2.1 = 0) ∧ (x.2.2.1 ≠ 0 → 1 ≤ x.2.2.2.1)
theorem c_readRow (hb : Hd b D R W) (hR : R ≤ 12) (hW : W ≤ 16) (hRW : R = 0 → W = 0) (hRW1 : R ≠ 0 → 1 ≤ W) (hn : n ≤ 300) (hnx : nx ≤ n) : ∃ tk' b', Dt g mX3_readRow [vr 0, vr 3] (rdW st nx tk fro R W (fl fro) b n tp) (some (vi (nI (rwS tp n st nx R W fro D).1))) (rdX (rwS tp n st nx R W fro D).2 tk' b' n tp) ∧ okX (rwS tp n st nx R W fro D).2 b' n := by
  obtain ⟨t1, t2, t3, t4⟩ := tok_le (tp := tp) hnx
  have tl := tok_lt (tp := tp) hnx
  have ti := tok_in (tp := tp) (n := n) (nx := nx)
  unfold rwS
  by_cases h0 : 12 ≤ R
  · rw [if_pos h0]
    refine ⟨tk, b, ?_, hb, hR, hW, hnx, hRW, hRW1⟩
    refine Ev_of omX3_readRow.1 (Nat.le_of_ble_eq_true rfl) ?_
    refine Z_go kX3_readRow okX3 [60, 108] 80 ?_
    refine ⟨fun (h : nI R < nI 12) => ?_, fun _ => ⟨rfl, rfl⟩⟩
    rw [nI_ltI (by omega) (by omega)] at h; omega
  rw [if_neg h0]
  generalize htk : tok tp n nx = t at *
  obtain ⟨s2, x2, k2⟩ := t
  dsimp only at t1 t2 t3 t4 tl ti ⊢
  have hrt : Dt g mX3_readToken [vr 0, vr 3] (rdW st nx tk fro R W (fl fro) b n tp) none (rdW s2 x2 k2 fro R W (fl fro) b n tp) := by
    have := c_readToken (g := g) (st := st) (tk := tk) (fro := fro) (R := R) (W := W) (m := fl fro) (b := b) (tp := tp) hn hnx
    rw [htk] at this
    exact this
  by_cases h1 : ¬ k2 = 1
  · rw [if_pos h1]
    refine ⟨k2, b, ?_, hb, hR, hW, t3, hRW, hRW1⟩
    refine Ev_of omX3_readRow.1 (Nat.le_of_ble_eq_true rfl) ?_
    refine Z_go kX3_readRow okX3 [60, 108] 80 ?_
    refine ⟨fun _ => ?_, fun (h : ¬ nI R < nI 12) => absurd (nI_lt (by omega) (by omega)) h⟩
    refine ⟨rfl, hrt.use ?_⟩
    refine ⟨fun (h : nI k2 = nI 1) => ?_, fun _ => ⟨rfl, (c_unfit t4).use ⟨rfl, rfl⟩⟩⟩
    rw [nI_eq (by omega) (by omega)] at h
    exact absurd h h1
  rw [if_neg h1]
  have h1 := Classical.not_not.mp h1
  subst h1
  have hib : Dt g mX3_isBeads [vr 0, vr 3] (rdW s2 x2 1 fro R W (fl fro) b n tp) (some (vi (nI (fl (isBd tp R W s2 x2))))) (rdW s2 x2 1 fro R W (fl fro) b n tp) := c_isBeads hn t3 t2 hR hW (fun j a1 a2 => ti rfl j a1 a2)
  cases h2 : isBd tp R W s2 x2 with
  | false =>
    rw [if_pos rfl]
    refine ⟨1, b, ?_, hb, hR, hW, t3, hRW, hRW1⟩
    refine Ev_of omX3_readRow.1 (Nat.le_of_ble_eq_true rfl) ?_
    refine Z_go kX3_readRow okX3 [60, 108] 80 ?_
    refine ⟨fun _ => ?_, fun (h : ¬ nI R < nI 12) => absurd (nI_lt (by omega) (by omega)) h⟩
    refine ⟨rfl, hrt.use ?_⟩
    refine ⟨fun _ => ?_, fun z => absurd rfl z⟩
    refine ⟨rfl, hib.use ?_⟩
    rw [h2]
    exact ⟨fun z => absurd rfl z, fun _ => ⟨rfl, rfl⟩⟩
  | true =>
    rw [if_neg (by simp)]
    have h3 := h2
    unfold isBd at h3
    simp only [Bool.and_eq_true, Bool.or_eq_true, decide_eq_true_eq] at h3
    obtain ⟨⟨h3, h4⟩, h5⟩ := h3
    have tl := tl (by decide)
    obtain ⟨u1, u2, u3, u4⟩ := tok_le (tp := tp) t3
    refine ⟨(tok tp n x2).2.2, rwI b R tp s2 (x2 - s2), ?_, ?_, by show R + 1 ≤ 12; omega, h3, u3, fun h => absurd (show R + 1 = 0 from h) (by omega), fun _ => by show 1 ≤ x2 - s2; omega⟩
    · refine Ev_of omX3_readRow.1 (Nat.le_of_ble_eq_true rfl) ?_
      refine Z_go kX3_readRow okX3 [60, 108] 80 ?_
      refine ⟨fun _ => ?_, fun (h : ¬ nI R < nI 12) => absurd (nI_lt (by omega) (by omega)) h⟩
      refine ⟨rfl, hrt.use ?_⟩
      refine ⟨fun _ => ?_, fun z => absurd rfl z⟩
      refine ⟨rfl, hib.use ?_⟩
      rw [h2]
      refine ⟨fun _ => ?_, fun (z : ¬ ¬ nI 1 = 0) => absurd (by decide) z⟩
      have e : nI x2 - nI s2 = nI (x2 - s2) := pk_sub t2
      have hc := c_takeRow (g := g) (R := R) (W := W) (m := fl fro) (b := b) (w := x2 - s2)
      rw [← e] at hc
      refine ⟨rfl, hc.fr [1, 2] rfl (by decide) rfl ?_⟩
      refine readRow_loop hn (by omega) h3 (by omega) ?_ (x2 - s2) 0 (by omega)
      refine Z_go kX3_readRow okX3 [] 80 ?_
      refine ⟨rfl, (c_readSign hn t3).use ?_⟩
      exact ⟨rfl, rfl⟩
    · intro q c hq hc
      have hc : c < x2 - s2 := hc
      have hq : q < R + 1 := hq
      show rwI b R tp s2 (x2 - s2) (q * 16 + c) = rowD D R tp s2 q c
      rw [rwI_at _ h3 _ _ (by omega)]
      unfold rowD
      by_cases h : q = R
      · rw [if_pos ⟨h, hc⟩, if_pos h]
      · rw [if_neg (fun z => h z.1), if_neg h]
        have : W = x2 - s2 := by
          rcases h4 with h4 | h4
          · omega
          · exact h4.symm
        exact hb q c (by omega) (by omega)
theorem c_readFro (hb : Hd b D R W) (hR : R ≤ 12) (hW : W ≤ 16) (hRW : R = 0 → W = 0) (hRW1 : R ≠ 0 → 1 ≤ W) (hn : n ≤ 300) (hnx : nx ≤ n) : ∃ tk' b', Dt g mX3_readFro [vr 0, vr 3] (rdW st nx tk fro R W (fl fro) b n tp) (some (vi (nI (frS tp n st nx R W fro D).1))) (rdX (frS tp n st nx R W fro D).2 tk' b' n tp) ∧ okX (frS tp n st nx R W fro D).2 b' n := by
  obtain ⟨u1, u2, u3, u4⟩ := tok_le (tp := tp) hnx
  cases fro with
  | true =>
    refine ⟨tk, b, ?_, hb, hR, hW, hnx, hRW, hRW1⟩
    refine Ev_of omX3_readFro.1 (Nat.le_of_ble_eq_true rfl) ?_
    refine Z_go kX3_readFro okX3 [] 80 ?_
    exact ⟨fun (z : nI 1 = 0) => absurd z (by decide), fun _ => ⟨rfl, rfl⟩⟩
  | false =>
    refine ⟨(tok tp n nx).2.2, b, ?_, hb, hR, hW, u3, hRW, hRW1⟩
    refine Ev_of omX3_readFro.1 (Nat.le_of_ble_eq_true rfl) ?_
    refine Z_go kX3_readFro okX3 [] 80 ?_
    refine ⟨fun _ => ?_, fun z => absurd rfl z⟩
    refine ⟨Or.inr rfl, rfl, (c_readSign (g := g) (st := st) (tk := tk) (fro := true) (R := R) (W := W) (m := 1) (b := b) (tp := tp) hn hnx).use ?_⟩
    exact ⟨rfl, rfl⟩
theorem c_readLine (hb : Hd b D R W) (hR : R ≤ 12) (hW : W ≤ 16) (hRW : R = 0 → W = 0) (hRW1 : R ≠ 0 → 1 ≤ W) (hn : n ≤ 300) (hnx : nx ≤ n) (hst : st ≤ nx) (htk : tk ≤ 3) : ∃ tk' b', Dt g mX3_readLine [vr 0, vr 3] (rdW st nx tk fro R W (fl fro) b n tp) (some (vi (nI (lnS tp n st nx tk R W fro D).1))) (rdX (lnS tp n st nx tk R W fro D).2 tk' b' n tp) ∧ okX (lnS tp n st nx tk R W fro D).2 b' n := by
  unfold lnS
  by_cases h1 : ¬ tk = 1
  · rw [if_pos h1]
    refine ⟨tk, b, ?_, hb, hR, hW, hnx, hRW, hRW1⟩
    refine Ev_of omX3_readLine.1 (Nat.le_of_ble_eq_true rfl) ?_
    refine Z_go kX3_readLine okX3 [] 80 ?_
    refine ⟨fun (h : nI tk = nI 1) => ?_, fun _ => ⟨rfl, (c_unfit htk).use ⟨rfl, rfl⟩⟩⟩
    rw [nI_eq (by omega) (by omega)] at h
    exact absurd h h1
  rw [if_neg h1]
  have h1 := Classical.not_not.mp h1
  subst h1
  cases h2 : isNm tp 0 st nx with
  | true =>
    rw [if_pos rfl]
    obtain ⟨tk', b', hd, ho⟩ := c_readRow (g := g) (tp := tp) (st := st) (tk := 1) (fro := fro) hb hR hW hRW hRW1 hn hnx
    refine ⟨tk', b', ?_, ho⟩
    refine Ev_of omX3_readLine.1 (Nat.le_of_ble_eq_true rfl) ?_
    refine Z_go kX3_readLine okX3 [] 80 ?_
    refine ⟨fun _ => ?_, fun z => absurd rfl z⟩
    refine ⟨rfl, (c_isName (i := 0) (by omega) hn hnx hst).use ?_⟩
    rw [h2]
    refine ⟨fun (z : nI 1 = 0) => absurd z (by decide), fun _ => ?_⟩
    exact ⟨rfl, hd.use ⟨rfl, rfl⟩⟩
  | false =>
    rw [if_neg (by simp)]
    cases h3 : isNm tp 1 st nx with
    | true =>
      rw [if_pos rfl]
      obtain ⟨tk', b', hd, ho⟩ := c_readFro (g := g) (tp := tp) (st := st) (tk := 1) (fro := fro) hb hR hW hRW hRW1 hn hnx
      refine ⟨tk', b', ?_, ho⟩
      refine Ev_of omX3_readLine.1 (Nat.le_of_ble_eq_true rfl) ?_
      refine Z_go kX3_readLine okX3 [] 80 ?_
      refine ⟨fun _ => ?_, fun z => absurd rfl z⟩
      refine ⟨rfl, (c_isName (i := 0) (by omega) hn hnx hst).use ?_⟩
      rw [h2]
      refine ⟨fun _ => ?_, fun z => absurd rfl z⟩
      refine ⟨rfl, (c_isName (i := 1) (by omega) hn hnx hst).use ?_⟩
      rw [h3]
      refine ⟨fun (z : nI 1 = 0) => absurd z (by decide), fun _ => ?_⟩
      exact ⟨rfl, hd.use ⟨rfl, rfl⟩⟩
    | false =>
      rw [if_neg (by simp)]
      refine ⟨1, b, ?_, hb, hR, hW, hnx, hRW, hRW1⟩
      refine Ev_of omX3_readLine.1 (Nat.le_of_ble_eq_true rfl) ?_
      refine Z_go kX3_readLine okX3 [] 80 ?_
      refine ⟨fun _ => ?_, fun z => absurd rfl z⟩
      refine ⟨rfl, (c_isName (i := 0) (by omega) hn hnx hst).use ?_⟩
      rw [h2]
      refine ⟨fun _ => ?_, fun z => absurd rfl z⟩
      refine ⟨rfl, (c_isName (i := 1) (by omega) hn hnx hst).use ?_⟩
      rw [h3]
      exact ⟨fun _ => ⟨rfl, rfl⟩, fun z => absurd rfl z⟩
/-- a text, k lines of it at most: its fault, where, what it tells -/
def prs (tp : Nat → Int32) (n : Nat) : Nat → RX → Nat × RX
  | 0, x => (0, x)
  | k + 1, x => if (tok tp n x.2.1).2.2 = 3 then (0, (tok tp n x.2.1).1, (tok tp n x.2.1).2.1, x.2.2) else
      if (lnS tp n (tok tp n x.2.1).1 (tok tp n x.2.1).2.1 (tok tp n x.2.1).2.2 x.2.2.1 x.2.2.2.1 x.2.2.2.2.1 x.2.2.2.2.2).1 = 0 then prs tp n k (lnS tp n (tok tp n x.2.1).1 (tok tp n x.2.1).2.1 (tok tp n x.2.1).2.2 x.2.2.1 x.2.2.2.1 x.2.2.2.2.1 x.2.2.2.2.2).2
      else lnS tp n (tok tp n x.2.1).1 (tok tp n x.2.1).2.1 (tok tp n x.2.1).2.2 x.2.2.1 x.2.2.2.1 x.2.2.2.2.1 x.2.2.2.2.2
theorem sgF_le {k : Nat} : sgF k ≤ 4 := by unfold sgF unf; split <;> (try split) <;> omega
theorem unf_le {k : Nat} : unf k ≤ 4 ∧ unf k ≠ 0 := by unfold unf; split <;> omega
theorem lnS_le {st nx tk : Nat} (hnx : nx ≤ n) : (lnS tp n st nx tk R W fro D).1 ≤ 4 ∧ nx ≤ (lnS tp n st nx tk R W fro D).2.2.1 := by
  obtain ⟨t1, t2, t3, t4⟩ := tok_le (tp := tp) hnx
  obtain ⟨u1, u2, u3, u4⟩ := tok_le (tp := tp) t3
  unfold lnS rwS frS
  split
  · exact ⟨unf_le.1, Nat.le_refl _⟩
  · split
    · split
      · exact ⟨Nat.le_refl _, Nat.le_refl _⟩
      · split
        · exact ⟨unf_le.1, by show nx ≤ (tok tp n nx).2.1; omega⟩
        · split
          · exact ⟨by show 3 ≤ 4; omega, by show nx ≤ (tok tp n nx).2.1; omega⟩
          · exact ⟨sgF_le, by show nx ≤ (tok tp n (tok tp n nx).2.1).2.1; omega⟩
    · split
      · split
        · exact ⟨Nat.le_refl _, Nat.le_refl _⟩
        · exact ⟨sgF_le, by show nx ≤ (tok tp n nx).2.1; omega⟩
      · exact ⟨by show 2 ≤ 4; omega, Nat.le_refl _⟩
theorem readAll_loop {Q : Option AV → AH → Prop} (hn : n ≤ 300) : ∀ (k : Nat) (x : RX) (tk : Nat) (b : Nat → Int32), okX x b n → 301 ≤ x.2.1 + k → k ≤ 301 →
    (∀ tk' b', okX (prs tp n k x).2 b' n → Q (some (vi (nI (prs tp n k x).1))) (rdX (prs tp n k x).2 tk' b' n tp)) →
    Z g mX3_readAll 5 Q 21 [some (vr 0), some (vr 3), some (vi (nI 0)), some (vi (nI (301 - k)))] [] (rdX x tk b n tp) := by
  intro k
  induction k with
  | zero =>
    intro x tk b hx h1 _ hQ
    have := hx.2.2.2.1
    omega
  | succ k ih =>
    intro x tk b hx h1 hk hQ
    obtain ⟨st, nx, R, W, fro, D⟩ := x
    obtain ⟨hb, hR, hW, hnx, hRW, hRW1⟩ := hx
    dsimp only at hb hR hW hnx hRW hRW1 h1
    obtain ⟨t1, t2, t3, t4⟩ := tok_le (tp := tp) hnx
    have tl := tok_lt (tp := tp) hnx
    refine Z_go kX3_readAll okX3 [21] 80 ?_
    refine ⟨fun (h : nI 300 < nI (301 - (k + 1))) => ?_, fun _ => ⟨fun z => absurd rfl z, fun _ => ?_⟩⟩
    · rw [nI_ltI (by omega) (by omega)] at h; omega
    · refine ⟨rfl, (c_readToken hn hnx).use ?_⟩
      simp only [prs] at hQ
      refine ⟨fun (h : ¬ nI (tok tp n nx).2.2 = nI 3) => ?_, fun (h : ¬ ¬ nI (tok tp n nx).2.2 = nI 3) => ?_⟩
      · rw [nI_eq (by omega) (by omega)] at h
        rw [if_neg h] at hQ
        have tl := tl h
        have hle := lnS_le (tp := tp) (R := R) (W := W) (D := D) (fro := fro) (st := (tok tp n nx).1) (tk := (tok tp n nx).2.2) t3
        obtain ⟨tk', b', hd, ho⟩ := c_readLine (g := g) (tp := tp) (st := (tok tp n nx).1) (nx := (tok tp n nx).2.1) (tk := (tok tp n nx).2.2) (fro := fro) hb hR hW hRW hRW1 hn t3 t2 t4
        refine ⟨rfl, hd.use ?_⟩
        by_cases h0 : (lnS tp n (tok tp n nx).1 (tok tp n nx).2.1 (tok tp n nx).2.2 R W fro D).1 = 0
        · rw [if_pos h0] at hQ
          rw [h0]
          have k2 := ih (lnS tp n (tok tp n nx).1 (tok tp n nx).2.1 (tok tp n nx).2.2 R W fro D).2 tk' b' ho (by omega) (by omega) hQ
          have e : nI (301 - k) = nI (301 - (k + 1)) + nI 1 := by rw [nI_add, show 301 - (k + 1) + 1 = 301 - k by omega]
          rw [e] at k2
          exact k2
        · rw [if_neg h0] at hQ
          refine Z_go kX3_readAll okX3 [] 80 ?_
          refine ⟨fun _ => hQ tk' b' ho, fun _ => ⟨fun _ => hQ tk' b' ho, fun (z : ¬ ¬ nI _ = nI 0) => ?_⟩⟩
          rw [nI_eq (by omega) (by omega)] at z
          exact absurd h0 z
      · rw [nI_eq (by omega) (by omega)] at h
        rw [if_pos (Classical.not_not.mp h)] at hQ
        exact hQ _ b ⟨hb, hR, hW, t3, hRW, hRW1⟩
/-- what a whole text tells -/
def txt (tp : Nat → Int32) (n : Nat) : Nat × RX := prs tp n 301 (0, 0, 0, 0, false, fun _ _ => 0)
theorem prs_st : ∀ (k : Nat) (x : RX) (st : Nat), 1 ≤ k → prs tp n k (st, x.2) = prs tp n k x := by
  intro k x st h
  cases k with
  | zero => omega
  | succ k => rfl
theorem c_readAll (hn : n ≤ 300) {mm : Nat} : Ev g mX3_readAll [vr 0, vr 3] (rdW st nx tk fro R W mm b n tp) (fun r B => ∃ tk' b', r = some (vi (nI (txt tp n).1)) ∧ B = rdX (txt tp n).2 tk' b' n tp ∧ okX (txt tp n).2 b' n) := by
  refine Ev_of omX3_readAll.1 (Nat.le_of_ble_eq_true rfl) ?_
  refine Z_go kX3_readAll okX3 [21] 80 ?_
  refine ⟨rfl, (c_clear (R := R) (W := W) (m := mm) (b := b)).fr [1, 2] rfl (by decide) rfl ?_⟩
  refine ⟨Or.inl rfl, ?_⟩
  have k := readAll_loop (g := g) (tp := tp) (n := n) (Q := fun r B => ∃ tk' b', r = some (vi (nI (txt tp n).1)) ∧ B = rdX (txt tp n).2 tk' b' n tp ∧ okX (txt tp n).2 b' n) hn 301 (st, 0, 0, 0, false, fun _ _ => 0) tk b ⟨fun r c (h : r < 0) _ => absurd h (by omega), by show 0 ≤ 12; omega, by show 0 ≤ 16; omega, by show 0 ≤ n; omega, fun _ => rfl, fun h => absurd rfl h⟩ (by show 301 ≤ 0 + 301; omega) (Nat.le_refl _) (fun tk' b' ho => by
    have e := prs_st (tp := tp) (n := n) 301 (0, 0, 0, 0, false, fun _ _ => 0) st (by omega)
    dsimp only at e
    rw [e] at ho ⊢
    exact ⟨tk', b', rfl, rfl, ho⟩)
  exact k
end RDR
