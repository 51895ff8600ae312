section PIC
variable {g : GG} {R W m : Nat} {b : Nat → Int32} {D : Nat → Nat → Int32}
def agL (l : Nat → Int32) (p i : Nat) : Bool := decide (l i = l (i - p))
theorem comesAgain_loop {r p : Nat} {Q : Option AV → AH → Prop} (hb : Hd b D R W) (hR : R ≤ 12) (hW : W ≤ 16) (hm : m ≤ 1) (hr : r < R) : ∀ (n c : Nat), c + n = W → p ≤ c → Q (some (vi (nI (fl (al (agL (lnD D W m r) p) c n))))) (pW R W m b) →
    Z g mX2_comesAgain 2 Q 2 [some (vr 0), some (vi (nI r)), some (vi (nI p)), some (vi (nI c))] [] (pW R W m b) := by
  intro n
  induction n with
  | zero =>
    intro c h1 h2 hQ
    refine Z_go kX2_comesAgain okX2 [2] 80 ?_
    refine ⟨fun (h : nI W ≤ nI c) => ⟨Or.inr rfl, hQ⟩, fun (h : ¬ nI W ≤ nI c) => ?_⟩
    exact absurd (nI_le (by omega) (by omega)) h
  | succ n ih =>
    intro c h1 h2 hQ
    refine Z_go kX2_comesAgain okX2 [2] 80 ?_
    refine ⟨fun (h : nI W ≤ nI c) => ?_, fun (h : ¬ nI W ≤ nI c) => ?_⟩
    · rw [nI_leI (by omega) (by omega)] at h; omega
    · refine ⟨rfl, (c_readAt hb hR hW hr (by omega) hm).use ?_⟩
      have hc := c_readAt (g := g) (i := c - p) hb hR hW hr (by omega) hm
      rw [← pk_sub (by omega)] at hc
      refine ⟨rfl, hc.use ?_⟩
      refine ⟨fun (h3 : lnD D W m r c = lnD D W m r (c - p)) => ?_, fun (h3 : ¬ lnD D W m r c = lnD D W m r (c - p)) => ⟨Or.inl rfl, ?_⟩⟩
      · have k := ih (c + 1) (by omega) (by omega) (by simpa [al, agL, h3] using hQ)
        rw [nI_a1 c] at k
        exact k
      · simpa [al, agL, h3, fl] using hQ
theorem c_comesAgain {r p : Nat} (hb : Hd b D R W) (hR : R ≤ 12) (hW : W ≤ 16) (hm : m ≤ 1) (hr : r < R) (hp : p ≤ W) : Dt g mX2_comesAgain [vr 0, vi (nI r), vi (nI p)] (pW R W m b) (some (vi (nI (fl (al (agL (lnD D W m r) p) p (W - p)))))) (pW R W m b) := by
  refine Ev_of omX2_comesAgain.1 (Nat.le_of_ble_eq_true rfl) ?_
  refine Z_go kX2_comesAgain okX2 [2] 80 ?_
  exact comesAgain_loop hb hR hW hm hr (W - p) p (by omega) (by omega) ⟨rfl, rfl⟩
def ptp (l : Nat → Int32) (W p : Nat) : Bool := decide (W % p = 0) && al (agL l p) p (W - p)
/-- the shortest part -/
def partL (l : Nat → Int32) (W : Nat) : Nat := (fs1 (ptp l W) 1 (W - 1)).getD W
theorem partOf_loop {r : Nat} {Q : Option AV → AH → Prop} (hb : Hd b D R W) (hR : R ≤ 12) (hW : W ≤ 16) (hm : m ≤ 1) (hr : r < R) : ∀ (n c : Nat), c + n = W → 1 ≤ c → Q (some (vi (nI ((fs1 (ptp (lnD D W m r) W) c n).getD W)))) (pW R W m b) →
    Z g mX2_partOf 2 Q 2 [some (vr 0), some (vi (nI r)), some (vi (nI c))] [] (pW R W m b) := by
  intro n
  induction n with
  | zero =>
    intro c h1 h2 hQ
    refine Z_go kX2_partOf okX2 [2] 80 ?_
    refine ⟨fun (h : nI W ≤ nI c) => hQ, fun (h : ¬ nI W ≤ nI c) => ?_⟩
    exact absurd (nI_le (by omega) (by omega)) h
  | succ n ih =>
    intro c h1 h2 hQ
    refine Z_go kX2_partOf okX2 [2] 80 ?_
    refine ⟨fun (h : nI W ≤ nI c) => ?_, fun (h : ¬ nI W ≤ nI c) => ?_⟩
    · rw [nI_leI (by omega) (by omega)] at h; omega
    · have e : nI W - nI W / nI c * nI c = nI (W % c) := pk_rem (by omega) (by omega) (by omega)
      have hlt : W % c < c := Nat.mod_lt _ (by omega)
      refine ⟨nI_ne0 (by omega) (by omega), fun (h3 : ¬ nI W - nI W / nI c * nI c = nI 0) => ?_, fun (h3 : ¬ ¬ nI W - nI W / nI c * nI c = nI 0) => ?_⟩
      · rw [e, nI_eq (by omega) (by omega)] at h3
        have k := ih (c + 1) (by omega) (by omega) (by simpa [fs1, ptp, h3] using hQ)
        rw [nI_a1 c] at k
        exact k
      · rw [e, nI_eq (by omega) (by omega)] at h3
        have h3 := Classical.not_not.mp h3
        refine ⟨rfl, (c_comesAgain hb hR hW hm hr (by omega)).use ?_⟩
        cases h4 : al (agL (lnD D W m r) c) c (W - c) with
        | false =>
          refine ⟨fun _ => ?_, fun h => absurd rfl h⟩
          have k := ih (c + 1) (by omega) (by omega) (by simpa [fs1, ptp, h3, h4] using hQ)
          rw [nI_a1 c] at k
          exact k
        | true =>
          refine ⟨fun h => absurd (show nI 1 = 0 from h) (by decide), fun _ => ?_⟩
          show Q (some (vi (nI c))) (pW R W m b)
          simpa [fs1, ptp, h3, h4] using hQ
theorem c_partOf {r : Nat} (hb : Hd b D R W) (hR : R ≤ 12) (hW : W ≤ 16) (hm : m ≤ 1) (hr : r < R) (hW1 : 1 ≤ W) : Dt g mX2_partOf [vr 0, vi (nI r)] (pW R W m b) (some (vi (nI (partL (lnD D W m r) W)))) (pW R W m b) := by
  refine Ev_of omX2_partOf.1 (Nat.le_of_ble_eq_true rfl) ?_
  refine Z_go kX2_partOf okX2 [2] 80 ?_
  exact partOf_loop hb hR hW hm hr (W - 1) 1 (by omega) (by omega) ⟨rfl, rfl⟩
theorem c_rowOfPlan {j : Nat} (hW : W ≤ 16) (hW1 : 1 ≤ W) (hj : j < 2 ^ 31) : Dt g mX2_rowOfPlan [vr 0, vi (nI j)] (pW R W m b) (some (vi (nI (j / W)))) (pW R W m b) := by
  refine Ev_of omX2_rowOfPlan.1 (Nat.le_of_ble_eq_true rfl) ?_
  refine Z_go kX2_rowOfPlan okX2 [] 80 ?_
  refine ⟨fun _ => ⟨nI_ne0 (by omega) (by omega), ?_, rfl⟩, fun (h : ¬ ¬ nI W = 0) => absurd (nI_ne0 (by omega) (by omega)) h⟩
  rw [pk_div hj (by omega) (by omega)]
theorem c_placeOfPlan {j : Nat} (hW : W ≤ 16) (hW1 : 1 ≤ W) (hj : j < 2 ^ 31) : Dt g mX2_placeOfPlan [vr 0, vi (nI j)] (pW R W m b) (some (vi (nI (j % W)))) (pW R W m b) := by
  refine Ev_of omX2_placeOfPlan.1 (Nat.le_of_ble_eq_true rfl) ?_
  refine Z_go kX2_placeOfPlan okX2 [] 80 ?_
  refine ⟨fun _ => ⟨nI_ne0 (by omega) (by omega), ?_, rfl⟩, fun (h : ¬ ¬ nI W = 0) => absurd (nI_ne0 (by omega) (by omega)) h⟩
  rw [pk_rem hj (by omega) (by omega)]
theorem RW_le {R W : Nat} (hR : R ≤ 12) (hW : W ≤ 16) : R * W ≤ 192 := Nat.le_trans (Nat.mul_le_mul hR hW) (by decide)
theorem dm_lt {R W j : Nat} (hj : j < R * W) : 1 ≤ W ∧ j / W < R ∧ j % W < W := by
  have hW : 0 < W := by
    rcases Nat.eq_zero_or_pos W with h | h
    · subst h; simp at hj
    · exact h
  exact ⟨hW, Nat.div_lt_of_lt_mul (by rw [Nat.mul_comm]; exact hj), Nat.mod_lt _ hW⟩
/-- PLAN j -/
def planL (L : Nat → Nat → Int32) (W j : Nat) : Int32 := L (j / W) (j % W)
theorem c_planAt {j : Nat} (hb : Hd b D R W) (hR : R ≤ 12) (hW : W ≤ 16) (hm : m ≤ 1) (hj : j < R * W) : Dt g mX2_planAt [vr 0, vi (nI j)] (pW R W m b) (some (vi (planL (lnD D W m) W j))) (pW R W m b) := by
  have hRW := RW_le hR hW
  obtain ⟨h1, h2, h3⟩ := dm_lt hj
  refine Ev_of omX2_planAt.1 (Nat.le_of_ble_eq_true rfl) ?_
  refine Z_go kX2_planAt okX2 [] 80 ?_
  refine ⟨fun (h : nI j < 0) => absurd h (nI_pos (by omega)), fun _ => ⟨rfl, (c_size hR hW).use ?_⟩⟩
  refine ⟨fun _ => ?_, fun (h : ¬ nI j < nI (R * W)) => absurd (nI_lt hj (by omega)) h⟩
  refine ⟨rfl, (c_rowOfPlan hW h1 (by omega)).use ?_⟩
  refine ⟨rfl, (c_placeOfPlan hW h1 (by omega)).use ?_⟩
  refine ⟨rfl, (c_readAt hb hR hW h2 h3 hm).use ?_⟩
  exact ⟨rfl, rfl⟩
theorem c_planAt_out {i : Int32} (hR : R ≤ 12) (hW : W ≤ 16) (hi : i < 0 ∨ nI (R * W) ≤ i) : Dt g mX2_planAt [vr 0, vi i] (pW R W m b) (some (vi (-nI 4))) (pW R W m b) := by
  have hRW := RW_le hR hW
  refine Ev_of omX2_planAt.1 (Nat.le_of_ble_eq_true rfl) ?_
  refine Z_go kX2_planAt okX2 [] 80 ?_
  refine ⟨fun (h : i < 0) => ⟨rfl, rfl⟩, fun (h0 : ¬ i < 0) => ⟨rfl, (c_size hR hW).use ?_⟩⟩
  refine ⟨fun (h : i < nI (R * W)) => ?_, fun _ => ⟨rfl, rfl⟩⟩
  rcases hi with hi | hi
  · exact absurd hi h0
  · exact absurd h (Int32.not_lt.mpr hi)
/-! the picture is written -/
theorem c_colourB {r c : Nat} (hr : r < 12) (hc : c < 16) : Dt g mX2_colourAt [vr 0, vi (nI r), vi (nI c)] (pW R W m b) (some (vi (b (r * 16 + c)))) (pW R W m b) := by
  refine Ev_of omX2_colourAt.1 (Nat.le_of_ble_eq_true rfl) ?_
  refine Z_go kX2_colourAt okX2 [] 80 ?_
  have e : nI r * nI 16 + nI c = nI (r * 16 + c) := by rw [pk_mul, nI_add]
  refine ⟨by rw [e]; exact vp_in_nI (by omega) (by omega), ?_, rfl⟩
  rw [e, nI_clamp (by omega)]
theorem c_clear : Dt g mX2_clear [vr 0] (pW R W m b) none (pW 0 0 0 b) := by
  refine Ev_of omX2_clear.1 (Nat.le_of_ble_eq_true rfl) ?_
  refine Z_go kX2_clear okX2 [] 80 ?_
  exact ⟨rfl, rfl⟩
theorem c_takeRow {w : Nat} : Dt g mX2_takeRow [vr 0, vi (nI w)] (pW R W m b) none (pW (R + 1) w m b) := by
  refine Ev_of omX2_takeRow.1 (Nat.le_of_ble_eq_true rfl) ?_
  refine Z_go kX2_takeRow okX2 [] 80 ?_
  refine ⟨rfl, ?_⟩
  unfold pW
  rw [nI_a1 R]
  rfl
theorem c_copyRow {f t : Nat} (hf : f < 12) (ht : t < 12) : Dt g mX2_copyRow [vr 0, vi (nI f), vi (nI t)] (pW R W m b) none (pW R W m (va_cpy b b (f * 16) (t * 16) 16)) := by
  refine Ev_of omX2_copyRow.1 (Nat.le_of_ble_eq_true rfl) ?_
  refine Z_go kX2_copyRow okX2 [] 80 ?_
  have e1 : nI f * nI 16 = nI (f * 16) := pk_mul f 16
  have e2 : nI t * nI 16 = nI (t * 16) := pk_mul t 16
  refine ⟨by rw [e1]; exact nI_pos (by omega), by rw [e2]; exact nI_pos (by omega), by decide, ?_, ?_, rfl, ?_⟩
  · rw [e1, nI_clamp (by omega), nI_clamp (by omega)]; omega
  · rw [e2, nI_clamp (by omega), nI_clamp (by omega)]; omega
  · rw [e1, e2, nI_clamp (by omega), nI_clamp (by omega), nI_clamp (by omega)]; rfl
/-- two pictures -/
theorem c_become {R' W' m' : Nat} {b' : Nat → Int32} : Dt g mX2_become [vr 0, vr 2] (pW R W m b ++ [ob 2 [vr 3, vi (nI R'), vi (nI W'), vi (nI m')], ar 0 192 b']) none (pW R' W' m' (va_cpy b' b 0 0 192) ++ [ob 2 [vr 3, vi (nI R'), vi (nI W'), vi (nI m')], ar 0 192 b']) := by
  refine Ev_of omX2_become.1 (Nat.le_of_ble_eq_true rfl) ?_
  refine Z_go kX2_become okX2 [] 80 ?_
  refine ⟨by decide, by decide, by decide, by decide, by decide, rfl, ?_⟩
  rfl
theorem updS {f : Nat → Int32} {k : Nat} {x : Int32} : upd f k x k = x := by simp [upd]
theorem updN {f : Nat → Int32} {k j : Nat} {x : Int32} (h : j ≠ k) : upd f k x j = f j := by simp [upd, h]
/-- a row turned round, k steps of it -/
def tnI (b : Nat → Int32) (r W : Nat) : Nat → Nat → Int32
  | 0 => b
  | k + 1 => upd (upd (tnI b r W k) (r * 16 + k) (tnI b r W k (r * 16 + (W - 1 - k)))) (r * 16 + (W - 1 - k)) (tnI b r W k (r * 16 + k))
theorem tnI_at {r : Nat} (hW : W ≤ 16) : ∀ k, k ≤ W / 2 → ∀ s c, c < W → tnI b r W k (s * 16 + c) = if s = r ∧ (c < k ∨ W - 1 - c < k) then b (r * 16 + (W - 1 - c)) else b (s * 16 + c) := by
  intro k
  induction k with
  | zero => intro _ s c hc; simp [tnI]
  | succ k ih =>
    intro hk s c hc
    simp only [tnI]
    have e1 := ih (by omega) r k (by omega)
    have e2 := ih (by omega) r (W - 1 - k) (by omega)
    have e3 := ih (by omega) s c hc
    rw [if_neg (by omega)] at e1 e2
    by_cases h1 : s * 16 + c = r * 16 + (W - 1 - k)
    · have h2 : s = r := by omega
      have h3 : c = W - 1 - k := by omega
      rw [h1, updS, e1, if_pos (by omega)]
      congr 2; omega
    · rw [updN h1]
      by_cases h4 : s * 16 + c = r * 16 + k
      · have h2 : s = r := by omega
        have h3 : c = k := by omega
        rw [h4, updS, e2, if_pos (by omega), h3]
      · rw [updN h4, e3]
        by_cases h5 : s = r ∧ (c < k ∨ W - 1 - c < k)
        · rw [if_pos h5, if_pos (by omega)]
        · rw [if_neg h5, if_neg (by omega)]
theorem turn_loop {r : Nat} {Q : Option AV → AH → Prop} (hr : r < 12) (hW : W ≤ 16) : ∀ (n c : Nat) (v : Option AV), c + n = W / 2 → Q none (pW R W m (tnI b r W (W / 2))) →
    Z g mX2_turn 2 Q 2 [some (vr 0), some (vi (nI r)), some (vi (nI c)), v] [] (pW R W m (tnI b r W c)) := by
  intro n
  induction n with
  | zero =>
    intro c v h1 hQ
    have e : nI W / nI 2 = nI (W / 2) := pk_div (by omega) (by omega) (by omega)
    refine Z_go kX2_turn okX2 [2] 80 ?_
    refine ⟨by decide, fun (h : nI W / nI 2 ≤ nI c) => ?_, fun (h : ¬ nI W / nI 2 ≤ nI c) => ?_⟩
    · have : c = W / 2 := by omega
      rw [this]; exact hQ
    · rw [e] at h; exact absurd (nI_le (by omega) (by omega)) h
  | succ n ih =>
    intro c v h1 hQ
    have e : nI W / nI 2 = nI (W / 2) := pk_div (by omega) (by omega) (by omega)
    refine Z_go kX2_turn okX2 [2] 80 ?_
    refine ⟨by decide, fun (h : nI W / nI 2 ≤ nI c) => ?_, fun (h : ¬ nI W / nI 2 ≤ nI c) => ?_⟩
    · rw [e, nI_leI (by omega) (by omega)] at h; omega
    · refine ⟨rfl, (c_colourB hr (by omega)).use ?_⟩
      have e2 : nI W - nI 1 - nI c = nI (W - 1 - c) := by rw [pk_sub (by omega), pk_sub (by omega)]
      have hc := c_colourB (g := g) (R := R) (W := W) (m := m) (b := tnI b r W c) (r := r) (c := W - 1 - c) hr (by omega)
      rw [← e2] at hc
      refine ⟨rfl, hc.use ?_⟩
      refine ⟨rfl, (c_put _ hr (by omega)).use ?_⟩
      have hp := c_put (g := g) (R := R) (W := W) (m := m) (b := upd (tnI b r W c) (r * 16 + c) (tnI b r W c (r * 16 + (W - 1 - c)))) (r := r) (c := W - 1 - c) (tnI b r W c (r * 16 + c)) hr (by omega)
      rw [← e2] at hp
      refine ⟨rfl, hp.use ?_⟩
      have k := ih (c + 1) (some (vi (tnI b r W c (r * 16 + c)))) (by omega) hQ
      rw [nI_a1 c] at k
      exact k
/-- D with row r turned round -/
def turnD (D : Nat → Nat → Int32) (W r : Nat) : Nat → Nat → Int32 := fun s c => if s = r then D r (W - 1 - c) else D s c
theorem c_turn {r : Nat} (hb : Hd b D R W) (hR : R ≤ 12) (hW : W ≤ 16) (hr : r < R) : ∃ b', Dt g mX2_turn [vr 0, vi (nI r)] (pW R W m b) none (pW R W m b') ∧ Hd b' (turnD D W r) R W := by
  refine ⟨tnI b r W (W / 2), ?_, ?_⟩
  · refine Ev_of omX2_turn.1 (Nat.le_of_ble_eq_true rfl) ?_
    refine Z_go kX2_turn okX2 [2] 80 ?_
    exact turn_loop (by omega) hW (W / 2) 0 none (by omega) ⟨rfl, rfl⟩
  · intro s c hs hc
    rw [tnI_at hW _ (Nat.le_refl _) s c hc]
    unfold turnD
    by_cases h : s = r
    · subst h
      by_cases h2 : c < W / 2 ∨ W - 1 - c < W / 2
      · rw [if_pos ⟨rfl, h2⟩, if_pos rfl, hb s _ hs (by omega)]
      · rw [if_neg (fun q => h2 q.2), if_pos rfl, hb s c hs hc]
        congr 1; omega
    · rw [if_neg (fun q => h q.1), if_neg h, hb s c hs hc]
/-- a row moved on, k steps of it -/
def mvI (b : Nat → Int32) (r W : Nat) : Nat → Nat → Int32
  | 0 => b
  | k + 1 => upd (mvI b r W k) (r * 16 + (W - 1 - k)) (mvI b r W k (r * 16 + (W - 1 - k - 1)))
theorem mvI_at {r : Nat} (hW : W ≤ 16) : ∀ k, k + 1 ≤ W → ∀ s c, c < W → mvI b r W k (s * 16 + c) = if s = r ∧ W - 1 - k < c then b (r * 16 + (c - 1)) else b (s * 16 + c) := by
  intro k
  induction k with
  | zero => intro _ s c hc; rw [if_neg (by omega)]; rfl
  | succ k ih =>
    intro hk s c hc
    simp only [mvI]
    have e2 := ih (by omega) r (W - 1 - k - 1) (by omega)
    have e3 := ih (by omega) s c hc
    rw [if_neg (by omega)] at e2
    by_cases h1 : s * 16 + c = r * 16 + (W - 1 - k)
    · have h2 : s = r := by omega
      have h3 : c = W - 1 - k := by omega
      rw [h1, updS, e2, if_pos (by omega), h3]
    · rw [updN h1, e3]
      by_cases h5 : s = r ∧ W - 1 - k < c
      · rw [if_pos h5, if_pos (by omega)]
      · rw [if_neg h5, if_neg (by omega)]
theorem moveOn_loop {r : Nat} {x : Int32} {Q : Option AV → AH → Prop} (hr : r < 12) (hW : W ≤ 16) (hW1 : 1 ≤ W) : ∀ (n k : Nat), k + n + 1 = W → Q none (pW R W m (upd (mvI b r W (W - 1)) (r * 16 + 0) x)) →
    Z g mX2_moveOn 2 Q 19 [some (vr 0), some (vi (nI r)), some (vi x), some (vi (nI (W - 1 - k)))] [] (pW R W m (mvI b r W k)) := by
  intro n
  induction n with
  | zero =>
    intro k h1 hQ
    have hk : k = W - 1 := by omega
    subst hk
    refine Z_go kX2_moveOn okX2 [19] 80 ?_
    refine ⟨fun _ => ?_, fun (h : ¬ nI (W - 1 - (W - 1)) ≤ 0) => ?_⟩
    · refine ⟨rfl, (c_put (c := 0) x hr (by omega)).use ?_⟩
      exact hQ
    · exact absurd (by rw [Nat.sub_self]; decide) h
  | succ n ih =>
    intro k h1 hQ
    refine Z_go kX2_moveOn okX2 [19] 80 ?_
    refine ⟨fun (h : nI (W - 1 - k) ≤ 0) => absurd h (nI_nle (by omega) (by omega)), fun _ => ?_⟩
    have hc := c_colourB (g := g) (R := R) (W := W) (m := m) (b := mvI b r W k) (r := r) (c := W - 1 - k - 1) hr (by omega)
    have e : nI (W - 1 - k) - nI 1 = nI (W - 1 - k - 1) := pk_sub (by omega)
    rw [← e] at hc
    refine ⟨rfl, hc.use ?_⟩
    refine ⟨rfl, (c_put _ hr (by omega)).use ?_⟩
    have k2 := ih (k + 1) (by omega) hQ
    have e2 : nI (W - 1 - k) + -nI 1 = nI (W - 1 - (k + 1)) := by rw [show W - 1 - (k + 1) = W - 1 - k - 1 by omega, ← e, Int32.sub_eq_add_neg]
    rw [← e2] at k2
    exact k2
/-- D with row r moved on by one -/
def moveD (D : Nat → Nat → Int32) (W r : Nat) : Nat → Nat → Int32 := fun s c => if s = r then (if c = 0 then D r (W - 1) else D r (c - 1)) else D s c
theorem c_moveOn {r : Nat} (hb : Hd b D R W) (hR : R ≤ 12) (hW : W ≤ 16) (hr : r < R) (hW1 : 1 ≤ W) : ∃ b', Dt g mX2_moveOn [vr 0, vi (nI r)] (pW R W m b) none (pW R W m b') ∧ Hd b' (moveD D W r) R W := by
  refine ⟨upd (mvI b r W (W - 1)) (r * 16 + 0) (b (r * 16 + (W - 1))), ?_, ?_⟩
  · refine Ev_of omX2_moveOn.1 (Nat.le_of_ble_eq_true rfl) ?_
    refine Z_go kX2_moveOn okX2 [19] 80 ?_
    have hc := c_colourB (g := g) (R := R) (W := W) (m := m) (b := b) (r := r) (c := W - 1) (by omega) (by omega)
    have e : nI W - nI 1 = nI (W - 1) := pk_sub (by omega)
    rw [← e] at hc
    refine ⟨rfl, hc.use ?_⟩
    have k := moveOn_loop (g := g) (R := R) (m := m) (b := b) (x := b (r * 16 + (W - 1))) (r := r) (Q := fun r' B => r' = none ∧ B = pW R W m (upd (mvI b r W (W - 1)) (r * 16 + 0) (b (r * 16 + (W - 1))))) (by omega) hW hW1 (W - 1) 0 (by omega) ⟨rfl, rfl⟩
    rw [Nat.sub_zero, ← e] at k
    exact k
  · intro s c hs hc
    unfold moveD
    by_cases h0 : s * 16 + c = r * 16 + 0
    · have h2 : s = r := by omega
      have h3 : c = 0 := by omega
      rw [h0, updS, if_pos h2, if_pos h3, hb r _ hr (by omega)]
    · rw [updN h0, mvI_at hW _ (by omega) s c hc]
      by_cases h : s = r
      · have h3 : c ≠ 0 := fun q => h0 (by omega)
        rw [if_pos (by omega), if_pos h, if_neg h3, hb r _ hr (by omega)]
      · rw [if_neg (fun q => h q.1), if_neg h, hb s c hs hc]
theorem cpy_at {f h : Nat → Int32} {s d r c : Nat} (hc : c < 16) : va_cpy f h (s * 16) (d * 16) 16 (r * 16 + c) = if r = d then f (s * 16 + c) else h (r * 16 + c) := by
  unfold va_cpy
  by_cases h1 : r = d
  · subst h1
    rw [if_pos (by omega), if_pos rfl]
    congr 1; omega
  · rw [if_neg (by omega), if_neg h1]
/-- rows behind r come one ahead, k of them -/
def dpI (b : Nat → Int32) (r : Nat) : Nat → Nat → Int32
  | 0 => b
  | k + 1 => va_cpy (dpI b r k) (dpI b r k) ((r + k + 1) * 16) ((r + k) * 16) 16
theorem dpI_at {r : Nat} : ∀ k s c, c < 16 → dpI b r k (s * 16 + c) = if r ≤ s ∧ s < r + k then b ((s + 1) * 16 + c) else b (s * 16 + c) := by
  intro k
  induction k with
  | zero => intro s c hc; rw [if_neg (by omega)]; rfl
  | succ k ih =>
    intro s c hc
    simp only [dpI]
    rw [cpy_at hc, ih _ c hc, ih _ c hc]
    by_cases h : s = r + k
    · rw [if_pos h, if_neg (by omega), if_pos (by omega), h]
    · rw [if_neg h]
      by_cases h2 : r ≤ s ∧ s < r + k
      · rw [if_pos h2, if_pos (by omega)]
      · rw [if_neg h2, if_neg (by omega)]
def dropD (D : Nat → Nat → Int32) (r : Nat) : Nat → Nat → Int32 := fun s c => if s < r then D s c else D (s + 1) c
theorem drop_loop {r : Nat} {Q : Option AV → AH → Prop} (hR : R ≤ 12) (hr : r < R) (hQ : Q none (pW (R - 1) (if R - 1 = 0 then 0 else W) m (dpI b r (R - 1 - r)))) : ∀ (n k : Nat), r + k + n + 1 = R →
    Z g mX2_drop 2 Q 2 [some (vr 0), some (vi (nI r)), some (vi (nI (r + k)))] [] (pW R W m (dpI b r k)) := by
  intro n
  induction n with
  | zero =>
    intro k h1
    have hk : k = R - 1 - r := by omega
    subst hk
    have e : nI (r + (R - 1 - r)) + nI 1 = nI R := by rw [nI_add, show r + (R - 1 - r) + 1 = R by omega]
    have e3 : nI R - nI 1 = nI (R - 1) := pk_sub (by omega)
    refine Z_go kX2_drop okX2 [2] 80 ?_
    refine ⟨fun _ => ?_, fun (h : ¬ nI R ≤ nI (r + (R - 1 - r)) + nI 1) => ?_⟩
    · refine ⟨fun (h : ¬ nI R - nI 1 = nI 0) => ?_, fun (h : ¬ ¬ nI R - nI 1 = nI 0) => ?_⟩
      · rw [e3, nI_eq (by omega) (by omega)] at h
        rw [if_neg h] at hQ
        unfold pW at hQ
        rw [← e3] at hQ
        exact hQ
      · rw [e3, nI_eq (by omega) (by omega)] at h
        rw [if_pos (Classical.not_not.mp h)] at hQ
        unfold pW at hQ
        rw [← e3] at hQ
        exact hQ
    · rw [e] at h; exact absurd (nI_le (Nat.le_refl _) (by omega)) h
  | succ n ih =>
    intro k h1
    have e : nI (r + k) + nI 1 = nI (r + k + 1) := nI_add _ _
    refine Z_go kX2_drop okX2 [2] 80 ?_
    refine ⟨fun (h : nI R ≤ nI (r + k) + nI 1) => ?_, fun _ => ?_⟩
    · rw [e, nI_leI (by omega) (by omega)] at h; omega
    · have hc := c_copyRow (g := g) (R := R) (W := W) (m := m) (b := dpI b r k) (f := r + k + 1) (t := r + k) (by omega) (by omega)
      rw [← e] at hc
      refine ⟨rfl, hc.use ?_⟩
      have k2 := ih (k + 1) (by omega)
      rw [← Nat.add_assoc, ← e] at k2
      exact k2
theorem c_drop {r : Nat} (hb : Hd b D R W) (hR : R ≤ 12) (hW : W ≤ 16) (hr : r < R) : ∃ b', Dt g mX2_drop [vr 0, vi (nI r)] (pW R W m b) none (pW (R - 1) (if R - 1 = 0 then 0 else W) m b') ∧ Hd b' (dropD D r) (R - 1) W := by
  refine ⟨dpI b r (R - 1 - r), ?_, ?_⟩
  · refine Ev_of omX2_drop.1 (Nat.le_of_ble_eq_true rfl) ?_
    refine Z_go kX2_drop okX2 [2] 80 ?_
    exact drop_loop hR hr ⟨rfl, rfl⟩ (R - 1 - r) 0 (by omega)
  · intro s c hs hc
    rw [dpI_at _ _ _ (by omega)]
    unfold dropD
    by_cases h : s < r
    · rw [if_neg (by omega), if_pos h, hb _ _ (by omega) hc]
    · rw [if_pos (by omega), if_neg h, hb _ _ (by omega) hc]
/-- rows behind r go one back, k of them from the last -/
def rpI (b : Nat → Int32) (R : Nat) : Nat → Nat → Int32
  | 0 => b
  | k + 1 => va_cpy (rpI b R k) (rpI b R k) ((R - k - 1) * 16) ((R - k) * 16) 16
theorem rpI_at : ∀ k s c, k ≤ R → c < 16 → rpI b R k (s * 16 + c) = if R - k < s ∧ s ≤ R then b ((s - 1) * 16 + c) else b (s * 16 + c) := by
  intro k
  induction k with
  | zero => intro s c _ hc; rw [if_neg (by omega)]; rfl
  | succ k ih =>
    intro s c hk hc
    simp only [rpI]
    rw [cpy_at hc, ih _ c (by omega) hc, ih _ c (by omega) hc]
    by_cases h : s = R - k
    · rw [if_pos h, if_neg (by omega), if_pos (by omega), h]
    · rw [if_neg h]
      by_cases h2 : R - k < s ∧ s ≤ R
      · rw [if_pos h2, if_pos (by omega)]
      · rw [if_neg h2, if_neg (by omega)]
def repD (D : Nat → Nat → Int32) (r : Nat) : Nat → Nat → Int32 := fun s c => if s ≤ r then D s c else D (s - 1) c
theorem repeat_loop {r : Nat} {Q : Option AV → AH → Prop} (hR : R < 12) (hr : r < R) (hQ : Q none (pW (R + 1) W m (rpI b R (R - r)))) : ∀ (n k : Nat), r + k + n = R →
    Z g mX2_repeat 2 Q 5 [some (vr 0), some (vi (nI r)), some (vi (nI (R - k)))] [] (pW R W m (rpI b R k)) := by
  intro n
  induction n with
  | zero =>
    intro k h1
    have hk : k = R - r := by omega
    subst hk
    refine Z_go kX2_repeat okX2 [5] 80 ?_
    refine ⟨fun _ => ?_, fun (h : ¬ nI (R - (R - r)) ≤ nI r) => ?_⟩
    · unfold pW at hQ
      rw [nI_a1 R] at hQ
      exact hQ
    · exact absurd (nI_le (by omega) (by omega)) h
  | succ n ih =>
    intro k h1
    refine Z_go kX2_repeat okX2 [5] 80 ?_
    refine ⟨fun (h : nI (R - k) ≤ nI r) => ?_, fun _ => ?_⟩
    · rw [nI_leI (by omega) (by omega)] at h; omega
    · have e : nI (R - k) - nI 1 = nI (R - k - 1) := pk_sub (by omega)
      have hc := c_copyRow (g := g) (R := R) (W := W) (m := m) (b := rpI b R k) (f := R - k - 1) (t := R - k) (by omega) (by omega)
      rw [← e] at hc
      refine ⟨rfl, hc.use ?_⟩
      have k2 := ih (k + 1) (by omega)
      have e2 : nI (R - k) + -nI 1 = nI (R - (k + 1)) := by rw [show R - (k + 1) = R - k - 1 by omega, ← e, Int32.sub_eq_add_neg]
      rw [← e2] at k2
      exact k2
theorem c_repeat {r : Nat} (hb : Hd b D R W) (hR : R < 12) (hW : W ≤ 16) (hr : r < R) : ∃ b', Dt g mX2_repeat [vr 0, vi (nI r)] (pW R W m b) none (pW (R + 1) W m b') ∧ Hd b' (repD D r) (R + 1) W := by
  refine ⟨rpI b R (R - r), ?_, ?_⟩
  · refine Ev_of omX2_repeat.1 (Nat.le_of_ble_eq_true rfl) ?_
    refine Z_go kX2_repeat okX2 [5] 80 ?_
    have := repeat_loop (g := g) (W := W) (m := m) (b := b) (Q := fun r' B => r' = none ∧ B = pW (R + 1) W m (rpI b R (R - r))) hR hr ⟨rfl, rfl⟩ (R - r) 0 (by omega)
    exact this
  · intro s c hs hc
    rw [rpI_at _ _ _ (by omega) (by omega)]
    unfold repD
    by_cases h : s ≤ r
    · rw [if_neg (by omega), if_pos h, hb _ _ (by omega) hc]
    · rw [if_pos (by omega), if_neg h, hb _ _ (by omega) hc]
/-- two rows change places, k beads of them -/
def exI (b : Nat → Int32) (r s : Nat) : Nat → Nat → Int32
  | 0 => b
  | k + 1 => upd (upd (exI b r s k) (r * 16 + k) (exI b r s k (s * 16 + k))) (s * 16 + k) (exI b r s k (r * 16 + k))
theorem exI_at {r s : Nat} : ∀ k, k ≤ 16 → ∀ q c, c < 16 → exI b r s k (q * 16 + c) = if c < k then (if q = s then b (r * 16 + c) else if q = r then b (s * 16 + c) else b (q * 16 + c)) else b (q * 16 + c) := by
  intro k
  induction k with
  | zero => intro _ q c hc; rw [if_neg (by omega)]; rfl
  | succ k ih =>
    intro hk q c hc
    simp only [exI]
    have e1 := ih (by omega) r k (by omega)
    have e2 := ih (by omega) s k (by omega)
    have e3 := ih (by omega) q c hc
    rw [if_neg (by omega)] at e1 e2
    by_cases h1 : q * 16 + c = s * 16 + k
    · have h2 : q = s := by omega
      have h3 : c = k := by omega
      rw [h1, updS, e1, if_pos (by omega), if_pos h2, h3]
    · rw [updN h1]
      by_cases h4 : q * 16 + c = r * 16 + k
      · have h2 : q = r := by omega
        have h3 : c = k := by omega
        rw [h4, updS, e2, if_pos (by omega), if_neg (by omega), if_pos h2, h3]
      · rw [updN h4, e3]
        by_cases h5 : c < k
        · rw [if_pos h5, if_pos (show c < k + 1 by omega)]
        · rw [if_neg h5]
          by_cases h6 : c < k + 1
          · have h7 : c = k := by omega
            rw [if_pos h6, if_neg (by omega), if_neg (by omega)]
          · rw [if_neg h6]
def swapD (D : Nat → Nat → Int32) (r s : Nat) : Nat → Nat → Int32 := fun q c => if q = s then D r c else if q = r then D s c else D q c
theorem exchange_loop {r s : Nat} {Q : Option AV → AH → Prop} (hr : r < 12) (hs : s < 12) (hW : W ≤ 16) (hQ : Q none (pW R W m (exI b r s W))) : ∀ (n c : Nat) (v : Option AV), c + n = W →
    Z g mX2_exchange 2 Q 2 [some (vr 0), some (vi (nI r)), some (vi (nI s)), some (vi (nI c)), v] [] (pW R W m (exI b r s c)) := by
  intro n
  induction n with
  | zero =>
    intro c v h1
    refine Z_go kX2_exchange okX2 [2] 80 ?_
    refine ⟨fun _ => ?_, fun (h : ¬ nI W ≤ nI c) => ?_⟩
    · have : c = W := by omega
      rw [this]; exact hQ
    · exact absurd (nI_le (by omega) (by omega)) h
  | succ n ih =>
    intro c v h1
    refine Z_go kX2_exchange okX2 [2] 80 ?_
    refine ⟨fun (h : nI W ≤ nI c) => ?_, fun _ => ?_⟩
    · rw [nI_leI (by omega) (by omega)] at h; omega
    · refine ⟨rfl, (c_colourB hr (by omega)).use ?_⟩
      refine ⟨rfl, (c_colourB hs (by omega)).use ?_⟩
      refine ⟨rfl, (c_put _ hr (by omega)).use ?_⟩
      refine ⟨rfl, (c_put _ hs (by omega)).use ?_⟩
      have k := ih (c + 1) (some (vi (exI b r s c (r * 16 + c)))) (by omega)
      rw [nI_a1 c] at k
      exact k
theorem c_exchange {r s : Nat} (hb : Hd b D R W) (hR : R ≤ 12) (hW : W ≤ 16) (hr : r < R) (hs : s < R) : ∃ b', Dt g mX2_exchange [vr 0, vi (nI r), vi (nI s)] (pW R W m b) none (pW R W m b') ∧ Hd b' (swapD D r s) R W := by
  refine ⟨exI b r s W, ?_, ?_⟩
  · refine Ev_of omX2_exchange.1 (Nat.le_of_ble_eq_true rfl) ?_
    refine Z_go kX2_exchange okX2 [2] 80 ?_
    exact exchange_loop (by omega) (by omega) hW ⟨rfl, rfl⟩ W 0 none (by omega)
  · intro q c hq hc
    rw [exI_at _ hW _ _ (by omega), if_pos hc]
    unfold swapD
    by_cases h1 : q = s
    · rw [if_pos h1, if_pos h1, hb _ _ hr hc]
    · rw [if_neg h1, if_neg h1]
      by_cases h2 : q = r
      · rw [if_pos h2, if_pos h2, hb _ _ hs hc]
      · rw [if_neg h2, if_neg h2, hb _ _ hq hc]
/-- a colour becomes another one: k beads of row t -/
def dyI (b : Nat → Int32) (t : Nat) (x y : Int32) : Nat → Nat → Int32
  | 0 => b
  | k + 1 => if dyI b t x y k (t * 16 + k) = x then upd (dyI b t x y k) (t * 16 + k) y else dyI b t x y k
def dyO (b : Nat → Int32) (W : Nat) (x y : Int32) : Nat → Nat → Int32
  | 0 => b
  | t + 1 => dyI (dyO b W x y t) t x y W
theorem dyI_at {t : Nat} {x y : Int32} : ∀ k, k ≤ 16 → ∀ q c, c < 16 → dyI b t x y k (q * 16 + c) = if q = t ∧ c < k ∧ b (q * 16 + c) = x then y else b (q * 16 + c) := by
  intro k
  induction k with
  | zero => intro _ q c hc; rw [if_neg (by omega)]; rfl
  | succ k ih =>
    intro hk q c hc
    simp only [dyI]
    have e1 := ih (by omega) t k (by omega)
    rw [if_neg (by omega)] at e1
    have e3 := ih (by omega) q c hc
    by_cases h : dyI b t x y k (t * 16 + k) = x
    · rw [if_pos h]
      by_cases h1 : q * 16 + c = t * 16 + k
      · have h2 : q = t := by omega
        have h3 : c = k := by omega
        rw [h1, updS, if_pos ⟨h2, by omega, by rw [← e1]; exact h⟩]
      · rw [updN h1, e3]
        by_cases h5 : q = t ∧ c < k ∧ b (q * 16 + c) = x
        · rw [if_pos h5, if_pos ⟨h5.1, by omega, h5.2.2⟩]
        · rw [if_neg h5, if_neg (fun z => h5 ⟨z.1, by omega, z.2.2⟩)]
    · rw [if_neg h, e3]
      by_cases h5 : q = t ∧ c < k ∧ b (q * 16 + c) = x
      · rw [if_pos h5, if_pos ⟨h5.1, by omega, h5.2.2⟩]
      · rw [if_neg h5, if_neg (fun z => h5 ⟨z.1, by
          rcases Nat.lt_or_ge c k with q1 | q1
          · exact q1
          · have h6 : c = k := by omega
            exact absurd (by rw [e1, ← h6, ← z.1]; exact z.2.2) h, z.2.2⟩)]
theorem dyO_at {x y : Int32} (hW : W ≤ 16) : ∀ t q c, c < 16 → dyO b W x y t (q * 16 + c) = if q < t ∧ c < W ∧ b (q * 16 + c) = x then y else b (q * 16 + c) := by
  intro t
  induction t with
  | zero => intro q c hc; rw [if_neg (by omega)]; rfl
  | succ t ih =>
    intro q c hc
    simp only [dyO]
    rw [dyI_at _ hW _ _ hc, ih q c hc]
    by_cases h1 : q = t
    · subst h1
      simp only [Nat.lt_irrefl, false_and, if_false, true_and]
      by_cases h2 : c < W ∧ b (q * 16 + c) = x
      · rw [if_pos h2, if_pos ⟨by omega, h2⟩]
      · rw [if_neg h2, if_neg (fun z => h2 z.2)]
    · by_cases h2 : q < t ∧ c < W ∧ b (q * 16 + c) = x
      · rw [if_pos h2, if_neg (fun z => h1 z.1), if_pos ⟨by omega, h2.2⟩]
      · rw [if_neg h2, if_neg (fun z => h1 z.1), if_neg (fun z => h2 ⟨by omega, z.2⟩)]
def dyeD (D : Nat → Nat → Int32) (x y : Int32) : Nat → Nat → Int32 := fun r c => if D r c = x then y else D r c
theorem dyeIn_loop {t : Nat} {x y : Int32} {Q : Option AV → AH → Prop} (ht : t < 12) (hW : W ≤ 16) (hQ : Z g mX2_dyeAll 2 Q 47 [some (vr 0), some (vi x), some (vi y), some (vi (nI t)), some (vi (nI W))] [] (pW R W m (dyI b t x y W))) : ∀ (n c : Nat), c + n = W →
    Z g mX2_dyeAll 2 Q 13 [some (vr 0), some (vi x), some (vi y), some (vi (nI t)), some (vi (nI c))] [] (pW R W m (dyI b t x y c)) := by
  intro n
  induction n with
  | zero =>
    intro c h1
    refine Z_go kX2_dyeAll okX2 [13, 47] 80 ?_
    refine ⟨fun _ => ?_, fun (h : ¬ nI W ≤ nI c) => ?_⟩
    · have : c = W := by omega
      rw [this]; exact hQ
    · exact absurd (nI_le (by omega) (by omega)) h
  | succ n ih =>
    intro c h1
    refine Z_go kX2_dyeAll okX2 [13, 47] 80 ?_
    refine ⟨fun (h : nI W ≤ nI c) => ?_, fun _ => ?_⟩
    · rw [nI_leI (by omega) (by omega)] at h; omega
    · refine ⟨rfl, (c_colourB ht (by omega)).use ?_⟩
      refine ⟨fun (h3 : ¬ dyI b t x y c (t * 16 + c) = x) => ?_, fun (h3 : ¬ ¬ dyI b t x y c (t * 16 + c) = x) => ?_⟩
      · have k := ih (c + 1) (by omega)
        simp only [dyI, if_neg h3] at k
        rw [nI_a1 c] at k
        exact k
      · refine ⟨rfl, (c_put _ ht (by omega)).use ?_⟩
        have k := ih (c + 1) (by omega)
        simp only [dyI, if_pos (Classical.not_not.mp h3)] at k
        rw [nI_a1 c] at k
        exact k
theorem dye_loop {x y : Int32} {Q : Option AV → AH → Prop} (hR : R ≤ 12) (hW : W ≤ 16) (hQ : Q none (pW R W m (dyO b W x y R))) : ∀ (n t : Nat) (v : Option AV), t + n = R →
    Z g mX2_dyeAll 2 Q 2 [some (vr 0), some (vi x), some (vi y), some (vi (nI t)), v] [] (pW R W m (dyO b W x y t)) := by
  intro n
  induction n with
  | zero =>
    intro t v h1
    refine Z_go kX2_dyeAll okX2 [2, 13] 80 ?_
    refine ⟨fun _ => ?_, fun (h : ¬ nI R ≤ nI t) => ?_⟩
    · have : t = R := by omega
      rw [this]; exact hQ
    · exact absurd (nI_le (by omega) (by omega)) h
  | succ n ih =>
    intro t v h1
    refine Z_go kX2_dyeAll okX2 [2, 13] 80 ?_
    refine ⟨fun (h : nI R ≤ nI t) => ?_, fun _ => ?_⟩
    · rw [nI_leI (by omega) (by omega)] at h; omega
    · refine dyeIn_loop (by omega) hW ?_ W 0 (by omega)
      refine Z_go kX2_dyeAll okX2 [2] 80 ?_
      have k := ih (t + 1) (some (vi (nI W))) (by omega)
      rw [nI_a1 t] at k
      exact k
theorem c_dyeAll (x y : Int32) (hb : Hd b D R W) (hR : R ≤ 12) (hW : W ≤ 16) : ∃ b', Dt g mX2_dyeAll [vr 0, vi x, vi y] (pW R W m b) none (pW R W m b') ∧ Hd b' (dyeD D x y) R W := by
  refine ⟨dyO b W x y R, ?_, ?_⟩
  · refine Ev_of omX2_dyeAll.1 (Nat.le_of_ble_eq_true rfl) ?_
    refine Z_go kX2_dyeAll okX2 [2] 80 ?_
    exact dye_loop hR hW ⟨rfl, rfl⟩ R 0 none (by omega)
  · intro r c hr hc
    rw [dyO_at hW _ _ _ (by omega), hb r c hr hc]
    unfold dyeD
    by_cases h : D r c = x
    · rw [if_pos ⟨hr, hc, h⟩, if_pos h]
    · rw [if_neg (fun z => h z.2.2), if_neg h]
/-- a line becomes a row: k beads of it -/
def tkI (b : Nat → Int32) (r w m : Nat) (l : Nat → Int32) : Nat → Nat → Int32
  | 0 => b
  | k + 1 => upd (tkI b r w m l k) (r * 16 + plc w m r k) (l k)
theorem tkI_at {r w m : Nat} {l : Nat → Int32} (hw : w ≤ 16) : ∀ k, k ≤ w → (∀ i, i < k → tkI b r w m l k (r * 16 + plc w m r i) = l i) ∧ (∀ q c, c < 16 → q ≠ r → tkI b r w m l k (q * 16 + c) = b (q * 16 + c)) := by
  intro k
  induction k with
  | zero => intro _; exact ⟨fun i h => by omega, fun q c _ _ => rfl⟩
  | succ k ih =>
    intro hk
    obtain ⟨h1, h2⟩ := ih (by omega)
    refine ⟨fun i hi => ?_, fun q c hc hq => ?_⟩
    · simp only [tkI]
      by_cases e : i = k
      · rw [e, updS]
      · have hp : plc w m r i ≠ plc w m r k := by unfold plc; split <;> omega
        rw [updN (by omega), h1 i (by omega)]
    · simp only [tkI]
      have hp := plc_lt (m := m) (r := r) (show k < w by omega)
      rw [updN (by omega), h2 q c hc hq]
def tkW (R W m : Nat) (b l : Nat → Int32) : AH := [ob 2 [vr 1, vi (nI R), vi (nI W), vi (nI m)], ar 0 192 b, ar 0 16 l]
theorem takeLine_loop {r w : Nat} {l : Nat → Int32} {Q : Option AV → AH → Prop} (hr : r < 12) (hw : w ≤ 16) (hm : m ≤ 1) {n0 : Int32} (hQ : Q none (tkW (r + 1) w m (tkI b r w m l w) l)) : ∀ (n c : Nat), c + n = w →
    Z g mX2_takeLine 3 Q 7 [some (vr 0), some (vr 2), some (vi n0), some (vi (nI c))] [] (tkW (r + 1) w m (tkI b r w m l c) l) := by
  intro n
  induction n with
  | zero =>
    intro c h1
    refine Z_go kX2_takeLine okX2 [7] 80 ?_
    refine ⟨fun _ => ?_, fun (h : ¬ nI w ≤ nI c) => ?_⟩
    · have : c = w := by omega
      rw [this]; exact hQ
    · exact absurd (nI_le (by omega) (by omega)) h
  | succ n ih =>
    intro c h1
    have e : nI (r + 1) - nI 1 = nI r := nI_pred r
    refine Z_go kX2_takeLine okX2 [7] 80 ?_
    refine ⟨fun (h : nI w ≤ nI c) => ?_, fun _ => ?_⟩
    · rw [nI_leI (by omega) (by omega)] at h; omega
    · have hc := c_placeOf (g := g) (R := r + 1) (W := w) (m := m) (b := tkI b r w m l c) (r := r) (i := c) hr hw (by omega) hm
      rw [← e] at hc
      refine ⟨rfl, hc.fr [0, 1] rfl (by decide) rfl ?_⟩
      refine ⟨vp_in_nI (by omega) (by omega), ?_⟩
      have hp := c_put (g := g) (R := r + 1) (W := w) (m := m) (b := tkI b r w m l c) (r := r) (c := plc w m r c) (l c) hr (by have := plc_lt (m := m) (r := r) (show c < w by omega); omega)
      rw [← e] at hp
      rw [nI_clamp (by omega)]
      refine ⟨rfl, hp.fr [0, 1] rfl (by decide) rfl ?_⟩
      have k := ih (c + 1) (by omega)
      rw [nI_a1 c] at k
      exact k
/-- D with a row more, whose line is l -/
def addD (D : Nat → Nat → Int32) (R w m : Nat) (l : Nat → Int32) : Nat → Nat → Int32 := fun q c => if q = R then l (plc w m R c) else D q c
theorem c_takeLine {w : Nat} {l : Nat → Int32} (hb : Hd b D R w) (hR : R < 12) (hw : w ≤ 16) (hm : m ≤ 1) : ∃ b', Dt g mX2_takeLine [vr 0, vr 2, vi (nI w)] (tkW R W m b l) none (tkW (R + 1) w m b' l) ∧ Hd b' (addD D R w m l) (R + 1) w := by
  refine ⟨tkI b R w m l w, ?_, ?_⟩
  · refine Ev_of omX2_takeLine.1 (Nat.le_of_ble_eq_true rfl) ?_
    refine Z_go kX2_takeLine okX2 [7] 80 ?_
    refine ⟨rfl, (c_takeRow (w := w)).fr [0, 1] rfl (by decide) rfl ?_⟩
    exact takeLine_loop hR hw hm ⟨rfl, rfl⟩ w 0 (by omega)
  · intro q c hq hc
    obtain ⟨h1, h2⟩ := tkI_at (b := b) (r := R) (m := m) (l := l) hw w (Nat.le_refl _)
    unfold addD
    by_cases h : q = R
    · subst h
      rw [if_pos rfl]
      have hp := plc_lt (m := m) (r := q) hc
      have e : plc w m q (plc w m q c) = c := by unfold plc; split <;> omega
      have := h1 (plc w m q c) hp
      rw [e] at this
      exact this
    · rw [if_neg h, h2 q c (by omega) h, hb q c (by omega) hc]
end PIC
