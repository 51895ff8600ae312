section TEL
variable {g : GG} {R W m : Nat} {b : Nat → Int32} {D : Nat → Nat → Int32}
def ttW (ln : Nat) (tl : Nat → Int32) : AH := [ob 8 [vr 1, vi (nI ln)], ar 0 40 tl] 
def teW (x : Nat × (Nat → Int32)) (R W m : Nat) (b : Nat → Int32) : AH := [ob 8 [vr 1, vi (nI x.1)], ar 0 40 x.2, ob 2 [vr 3, vi (nI R), vi (nI W), vi (nI m)], ar 0 192 b]
theorem c_tput {ln : Nat} {tl : Nat → Int32} (v : Int32) (h : ln < 40) : Dt g mX8_put [vr 0, vi v] (ttW ln tl) none (ttW (ln + 1) (upd tl ln v)) := by
  refine Ev_of omX8_put.1 (Nat.le_of_ble_eq_true rfl) ?_
  refine Z_go kX8_put okX8 [] 80 ?_
  refine ⟨fun (h2 : nI 40 ≤ nI ln) => ?_, fun _ => ⟨vp_in_nI h (by omega), rfl, ?_⟩⟩
  · rw [nI_leI (by omega) (by omega)] at h2; omega
  · rw [nI_clamp (by omega)]
    unfold ttW
    rw [nI_a1 ln]
    rfl
theorem c_tputE {ln : Nat} {tl : Nat → Int32} (v : Int32) (h : ln < 40) {Q : Option AV → AH → Prop} (k : Q none (teW (ln + 1, upd tl ln v) R W m b)) : Ev g mX8_put [vr 0, vi v] (teW (ln, tl) R W m b) Q :=
  (c_tput v h).fr [0, 1] rfl (by decide) rfl k
/-- the runs of the first n beads of l: how many are alike, the told words, when i beads have been read -/
def trI (l : Nat → Int32) (n : Nat) (x : Nat × (Nat → Int32)) : Nat → Nat × (Nat × (Nat → Int32))
  | 0 => (0, x)
  | i + 1 => if i + 1 = n ∨ ¬ l (i + 1) = l i then (0, ((trI l n x i).2.1 + 1 + 1, upd (upd (trI l n x i).2.2 (trI l n x i).2.1 (nI ((trI l n x i).1 + 1))) ((trI l n x i).2.1 + 1) (l i))) else ((trI l n x i).1 + 1, (trI l n x i).2)
theorem trI_s1 {l : Nat → Int32} {n i : Nat} {x : Nat × (Nat → Int32)} (h : i + 1 = n ∨ ¬ l (i + 1) = l i) : trI l n x (i + 1) = (0, ((trI l n x i).2.1 + 1 + 1, upd (upd (trI l n x i).2.2 (trI l n x i).2.1 (nI ((trI l n x i).1 + 1))) ((trI l n x i).2.1 + 1) (l i))) := by
  simp only [trI]; rw [if_pos h]
theorem trI_s2 {l : Nat → Int32} {n i : Nat} {x : Nat × (Nat → Int32)} (h : ¬ (i + 1 = n ∨ ¬ l (i + 1) = l i)) : trI l n x (i + 1) = ((trI l n x i).1 + 1, (trI l n x i).2) := by
  simp only [trI]; rw [if_neg h]
theorem trI_le {l : Nat → Int32} {n : Nat} {x : Nat × (Nat → Int32)} : ∀ i, (trI l n x i).2.1 ≤ x.1 + 2 * i := by
  intro i
  induction i with
  | zero => simp [trI]
  | succ i ih =>
    simp only [trI]
    split
    · show (trI l n x i).2.1 + 1 + 1 ≤ _; omega
    · show (trI l n x i).2.1 ≤ _; omega
theorem tellRuns_loop {r n : Nat} {x : Nat × (Nat → Int32)} {Q : Option AV → AH → Prop} (hb : Hd b D R W) (hR : R ≤ 12) (hW : W ≤ 16) (hm : m ≤ 1) (hr : r < R) (hn : n ≤ W) (hx : x.1 ≤ 2) (hQ : Q (some (vi (nI (trI (lnD D W m r) n x n).2.1))) (teW (trI (lnD D W m r) n x n).2 R W m b)) : ∀ (q i : Nat) (v : Option AV), i + q = n →
    Z g mX8_tellRuns 4 Q 6 [some (vr 0), some (vr 2), some (vi (nI r)), some (vi (nI n)), some (vi (nI (trI (lnD D W m r) n x i).1)), some (vi (nI i)), v] [] (teW (trI (lnD D W m r) n x i).2 R W m b) := by
  intro q
  induction q with
  | zero =>
    intro i v h1
    refine Z_go kX8_tellRuns okX8 [6] 80 ?_
    refine ⟨fun _ => ?_, fun (h : ¬ nI n ≤ nI i) => ?_⟩
    · have : i = n := by omega
      rw [this]; exact hQ
    · exact absurd (nI_le (by omega) (by omega)) h
  | succ q ih =>
    intro i v h1
    have hle := trI_le (l := lnD D W m r) (n := n) (x := x) i
    have ih2 := ih (i + 1) (some (vi (lnD D W m r i))) (by omega)
    have e1 : nI i + nI 1 = nI (i + 1) := nI_add i 1
    have fin : (i + 1 = n ∨ ¬ lnD D W m r (i + 1) = lnD D W m r i) → Z g mX8_tellRuns 4 Q 46 [some (vr 0), some (vr 2), some (vi (nI r)), some (vi (nI n)), some (vi (nI (trI (lnD D W m r) n x i).1 + nI 1)), some (vi (nI i)), some (vi (lnD D W m r i))] [] (teW (trI (lnD D W m r) n x i).2 R W m b) := by
      intro hc
      refine Z_go kX8_tellRuns okX8 [6] 80 ?_
      refine ⟨rfl, c_tputE _ (show (trI (lnD D W m r) n x i).2.1 < 40 by omega) ?_⟩
      refine ⟨rfl, c_tputE _ (show (trI (lnD D W m r) n x i).2.1 + 1 < 40 by omega) ?_⟩
      simp only [trI, if_pos hc] at ih2
      rw [nI_a1 i, nI_a1 (trI (lnD D W m r) n x i).1] at ih2
      exact ih2
    refine Z_go kX8_tellRuns okX8 [6, 46] 80 ?_
    refine ⟨fun (h : nI n ≤ nI i) => ?_, fun _ => ?_⟩
    · rw [nI_leI (by omega) (by omega)] at h; omega
    · refine ⟨rfl, (c_readAt (i := i) hb hR hW hr (by omega) hm).fr [2, 3] rfl (by decide) rfl ?_⟩
      refine ⟨fun (h2 : nI i + nI 1 = nI n) => ?_, fun (h2 : ¬ nI i + nI 1 = nI n) => ?_⟩
      · rw [e1, nI_eq (by omega) (by omega)] at h2
        exact fin (Or.inl h2)
      · rw [e1, nI_eq (by omega) (by omega)] at h2
        have hc := c_readAt (g := g) (i := i + 1) hb hR hW hr (by omega) hm
        rw [← e1] at hc
        refine ⟨rfl, hc.fr [2, 3] rfl (by decide) rfl ?_⟩
        refine ⟨fun (h3 : lnD D W m r (i + 1) = lnD D W m r i) => ?_, fun (h3 : ¬ lnD D W m r (i + 1) = lnD D W m r i) => fin (Or.inr h3)⟩
        simp only [trI, if_neg (show ¬ (i + 1 = n ∨ ¬ lnD D W m r (i + 1) = lnD D W m r i) from fun z => z.elim h2 (fun z => z h3))] at ih2
        rw [nI_a1 i, nI_a1 (trI (lnD D W m r) n x i).1] at ih2
        exact ih2
theorem c_tellRuns {r n : Nat} {x : Nat × (Nat → Int32)} (hb : Hd b D R W) (hR : R ≤ 12) (hW : W ≤ 16) (hm : m ≤ 1) (hr : r < R) (hn : n ≤ W) (hx : x.1 ≤ 2) : Dt g mX8_tellRuns [vr 0, vr 2, vi (nI r), vi (nI n)] (teW x R W m b) (some (vi (nI (trI (lnD D W m r) n x n).2.1))) (teW (trI (lnD D W m r) n x n).2 R W m b) := by
  refine Ev_of omX8_tellRuns.1 (Nat.le_of_ble_eq_true rfl) ?_
  refine Z_go kX8_tellRuns okX8 [6] 80 ?_
  exact tellRuns_loop hb hR hW hm hr hn hx ⟨rfl, rfl⟩ n 0 none (by omega)
/-- what tellBy answers and tells -/
def tlk (k : Option Nat) (x : Nat × (Nat → Int32)) : Option Nat × (Nat × (Nat → Int32)) := match k with
  | none => (none, x)
  | some j => (some (x.1 + 1), (x.1 + 1, upd x.2 x.1 (nI j)))
theorem c_tellLike {k : Option Nat} {x : Nat × (Nat → Int32)} (hx : x.1 < 40) (hk : ∀ j, k = some j → j < 2 ^ 31) : Dt g mX8_tellLike [vr 0, vi (oI k)] (teW x R W m b) (some (vi (oI (tlk k x).1))) (teW (tlk k x).2 R W m b) := by
  have hn := oI_none hk
  refine Ev_of omX8_tellLike.1 (Nat.le_of_ble_eq_true rfl) ?_
  refine Z_go kX8_tellLike okX8 [] 80 ?_
  refine ⟨fun (h : ¬ oI k = -nI 4) => ?_, fun (h : ¬ ¬ oI k = -nI 4) => ?_⟩
  · rw [hn] at h
    cases hk2 : k with
    | none => exact absurd hk2 h
    | some j =>
      refine ⟨rfl, c_tputE _ hx ?_⟩
      exact ⟨rfl, rfl⟩
  · rw [hn] at h
    have h := Classical.not_not.mp h
    subst h
    exact ⟨rfl, rfl⟩
def tmr (L : Nat → Nat → Int32) (W r : Nat) (x : Nat × (Nat → Int32)) : Option Nat × (Nat × (Nat → Int32)) := if W < 2 ∨ sameL L W r r true = false then (none, x) else (some (trI (L r) ((W + 1) / 2) x ((W + 1) / 2)).2.1, (trI (L r) ((W + 1) / 2) x ((W + 1) / 2)).2)
theorem c_tellMirror {r : Nat} {x : Nat × (Nat → Int32)} (hb : Hd b D R W) (hR : R ≤ 12) (hW : W ≤ 16) (hm : m ≤ 1) (hr : r < R) (hx : x.1 ≤ 2) : Dt g mX8_tellMirror [vr 0, vr 2, vi (nI r)] (teW x R W m b) (some (vi (oI (tmr (lnD D W m) W r x).1))) (teW (tmr (lnD D W m) W r x).2 R W m b) := by
  have e : (nI W + nI 1) / nI 2 = nI ((W + 1) / 2) := by rw [nI_add, pk_div (by omega) (by omega) (by omega)]
  refine Ev_of omX8_tellMirror.1 (Nat.le_of_ble_eq_true rfl) ?_
  refine Z_go kX8_tellMirror okX8 [] 80 ?_
  refine ⟨fun (h : nI W < nI 2) => ?_, fun (h : ¬ nI W < nI 2) => ?_⟩
  · rw [nI_ltI (by omega) (by omega)] at h
    unfold tmr
    rw [if_pos (Or.inl h)]
    exact ⟨rfl, rfl⟩
  · rw [nI_ltI (by omega) (by omega)] at h
    refine ⟨rfl, (c_sameLine (t := true) hb hR hW hm hr hr).fr [2, 3] rfl (by decide) rfl ?_⟩
    cases h3 : sameL (lnD D W m) W r r true with
    | false =>
      refine ⟨fun z => absurd rfl z, fun _ => ?_⟩
      unfold tmr
      rw [if_pos (Or.inr h3)]
      exact ⟨rfl, rfl⟩
    | true =>
      refine ⟨fun _ => ?_, fun (z : ¬ ¬ nI 1 = 0) => absurd (by decide) z⟩
      refine ⟨by decide, ?_⟩
      have hc := c_tellRuns (g := g) (n := (W + 1) / 2) (x := x) hb hR hW hm hr (by omega) hx
      rw [← e] at hc
      refine ⟨rfl, hc.use ?_⟩
      unfold tmr
      rw [if_neg (by rw [h3]; simp; omega)]
      exact ⟨rfl, rfl⟩
def ttm (l : Nat → Int32) (W p : Nat) (x : Nat × (Nat → Int32)) : Option Nat × (Nat × (Nat → Int32)) := if p < 1 ∨ W ≤ p then (none, x) else (some (trI l p (x.1 + 1, upd x.2 x.1 (nI (W / p))) p).2.1, (trI l p (x.1 + 1, upd x.2 x.1 (nI (W / p))) p).2)
theorem c_tellTimes {r p : Nat} {x : Nat × (Nat → Int32)} (hb : Hd b D R W) (hR : R ≤ 12) (hW : W ≤ 16) (hm : m ≤ 1) (hr : r < R) (hx : x.1 ≤ 1) (hp : p ≤ 16) : Dt g mX8_tellTimes [vr 0, vr 2, vi (nI r), vi (nI p)] (teW x R W m b) (some (vi (oI (ttm (lnD D W m r) W p x).1))) (teW (ttm (lnD D W m r) W p x).2 R W m b) := by
  refine Ev_of omX8_tellTimes.1 (Nat.le_of_ble_eq_true rfl) ?_
  refine Z_go kX8_tellTimes okX8 [] 80 ?_
  refine ⟨fun (h : nI p < nI 1) => ?_, fun (h : ¬ nI p < nI 1) => ⟨fun (h2 : nI p < nI W) => ?_, fun (h2 : ¬ nI p < nI W) => ?_⟩⟩
  · rw [nI_ltI (by omega) (by omega)] at h
    unfold ttm
    rw [if_pos (Or.inl h)]
    exact ⟨rfl, rfl⟩
  · rw [nI_ltI (by omega) (by omega)] at h h2
    have e : nI W / nI p = nI (W / p) := pk_div (by omega) (by omega) (by omega)
    refine ⟨nI_ne0 (by omega) (by omega), rfl, c_tputE _ (by omega) ?_⟩
    rw [e]
    refine ⟨rfl, (c_tellRuns (n := p) (x := (x.1 + 1, upd x.2 x.1 (nI (W / p)))) hb hR hW hm hr (by omega) (by show x.1 + 1 ≤ 2; omega)).use ?_⟩
    unfold ttm
    rw [if_neg (by omega)]
    exact ⟨rfl, rfl⟩
  · rw [nI_ltI (by omega) (by omega)] at h2
    unfold ttm
    rw [if_pos (Or.inr (by omega))]
    exact ⟨rfl, rfl⟩
/-- what tellBy answers and tells -/
def tbS (L : Nat → Nat → Int32) (W r f : Nat) (tl : Nat → Int32) : Option Nat × (Nat × (Nat → Int32)) := match f with
  | 0 => tlk (likeL L W r r false) (1, upd tl 0 (nI 0))
  | 1 => tlk (likeL L W r r true) (1, upd tl 0 (nI 1))
  | 2 => tmr L W r (1, upd tl 0 (nI 2))
  | 3 => ttm (L r) W (partL (L r) W) (1, upd tl 0 (nI 3))
  | k + 4 => (some (trI (L r) W (1, upd tl 0 (nI (k + 4))) W).2.1, (trI (L r) W (1, upd tl 0 (nI (k + 4))) W).2)
theorem partL_le {l : Nat → Int32} (hW : 1 ≤ W) : 1 ≤ partL l W ∧ partL l W ≤ W := by
  unfold partL
  cases h : fs1 (ptp l W) 1 (W - 1) with
  | none => exact ⟨hW, Nat.le_refl _⟩
  | some p => have := fs1_some _ _ _ h; exact ⟨this.1, by show p ≤ W; omega⟩
theorem c_tellBy {r f : Nat} {x : Nat × (Nat → Int32)} (hb : Hd b D R W) (hR : R ≤ 12) (hW : W ≤ 16) (hW1 : 1 ≤ W) (hm : m ≤ 1) (hr : r < R) (hf : f ≤ 4) : Dt g mX8_tellBy [vr 0, vr 2, vi (nI r), vi (nI f)] (teW x R W m b) (some (vi (oI (tbS (lnD D W m) W r f x.2).1))) (teW (tbS (lnD D W m) W r f x.2).2 R W m b) := by
  have h0 : f = 0 ∨ f = 1 ∨ f = 2 ∨ f = 3 ∨ f = 4 := by omega
  have hk : ∀ t j, likeL (lnD D W m) W r r t = some j → j < 2 ^ 31 := fun t j h => by have := likeL_lt h; omega
  refine Ev_of omX8_tellBy.1 (Nat.le_of_ble_eq_true rfl) ?_
  refine Z_go kX8_tellBy okX8 [] 80 ?_
  refine ⟨rfl, c_tputE (ln := 0) _ (by omega) ?_⟩
  rcases h0 with rfl | rfl | rfl | rfl | rfl
  · refine ⟨fun _ => ?_, fun z => absurd rfl z⟩
    refine ⟨rfl, (c_likeAhead (t := false) hb hR hW hm hr).fr [2, 3] rfl (by decide) rfl ?_⟩
    refine ⟨rfl, (c_tellLike (x := (1, upd x.2 0 (nI 0))) (Nat.le_of_ble_eq_true rfl) (hk false)).use ?_⟩
    exact ⟨rfl, rfl⟩
  · refine ⟨fun z => absurd z (by decide), fun _ => ⟨fun _ => ?_, fun z => absurd rfl z⟩⟩
    refine ⟨rfl, (c_likeAhead (t := true) hb hR hW hm hr).fr [2, 3] rfl (by decide) rfl ?_⟩
    refine ⟨rfl, (c_tellLike (x := (1, upd x.2 0 (nI 1))) (Nat.le_of_ble_eq_true rfl) (hk true)).use ?_⟩
    exact ⟨rfl, rfl⟩
  · refine ⟨fun z => absurd z (by decide), fun _ => ⟨fun z => absurd z (by decide), fun _ => ⟨fun _ => ?_, fun z => absurd rfl z⟩⟩⟩
    refine ⟨rfl, (c_tellMirror (x := (1, upd x.2 0 (nI 2))) hb hR hW hm hr (Nat.le_of_ble_eq_true rfl)).use ?_⟩
    exact ⟨rfl, rfl⟩
  · refine ⟨fun z => absurd z (by decide), fun _ => ⟨fun z => absurd z (by decide), fun _ => ⟨fun z => absurd z (by decide), fun _ => ⟨fun _ => ?_, fun z => absurd rfl z⟩⟩⟩⟩
    refine ⟨rfl, (c_partOf hb hR hW hm hr hW1).fr [2, 3] rfl (by decide) rfl ?_⟩
    have hp := partL_le (l := lnD D W m r) hW1
    refine ⟨rfl, (c_tellTimes (x := (1, upd x.2 0 (nI 3))) (p := partL (lnD D W m r) W) hb hR hW hm hr (Nat.le_of_ble_eq_true rfl) (by omega)).use ?_⟩
    exact ⟨rfl, rfl⟩
  · refine ⟨fun z => absurd z (by decide), fun _ => ⟨fun z => absurd z (by decide), fun _ => ⟨fun z => absurd z (by decide), fun _ => ⟨fun z => absurd z (by decide), fun _ => ?_⟩⟩⟩⟩
    refine ⟨rfl, (c_tellRuns (n := W) (x := (1, upd x.2 0 (nI 4))) hb hR hW hm hr (Nat.le_refl _) (Nat.le_of_ble_eq_true rfl)).use ?_⟩
    exact ⟨rfl, rfl⟩
/-- how many words by a form -/
def wrdN (L : Nat → Nat → Int32) (W r f : Nat) : Option Nat := match f with
  | 0 => if (likeL L W r r false).isNone then none else some 2
  | 1 => if (likeL L W r r true).isNone then none else some 2
  | 2 => if W < 2 ∨ sameL L W r r true = false then none else some (1 + 2 * runsL (L r) ((W + 1) / 2))
  | 3 => if partL (L r) W = W then none else some (2 + 2 * runsL (L r) (partL (L r) W))
  | _ => some (1 + 2 * runsL (L r) W)
theorem sm_end {f : Nat → Nat} : ∀ (n c : Nat), sm f c (n + 1) = sm f c n + f (c + n) := by
  intro n
  induction n with
  | zero => intro c; simp [sm]
  | succ n ih =>
    intro c
    have := ih (c + 1)
    rw [show sm f c (n + 1 + 1) = f c + sm f (c + 1) (n + 1) from rfl, this, show sm f c (n + 1) = f c + sm f (c + 1) n from rfl]
    rw [show c + 1 + n = c + (n + 1) by omega]
    omega
theorem runsL_s {l : Nat → Int32} {i : Nat} : runsL l (i + 1) = runsL l i + fl (rb l i) := by
  unfold runsL; rw [sm_end, Nat.zero_add]
/-- the words told so far, and the runs begun so far -/
theorem trI_len {l : Nat → Int32} {n : Nat} {x : Nat × (Nat → Int32)} : ∀ i, i ≤ n → (i < n → (((trI l n x i).1 = 0) ↔ rb l i = true)) ∧ (i = n → (trI l n x i).1 = 0 ∨ n = 0) ∧ (trI l n x i).2.1 + (if (trI l n x i).1 = 0 then 0 else 2) = x.1 + 2 * runsL l i := by
  intro i
  induction i with
  | zero => intro _; exact ⟨fun _ => ⟨fun _ => by simp [rb], fun _ => rfl⟩, fun h => Or.inr h.symm, by simp [trI, runsL, sm]⟩
  | succ i ih =>
    intro hi
    obtain ⟨h1, h2, h3⟩ := ih (by omega)
    have h1 := h1 (by omega)
    rw [runsL_s]
    by_cases hc : i + 1 = n ∨ ¬ l (i + 1) = l i
    · rw [trI_s1 hc]
      refine ⟨fun hlt => ?_, fun _ => Or.inl rfl, ?_⟩
      · have : ¬ l (i + 1) = l i := hc.resolve_left (by omega)
        simp [rb, this]
      · show (trI l n x i).2.1 + 1 + 1 + (if (0 : Nat) = 0 then 0 else 2) = _
        by_cases h4 : (trI l n x i).1 = 0
        · rw [if_pos h4] at h3
          rw [h1.mp h4, if_pos rfl]
          simp only [fl, if_pos]
          omega
        · rw [if_neg h4] at h3
          have : rb l i = false := by cases h5 : rb l i with
            | false => rfl
            | true => exact absurd (h1.mpr h5) h4
          rw [this, if_pos rfl]
          simp only [fl, Bool.false_eq_true, if_false]
          omega
    · rw [trI_s2 hc]
      have hc1 : ¬ i + 1 = n := fun z => hc (Or.inl z)
      have hc2 : l (i + 1) = l i := Classical.byContradiction (fun z => hc (Or.inr z))
      refine ⟨fun hlt => ?_, fun z => absurd z hc1, ?_⟩
      · show (trI l n x i).1 + 1 = 0 ↔ _
        simp [rb, hc2]
      · show (trI l n x i).2.1 + (if (trI l n x i).1 + 1 = 0 then 0 else 2) = _
        rw [if_neg (by omega)]
        by_cases h4 : (trI l n x i).1 = 0
        · rw [if_pos h4] at h3
          rw [h1.mp h4]
          simp only [fl, if_pos]
          omega
        · rw [if_neg h4] at h3
          have : rb l i = false := by cases h5 : rb l i with
            | false => rfl
            | true => exact absurd (h1.mpr h5) h4
          rw [this]
          simp only [fl, Bool.false_eq_true, if_false]
          omega
theorem trI_n {l : Nat → Int32} {n : Nat} {x : Nat × (Nat → Int32)} : (trI l n x n).2.1 = x.1 + 2 * runsL l n := by
  obtain ⟨-, h2, h3⟩ := trI_len (l := l) (n := n) (x := x) n (Nat.le_refl _)
  have : (trI l n x n).1 = 0 := by
    rcases h2 rfl with h | h
    · exact h
    · subst h; rfl
  rw [if_pos this] at h3
  exact h3
theorem tbS_n {L : Nat → Nat → Int32} {r f : Nat} {tl : Nat → Int32} (hW1 : 1 ≤ W) : (tbS L W r f tl).1 = wrdN L W r f := by
  match f with
  | 0 => unfold tbS wrdN; cases likeL L W r r false <;> simp [tlk]
  | 1 => unfold tbS wrdN; cases likeL L W r r true <;> simp [tlk]
  | 2 =>
    unfold tbS wrdN tmr
    by_cases h : W < 2 ∨ sameL L W r r true = false
    · simp only [if_pos h]
    · simp only [if_neg h, trI_n]
  | 3 =>
    have hp := partL_le (l := L r) hW1
    unfold tbS wrdN ttm
    by_cases h : partL (L r) W = W
    · simp only [if_pos h]; rw [if_pos (by omega)]
    · simp only [if_neg h]; rw [if_neg (by omega)]; simp only [trI_n]
  | k + 4 => unfold tbS wrdN; simp only [trI_n]
/-- one form against the best so far -/
def bst (w : Nat → Option Nat) (best f : Nat) : Nat := if (w f).isSome ∧ (w f).getD 0 ≤ (w best).getD 0 then f else best
def frmL (L : Nat → Nat → Int32) (W r : Nat) : Nat := bst (wrdN L W r) (bst (wrdN L W r) (bst (wrdN L W r) (bst (wrdN L W r) 4 3) 2) 1) 0
theorem runsL_le {l : Nat → Int32} {n : Nat} : runsL l n ≤ n := by
  have := sm_le (f := fun i => fl (rb l i)) (k := 1) n 0 (fun i _ _ => fl_le _)
  unfold runsL; omega
theorem wrdN_le {L : Nat → Nat → Int32} {r f k : Nat} (hW : W ≤ 16) (hW1 : 1 ≤ W) (h : wrdN L W r f = some k) : k ≤ 34 := by
  have hp := partL_le (l := L r) hW1
  have h1 := runsL_le (l := L r) (n := (W + 1) / 2)
  have h2 := runsL_le (l := L r) (n := partL (L r) W)
  have h3 := runsL_le (l := L r) (n := W)
  match f with
  | 0 => simp only [wrdN] at h; split at h <;> simp at h; omega
  | 1 => simp only [wrdN] at h; split at h <;> simp at h; omega
  | 2 => simp only [wrdN] at h; split at h <;> simp at h; omega
  | 3 => simp only [wrdN] at h; split at h <;> simp at h; omega
  | k + 4 => simp only [wrdN] at h; simp at h; omega
theorem bst_le {w : Nat → Option Nat} {a f : Nat} (ha : a ≤ 4) (hf : f ≤ 4) : bst w a f ≤ 4 := by unfold bst; split <;> omega
theorem bst_some {w : Nat → Option Nat} {a f : Nat} (ha : (w a).isSome) : (w (bst w a f)).isSome := by
  unfold bst; split
  · rename_i h; exact h.1
  · exact ha
theorem tellBest_step {r f best : Nat} {x : Nat × (Nat → Int32)} {v : Option AV} {Q : Option AV → AH → Prop} (hb : Hd b D R W) (hR : R ≤ 12) (hW : W ≤ 16) (hW1 : 1 ≤ W) (hm : m ≤ 1) (hr : r < R) (hf : f ≤ 3) (hbest : best ≤ 4) (hsome : (wrdN (lnD D W m) W r best).isSome)
    (k : ∀ v', Z g mX8_tellBest 4 Q 14 [some (vr 0), some (vr 2), some (vi (nI r)), some (vi (nI (bst (wrdN (lnD D W m) W r) best f))), some (vi (nI ((wrdN (lnD D W m) W r (bst (wrdN (lnD D W m) W r) best f)).getD 0))), some (vi (nI f + -nI 1)), v'] [] (teW (tbS (lnD D W m) W r f x.2).2 R W m b)) :
    Z g mX8_tellBest 4 Q 14 [some (vr 0), some (vr 2), some (vi (nI r)), some (vi (nI best)), some (vi (nI ((wrdN (lnD D W m) W r best).getD 0))), some (vi (nI f)), v] [] (teW x R W m b) := by
  have hle : ∀ q j, wrdN (lnD D W m) W r q = some j → j ≤ 34 := fun q j h => wrdN_le hW hW1 h
  have hn := oI_none (o := wrdN (lnD D W m) W r f) (fun j h => by have := hle f j h; omega)
  obtain ⟨jb, hjb⟩ := Option.isSome_iff_exists.mp hsome
  have hjb34 := hle _ _ hjb
  have k := k (some (vi (oI (wrdN (lnD D W m) W r f))))
  refine Z_go kX8_tellBest okX8 [14] 80 ?_
  refine ⟨fun (h : nI f < 0) => absurd h (nI_pos (by omega)), fun _ => ?_⟩
  refine ⟨rfl, (c_tellBy hb hR hW hW1 hm hr (by omega)).use ?_⟩
  rw [tbS_n hW1]
  refine ⟨fun (h : oI (wrdN (lnD D W m) W r f) = -nI 4) => ?_, fun (h : ¬ oI (wrdN (lnD D W m) W r f) = -nI 4) => ?_⟩
  · rw [hn] at h
    have e : bst (wrdN (lnD D W m) W r) best f = best := by unfold bst; rw [if_neg (by simp [h])]
    rw [e] at k
    exact k
  · rw [hn] at h
    obtain ⟨j, hj⟩ := Option.ne_none_iff_exists'.mp h
    have hj34 := hle _ _ hj
    rw [hj] at k ⊢
    rw [hjb]
    refine ⟨fun (h2 : nI jb < nI j) => ?_, fun (h2 : ¬ nI jb < nI j) => ?_⟩
    · rw [nI_ltI (by omega) (by omega)] at h2
      have e : bst (wrdN (lnD D W m) W r) best f = best := by unfold bst; rw [if_neg (by rw [hj, hjb]; simp; omega)]
      rw [e, hjb] at k
      exact k
    · rw [nI_ltI (by omega) (by omega)] at h2
      have e : bst (wrdN (lnD D W m) W r) best f = f := by unfold bst; rw [if_pos (by rw [hj, hjb]; simp; omega)]
      rw [e, hj] at k
      exact k
theorem c_tellBest {r : Nat} {x : Nat × (Nat → Int32)} (hb : Hd b D R W) (hR : R ≤ 12) (hW : W ≤ 16) (hW1 : 1 ≤ W) (hm : m ≤ 1) (hr : r < R) : ∃ tl, Dt g mX8_tellBest [vr 0, vr 2, vi (nI r)] (teW x R W m b) (some (vi (oI (wrdN (lnD D W m) W r (frmL (lnD D W m) W r))))) (teW (tbS (lnD D W m) W r (frmL (lnD D W m) W r) tl).2 R W m b) := by
  generalize hL : lnD D W m = L
  refine ⟨(tbS L W r 0 (tbS L W r 1 (tbS L W r 2 (tbS L W r 3 (tbS L W r 4 x.2).2.2).2.2).2.2).2.2).2.2, ?_⟩
  subst hL
  have s4 : (wrdN (lnD D W m) W r 4).isSome := rfl
  have e1 : nI 3 + -nI 1 = nI 2 := by decide +kernel
  have e2 : nI 2 + -nI 1 = nI 1 := by decide +kernel
  have e3 : nI 1 + -nI 1 = nI 0 := by decide +kernel
  have l3 : bst (wrdN (lnD D W m) W r) 4 3 ≤ 4 := bst_le (by omega) (by omega)
  have l2 := bst_le (w := wrdN (lnD D W m) W r) (f := 2) l3 (by omega)
  have l1 := bst_le (w := wrdN (lnD D W m) W r) (f := 1) l2 (by omega)
  have l0 := bst_le (w := wrdN (lnD D W m) W r) (f := 0) l1 (by omega)
  have t3 := bst_some (f := 3) s4
  have t2 := bst_some (f := 2) t3
  have t1 := bst_some (f := 1) t2
  refine Ev_of omX8_tellBest.1 (Nat.le_of_ble_eq_true rfl) ?_
  refine Z_go kX8_tellBest okX8 [14] 80 ?_
  refine ⟨rfl, (c_tellBy (f := 4) hb hR hW hW1 hm hr (by omega)).use ?_⟩
  rw [tbS_n hW1]
  refine tellBest_step (x := (tbS (lnD D W m) W r 4 x.2).2) (f := 3) (best := 4) hb hR hW hW1 hm hr (by omega) (by omega) s4 (fun v3 => ?_)
  rw [e1]
  refine tellBest_step (f := 2) hb hR hW hW1 hm hr (by omega) l3 t3 (fun v2 => ?_)
  rw [e2]
  refine tellBest_step (f := 1) hb hR hW hW1 hm hr (by omega) l2 t2 (fun v1 => ?_)
  rw [e3]
  refine tellBest_step (f := 0) hb hR hW hW1 hm hr (by omega) l1 t1 (fun v0 => ?_)
  refine Z_go kX8_tellBest okX8 [] 80 ?_
  refine ⟨fun _ => ?_, fun h => absurd (show nI 0 + -nI 1 < 0 by decide +kernel) h⟩
  refine ⟨rfl, (c_tellBy hb hR hW hW1 hm hr l0).use ?_⟩
  rw [tbS_n hW1]
  exact ⟨rfl, rfl⟩
end TEL
