/-! the reference: parts, forms, words -/
/-- beads of the q-th run, among the first k; its colour -/
def cnt (l : Nat → Int32) (q k : Nat) : Nat := sm (fun j => fl (decide (runsL l (j + 1) = q + 1))) 0 k
def col (l : Nat → Int32) (q : Nat) : Nat → Int32
  | 0 => nI 0
  | k + 1 => if runsL l (k + 1) = q + 1 then l k else col l q k
theorem cnt_s {l : Nat → Int32} {q k : Nat} : cnt l q (k + 1) = cnt l q k + fl (decide (runsL l (k + 1) = q + 1)) := by
  unfold cnt; rw [sm_end, Nat.zero_add]
theorem runsL_mono {l : Nat → Int32} {i : Nat} : runsL l i ≤ runsL l (i + 1) := by rw [runsL_s]; omega
theorem runsL_1 {l : Nat → Int32} : ∀ i, 1 ≤ runsL l (i + 1) := by
  intro i
  induction i with
  | zero => simp [runsL, sm, rb, fl]
  | succ i ih => have := runsL_mono (l := l) (i := i + 1); omega
theorem cnt_0 {l : Nat → Int32} {q : Nat} : ∀ k, runsL l k ≤ q → cnt l q k = 0 := by
  intro k
  induction k with
  | zero => intro _; rfl
  | succ k ih =>
    intro h
    have := runsL_mono (l := l) (i := k)
    rw [cnt_s, ih (by omega), decide_eq_false (by omega)]
    rfl
theorem trI_word {l : Nat → Int32} {n : Nat} {x : Nat × (Nat → Int32)} : ∀ i, i ≤ n →
    (∀ q, x.1 + 2 * q + 1 < (trI l n x i).2.1 → (trI l n x i).2.2 (x.1 + 2 * q) = nI (cnt l q i) ∧ (trI l n x i).2.2 (x.1 + 2 * q + 1) = col l q i) ∧ (¬ (trI l n x i).1 = 0 → 1 ≤ runsL l i ∧ cnt l (runsL l i - 1) i = (trI l n x i).1) := by
  intro i
  induction i with
  | zero => intro _; exact ⟨fun q h => by simp only [trI] at h; omega, fun h => absurd rfl h⟩
  | succ i ih =>
    intro hi
    obtain ⟨h1, h2⟩ := ih (by omega)
    obtain ⟨k1, -, k3⟩ := trI_len (l := l) (n := n) (x := x) i (by omega)
    have k1 := k1 (by omega)
    have hs := runsL_s (l := l) (i := i)
    have h1i := runsL_1 (l := l) i
    -- the run that bead i belongs to
    have key : cnt l (runsL l (i + 1) - 1) (i + 1) = (trI l n x i).1 + 1 ∧ (trI l n x i).2.1 = x.1 + 2 * (runsL l (i + 1) - 1) := by
      rw [cnt_s, decide_eq_true (show runsL l (i + 1) = runsL l (i + 1) - 1 + 1 by omega)]
      by_cases h4 : (trI l n x i).1 = 0
      · rw [if_pos h4] at k3
        rw [k1.mp h4] at hs
        simp only [fl, if_pos] at hs ⊢
        refine ⟨?_, by omega⟩
        rw [cnt_0 i (by omega), h4]
      · rw [if_neg h4] at k3
        have h5 : rb l i = false := by cases h5 : rb l i with
          | false => rfl
          | true => exact absurd (k1.mpr h5) h4
        rw [h5] at hs
        simp only [fl, Bool.false_eq_true, if_false, Nat.add_zero] at hs
        obtain ⟨g1, g2⟩ := h2 h4
        rw [hs]
        refine ⟨?_, by omega⟩
        rw [g2]; rfl
    have old : ∀ q, x.1 + 2 * q + 1 < (trI l n x i).2.1 → cnt l q (i + 1) = cnt l q i ∧ col l q (i + 1) = col l q i := by
      intro q hq
      have hne : ¬ runsL l (i + 1) = q + 1 := by omega
      refine ⟨?_, ?_⟩
      · rw [cnt_s, decide_eq_false hne]; rfl
      · show (if runsL l (i + 1) = q + 1 then l i else col l q i) = _
        rw [if_neg hne]
    by_cases hc : i + 1 = n ∨ ¬ l (i + 1) = l i
    · rw [trI_s1 hc]
      dsimp only
      refine ⟨fun q hq => ?_, fun h => absurd rfl h⟩
      by_cases e : x.1 + 2 * q = (trI l n x i).2.1
      · have eq : runsL l (i + 1) = q + 1 := by omega
        rw [e, updN (by omega), updS, updS]
        refine ⟨?_, ?_⟩
        · rw [← key.1, eq]; rfl
        · show _ = if runsL l (i + 1) = q + 1 then l i else col l q i
          rw [if_pos eq]
      · have hlt : x.1 + 2 * q + 1 < (trI l n x i).2.1 := by omega
        rw [updN (by omega), updN (by omega), updN (by omega), updN (by omega), (old q hlt).1, (old q hlt).2]
        exact h1 q hlt
    · rw [trI_s2 hc]
      dsimp only
      refine ⟨fun q hq => ?_, fun _ => ⟨h1i, key.1⟩⟩
      rw [(old q hq).1, (old q hq).2]
      exact h1 q hq
theorem trI_at {l : Nat → Int32} {n : Nat} {x : Nat × (Nat → Int32)} {t : Nat} (h : t < 2 * runsL l n) : (trI l n x n).2.2 (x.1 + t) = if t % 2 = 0 then nI (cnt l (t / 2) n) else col l (t / 2) n := by
  have h1 := (trI_word (l := l) (n := n) (x := x) n (Nat.le_refl _)).1 (t / 2) (by rw [trI_n]; omega)
  by_cases e : t % 2 = 0
  · rw [if_pos e, ← h1.1, show x.1 + 2 * (t / 2) = x.1 + t by omega]
  · rw [if_neg e, ← h1.2, show x.1 + 2 * (t / 2) + 1 = x.1 + t by omega]
section MOD
variable {g : GG} {a : Nat → Nat → Int32} {f : Nat → Int32} {R W m : Nat} {D : Nat → Nat → Int32}
theorem partIn (hs : HM (a 1) R W m D) (hR : R ≤ 12) (hW : W ≤ 16) (hm : m ≤ 1) {r p : Nat} (hr : r < R) {Q : Option AV → AH → Prop} : ∀ (n c : Nat) (b : Bool), c + n = W → p ≤ c →
    Z g mX10_partOf 11 Q 78 [some (vr 0), some (vi (nI r)), some (vi (nI p)), some (vi (nI (fl (b && al (agL (lnD D W m r) p) c n)))), some (vi (nI W))] [] (mW a f) →
    Z g mX10_partOf 11 Q 32 [some (vr 0), some (vi (nI r)), some (vi (nI p)), some (vi (nI (fl b))), some (vi (nI c))] [] (mW a f) := by
  intro n
  induction n with
  | zero =>
    intro c b h1 h2 hQ
    simp only [al, Bool.and_true] at hQ
    refine Z_go kX10_partOf okX10 [2, 32, 78] 80 ?_
    refine ⟨vin (by omega) (by omega), ?_⟩
    rw [show (nI 1).toNatClampNeg = 1 from rfl, hs.2.1 (by omega)]
    refine ⟨fun _ => ?_, fun (h : ¬ nI W ≤ nI c) => absurd (nI_le (by omega) (by omega)) h⟩
    rw [show nI c = nI W by rw [show c = W by omega]]
    exact hQ
  | succ n ih =>
    intro c b h1 h2 hQ
    simp only [al] at hQ
    have go : ∀ b' : Bool, (b && (agL (lnD D W m r) p c)) = b' → Z g mX10_partOf 11 Q 71 [some (vr 0), some (vi (nI r)), some (vi (nI p)), some (vi (nI (fl b))), some (vi (nI c))] [vi (nI (fl b'))] (mW a f) := by
      intro b' hb'
      refine Z_go kX10_partOf okX10 [32] 80 ?_
      have k := ih (c + 1) b' (by omega) (by omega) (by rw [← hb', Bool.and_assoc]; exact hQ)
      rw [nI_a1 c] at k
      exact k
    refine Z_go kX10_partOf okX10 [2, 32, 71, 78] 80 ?_
    refine ⟨vin (by omega) (by omega), ?_⟩
    rw [show (nI 1).toNatClampNeg = 1 from rfl, hs.2.1 (by omega)]
    refine ⟨fun (h : nI W ≤ nI c) => ?_, fun _ => ?_⟩
    · rw [nI_leI (by omega) (by omega)] at h; omega
    · cases b with
      | false => exact ⟨fun _ => go false rfl, fun z => absurd rfl z⟩
      | true =>
        refine ⟨fun z => (z1 z).elim, fun _ => ?_⟩
        refine ⟨rfl, (m_lineOf hs hR hW hm hr (show c < W by omega)).use ?_⟩
        have hc := m_lineOf (g := g) (f := f) hs hR hW hm hr (show c - p < W by omega)
        rw [← pk_sub h2] at hc
        refine ⟨rfl, hc.use ?_⟩
        refine ⟨fun (h3 : ¬ lnD D W m r c = lnD D W m r (c - p)) => go false (by simp [agL, h3]), fun (h3 : ¬ ¬ lnD D W m r c = lnD D W m r (c - p)) => go true (by simp [agL, Classical.not_not.mp h3])⟩
theorem partOf_loopM (hs : HM (a 1) R W m D) (hR : R ≤ 12) (hW : W ≤ 16) (hm : m ≤ 1) {r : Nat} (hr : r < R) {Q : Option AV → AH → Prop} : ∀ (n c : Nat) (v3 v4 : Option AV), c + n = W → 1 ≤ c → Q (some (vi (nI ((fs1 (ptp (lnD D W m r) W) c n).getD W)))) (mW a f) →
    Z g mX10_partOf 11 Q 2 [some (vr 0), some (vi (nI r)), some (vi (nI c)), v3, v4] [] (mW a f) := by
  intro n
  induction n with
  | zero =>
    intro c v3 v4 h1 h2 hQ
    refine Z_go kX10_partOf okX10 [2] 80 ?_
    refine ⟨vin (by omega) (by omega), ?_⟩
    rw [show (nI 1).toNatClampNeg = 1 from rfl, hs.2.1 (by omega)]
    refine ⟨fun _ => ?_, fun (h : ¬ nI W ≤ nI c) => absurd (nI_le (by omega) (by omega)) h⟩
    refine ⟨vin (by omega) (by omega), ?_⟩
    rw [show (nI 1).toNatClampNeg = 1 from rfl, hs.2.1 (by omega)]
    exact hQ
  | succ n ih =>
    intro c v3 v4 h1 h2 hQ
    have e : nI W - nI W / nI c * nI c = nI (W % c) := pk_rem (by omega) (by omega) (by omega)
    have hlt : W % c < c := Nat.mod_lt _ (by omega)
    have go : ∀ b : Bool, decide (W % c = 0) = b → Z g mX10_partOf 11 Q 28 [some (vr 0), some (vi (nI r)), some (vi (nI c)), v3, v4] [vi (nI (fl b))] (mW a f) := by
      intro b hb
      refine Z_go kX10_partOf okX10 [32] 80 ?_
      refine partIn hs hR hW hm hr (W - c) c b (by omega) (Nat.le_refl _) ?_
      simp only [fs1, ptp, hb] at hQ
      refine Z_go kX10_partOf okX10 [2] 80 ?_
      cases h4 : (b && al (agL (lnD D W m r) c) c (W - c)) with
      | false =>
        rw [h4] at hQ
        refine ⟨fun _ => ?_, fun z => absurd rfl z⟩
        have k := ih (c + 1) (some (vi (nI (fl false)))) (some (vi (nI W))) (by omega) (by omega) hQ
        rw [nI_a1 c] at k
        exact k
      | true =>
        rw [h4] at hQ
        exact ⟨fun z => (z1 z).elim, fun _ => hQ⟩
    refine Z_go kX10_partOf okX10 [2, 28] 80 ?_
    refine ⟨vin (by omega) (by omega), ?_⟩
    rw [show (nI 1).toNatClampNeg = 1 from rfl, hs.2.1 (by omega)]
    refine ⟨fun (h : nI W ≤ nI c) => ?_, fun _ => ?_⟩
    · rw [nI_leI (by omega) (by omega)] at h; omega
    · refine ⟨vin (by omega) (by omega), ?_⟩
      rw [show (nI 1).toNatClampNeg = 1 from rfl, hs.2.1 (by omega)]
      refine ⟨nI_ne0 (by omega) (by omega), fun (h3 : ¬ nI W - nI W / nI c * nI c = nI 0) => ?_, fun (h3 : ¬ ¬ nI W - nI W / nI c * nI c = nI 0) => ?_⟩
      · rw [e, nI_eq (by omega) (by omega)] at h3
        exact go false (decide_eq_false h3)
      · rw [e, nI_eq (by omega) (by omega)] at h3
        exact go true (decide_eq_true (Classical.not_not.mp h3))
theorem m_partOf (hs : HM (a 1) R W m D) (hR : R ≤ 12) (hW : W ≤ 16) (hm : m ≤ 1) {r : Nat} (hr : r < R) (hW1 : 1 ≤ W) : Dt g mX10_partOf [vr 0, vi (nI r)] (mW a f) (some (vi (nI (partL (lnD D W m r) W)))) (mW a f) := by
  refine Ev_of omX10_partOf.1 (Nat.le_of_ble_eq_true rfl) ?_
  refine Z_go kX10_partOf okX10 [2] 80 ?_
  exact partOf_loopM hs hR hW hm hr (W - 1) 1 none none (by omega) (by omega) ⟨rfl, rfl⟩
theorem m_wordsBy (hs : HM (a 1) R W m D) (hR : R ≤ 12) (hW : W ≤ 16) (hm : m ≤ 1) {r q : Nat} (hr : r < R) (hW1 : 1 ≤ W) (hq : q ≤ 4) : Dt g mX10_wordsBy [vr 0, vi (nI r), vi (nI q)] (mW a f) (some (vi (oI (wrdN (lnD D W m) W r q)))) (mW a f) := by
  have h0 : q = 0 ∨ q = 1 ∨ q = 2 ∨ q = 3 ∨ q = 4 := by omega
  have hn := fun t => oI_none (o := likeL (lnD D W m) W r r t) (fun k h => by have := likeL_lt h; omega)
  have e12 : ∀ k c : Nat, nI k + nI 2 * nI c = nI (k + 2 * c) := fun k c => by rw [pk_mul, nI_add]
  have hp := partL_le (l := lnD D W m r) hW1
  refine Ev_of omX10_wordsBy.1 (Nat.le_of_ble_eq_true rfl) ?_
  refine Z_go kX10_wordsBy okX10 [] 80 ?_
  rcases h0 with rfl | rfl | rfl | rfl | rfl
  · refine ⟨fun _ => ?_, fun z => absurd rfl z⟩
    refine ⟨rfl, (m_likeOf (t := false) hs hR hW hm hr (by omega)).use ?_⟩
    refine ⟨fun (h : ¬ oI (likeL (lnD D W m) W r r false) = -nI 4) => ⟨?_, rfl⟩, fun (h : ¬ ¬ oI (likeL (lnD D W m) W r r false) = -nI 4) => ⟨?_, rfl⟩⟩
    · rw [hn] at h
      simp only [wrdN]
      rw [if_neg (by simpa using h)]; rfl
    · rw [hn] at h
      simp only [wrdN]
      rw [if_pos (by simpa using h)]; rfl
  · refine ⟨fun z => absurd z (by decide), fun _ => ⟨fun _ => ?_, fun z => absurd rfl z⟩⟩
    refine ⟨rfl, (m_likeOf (t := true) hs hR hW hm hr (by omega)).use ?_⟩
    refine ⟨fun (h : ¬ oI (likeL (lnD D W m) W r r true) = -nI 4) => ⟨?_, rfl⟩, fun (h : ¬ ¬ oI (likeL (lnD D W m) W r r true) = -nI 4) => ⟨?_, rfl⟩⟩
    · rw [hn] at h
      simp only [wrdN]
      rw [if_neg (by simpa using h)]; rfl
    · rw [hn] at h
      simp only [wrdN]
      rw [if_pos (by simpa using h)]; rfl
  · refine ⟨fun z => absurd z (by decide), fun _ => ⟨fun z => absurd z (by decide), fun _ => ⟨fun _ => ?_, fun z => absurd rfl z⟩⟩⟩
    refine ⟨vin (by omega) (by omega), ?_⟩
    rw [show (nI 1).toNatClampNeg = 1 from rfl, hs.2.1 (by omega)]
    simp only [wrdN]
    refine ⟨fun (h : nI W < nI 2) => ⟨?_, rfl⟩, fun (h : ¬ nI W < nI 2) => ?_⟩
    · rw [nI_ltI (by omega) (by omega)] at h
      rw [if_pos (Or.inl h)]; rfl
    · rw [nI_ltI (by omega) (by omega)] at h
      refine ⟨rfl, (m_isSame (t := true) hs hR hW hm hr hr).use ?_⟩
      cases h2 : sameL (lnD D W m) W r r true with
      | false => exact ⟨fun z => absurd rfl z, fun _ => ⟨by rw [if_pos (Or.inr rfl)]; rfl, rfl⟩⟩
      | true =>
        refine ⟨fun _ => ?_, fun z => (z z1).elim⟩
        refine ⟨vin (by omega) (by omega), ?_⟩
        rw [show (nI 1).toNatClampNeg = 1 from rfl, hs.2.1 (by omega)]
        refine ⟨by decide, ?_⟩
        have e : (nI W + nI 1) / nI 2 = nI ((W + 1) / 2) := by rw [nI_add, pk_div (by omega) (by omega) (by omega)]
        have hc := m_runsOf (g := g) (f := f) hs hR hW hm hr (show (W + 1) / 2 ≤ W by omega)
        rw [← e] at hc
        refine ⟨rfl, hc.use ⟨?_, rfl⟩⟩
        rw [e12, if_neg (by simp; omega)]; rfl
  · refine ⟨fun z => absurd z (by decide), fun _ => ⟨fun z => absurd z (by decide), fun _ => ⟨fun z => absurd z (by decide), fun _ => ⟨fun _ => ?_, fun z => absurd rfl z⟩⟩⟩⟩
    simp only [wrdN]
    refine ⟨rfl, (m_partOf hs hR hW hm hr hW1).use ?_⟩
    refine ⟨vin (by omega) (by omega), ?_⟩
    rw [show (nI 1).toNatClampNeg = 1 from rfl, hs.2.1 (by omega)]
    refine ⟨fun (h : ¬ nI (partL (lnD D W m r) W) = nI W) => ?_, fun (h : ¬ ¬ nI (partL (lnD D W m r) W) = nI W) => ⟨?_, rfl⟩⟩
    · rw [nI_eq (by omega) (by omega)] at h
      refine ⟨rfl, (m_partOf hs hR hW hm hr hW1).use ?_⟩
      refine ⟨rfl, (m_runsOf hs hR hW hm hr hp.2).use ⟨?_, rfl⟩⟩
      rw [e12, if_neg h]; rfl
    · rw [nI_eq (by omega) (by omega)] at h
      rw [if_pos (Classical.not_not.mp h)]; rfl
  · refine ⟨fun z => absurd z (by decide), fun _ => ⟨fun z => absurd z (by decide), fun _ => ⟨fun z => absurd z (by decide), fun _ => ⟨fun z => absurd z (by decide), fun _ => ?_⟩⟩⟩⟩
    refine ⟨vin (by omega) (by omega), ?_⟩
    rw [show (nI 1).toNatClampNeg = 1 from rfl, hs.2.1 (by omega)]
    refine ⟨rfl, (m_runsOf hs hR hW hm hr (Nat.le_refl _)).use ⟨?_, rfl⟩⟩
    rw [e12]; rfl
theorem formOf_step (hs : HM (a 1) R W m D) (hR : R ≤ 12) (hW : W ≤ 16) (hm : m ≤ 1) {r q best : Nat} {v : Option AV} {Q : Option AV → AH → Prop} (hr : r < R) (hW1 : 1 ≤ W) (hq : q ≤ 3) (hbest : best ≤ 4) (hsome : (wrdN (lnD D W m) W r best).isSome)
    (k : ∀ v', Z g mX10_formOf 11 Q 4 [some (vr 0), some (vi (nI r)), some (vi (nI (bst (wrdN (lnD D W m) W r) best q))), some (vi (nI q + -nI 1)), v'] [] (mW a f)) :
    Z g mX10_formOf 11 Q 4 [some (vr 0), some (vi (nI r)), some (vi (nI best)), some (vi (nI q)), v] [] (mW a f) := by
  have hle : ∀ q j, wrdN (lnD D W m) W r q = some j → j ≤ 34 := fun q j h => wrdN_le hW hW1 h
  have hn := oI_none (o := wrdN (lnD D W m) W r q) (fun j h => by have := hle q j h; omega)
  obtain ⟨jb, hjb⟩ := Option.isSome_iff_exists.mp hsome
  have hjb34 := hle _ _ hjb
  have k := k (some (vi (oI (wrdN (lnD D W m) W r q))))
  refine Z_go kX10_formOf okX10 [4] 80 ?_
  refine ⟨fun (h : nI q < 0) => absurd h (nI_pos (by omega)), fun _ => ?_⟩
  refine ⟨rfl, (m_wordsBy hs hR hW hm hr hW1 (by omega)).use ?_⟩
  refine ⟨fun (h : oI (wrdN (lnD D W m) W r q) = -nI 4) => ?_, fun (h : ¬ oI (wrdN (lnD D W m) W r q) = -nI 4) => ?_⟩
  · rw [hn] at h
    have e : bst (wrdN (lnD D W m) W r) best q = best := by unfold bst; rw [if_neg (by simp [h])]
    rw [e] at k
    exact k
  · rw [hn] at h
    obtain ⟨j, hj⟩ := Option.ne_none_iff_exists'.mp h
    have hj34 := hle _ _ hj
    refine ⟨rfl, (m_wordsBy hs hR hW hm hr hW1 hbest).use ?_⟩
    rw [hj] at k ⊢
    rw [hjb]
    refine ⟨fun (h2 : nI jb < nI j) => ?_, fun (h2 : ¬ nI jb < nI j) => ?_⟩
    · rw [nI_ltI (by omega) (by omega)] at h2
      have e : bst (wrdN (lnD D W m) W r) best q = best := by unfold bst; rw [if_neg (by rw [hj, hjb]; simp; omega)]
      rw [e] at k
      exact k
    · rw [nI_ltI (by omega) (by omega)] at h2
      have e : bst (wrdN (lnD D W m) W r) best q = q := by unfold bst; rw [if_pos (by rw [hj, hjb]; simp; omega)]
      rw [e] at k
      exact k
theorem m_formOf (hs : HM (a 1) R W m D) (hR : R ≤ 12) (hW : W ≤ 16) (hm : m ≤ 1) {r : Nat} (hr : r < R) (hW1 : 1 ≤ W) : Dt g mX10_formOf [vr 0, vi (nI r)] (mW a f) (some (vi (nI (frmL (lnD D W m) W r)))) (mW a f) := by
  have s4 : (wrdN (lnD D W m) W r 4).isSome := rfl
  have e1 : nI 3 + -nI 1 = nI 2 := by decide +kernel
  have e2 : nI 2 + -nI 1 = nI 1 := by decide +kernel
  have e3 : nI 1 + -nI 1 = nI 0 := by decide +kernel
  have l3 : bst (wrdN (lnD D W m) W r) 4 3 ≤ 4 := bst_le (by omega) (by omega)
  have l2 := bst_le (w := wrdN (lnD D W m) W r) (f := 2) l3 (by omega)
  have l1 := bst_le (w := wrdN (lnD D W m) W r) (f := 1) l2 (by omega)
  have t3 := bst_some (f := 3) s4
  have t2 := bst_some (f := 2) t3
  have t1 := bst_some (f := 1) t2
  refine Ev_of omX10_formOf.1 (Nat.le_of_ble_eq_true rfl) ?_
  refine Z_go kX10_formOf okX10 [4] 80 ?_
  refine formOf_step hs hR hW hm (q := 3) (best := 4) hr hW1 (by omega) (by omega) s4 (fun v3 => ?_)
  rw [e1]
  refine formOf_step hs hR hW hm (q := 2) hr hW1 (by omega) l3 t3 (fun v2 => ?_)
  rw [e2]
  refine formOf_step hs hR hW hm (q := 1) hr hW1 (by omega) l2 t2 (fun v1 => ?_)
  rw [e3]
  refine formOf_step hs hR hW hm (q := 0) hr hW1 (by omega) l1 t1 (fun v0 => ?_)
  refine Z_go kX10_formOf okX10 [] 80 ?_
  refine ⟨fun _ => ?_, fun h => absurd (show nI 0 + -nI 1 < 0 by decide +kernel) h⟩
  exact ⟨rfl, rfl⟩
theorem m1_add {x b : Nat} : nI x - nI 1 + nI b = nI (x + b) - nI 1 := by
  rw [← nI_add, Int32.sub_eq_add_neg, Int32.sub_eq_add_neg, Int32.add_assoc, Int32.add_assoc, Int32.add_comm (-nI 1)]
theorem wordOf_loop (hs : HM (a 1) R W m D) (hR : R ≤ 12) (hW : W ≤ 16) (hm : m ≤ 1) {r N t : Nat} {v2 v3 : Option AV} (hr : r < R) (hN : N ≤ W) (ht : t ≤ 100) {Q : Option AV → AH → Prop} (hQ : Q (some (vi (if t % 2 = 0 then nI (cnt (lnD D W m r) (t / 2) N) else col (lnD D W m r) (t / 2) N))) (mW a f)) : ∀ (n c : Nat), c + n = N →
    Z g mX10_wordOf 11 Q 122 [some (vr 0), some (vi (nI r)), v2, v3, some (vi (nI t)), some (vi (nI N)), some (vi (nI (runsL (lnD D W m r) c) - nI 1)), some (vi (nI (cnt (lnD D W m r) (t / 2) c))), some (vi (col (lnD D W m r) (t / 2) c)), some (vi (nI c))] [] (mW a f) := by
  have et : nI t / nI 2 = nI (t / 2) := pk_div (by omega) (by omega) (by omega)
  have er : nI t - nI t / nI 2 * nI 2 = nI (t % 2) := pk_rem (by omega) (by omega) (by omega)
  intro n
  induction n with
  | zero =>
    intro c h1
    have h1 : c = N := by omega
    subst h1
    refine Z_go kX10_wordOf okX10 [122] 80 ?_
    refine ⟨fun _ => ?_, fun (h : ¬ nI c ≤ nI c) => absurd (nI_le (by omega) (by omega)) h⟩
    refine ⟨by decide, fun (h : ¬ nI t - nI t / nI 2 * nI 2 = nI 0) => ?_, fun (h : ¬ ¬ nI t - nI t / nI 2 * nI 2 = nI 0) => ?_⟩
    · rw [er, nI_eq (by omega) (by omega)] at h
      rw [if_neg h] at hQ; exact hQ
    · rw [er, nI_eq (by omega) (by omega)] at h
      rw [if_pos (Classical.not_not.mp h)] at hQ; exact hQ
  | succ n ih =>
    intro c h1
    have k := ih (c + 1) (by omega)
    rw [cnt_s, nI_a1 c, ← nI_add (cnt _ _ _)] at k
    have hrl := runsL_le (l := lnD D W m r) (n := c + 1)
    have h1i := runsL_1 (l := lnD D W m r) c
    have ec : col (lnD D W m r) (t / 2) (c + 1) = if runsL (lnD D W m r) (c + 1) = t / 2 + 1 then lnD D W m r c else col (lnD D W m r) (t / 2) c := rfl
    have er1 : nI (runsL (lnD D W m r) (c + 1)) - nI 1 = nI (runsL (lnD D W m r) (c + 1) - 1) := pk_sub h1i
    have go2 : ∀ b : Bool, decide (runsL (lnD D W m r) (c + 1) = t / 2 + 1) = b → Z g mX10_wordOf 11 Q 182 [some (vr 0), some (vi (nI r)), v2, v3, some (vi (nI t)), some (vi (nI N)), some (vi (nI (runsL (lnD D W m r) (c + 1)) - nI 1)), some (vi (nI (cnt (lnD D W m r) (t / 2) c))), some (vi (col (lnD D W m r) (t / 2) c)), some (vi (nI c))] [vi (nI (fl b)), vi (nI (cnt (lnD D W m r) (t / 2) c))] (mW a f) := by
      intro b hb
      rw [hb] at k
      refine Z_go kX10_wordOf okX10 [122] 80 ?_
      refine (m_flag b).use ?_
      refine ⟨by decide, fun (h : ¬ nI (runsL (lnD D W m r) (c + 1)) - nI 1 = nI t / nI 2) => ?_, fun (h : ¬ ¬ nI (runsL (lnD D W m r) (c + 1)) - nI 1 = nI t / nI 2) => ?_⟩
      · rw [et, er1, nI_eq (by omega) (by omega)] at h
        rw [ec, if_neg (by omega)] at k
        exact k
      · rw [et, er1, nI_eq (by omega) (by omega)] at h
        rw [ec, if_pos (by omega)] at k
        refine ⟨rfl, (m_lineOf hs hR hW hm hr (show c < W by omega)).use ?_⟩
        exact k
    have g6 : Z g mX10_wordOf 11 Q 166 [some (vr 0), some (vi (nI r)), v2, v3, some (vi (nI t)), some (vi (nI N)), some (vi (nI (runsL (lnD D W m r) (c + 1)) - nI 1)), some (vi (nI (cnt (lnD D W m r) (t / 2) c))), some (vi (col (lnD D W m r) (t / 2) c)), some (vi (nI c))] [] (mW a f) := by
      refine Z_go kX10_wordOf okX10 [122, 182] 80 ?_
      refine ⟨by decide, fun (h : ¬ nI (runsL (lnD D W m r) (c + 1)) - nI 1 = nI t / nI 2) => ?_, fun (h : ¬ ¬ nI (runsL (lnD D W m r) (c + 1)) - nI 1 = nI t / nI 2) => ?_⟩
      · rw [et, er1, nI_eq (by omega) (by omega)] at h
        exact go2 false (decide_eq_false (by omega))
      · rw [et, er1, nI_eq (by omega) (by omega)] at h
        exact go2 true (decide_eq_true (by omega))
    have go : ∀ b : Bool, rb (lnD D W m r) c = b → Z g mX10_wordOf 11 Q 160 [some (vr 0), some (vi (nI r)), v2, v3, some (vi (nI t)), some (vi (nI N)), some (vi (nI (runsL (lnD D W m r) c) - nI 1)), some (vi (nI (cnt (lnD D W m r) (t / 2) c))), some (vi (col (lnD D W m r) (t / 2) c)), some (vi (nI c))] [vi (nI (fl b)), vi (nI (runsL (lnD D W m r) c) - nI 1)] (mW a f) := by
      intro b hb
      refine Z_go kX10_wordOf okX10 [122, 166] 80 ?_
      refine (m_flag b).use ?_
      rw [runsL_s, hb, ← m1_add] at g6
      exact g6
    refine Z_go kX10_wordOf okX10 [122, 160] 80 ?_
    refine ⟨fun (h : nI N ≤ nI c) => ?_, fun _ => ?_⟩
    · rw [nI_leI (by omega) (by omega)] at h; omega
    · refine ⟨fun (h0 : nI c = nI 0) => ?_, fun (h0 : ¬ nI c = nI 0) => ?_⟩
      · rw [nI_eq (by omega) (by omega)] at h0
        exact go true (by simp [rb, h0])
      · rw [nI_eq (by omega) (by omega)] at h0
        refine ⟨rfl, (m_lineOf hs hR hW hm hr (show c < W by omega)).use ?_⟩
        have hc := m_lineOf (g := g) (f := f) hs hR hW hm hr (show c - 1 < W by omega)
        rw [← pk_sub (by omega)] at hc
        refine ⟨rfl, hc.use ?_⟩
        refine ⟨fun (h3 : lnD D W m r c = lnD D W m r (c - 1)) => go false (by simp [rb, h0, h3]), fun (h3 : ¬ lnD D W m r c = lnD D W m r (c - 1)) => go true (by simp [rb, h3])⟩
end MOD
