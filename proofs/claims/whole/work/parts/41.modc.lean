/-! the reference: the slip -/
def SPK (a : Nat → Nat → Int32) (f : Nat → Int32) (o : Option Nat × (Nat → Int32)) : Option AV → AH → Prop := fun v A => v = some (vi (nI (fl o.1.isSome))) ∧ ∃ ln' x, A = mW (aU a 7 ln') (fU f 14 x) ∧ ∀ e, o.1 = some e → x = nI e ∧ ∀ j, j < e → ln' j = o.2 j
section MOD
variable {g : GG} {a : Nat → Nat → Int32} {f : Nat → Int32} {R W m n : Nat} {D : Nat → Nat → Int32} {w : Nat → Nat}
theorem SPK_no {o : Option Nat × (Nat → Int32)} {ln : Nat → Int32} {x : Int32} (h : o.1 = none) : SPK a f o (some (vi (nI 0))) (mW (aU a 7 ln) (fU f 14 x)) := ⟨by rw [h]; rfl, ln, x, rfl, fun e he => by rw [h] at he; cases he⟩
theorem SPK_yes {e : Nat} {l ln : Nat → Int32} (hl : ∀ j, j < e → ln j = l j) : SPK a f (some e, l) (some (vi (nI 1))) (mW (aU a 7 ln) (fU f 14 (nI e))) := ⟨rfl, ln, nI e, rfl, fun k hk => by cases hk; exact ⟨rfl, hl⟩⟩
/-- the runs are no good -/
theorem runs_no {v1 v4 : Option AV} {x : Int32} {Q : Option AV → AH → Prop} (hQ : Q (some (vi (nI 0))) (mW a f)) : Z g mX10_readRuns 11 Q 30 [some (vr 0), v1, some (vi (nI 0)), some (vi x), v4] [] (mW a f) := by
  refine Z_go kX10_readRuns okX10 [30] 80 ?_
  exact ⟨fun _ => ⟨Or.inl rfl, hQ⟩, fun _ => ⟨fun _ => ⟨Or.inl rfl, hQ⟩, fun z => absurd rfl z⟩⟩
theorem runs_fill {i be q c : Nat} {v1 : Int32} {ln : Nat → Int32} (hq : a 6 i = nI q) (hc : a 6 (i + 1) = nI c) (hi : i + 1 < 40) (hq2 : q ≤ 99) (hbe : be + q ≤ 16) {Q : Option AV → AH → Prop}
    (hQ : ∀ v4, Z g mX10_readRuns 11 Q 146 [some (vr 0), some (vi v1), some (vi (nI 1)), some (vi (nI i)), v4] [] (mW (aU a 7 (filB ln be q (nI c))) (fU f 14 (nI (be + q))))) : ∀ (z j : Nat), j + z = q →
    Z g mX10_readRuns 11 Q 98 [some (vr 0), some (vi v1), some (vi (nI 1)), some (vi (nI i)), some (vi (nI j))] [] (mW (aU a 7 (filB ln be j (nI c))) (fU f 14 (nI (be + j)))) := by
  have ei : nI i + nI 1 = nI (i + 1) := nI_add _ _
  intro z
  induction z with
  | zero =>
    intro j h1
    have h1 : j = q := by omega
    subst h1
    refine Z_go kX10_readRuns okX10 [98, 146] 80 ?_
    refine ⟨vin (by omega) (by omega), ?_⟩
    rw [nI_clamp (show i < 2 ^ 31 by omega), show aU a 7 (filB ln be j (nI c)) 6 i = nI j from hq]
    exact ⟨fun _ => hQ _, fun (h : ¬ nI j ≤ nI j) => absurd (nI_le (by omega) (by omega)) h⟩
  | succ z ih =>
    intro j h1
    have k := ih (j + 1) (by omega)
    rw [← filB_s, ← Nat.add_assoc, nI_a1 (be + j), nI_a1 j] at k
    refine Z_go kX10_readRuns okX10 [98, 146] 80 ?_
    refine ⟨vin (by omega) (by omega), ?_⟩
    rw [nI_clamp (show i < 2 ^ 31 by omega), show aU a 7 (filB ln be j (nI c)) 6 i = nI q from hq]
    refine ⟨fun (h : nI q ≤ nI j) => ?_, fun _ => ⟨fun z => (z1 z).elim, fun _ => ?_⟩⟩
    · rw [nI_leI (by omega) (by omega)] at h; omega
    · refine ⟨by rw [ei]; exact vin (by omega) (by omega), ?_⟩
      rw [ei, nI_clamp (show i + 1 < 2 ^ 31 by omega), show aU a 7 (filB ln be j (nI c)) 6 (i + 1) = nI c from hc]
      refine ⟨by show vp_in (nI (be + j)) 16; exact vin (by omega) (by omega), ?_⟩
      rw [show (fU f 14 (nI (be + j)) 14).toNatClampNeg = be + j from nI_clamp (by omega)]
      exact k
theorem runs_loop (h12 : f 12 = nI n) (hsl : ∀ j, j < n → a 6 j = nI (w j)) (hw : ∀ j, j < n → w j ≤ 99) (hn : n ≤ 40) {v1 : Int32} {Q : Option AV → AH → Prop} : ∀ (z i be : Nat) (ln : Nat → Int32) (v4 : Option AV), i + 2 * z = n → be ≤ 16 →
    (∀ v A, SPK a f (rdR w z i be ln) v A → Q v A) →
    Z g mX10_readRuns 11 Q 30 [some (vr 0), some (vi v1), some (vi (nI 1)), some (vi (nI i)), v4] [] (mW (aU a 7 ln) (fU f 14 (nI be))) := by
  intro z
  induction z with
  | zero =>
    intro i be ln v4 h1 hbe hQ
    refine Z_go kX10_readRuns okX10 [30] 80 ?_
    refine ⟨fun _ => ⟨Or.inr rfl, hQ _ _ (SPK_yes (fun _ _ => rfl))⟩, fun (h : ¬ f 12 ≤ nI i) => ?_⟩
    rw [h12] at h
    exact absurd (nI_le (by omega) (by omega)) h
  | succ z ih =>
    intro i be ln v4 h1 hbe hQ
    simp only [rdR] at hQ
    have w1 := hsl i (by omega)
    have w2 := hsl (i + 1) (by omega)
    have l1 := hw i (by omega)
    have l2 := hw (i + 1) (by omega)
    have ei : nI i + nI 1 = nI (i + 1) := nI_add _ _
    have go : ∀ b : Bool, decide (1 ≤ w i ∧ be + w i ≤ 16 ∧ w (i + 1) ≤ 5) = b → Z g mX10_readRuns 11 Q 94 [some (vr 0), some (vi v1), some (vi (nI 1)), some (vi (nI i)), v4] [vi (nI (fl b))] (mW (aU a 7 ln) (fU f 14 (nI be))) := by
      intro b hb
      cases b with
      | false =>
        rw [if_neg (of_decide_eq_false hb)] at hQ
        refine Z_go kX10_readRuns okX10 [30] 80 ?_
        refine ⟨vin (by omega) (by omega), ?_⟩
        refine ⟨fun _ => runs_no (a := aU a 7 ln) (f := fU f 14 (nI be)) (hQ _ _ (SPK_no rfl)), fun _ => ⟨fun _ => runs_no (a := aU a 7 ln) (f := fU f 14 (nI be)) (hQ _ _ (SPK_no rfl)), fun z => absurd rfl z⟩⟩
      | true =>
        have hc := of_decide_eq_true hb
        rw [if_pos hc] at hQ
        have k := runs_fill (g := g) (f := f) (i := i) (be := be) (q := w i) (c := w (i + 1)) (v1 := v1) (ln := ln) (Q := Q) w1 w2 (by omega) (by omega) hc.2.1 (fun v4' => by
          have k2 := ih (i + 2) (be + w i) (filB ln be (w i) (nI (w (i + 1)))) v4' (by omega) hc.2.1 hQ
          rw [← nI_add i 2] at k2
          refine Z_go kX10_readRuns okX10 [30] 80 ?_
          exact k2) (w i) 0 (by omega)
        rw [filB_0] at k
        refine Z_go kX10_readRuns okX10 [98] 80 ?_
        exact k
    refine Z_go kX10_readRuns okX10 [30, 94] 80 ?_
    refine ⟨fun (h : f 12 ≤ nI i) => ?_, fun _ => ⟨fun z => (z1 z).elim, fun _ => ?_⟩⟩
    · rw [h12, nI_leI (by omega) (by omega)] at h; omega
    · refine ⟨vin (by omega) (by omega), ?_⟩
      rw [nI_clamp (show i < 2 ^ 31 by omega), show aU a 7 ln 6 i = nI (w i) from w1]
      refine (m_in1 (nI (w i)) 16 (by omega)).use ?_
      rw [show decide (¬ (nI (w i) < nI 1 ∨ nI 16 < nI (w i))) = decide (¬ (w i < 1 ∨ 16 < w i)) by rw [decide_eq_decide, nI_ltI (by omega) (by omega), nI_ltI (by omega) (by omega)]]
      by_cases c1 : w i < 1 ∨ 16 < w i
      · rw [decide_eq_false (fun z => z c1)]
        exact ⟨fun _ => go false (decide_eq_false (by omega)), fun z => absurd rfl z⟩
      · rw [decide_eq_true c1]
        refine ⟨fun z => (z1 z).elim, fun _ => ?_⟩
        refine ⟨by rw [ei]; exact vin (by omega) (by omega), ?_⟩
        rw [ei, nI_clamp (show i + 1 < 2 ^ 31 by omega), show aU a 7 ln 6 (i + 1) = nI (w (i + 1)) from w2]
        refine (m_isColour (nI (w (i + 1)))).use ?_
        have hcol : isCol (nI (w (i + 1))) = decide (w (i + 1) ≤ 5) := by
          unfold isCol
          rw [decide_eq_decide, nI_ltI (by omega) (by omega)]
          exact ⟨fun z => by omega, fun z => ⟨nI_pos (by omega), by omega⟩⟩
        rw [hcol]
        by_cases c2 : w (i + 1) ≤ 5
        · rw [decide_eq_true c2]
          refine ⟨fun z => (z1 z).elim, fun _ => ?_⟩
          refine ⟨vin (by omega) (by omega), ?_⟩
          rw [nI_clamp (show i < 2 ^ 31 by omega), show aU a 7 ln 6 i = nI (w i) from w1]
          refine ⟨fun (h : nI 16 < nI be + nI (w i)) => ?_, fun (h : ¬ nI 16 < nI be + nI (w i)) => ?_⟩
          · rw [nI_add, nI_ltI (by omega) (by omega)] at h
            exact go false (decide_eq_false (by omega))
          · rw [nI_add, nI_ltI (by omega) (by omega)] at h
            exact go true (decide_eq_true (by omega))
        · rw [decide_eq_false c2]
          exact ⟨fun _ => go false (decide_eq_false (by omega)), fun z => absurd rfl z⟩
theorem m_readRuns (h12 : f 12 = nI n) (hsl : ∀ j, j < n → a 6 j = nI (w j)) (hw : ∀ j, j < n → w j ≤ 99) (hn : n ≤ 40) {fr : Nat} (hfr : fr ≤ 2) : Ev g mX10_readRuns [vr 0, vi (nI fr)] (mW a f) (SPK a f (srS w n fr (a 7))) := by
  unfold srS
  refine Ev_of omX10_readRuns.1 (Nat.le_of_ble_eq_true rfl) ?_
  refine Z_go kX10_readRuns okX10 [30] 80 ?_
  refine ⟨fun (h : f 12 ≤ nI fr) => ?_, fun (h : ¬ f 12 ≤ nI fr) => ?_⟩
  · rw [h12, nI_leI (by omega) (by omega)] at h
    rw [if_pos (Or.inl h)]
    exact ⟨Or.inl rfl, SPK_no (a := a) (f := f) (ln := a 7) rfl⟩
  · rw [h12, nI_leI (by omega) (by omega)] at h
    have e : f 12 - nI fr - (f 12 - nI fr) / nI 2 * nI 2 = nI ((n - fr) % 2) := by rw [h12, pk_sub (by omega)]; exact pk_rem (by omega) (by omega) (by omega)
    refine ⟨by decide, fun (h2 : f 12 - nI fr - (f 12 - nI fr) / nI 2 * nI 2 = nI 0) => ?_, fun (h2 : ¬ f 12 - nI fr - (f 12 - nI fr) / nI 2 * nI 2 = nI 0) => ?_⟩
    · rw [e, nI_eq (by omega) (by omega)] at h2
      rw [if_neg (by omega)]
      exact runs_loop (a := a) (f := f) h12 hsl hw hn ((n - fr) / 2) fr 0 (a 7) none (by omega) (by omega) (fun v A h => h)
    · rw [e, nI_eq (by omega) (by omega)] at h2
      rw [if_pos (Or.inr h2)]
      exact ⟨Or.inl rfl, SPK_no (a := a) (f := f) (ln := a 7) rfl⟩
theorem like_loop (hs : HM (a 1) R W m D) (hR : R ≤ 12) (hW : W ≤ 16) (hm : m ≤ 1) {k : Nat} {t : Bool} (hk : k < R) (h6 : a 6 1 = nI k) {ln : Nat → Int32} {Q : Option AV → AH → Prop} (hQ : Q (some (vi (nI 1))) (mW (aU a 7 (lkI (lnD D W m) W k t ln W)) (fU f 14 (nI W)))) : ∀ (z c : Nat), c + z = W →
    Z g mX10_readLike 11 Q 35 [some (vr 0), some (vi (nI (fl t))), some (vi (nI c))] [] (mW (aU a 7 (lkI (lnD D W m) W k t ln c)) (fU f 14 (nI W))) := by
  intro z
  induction z with
  | zero =>
    intro c h1
    have h1 : c = W := by omega
    subst h1
    refine Z_go kX10_readLike okX10 [35] 80 ?_
    exact ⟨fun _ => ⟨Or.inr rfl, hQ⟩, fun (h : ¬ nI c ≤ nI c) => absurd (nI_le (by omega) (by omega)) h⟩
  | succ z ih =>
    intro c h1
    have kk := ih (c + 1) (by omega)
    rw [← lkI_s, nI_a1 c] at kk
    refine Z_go kX10_readLike okX10 [35] 80 ?_
    refine ⟨fun (h : nI W ≤ nI c) => ?_, fun _ => ?_⟩
    · rw [nI_leI (by omega) (by omega)] at h; omega
    · refine ⟨vin (by omega) (by omega), ?_⟩
      rw [show (nI 1).toNatClampNeg = 1 from rfl, show aU a 7 (lkI (lnD D W m) W k t ln c) 6 1 = nI k from h6]
      cases t with
      | false =>
        refine ⟨fun _ => ?_, fun z => absurd rfl z⟩
        refine ⟨rfl, (m_lineOf (a := aU a 7 (lkI (lnD D W m) W k false ln c)) (f := fU f 14 (nI W)) hs hR hW hm hk (show c < W by omega)).use ?_⟩
        refine ⟨vin (by omega) (by omega), ?_⟩
        rw [nI_clamp (show c < 2 ^ 31 by omega)]
        exact kk
      | true =>
        refine ⟨fun z => (z1 z).elim, fun _ => ?_⟩
        have e2 : nI W - nI 1 - nI c = nI (W - 1 - c) := by rw [pk_sub (by omega), pk_sub (by omega)]
        have hl := m_lineOf (g := g) (a := aU a 7 (lkI (lnD D W m) W k true ln c)) (f := fU f 14 (nI W)) hs hR hW hm hk (show W - 1 - c < W by omega)
        rw [← e2] at hl
        refine ⟨rfl, hl.use ?_⟩
        refine ⟨vin (by omega) (by omega), ?_⟩
        rw [nI_clamp (show c < 2 ^ 31 by omega)]
        exact kk
theorem m_readLike (hs : HM (a 1) R W m D) (hR : R ≤ 12) (hW : W ≤ 16) (hm : m ≤ 1) (h12 : f 12 = nI n) (hsl : ∀ j, j < n → a 6 j = nI (w j)) (hw : ∀ j, j < n → w j ≤ 99) (hn : n ≤ 40) {t : Bool} : Ev g mX10_readLike [vr 0, vi (nI (fl t))] (mW a f) (SPK a f (slkS (lnD D W m) R W n (w 1) t (a 7))) := by
  unfold slkS
  refine Ev_of omX10_readLike.1 (Nat.le_of_ble_eq_true rfl) ?_
  refine Z_go kX10_readLike okX10 [35] 80 ?_
  refine ⟨fun (h : ¬ f 12 = nI 2) => ?_, fun (h : ¬ ¬ f 12 = nI 2) => ?_⟩
  · rw [h12, nI_eq (by omega) (by omega)] at h
    rw [if_pos (Or.inl h)]
    exact ⟨Or.inl rfl, SPK_no (a := a) (f := f) (ln := a 7) (x := f 14) rfl⟩
  · rw [h12, nI_eq (by omega) (by omega)] at h
    have h := Classical.not_not.mp h
    have w1 := hsl 1 (by omega)
    have l1 := hw 1 (by omega)
    refine ⟨vin (by omega) (by omega), ?_⟩
    rw [show (nI 1).toNatClampNeg = 1 from rfl, w1]
    refine ⟨rfl, (m_isRow hs hR (nI (w 1))).use ?_⟩
    rw [hasRow_n hR (by omega)]
    by_cases c1 : w 1 < R
    · rw [decide_eq_true c1, if_neg (by omega)]
      refine ⟨fun _ => ?_, fun (z : ¬ ¬ nI 1 = 0) => absurd z1 z⟩
      refine ⟨vin (by omega) (by omega), ?_⟩
      rw [show (nI 1).toNatClampNeg = 1 from rfl, hs.2.1 (by omega)]
      have k := like_loop (g := g) (f := f) (t := t) (ln := a 7) (Q := SPK a f (some W, lkI (lnD D W m) W (w 1) t (a 7) W)) hs hR hW hm c1 w1 (SPK_yes (fun _ _ => rfl)) W 0 (by omega)
      rw [show lkI (lnD D W m) W (w 1) t (a 7) 0 = a 7 by funext j; unfold lkI; rw [if_neg (by omega)]] at k
      exact k
    · rw [decide_eq_false c1, if_pos (Or.inr c1)]
      exact ⟨fun z => absurd rfl z, fun _ => ⟨Or.inl rfl, SPK_no (a := a) (f := f) (ln := a 7) (x := f 14) rfl⟩⟩
theorem mirror_loop (hW : W ≤ 16) {ln : Nat → Int32} {x : Int32} {Q : Option AV → AH → Prop} (hQ : Q (some (vi (nI 1))) (mW (aU a 7 (mrI W ln W)) (fU f 14 (nI W)))) : ∀ (z c : Nat), c + z = W → (W + 1) / 2 ≤ c →
    Z g mX10_readMirror 11 Q 37 [some (vr 0), some (vi (nI W)), some (vi (nI c))] [] (mW (aU a 7 (mrI W ln c)) (fU f 14 x)) := by
  intro z
  induction z with
  | zero =>
    intro c h1 h2
    have h1 : c = W := by omega
    subst h1
    refine Z_go kX10_readMirror okX10 [37] 80 ?_
    exact ⟨fun _ => ⟨Or.inr rfl, hQ⟩, fun (h : ¬ nI c ≤ nI c) => absurd (nI_le (by omega) (by omega)) h⟩
  | succ z ih =>
    intro c h1 h2
    have kk := ih (c + 1) (by omega) (by omega)
    rw [← mrI_s h2 (by omega), nI_a1 c] at kk
    have e2 : nI W - nI 1 - nI c = nI (W - 1 - c) := by rw [pk_sub (by omega), pk_sub (by omega)]
    refine Z_go kX10_readMirror okX10 [37] 80 ?_
    refine ⟨fun (h : nI W ≤ nI c) => ?_, fun _ => ?_⟩
    · rw [nI_leI (by omega) (by omega)] at h; omega
    · refine ⟨by rw [e2]; exact vin (by omega) (by omega), ?_⟩
      refine ⟨vin (by omega) (by omega), ?_⟩
      rw [e2, nI_clamp (show W - 1 - c < 2 ^ 31 by omega), nI_clamp (show c < 2 ^ 31 by omega)]
      exact kk
theorem m_readMirror (hs : HM (a 1) R W m D) (hR : R ≤ 12) (hW : W ≤ 16) (hRW : R = 0 → W = 0) (h12 : f 12 = nI n) (hsl : ∀ j, j < n → a 6 j = nI (w j)) (hw : ∀ j, j < n → w j ≤ 99) (hn : n ≤ 40) : Ev g mX10_readMirror [vr 0] (mW a f) (SPK a f (smS W w n (a 7))) := by
  unfold smS
  have hr := m_readRuns (g := g) (fr := 1) h12 hsl hw hn (by omega)
  have hle : ∀ e, (srS w n 1 (a 7)).1 = some e → e ≤ 16 := fun e h => (srS_le h).2
  generalize srS w n 1 (a 7) = o at hr hle ⊢
  obtain ⟨o, l⟩ := o
  dsimp only at hle ⊢
  refine Ev_of omX10_readMirror.1 (Nat.le_of_ble_eq_true rfl) ?_
  refine Z_go kX10_readMirror okX10 [37] 80 ?_
  refine ⟨rfl, (m_width hs hR hRW).use ?_⟩
  refine ⟨fun (h : nI W < nI 2) => ?_, fun (h : ¬ nI W < nI 2) => ?_⟩
  · rw [nI_ltI (by omega) (by omega)] at h
    rw [if_pos h]
    exact ⟨Or.inl rfl, SPK_no (a := a) (f := f) (ln := a 7) (x := f 14) rfl⟩
  · rw [nI_ltI (by omega) (by omega)] at h
    rw [if_neg h]
    refine ⟨rfl, hr.mono (fun v A' _ hv => ?_)⟩
    obtain ⟨rfl, ln', x, rfl, hx⟩ := hv
    cases o with
    | none =>
      rw [if_neg (by simp)]
      exact ⟨fun _ => ⟨Or.inl rfl, SPK_no rfl⟩, fun z => absurd rfl z⟩
    | some e =>
      obtain ⟨rfl, hl⟩ := hx e rfl
      have he := hle e rfl
      have e2 : (nI W + nI 1) / nI 2 = nI ((W + 1) / 2) := by rw [nI_add, pk_div (by omega) (by omega) (by omega)]
      refine ⟨fun z => (z1 z).elim, fun _ => ?_⟩
      refine ⟨by decide, fun (h2 : nI e = (nI W + nI 1) / nI 2) => ?_, fun (h2 : ¬ nI e = (nI W + nI 1) / nI 2) => ?_⟩
      · rw [e2, nI_eq (by omega) (by omega)] at h2
        rw [if_pos (by rw [h2])]
        have k := mirror_loop (g := g) (a := a) (f := f) (ln := ln') (x := nI e) (Q := SPK a f (some W, mrI W l W)) hW (SPK_yes (fun j hj => by
          unfold mrI
          by_cases h3 : (W + 1) / 2 ≤ j ∧ j < W
          · rw [if_pos h3, if_pos h3]; exact hl _ (by omega)
          · rw [if_neg h3, if_neg h3]; exact hl _ (by omega))) (W - e) e (by omega) (by omega)
        rw [show mrI W ln' e = ln' by funext j; unfold mrI; rw [if_neg (by omega)]] at k
        exact k
      · rw [e2, nI_eq (by omega) (by omega)] at h2
        rw [if_neg (fun z => h2 (Option.some.inj z))]
        exact ⟨Or.inl rfl, SPK_no rfl⟩
theorem times_loop {p e : Nat} (hp : 1 ≤ p) (he : e ≤ 16) {ln : Nat → Int32} {x : Int32} {Q : Option AV → AH → Prop} (hQ : Q (some (vi (nI 1))) (mW (aU a 7 (tmI p ln e)) (fU f 14 (nI e)))) : ∀ (z c : Nat), c + z = e → p ≤ c →
    Z g mX10_readTimes 11 Q 83 [some (vr 0), some (vi (nI p)), some (vi (nI e)), some (vi (nI c))] [] (mW (aU a 7 (tmI p ln c)) (fU f 14 x)) := by
  intro z
  induction z with
  | zero =>
    intro c h1 h2
    have h1 : c = e := by omega
    subst h1
    refine Z_go kX10_readTimes okX10 [83] 80 ?_
    exact ⟨fun _ => ⟨Or.inr rfl, hQ⟩, fun (h : ¬ nI c ≤ nI c) => absurd (nI_le (by omega) (by omega)) h⟩
  | succ z ih =>
    intro c h1 h2
    have kk := ih (c + 1) (by omega) (by omega)
    rw [← tmI_s hp h2, nI_a1 c] at kk
    have e2 : nI c - nI p = nI (c - p) := pk_sub h2
    refine Z_go kX10_readTimes okX10 [83] 80 ?_
    refine ⟨fun (h : nI e ≤ nI c) => ?_, fun _ => ?_⟩
    · rw [nI_leI (by omega) (by omega)] at h; omega
    · refine ⟨by rw [e2]; exact vin (by omega) (by omega), ?_⟩
      refine ⟨vin (by omega) (by omega), ?_⟩
      rw [e2, nI_clamp (show c - p < 2 ^ 31 by omega), nI_clamp (show c < 2 ^ 31 by omega)]
      exact kk
theorem m_readTimes (hs : HM (a 1) R W m D) (hR : R ≤ 12) (hW : W ≤ 16) (h12 : f 12 = nI n) (hsl : ∀ j, j < n → a 6 j = nI (w j)) (hw : ∀ j, j < n → w j ≤ 99) (hn : n ≤ 40) : Ev g mX10_readTimes [vr 0] (mW a f) (SPK a f (if n < 2 then (none, a 7) else stmS R W (w 1) w n (a 7))) := by
  unfold stmS
  have hr := m_readRuns (g := g) (fr := 2) h12 hsl hw hn (by omega)
  have hle : ∀ e, (srS w n 2 (a 7)).1 = some e → 1 ≤ e ∧ e ≤ 16 := fun e h => srS_le h
  generalize srS w n 2 (a 7) = o at hr hle ⊢
  obtain ⟨o, l⟩ := o
  dsimp only at hle ⊢
  refine Ev_of omX10_readTimes.1 (Nat.le_of_ble_eq_true rfl) ?_
  refine Z_go kX10_readTimes okX10 [81, 83] 80 ?_
  refine ⟨fun (h : f 12 < nI 2) => ?_, fun (h : ¬ f 12 < nI 2) => ?_⟩
  · rw [h12, nI_ltI (by omega) (by omega)] at h
    rw [if_pos h]
    exact ⟨Or.inl rfl, SPK_no (a := a) (f := f) (ln := a 7) (x := f 14) rfl⟩
  · rw [h12, nI_ltI (by omega) (by omega)] at h
    rw [if_neg h]
    have w1 := hsl 1 (by omega)
    have l1 := hw 1 (by omega)
    refine ⟨vin (by omega) (by omega), ?_⟩
    rw [show (nI 1).toNatClampNeg = 1 from rfl, w1]
    have hin := m_inN (g := g) (A := mW a f) (nI (w 1)) 2 16 (by omega) (by omega)
    rw [decide_eq_decide.mpr (nI_leI (show 2 < 2 ^ 31 by omega) (show w 1 < 2 ^ 31 by omega)), decide_eq_decide.mpr (nI_leI (show w 1 < 2 ^ 31 by omega) (show 16 < 2 ^ 31 by omega))] at hin
    refine hin.use ?_
    by_cases c1 : w 1 < 2 ∨ 16 < w 1
    · rw [if_pos c1, show (decide (2 ≤ w 1) && decide (w 1 ≤ 16)) = false by simp; omega]
      exact ⟨fun _ => ⟨Or.inl rfl, SPK_no (a := a) (f := f) (ln := a 7) (x := f 14) rfl⟩, fun z => absurd rfl z⟩
    · rw [if_neg c1, show (decide (2 ≤ w 1) && decide (w 1 ≤ 16)) = true by simp; omega]
      refine ⟨fun z => (z1 z).elim, fun _ => ?_⟩
      refine ⟨rfl, hr.mono (fun v A' _ hv => ?_)⟩
      obtain ⟨rfl, ln', x, rfl, hx⟩ := hv
      cases o with
      | none => exact ⟨fun z => absurd rfl z, fun _ => ⟨Or.inl rfl, SPK_no rfl⟩⟩
      | some p =>
        obtain ⟨rfl, hl⟩ := hx p rfl
        obtain ⟨p1, p2⟩ := hle p rfl
        dsimp only
        have hmul : w 1 * p ≤ 256 := Nat.le_trans (Nat.mul_le_mul (by omega : w 1 ≤ 16) p2) (by decide)
        have hge : p ≤ w 1 * p := Nat.le_mul_of_pos_left p (by omega)
        have em : nI p * nI (w 1) = nI (w 1 * p) := by rw [pk_mul, Nat.mul_comm]
        refine ⟨fun _ => ?_, fun (z : ¬ ¬ nI 1 = 0) => absurd z1 z⟩
        refine ⟨vin (by omega) (by omega), ?_⟩
        rw [show (nI 1).toNatClampNeg = 1 from rfl, show aU a 7 ln' 6 1 = nI (w 1) from w1]
        have fin : w 1 * p ≤ 16 → Z g mX10_readTimes 11 (SPK a f (some (w 1 * p), tmI p l (w 1 * p))) 81 [some (vr 0), some (vi (nI p)), some (vi (nI p * nI (w 1))), none] [] (mW (aU a 7 ln') (fU f 14 (nI p))) := by
          intro hle
          have k := times_loop (g := g) (a := a) (f := f) (p := p) (e := w 1 * p) (ln := ln') (x := nI p) (Q := SPK a f (some (w 1 * p), tmI p l (w 1 * p))) p1 hle (SPK_yes (fun j hj => by
            unfold tmI
            by_cases h3 : p ≤ j ∧ j < w 1 * p
            · rw [if_pos h3, if_pos h3]; exact hl _ (Nat.mod_lt _ (by omega))
            · rw [if_neg h3, if_neg h3]; exact hl _ (by omega))) (w 1 * p - p) p (by omega) (Nat.le_refl _)
          rw [show tmI p ln' p = ln' by funext j; unfold tmI; rw [if_neg (by omega)], ← em] at k
          refine Z_go kX10_readTimes okX10 [83] 80 ?_
          exact k
        refine ⟨vin (by omega) (by omega), ?_⟩
        rw [show (nI 0).toNatClampNeg = 0 from rfl, show aU a 7 ln' 1 0 = nI R from hs.1]
        refine ⟨fun (c2 : ¬ nI R = nI 0) => ?_, fun (c2 : ¬ ¬ nI R = nI 0) => ?_⟩
        · rw [nI_eq (by omega) (by omega)] at c2
          refine ⟨vin (by omega) (by omega), ?_⟩
          rw [show (nI 1).toNatClampNeg = 1 from rfl, show aU a 7 ln' 1 1 = nI W from hs.2.1 c2]
          refine ⟨fun (c3 : nI p * nI (w 1) = nI W) => ?_, fun (c3 : ¬ nI p * nI (w 1) = nI W) => ?_⟩
          · rw [em, nI_eq (by omega) (by omega)] at c3
            rw [if_pos (by unfold fit; rw [if_neg c2]; exact decide_eq_true c3)]
            exact fin (by omega)
          · rw [em, nI_eq (by omega) (by omega)] at c3
            rw [if_neg (by unfold fit; rw [if_neg c2, decide_eq_false c3]; decide)]
            exact ⟨Or.inl rfl, SPK_no rfl⟩
        · rw [nI_eq (by omega) (by omega)] at c2
          have c2 := Classical.not_not.mp c2
          refine ⟨fun (c3 : nI p * nI (w 1) ≤ nI 16) => ?_, fun (c3 : ¬ nI p * nI (w 1) ≤ nI 16) => ?_⟩
          · rw [em, nI_leI (by omega) (by omega)] at c3
            rw [if_pos (by unfold fit; rw [if_pos c2]; exact decide_eq_true ⟨by omega, c3⟩)]
            exact fin c3
          · rw [em, nI_leI (by omega) (by omega)] at c3
            rw [if_neg (by unfold fit; rw [if_pos c2, decide_eq_false (fun z => c3 z.2)]; decide)]
            exact ⟨Or.inl rfl, SPK_no rfl⟩
end MOD
