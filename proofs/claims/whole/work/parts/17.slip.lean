section SLP
variable {g : GG} {R W m : Nat} {b : Nat → Int32} {D : Nat → Nat → Int32}
def isCol (x : Int32) : Bool := decide (¬ x < 0 ∧ x < nI 6)
theorem c_isColour {A : AH} (x : Int32) : Dt g mX9_isColour [vi x] A (some (vi (nI (fl (isCol x))))) A := by
  refine Ev_of omX9_isColour.1 (Nat.le_of_ble_eq_true rfl) ?_
  refine Z_go kX9_isColour okX9 [] 80 ?_
  refine ⟨fun (h : x < 0) => ⟨Or.inl rfl, ?_, rfl⟩, fun (h : ¬ x < 0) => ⟨fun (h2 : nI 6 ≤ x) => ⟨Or.inl rfl, ?_, rfl⟩, fun (h2 : ¬ nI 6 ≤ x) => ⟨Or.inr rfl, ?_, rfl⟩⟩⟩
  · simp [isCol, h, fl]
  · have : ¬ x < nI 6 := Int32.not_lt.mpr h2
    simp [isCol, this, fl]
  · have : x < nI 6 := Int32.not_le.mp h2
    simp [isCol, this, h, fl]
theorem isCol_n {k : Nat} (h : k < 2 ^ 31) : isCol (nI k) = decide (k ≤ 5) := by
  unfold isCol
  rw [decide_eq_decide]
  rw [nI_ltI h (by omega)]
  constructor
  · rintro ⟨-, h2⟩; omega
  · intro h2; exact ⟨nI_pos h, by omega⟩
def slW (n : Nat) (sl ln : Nat → Int32) : AH := [ob 5 [vr 1, vi (nI n), vr 2], ar 0 16 ln, ar 0 40 sl]
def slP (n : Nat) (sl ln : Nat → Int32) (R W m : Nat) (b : Nat → Int32) : AH := [ob 5 [vr 1, vi (nI n), vr 2], ar 0 16 ln, ar 0 40 sl, ob 2 [vr 4, vi (nI R), vi (nI W), vi (nI m)], ar 0 192 b]
/-- the words on the slip as numbers -/
def Wd (sl : Nat → Int32) (w : Nat → Nat) (n : Nat) : Prop := ∀ i, i < n → sl i = nI (w i) ∧ w i ≤ 99
theorem c_sltake_full {n : Nat} {sl ln : Nat → Int32} {x : Int32} (hn : n = 40) : Dt g mX5_take [vr 0, vi x] (slW n sl ln) (some (vi (nI 0))) (slW n sl ln) := by
  subst hn
  refine Ev_of omX5_take.1 (Nat.le_of_ble_eq_true rfl) ?_
  refine Z_go kX5_take okX5 [] 80 ?_
  refine ⟨fun (h : nI 40 < nI 40) => absurd h (by decide +kernel), fun _ => ⟨Or.inl rfl, rfl, rfl⟩⟩
theorem c_sltake {n : Nat} {sl ln : Nat → Int32} {x : Int32} (hn : n < 40) : Dt g mX5_take [vr 0, vi x] (slW n sl ln) (some (vi (nI 1))) (slW (n + 1) (upd sl n x) ln) := by
  refine Ev_of omX5_take.1 (Nat.le_of_ble_eq_true rfl) ?_
  refine Z_go kX5_take okX5 [] 80 ?_
  refine ⟨fun _ => ⟨vp_in_nI hn (by omega), Or.inr rfl, rfl, ?_⟩, fun (h : ¬ nI n < nI 40) => absurd (nI_lt hn (by omega)) h⟩
  rw [nI_clamp (by omega)]
  unfold slW
  rw [nI_a1 n]
  rfl
def fit (R W be : Nat) : Bool := if R = 0 then decide (1 ≤ be ∧ be ≤ 16) else decide (be = W)
def fitO (R W : Nat) (o : Option Nat) : Option Nat := match o with
  | none => none
  | some be => if fit R W be then some be else none
theorem c_fitting {o : Option Nat} (hR : R ≤ 12) (hW : W ≤ 16) (ho : ∀ be, o = some be → be ≤ 256) {A : AH} (hA : A = pW R W m b) : Dt g mX5_fitting [vr 0, vi (oI o)] A (some (vi (oI (fitO R W o)))) A := by
  subst hA
  have h4 : (-nI 4 : Int32) < nI 1 := by decide +kernel
  have neg : ∀ W : Nat, W ≤ 16 → ¬ (-nI 4 : Int32) = nI W := by
    intro W hW e
    have e2 := congrArg Int32.toInt e
    rw [nI_toInt (by omega)] at e2
    have : (-nI 4).toInt = -4 := by decide +kernel
    omega
  refine Ev_of omX5_fitting.1 (Nat.le_of_ble_eq_true rfl) ?_
  refine Z_go kX5_fitting okX5 [] 80 ?_
  cases o with
  | none =>
    refine ⟨fun (h : ¬ nI R = 0) => ⟨fun _ => ⟨fun _ => ⟨rfl, rfl⟩, fun z => absurd rfl z⟩, fun (h : ¬ ¬ -nI 4 = nI W) => absurd (neg W hW) h⟩, fun _ => ⟨fun _ => ⟨fun _ => ⟨rfl, rfl⟩, fun z => absurd rfl z⟩, fun (h : ¬ -nI 4 < nI 1) => absurd h4 h⟩⟩
  | some be =>
    have hbe := ho be rfl
    refine ⟨fun (h : ¬ nI R = nI 0) => ⟨fun (h2 : ¬ nI be = nI W) => ⟨fun _ => ?_, fun z => absurd rfl z⟩, fun (h2 : ¬ ¬ nI be = nI W) => ⟨fun (z : nI 1 = 0) => absurd z (by decide), fun _ => ?_⟩⟩, fun (h : ¬ ¬ nI R = nI 0) => ⟨fun (h2 : nI be < nI 1) => ⟨fun _ => ?_, fun z => absurd rfl z⟩, fun (h2 : ¬ nI be < nI 1) => ⟨fun (h3 : nI 16 < nI be) => ⟨fun _ => ?_, fun z => absurd rfl z⟩, fun (h3 : ¬ nI 16 < nI be) => ⟨fun (z : nI 1 = 0) => absurd z (by decide), fun _ => ?_⟩⟩⟩⟩
    · rw [nI_eq (by omega) (by omega)] at h h2
      refine ⟨?_, rfl⟩
      simp [fitO, fit, h, h2, oI]
    · rw [nI_eq (by omega) (by omega)] at h h2
      refine ⟨?_, rfl⟩
      simp [fitO, fit, h, Classical.not_not.mp h2, oI]
    · rw [nI_eq (by omega) (by omega)] at h
      rw [nI_ltI (by omega) (by omega)] at h2
      refine ⟨?_, rfl⟩
      have : ¬ 1 ≤ be := by omega
      simp [fitO, fit, Classical.not_not.mp h, this, oI]
    · rw [nI_eq (by omega) (by omega)] at h
      rw [nI_ltI (by omega) (by omega)] at h2 h3
      refine ⟨?_, rfl⟩
      have : ¬ be ≤ 16 := by omega
      simp [fitO, fit, Classical.not_not.mp h, this, oI]
    · rw [nI_eq (by omega) (by omega)] at h
      rw [nI_ltI (by omega) (by omega)] at h2 h3
      refine ⟨?_, rfl⟩
      have a1 : 1 ≤ be := by omega
      have a2 : be ≤ 16 := by omega
      simp [fitO, fit, Classical.not_not.mp h, a1, a2, oI]
/-- q beads of a colour behind be -/
def filB (ln : Nat → Int32) (be q : Nat) (c : Int32) : Nat → Int32 := fun j => if be ≤ j ∧ j < be + q then c else ln j
theorem filB_0 {ln : Nat → Int32} {be : Nat} {c : Int32} : filB ln be 0 c = ln := by
  funext j; unfold filB; rw [if_neg (by omega)]
theorem filB_s {ln : Nat → Int32} {be q : Nat} {c : Int32} : upd (filB ln be q c) (be + q) c = filB ln be (q + 1) c := by
  funext j
  unfold upd filB
  by_cases h : j = be + q
  · rw [if_pos h, if_pos (by omega)]
  · rw [if_neg h]
    by_cases h2 : be ≤ j ∧ j < be + q
    · rw [if_pos h2, if_pos (by omega)]
    · rw [if_neg h2, if_neg (by omega)]
/-- runs from word i on, k of them -/
def rdR (w : Nat → Nat) : Nat → Nat → Nat → (Nat → Int32) → Option Nat × (Nat → Int32)
  | 0, _, be, ln => (some be, ln)
  | k + 1, i, be, ln => if 1 ≤ w i ∧ be + w i ≤ 16 ∧ w (i + 1) ≤ 5 then rdR w k (i + 2) (be + w i) (filB ln be (w i) (nI (w (i + 1)))) else (none, ln)
theorem rdR_le {w : Nat → Nat} : ∀ (k i be : Nat) (ln : Nat → Int32) (e : Nat), be ≤ 16 → (rdR w k i be ln).1 = some e → be + k ≤ e ∧ e ≤ 16 := by
  intro k
  induction k with
  | zero => intro i be ln e h1 h2; simp [rdR] at h2; omega
  | succ k ih =>
    intro i be ln e h1 h2
    simp only [rdR] at h2
    split at h2
    · rename_i h3; have := ih _ _ _ _ h3.2.1 h2; omega
    · cases h2
def srS (w : Nat → Nat) (n fr : Nat) (ln : Nat → Int32) : Option Nat × (Nat → Int32) := if n ≤ fr ∨ ¬ (n - fr) % 2 = 0 then (none, ln) else rdR w ((n - fr) / 2) fr 0 ln
theorem srS_le {w : Nat → Nat} {n fr e : Nat} {ln : Nat → Int32} (h : (srS w n fr ln).1 = some e) : 1 ≤ e ∧ e ≤ 16 := by
  unfold srS at h
  split at h
  · cases h
  · rename_i h2; have := rdR_le _ _ _ _ _ (by omega) h; omega
theorem speakIn_loop {sl ln : Nat → Int32} {n fr i be q : Nat} {c : Int32} {Q : Option AV → AH → Prop} (hi : i + 1 < 40) (hbe : be + q ≤ 16) (hc : sl (i + 1) = c)
    (hQ : ∀ v, Z g mX5_speakRuns 3 Q 109 [some (vr 0), some (vi (nI fr)), some (vi (nI be)), some (vi (nI i)), some (vi (nI q)), v] [] (slW n sl (filB ln be q c))) : ∀ (z j : Nat), j + z = q →
    Z g mX5_speakRuns 3 Q 79 [some (vr 0), some (vi (nI fr)), some (vi (nI be)), some (vi (nI i)), some (vi (nI q)), some (vi (nI j))] [] (slW n sl (filB ln be j c)) := by
  intro z
  induction z with
  | zero =>
    intro j h1
    refine Z_go kX5_speakRuns okX5 [79, 109] 80 ?_
    refine ⟨fun _ => ?_, fun (h : ¬ nI q ≤ nI j) => ?_⟩
    · have : j = q := by omega
      rw [this]; exact hQ _
    · exact absurd (nI_le (by omega) (by omega)) h
  | succ z ih =>
    intro j h1
    have e1 : nI i + nI 1 = nI (i + 1) := nI_add _ _
    have e2 : nI be + nI j = nI (be + j) := nI_add _ _
    refine Z_go kX5_speakRuns okX5 [79, 109] 80 ?_
    refine ⟨fun (h : nI q ≤ nI j) => ?_, fun _ => ?_⟩
    · rw [nI_leI (by omega) (by omega)] at h; omega
    · refine ⟨by rw [e1]; exact vp_in_nI (by omega) (by omega), by rw [e2]; exact vp_in_nI (by omega) (by omega), ?_⟩
      rw [e1, e2, nI_clamp (by omega), nI_clamp (by omega), hc]
      have k := ih (j + 1) (by omega)
      rw [nI_a1 j, ← filB_s] at k
      exact k
theorem speakRuns_loop {sl : Nat → Int32} {w : Nat → Nat} {n fr : Nat} {Q : Option AV → AH → Prop} (hw : Wd sl w n) (hn : n ≤ 40) : ∀ (k i be : Nat) (ln : Nat → Int32) (v4 v5 : Option AV), i + 2 * k = n → be ≤ 16 → Q (some (vi (oI (rdR w k i be ln).1))) (slW n sl (rdR w k i be ln).2) →
    Z g mX5_speakRuns 3 Q 26 [some (vr 0), some (vi (nI fr)), some (vi (nI be)), some (vi (nI i)), v4, v5] [] (slW n sl ln) := by
  intro k
  induction k with
  | zero =>
    intro i be ln v4 v5 h1 h2 hQ
    have e1 : nI i + nI 1 = nI (i + 1) := nI_add _ _
    refine Z_go kX5_speakRuns okX5 [26] 80 ?_
    refine ⟨fun _ => hQ, fun (h : ¬ nI n ≤ nI i + nI 1) => ?_⟩
    rw [e1] at h; exact absurd (nI_le (by omega) (by omega)) h
  | succ k ih =>
    intro i be ln v4 v5 h1 h2 hQ
    have e1 : nI i + nI 1 = nI (i + 1) := nI_add _ _
    obtain ⟨s1, s2⟩ := hw i (by omega)
    obtain ⟨s3, s4⟩ := hw (i + 1) (by omega)
    have e2 : nI be + nI (w i) = nI (be + w i) := nI_add _ _
    refine Z_go kX5_speakRuns okX5 [26, 76] 80 ?_
    refine ⟨fun (h : nI n ≤ nI i + nI 1) => ?_, fun _ => ?_⟩
    · rw [e1, nI_leI (by omega) (by omega)] at h; omega
    · refine ⟨vp_in_nI (by omega) (by omega), ?_⟩
      rw [nI_clamp (by omega), s1]
      refine ⟨fun (h3 : nI (w i) < nI 1) => ?_, fun (h3 : ¬ nI (w i) < nI 1) => ⟨fun (h4 : nI 16 < nI be + nI (w i)) => ?_, fun (h4 : ¬ nI 16 < nI be + nI (w i)) => ?_⟩⟩
      · rw [nI_ltI (by omega) (by omega)] at h3
        simp only [rdR, if_neg (show ¬ (1 ≤ w i ∧ be + w i ≤ 16 ∧ w (i + 1) ≤ 5) by omega)] at hQ
        exact hQ
      · rw [e2, nI_ltI (by omega) (by omega)] at h4
        simp only [rdR, if_neg (show ¬ (1 ≤ w i ∧ be + w i ≤ 16 ∧ w (i + 1) ≤ 5) by omega)] at hQ
        exact hQ
      · rw [nI_ltI (by omega) (by omega)] at h3
        rw [e2, nI_ltI (by omega) (by omega)] at h4
        refine ⟨by rw [e1]; exact vp_in_nI (by omega) (by omega), ?_⟩
        rw [e1, nI_clamp (by omega), s3]
        refine (c_isColour (nI (w (i + 1)))).use ?_
        rw [isCol_n (by omega)]
        by_cases h5 : w (i + 1) ≤ 5
        · rw [decide_eq_true h5]
          refine ⟨fun _ => ?_, fun (z : ¬ ¬ nI 1 = 0) => absurd (by decide) z⟩
          simp only [rdR, if_pos (show 1 ≤ w i ∧ be + w i ≤ 16 ∧ w (i + 1) ≤ 5 by omega)] at hQ
          refine Z_go kX5_speakRuns okX5 [79] 80 ?_
          have k2 := speakIn_loop (g := g) (fr := fr) (Q := Q) (sl := sl) (ln := ln) (n := n) (i := i) (be := be) (q := w i) (c := nI (w (i + 1))) (by omega) (by omega) s3 (fun v => by
            refine Z_go kX5_speakRuns okX5 [26] 80 ?_
            have k3 := ih (i + 2) (be + w i) (filB ln be (w i) (nI (w (i + 1)))) (some (vi (nI (w i)))) v (by omega) (by omega) hQ
            rw [← nI_add be, ← nI_add i 2] at k3
            exact k3) (w i) 0 (by omega)
          rw [filB_0] at k2
          exact k2
        · rw [decide_eq_false h5]
          refine ⟨fun z => absurd rfl z, fun _ => ?_⟩
          simp only [rdR, if_neg (show ¬ (1 ≤ w i ∧ be + w i ≤ 16 ∧ w (i + 1) ≤ 5) by omega)] at hQ
          exact hQ
theorem c_speakRuns {sl ln : Nat → Int32} {w : Nat → Nat} {n fr : Nat} (hw : Wd sl w n) (hn : n ≤ 40) (hf : fr ≤ 2) : Dt g mX5_speakRuns [vr 0, vi (nI fr)] (slW n sl ln) (some (vi (oI (srS w n fr ln).1))) (slW n sl (srS w n fr ln).2) := by
  refine Ev_of omX5_speakRuns.1 (Nat.le_of_ble_eq_true rfl) ?_
  refine Z_go kX5_speakRuns okX5 [26] 80 ?_
  refine ⟨fun (h : nI n ≤ nI fr) => ?_, fun (h : ¬ nI n ≤ nI fr) => ?_⟩
  · rw [nI_leI (by omega) (by omega)] at h
    unfold srS
    rw [if_pos (Or.inl h)]
    exact ⟨rfl, rfl⟩
  · rw [nI_leI (by omega) (by omega)] at h
    have e0 : nI n - nI fr = nI (n - fr) := pk_sub (by omega)
    have e : (nI n - nI fr) - (nI n - nI fr) / nI 2 * nI 2 = nI ((n - fr) % 2) := by rw [e0]; exact pk_rem (by omega) (by omega) (by omega)
    refine ⟨by decide, fun (h2 : (nI n - nI fr) - (nI n - nI fr) / nI 2 * nI 2 = nI 0) => ?_, fun (h2 : ¬ (nI n - nI fr) - (nI n - nI fr) / nI 2 * nI 2 = nI 0) => ?_⟩
    · rw [e, nI_eq (by omega) (by omega)] at h2
      have es : srS w n fr ln = rdR w ((n - fr) / 2) fr 0 ln := by unfold srS; rw [if_neg (by omega)]
      rw [es]
      exact speakRuns_loop hw hn ((n - fr) / 2) fr 0 ln none none (by omega) (by omega) ⟨rfl, rfl⟩
    · rw [e, nI_eq (by omega) (by omega)] at h2
      unfold srS
      rw [if_pos (Or.inr h2)]
      exact ⟨rfl, rfl⟩
/-- the line of a row, or that from its end -/
def lkI (L : Nat → Nat → Int32) (W k : Nat) (t : Bool) (ln : Nat → Int32) (c : Nat) : Nat → Int32 := fun j => if j < c then L k (if t then W - 1 - j else j) else ln j
theorem lkI_s {L : Nat → Nat → Int32} {k c : Nat} {t : Bool} {ln : Nat → Int32} : upd (lkI L W k t ln c) c (L k (if t then W - 1 - c else c)) = lkI L W k t ln (c + 1) := by
  funext j
  unfold upd lkI
  by_cases h : j = c
  · subst h; rw [if_pos rfl, if_pos (show j < j + 1 by omega)]
  · rw [if_neg h]
    by_cases h2 : j < c
    · rw [if_pos h2, if_pos (show j < c + 1 by omega)]
    · rw [if_neg h2, if_neg (by omega)]
def slkS (L : Nat → Nat → Int32) (R W n k : Nat) (t : Bool) (ln : Nat → Int32) : Option Nat × (Nat → Int32) := if ¬ n = 2 ∨ ¬ k < R then (none, ln) else (some W, lkI L W k t ln W)
theorem speakLike_loop {sl ln : Nat → Int32} {n k : Nat} {t : Bool} {Q : Option AV → AH → Prop} (hb : Hd b D R W) (hR : R ≤ 12) (hW : W ≤ 16) (hm : m ≤ 1) (hk : k < R) (hQ : Q (some (vi (nI W))) (slP n sl (lkI (lnD D W m) W k t ln W) R W m b)) : ∀ (z c : Nat), c + z = W →
    Z g mX5_speakLike 5 Q 29 [some (vr 0), some (vr 3), some (vi (nI (fl t))), some (vi (nI k)), some (vi (nI c))] [] (slP n sl (lkI (lnD D W m) W k t ln c) R W m b) := by
  intro z
  induction z with
  | zero =>
    intro c h1
    refine Z_go kX5_speakLike okX5 [29] 80 ?_
    refine ⟨fun _ => ?_, fun (h : ¬ nI W ≤ nI c) => ?_⟩
    · have : c = W := by omega
      rw [this]; exact hQ
    · exact absurd (nI_le (by omega) (by omega)) h
  | succ z ih =>
    intro c h1
    have k2 := ih (c + 1) (by omega)
    rw [nI_a1 c, ← lkI_s] at k2
    refine Z_go kX5_speakLike okX5 [29] 80 ?_
    refine ⟨fun (h : nI W ≤ nI c) => ?_, fun _ => ?_⟩
    · rw [nI_leI (by omega) (by omega)] at h; omega
    · cases t with
      | false =>
        refine ⟨fun _ => ?_, fun h => absurd rfl h⟩
        refine ⟨rfl, (c_readAt (i := c) hb hR hW hk (by omega) hm).fr [3, 4] rfl (by decide) rfl ?_⟩
        refine ⟨vp_in_nI (by omega) (by omega), ?_⟩
        rw [nI_clamp (by omega)]
        exact k2
      | true =>
        refine ⟨fun h => absurd (show nI 1 = 0 from h) (by decide), fun _ => ?_⟩
        have e : nI W - nI 1 - nI c = nI (W - 1 - c) := by rw [pk_sub (by omega), pk_sub (by omega)]
        have hc := c_readAt (g := g) (i := W - 1 - c) hb hR hW hk (by omega) hm
        rw [← e] at hc
        refine ⟨rfl, hc.fr [3, 4] rfl (by decide) rfl ?_⟩
        refine ⟨vp_in_nI (by omega) (by omega), ?_⟩
        rw [nI_clamp (by omega)]
        exact k2
theorem hasRow_n {k : Nat} (hR : R ≤ 12) (hk : k < 2 ^ 31) : hasRow R (nI k) = decide (k < R) := by
  unfold hasRow
  rw [decide_eq_decide, nI_ltI hk (by omega)]
  exact ⟨fun h => h.2, fun h => ⟨nI_pos hk, h⟩⟩
theorem c_speakLike {sl ln : Nat → Int32} {w : Nat → Nat} {n : Nat} {t : Bool} (hb : Hd b D R W) (hR : R ≤ 12) (hW : W ≤ 16) (hm : m ≤ 1) (hw : Wd sl w n) (hn2 : 2 ≤ n) (hn : n ≤ 40) : Dt g mX5_speakLike [vr 0, vr 3, vi (nI (fl t))] (slP n sl ln R W m b) (some (vi (oI (slkS (lnD D W m) R W n (w 1) t ln).1))) (slP n sl (slkS (lnD D W m) R W n (w 1) t ln).2 R W m b) := by
  obtain ⟨s1, s2⟩ := hw 1 (by omega)
  refine Ev_of omX5_speakLike.1 (Nat.le_of_ble_eq_true rfl) ?_
  refine Z_go kX5_speakLike okX5 [29] 80 ?_
  refine ⟨vp_in_nI (by omega) (by omega), ?_⟩
  rw [show (nI 1).toNatClampNeg = 1 from rfl, s1]
  refine ⟨fun (h : ¬ nI n = nI 2) => ?_, fun (h : ¬ ¬ nI n = nI 2) => ?_⟩
  · rw [nI_eq (by omega) (by omega)] at h
    unfold slkS
    rw [if_pos (Or.inl h)]
    exact ⟨rfl, rfl⟩
  · rw [nI_eq (by omega) (by omega)] at h
    refine ⟨rfl, (c_hasRow (nI (w 1))).fr [3, 4] rfl (by decide) rfl ?_⟩
    rw [hasRow_n hR (by omega)]
    by_cases h2 : w 1 < R
    · rw [decide_eq_true h2]
      refine ⟨fun _ => ?_, fun (z : ¬ ¬ nI 1 = 0) => absurd (by decide) z⟩
      have es : slkS (lnD D W m) R W n (w 1) t ln = (some W, lkI (lnD D W m) W (w 1) t ln W) := by unfold slkS; rw [if_neg (by omega)]
      rw [es]
      have k := speakLike_loop (g := g) (sl := sl) (ln := ln) (n := n) (t := t) (Q := fun r' B => r' = some (vi (oI (some W))) ∧ B = slP n sl (lkI (lnD D W m) W (w 1) t ln W) R W m b) hb hR hW hm h2 ⟨rfl, rfl⟩ W 0 (by omega)
      have e0 : lkI (lnD D W m) W (w 1) t ln 0 = ln := by funext j; simp [lkI]
      rw [e0] at k
      exact k
    · rw [decide_eq_false h2]
      refine ⟨fun z => absurd rfl z, fun _ => ?_⟩
      unfold slkS
      rw [if_pos (Or.inr h2)]
      exact ⟨rfl, rfl⟩
/-- from the middle on, mirrored, up to c -/
def mrI (W : Nat) (ln : Nat → Int32) (c : Nat) : Nat → Int32 := fun j => if (W + 1) / 2 ≤ j ∧ j < c then ln (W - 1 - j) else ln j
theorem mrI_s {ln : Nat → Int32} {c : Nat} (h0 : (W + 1) / 2 ≤ c) (h1 : c < W) : upd (mrI W ln c) c (mrI W ln c (W - 1 - c)) = mrI W ln (c + 1) := by
  have e : mrI W ln c (W - 1 - c) = ln (W - 1 - c) := by unfold mrI; rw [if_neg (by omega)]
  rw [e]
  funext j
  unfold upd mrI
  by_cases h : j = c
  · subst h; rw [if_pos rfl, if_pos (show (W + 1) / 2 ≤ j ∧ j < j + 1 by omega)]
  · rw [if_neg h]
    by_cases h2 : (W + 1) / 2 ≤ j ∧ j < c
    · rw [if_pos h2, if_pos (show (W + 1) / 2 ≤ j ∧ j < c + 1 by omega)]
    · rw [if_neg h2, if_neg (show ¬ ((W + 1) / 2 ≤ j ∧ j < c + 1) by omega)]
def smS (W : Nat) (w : Nat → Nat) (n : Nat) (ln : Nat → Int32) : Option Nat × (Nat → Int32) := if W < 2 then (none, ln) else if (srS w n 1 ln).1 = some ((W + 1) / 2) then (some W, mrI W (srS w n 1 ln).2 W) else (none, (srS w n 1 ln).2)
theorem oI_inj {o : Option Nat} {k : Nat} (ho : ∀ j, o = some j → j < 2 ^ 31) (hk : k < 2 ^ 31) : oI o = nI k ↔ o = some k := by
  cases o with
  | none =>
    simp only [oI, reduceCtorEq, iff_false]
    intro e
    have e2 := congrArg Int32.toInt e
    rw [nI_toInt hk] at e2
    have : (-nI 4).toInt = -4 := by decide +kernel
    omega
  | some j => simp only [oI, Option.some.injEq]; exact nI_eq (ho j rfl) hk
theorem speakMirror_loop {sl ln : Nat → Int32} {n : Nat} {h2 : Int32} {Q : Option AV → AH → Prop} (hW : W ≤ 16) (hQ : Q (some (vi (nI W))) (slP n sl (mrI W ln W) R W m b)) : ∀ (z c : Nat), c + z = W → (W + 1) / 2 ≤ c →
    Z g mX5_speakMirror 5 Q 31 [some (vr 0), some (vr 3), some (vi h2), some (vi (nI c))] [] (slP n sl (mrI W ln c) R W m b) := by
  intro z
  induction z with
  | zero =>
    intro c h1 h3
    refine Z_go kX5_speakMirror okX5 [31] 80 ?_
    refine ⟨fun _ => ?_, fun (h : ¬ nI W ≤ nI c) => ?_⟩
    · have : c = W := by omega
      rw [this]; exact hQ
    · exact absurd (nI_le (by omega) (by omega)) h
  | succ z ih =>
    intro c h1 h3
    have k2 := ih (c + 1) (by omega) (by omega)
    rw [nI_a1 c, ← mrI_s h3 (by omega)] at k2
    have e : nI W - nI 1 - nI c = nI (W - 1 - c) := by rw [pk_sub (by omega), pk_sub (by omega)]
    refine Z_go kX5_speakMirror okX5 [31] 80 ?_
    refine ⟨fun (h : nI W ≤ nI c) => ?_, fun _ => ?_⟩
    · rw [nI_leI (by omega) (by omega)] at h; omega
    · refine ⟨by rw [e]; exact vp_in_nI (by omega) (by omega), vp_in_nI (by omega) (by omega), ?_⟩
      rw [e, nI_clamp (by omega), nI_clamp (by omega)]
      exact k2
theorem c_speakMirror {sl ln : Nat → Int32} {w : Nat → Nat} {n : Nat} (hW : W ≤ 16) (hw : Wd sl w n) (hn : n ≤ 40) : Dt g mX5_speakMirror [vr 0, vr 3] (slP n sl ln R W m b) (some (vi (oI (smS W w n ln).1))) (slP n sl (smS W w n ln).2 R W m b) := by
  have e : (nI W + nI 1) / nI 2 = nI ((W + 1) / 2) := by rw [nI_add, pk_div (by omega) (by omega) (by omega)]
  have ho : ∀ j, (srS w n 1 ln).1 = some j → j < 2 ^ 31 := fun j h => by have := srS_le h; omega
  refine Ev_of omX5_speakMirror.1 (Nat.le_of_ble_eq_true rfl) ?_
  refine Z_go kX5_speakMirror okX5 [31] 80 ?_
  refine ⟨by decide, fun (h : nI W < nI 2) => ?_, fun (h : ¬ nI W < nI 2) => ?_⟩
  · rw [nI_ltI (by omega) (by omega)] at h
    unfold smS
    rw [if_pos h]
    exact ⟨rfl, rfl⟩
  · rw [nI_ltI (by omega) (by omega)] at h
    refine ⟨rfl, (c_speakRuns (fr := 1) hw hn (by omega)).fr [0, 1, 2] rfl (by decide) rfl ?_⟩
    refine ⟨fun (h2 : oI (srS w n 1 ln).1 = (nI W + nI 1) / nI 2) => ?_, fun (h2 : ¬ oI (srS w n 1 ln).1 = (nI W + nI 1) / nI 2) => ?_⟩
    · rw [e, oI_inj ho (by omega)] at h2
      have es : smS W w n ln = (some W, mrI W (srS w n 1 ln).2 W) := by unfold smS; rw [if_neg h, if_pos h2]
      rw [es]
      have k := speakMirror_loop (g := g) (R := R) (m := m) (b := b) (sl := sl) (ln := (srS w n 1 ln).2) (n := n) (h2 := (nI W + nI 1) / nI 2) (Q := fun r' B => r' = some (vi (oI (some W))) ∧ B = slP n sl (mrI W (srS w n 1 ln).2 W) R W m b) hW ⟨rfl, rfl⟩ (W - (W + 1) / 2) ((W + 1) / 2) (by omega) (by omega)
      have e0 : mrI W (srS w n 1 ln).2 ((W + 1) / 2) = (srS w n 1 ln).2 := by funext j; unfold mrI; rw [if_neg (by omega)]
      rw [e0, ← e] at k
      exact k
    · rw [e, oI_inj ho (by omega)] at h2
      have es : smS W w n ln = (none, (srS w n 1 ln).2) := by unfold smS; rw [if_neg h, if_neg h2]
      rw [es]
      exact ⟨rfl, rfl⟩
/-- a part again and again, up to c -/
def tmI (p : Nat) (ln : Nat → Int32) (c : Nat) : Nat → Int32 := fun j => if p ≤ j ∧ j < c then ln (j % p) else ln j
theorem tmI_s {p c : Nat} {ln : Nat → Int32} (h0 : 1 ≤ p) (h1 : p ≤ c) : upd (tmI p ln c) c (tmI p ln c (c - p)) = tmI p ln (c + 1) := by
  have e : tmI p ln c (c - p) = ln (c % p) := by
    unfold tmI
    by_cases h : p ≤ c - p
    · rw [if_pos (by omega), Nat.mod_eq_sub_mod h1]
    · rw [if_neg (by omega), Nat.mod_eq_sub_mod h1, Nat.mod_eq_of_lt (by omega)]
  rw [e]
  funext j
  unfold upd
  by_cases h : j = c
  · subst h; rw [if_pos rfl]; unfold tmI; rw [if_pos (show p ≤ j ∧ j < j + 1 by omega)]
  · rw [if_neg h]
    unfold tmI
    by_cases h2 : p ≤ j ∧ j < c
    · rw [if_pos h2, if_pos (show p ≤ j ∧ j < c + 1 by omega)]
    · rw [if_neg h2, if_neg (show ¬ (p ≤ j ∧ j < c + 1) by omega)]
def stmS (R W t : Nat) (w : Nat → Nat) (n : Nat) (ln : Nat → Int32) : Option Nat × (Nat → Int32) := if t < 2 ∨ 16 < t then (none, (srS w n 2 ln).2) else match (srS w n 2 ln).1 with
  | none => (none, (srS w n 2 ln).2)
  | some p => if fit R W (t * p) then (some (t * p), tmI p (srS w n 2 ln).2 (t * p)) else (none, (srS w n 2 ln).2)
theorem speakTimes_loop {sl ln : Nat → Int32} {n p e : Nat} {t : Int32} {Q : Option AV → AH → Prop} (hp : 1 ≤ p) (he : e ≤ 16) (hQ : Q (some (vi (nI e))) (slP n sl (tmI p ln e) R W m b)) : ∀ (z c : Nat), c + z = e → p ≤ c →
    Z g mX5_speakTimes 5 Q 45 [some (vr 0), some (vr 3), some (vi t), some (vi (nI p)), some (vi (nI e)), some (vi (nI c))] [] (slP n sl (tmI p ln c) R W m b) := by
  intro z
  induction z with
  | zero =>
    intro c h1 h3
    refine Z_go kX5_speakTimes okX5 [45] 80 ?_
    refine ⟨fun _ => ?_, fun (h : ¬ nI e ≤ nI c) => ?_⟩
    · have : c = e := by omega
      rw [this]; exact hQ
    · exact absurd (nI_le (by omega) (by omega)) h
  | succ z ih =>
    intro c h1 h3
    have k2 := ih (c + 1) (by omega) (by omega)
    rw [nI_a1 c, ← tmI_s hp h3] at k2
    have e2 : nI c - nI p = nI (c - p) := pk_sub h3
    refine Z_go kX5_speakTimes okX5 [45] 80 ?_
    refine ⟨fun (h : nI e ≤ nI c) => ?_, fun _ => ?_⟩
    · rw [nI_leI (by omega) (by omega)] at h; omega
    · refine ⟨by rw [e2]; exact vp_in_nI (by omega) (by omega), vp_in_nI (by omega) (by omega), ?_⟩
      rw [e2, nI_clamp (by omega), nI_clamp (by omega)]
      exact k2
theorem fit_le {be : Nat} (hW : W ≤ 16) (h : fit R W be = true) : be ≤ 16 := by
  unfold fit at h
  split at h
  · have := of_decide_eq_true h; omega
  · have := of_decide_eq_true h; omega
theorem c_speakTimes {sl ln : Nat → Int32} {w : Nat → Nat} {n : Nat} (hR : R ≤ 12) (hW : W ≤ 16) (hw : Wd sl w n) (hn2 : 2 ≤ n) (hn : n ≤ 40) : Dt g mX5_speakTimes [vr 0, vr 3] (slP n sl ln R W m b) (some (vi (oI (stmS R W (w 1) w n ln).1))) (slP n sl (stmS R W (w 1) w n ln).2 R W m b) := by
  obtain ⟨s1, s2⟩ := hw 1 (by omega)
  have ho : ∀ j, (srS w n 2 ln).1 = some j → j < 2 ^ 31 := fun j h => by have := srS_le h; omega
  have hn0 := oI_none ho
  refine Ev_of omX5_speakTimes.1 (Nat.le_of_ble_eq_true rfl) ?_
  refine Z_go kX5_speakTimes okX5 [45] 80 ?_
  refine ⟨vp_in_nI (by omega) (by omega), ?_⟩
  rw [show (nI 1).toNatClampNeg = 1 from rfl, s1]
  refine ⟨rfl, (c_speakRuns (fr := 2) hw hn (by omega)).fr [0, 1, 2] rfl (by decide) rfl ?_⟩
  refine ⟨fun (h : nI (w 1) < nI 2) => ?_, fun (h : ¬ nI (w 1) < nI 2) => ⟨fun (h2 : nI 16 < nI (w 1)) => ?_, fun (h2 : ¬ nI 16 < nI (w 1)) => ⟨fun (h3 : ¬ oI (srS w n 2 ln).1 = -nI 4) => ?_, fun (h3 : ¬ ¬ oI (srS w n 2 ln).1 = -nI 4) => ?_⟩⟩⟩
  · rw [nI_ltI (by omega) (by omega)] at h
    unfold stmS
    rw [if_pos (Or.inl h)]
    exact ⟨rfl, rfl⟩
  · rw [nI_ltI (by omega) (by omega)] at h2
    unfold stmS
    rw [if_pos (Or.inr h2)]
    exact ⟨rfl, rfl⟩
  · rw [nI_ltI (by omega) (by omega)] at h h2
    rw [hn0] at h3
    obtain ⟨p, hp⟩ := Option.ne_none_iff_exists'.mp h3
    obtain ⟨p1, p2⟩ := srS_le hp
    have hmul : w 1 * p ≤ 256 := Nat.le_trans (Nat.mul_le_mul (show w 1 ≤ 16 by omega) p2) (by decide)
    have hpm : p ≤ w 1 * p := by have := Nat.mul_le_mul (show 1 ≤ w 1 by omega) (Nat.le_refl p); omega
    have em : nI (w 1) * nI p = nI (w 1 * p) := pk_mul _ _
    rw [hp]
    have hf := c_fitting (g := g) (R := R) (W := W) (m := m) (b := b) (o := some (w 1 * p)) hR hW (fun be h => by cases h; exact hmul) rfl
    have hf2 : Dt g mX5_fitting [vr 0, vi (nI (w 1) * nI p)] (pW R W m b) (some (vi (oI (fitO R W (some (w 1 * p)))))) (pW R W m b) := by rw [em]; exact hf
    refine hf2.fr [3, 4] rfl (by decide) rfl ?_
    have es : stmS R W (w 1) w n ln = if fit R W (w 1 * p) then (some (w 1 * p), tmI p (srS w n 2 ln).2 (w 1 * p)) else (none, (srS w n 2 ln).2) := by unfold stmS; rw [if_neg (by omega), hp]
    rw [es]
    simp only [fitO]
    by_cases hfit : fit R W (w 1 * p) = true
    · rw [if_pos hfit, if_pos hfit]
      have k := speakTimes_loop (g := g) (R := R) (W := W) (m := m) (b := b) (sl := sl) (ln := (srS w n 2 ln).2) (n := n) (t := nI (w 1)) (Q := fun r' B => r' = some (vi (oI (some (w 1 * p)))) ∧ B = slP n sl (tmI p (srS w n 2 ln).2 (w 1 * p)) R W m b) p1 (fit_le hW hfit) ⟨rfl, rfl⟩ (w 1 * p - p) p (by omega) (Nat.le_refl _)
      have e0 : tmI p (srS w n 2 ln).2 p = (srS w n 2 ln).2 := by funext j; unfold tmI; rw [if_neg (by omega)]
      rw [e0] at k
      exact k
    · rw [if_neg hfit, if_neg hfit]
      refine Z_go kX5_speakTimes okX5 [] 80 ?_
      refine ⟨fun _ => ⟨rfl, rfl⟩, fun (z : ¬ -nI 4 ≤ nI p) => ?_⟩
      refine absurd ?_ z
      rw [Int32.le_iff_toInt_le, nI_toInt (by omega)]
      have : (-nI 4).toInt = -4 := by decide +kernel
      omega
  · rw [hn0] at h3
    have h3 := Classical.not_not.mp h3
    have es : stmS R W (w 1) w n ln = (none, (srS w n 2 ln).2) := by
      unfold stmS
      split
      · rfl
      · rw [h3]
    rw [es]
    exact ⟨rfl, rfl⟩
/-- what is spoken: how many beads, and the line -/
def spkS (L : Nat → Nat → Int32) (R W : Nat) (w : Nat → Nat) (n : Nat) (ln : Nat → Int32) : Option Nat × (Nat → Int32) := if n < 2 then (none, ln) else match w 0 with
  | 0 => slkS L R W n (w 1) false ln
  | 1 => slkS L R W n (w 1) true ln
  | 2 => smS W w n ln
  | 3 => stmS R W (w 1) w n ln
  | 4 => (fitO R W (srS w n 1 ln).1, (srS w n 1 ln).2)
  | _ => (none, ln)
theorem c_speak {sl ln : Nat → Int32} {w : Nat → Nat} {n : Nat} (hb : Hd b D R W) (hR : R ≤ 12) (hW : W ≤ 16) (hm : m ≤ 1) (hw : Wd sl w n) (hn : n ≤ 40) : Dt g mX5_speak [vr 0, vr 3] (slP n sl ln R W m b) (some (vi (oI (spkS (lnD D W m) R W w n ln).1))) (slP n sl (spkS (lnD D W m) R W w n ln).2 R W m b) := by
  refine Ev_of omX5_speak.1 (Nat.le_of_ble_eq_true rfl) ?_
  refine Z_go kX5_speak okX5 [] 80 ?_
  refine ⟨fun (h : nI 2 ≤ nI n) => ?_, fun (h : ¬ nI 2 ≤ nI n) => ?_⟩
  · rw [nI_leI (by omega) (by omega)] at h
    obtain ⟨s1, s2⟩ := hw 0 (by omega)
    have ho : ∀ be, (srS w n 1 ln).1 = some be → be ≤ 256 := fun j h => by have := srS_le h; omega
    refine ⟨vp_in_nI (by omega) (by omega), ?_⟩
    rw [show (nI 0).toNatClampNeg = 0 from rfl, s1]
    have ne : ∀ k, w 0 ≠ k → k ≤ 4 → ¬ nI (w 0) = nI k := fun k h1 h2 => by rw [nI_eq (by omega) (by omega)]; exact h1
    have eq : ∀ k, k ≤ 4 → nI (w 0) = nI k → w 0 = k := fun k h1 h2 => by rwa [nI_eq (by omega) (by omega)] at h2
    refine ⟨fun h0 => ?_, fun h0 => ⟨fun h1 => ?_, fun h1 => ⟨fun h2 => ?_, fun h2 => ⟨fun h3 => ?_, fun h3 => ⟨fun h4 => ?_, fun h4 => ?_⟩⟩⟩⟩⟩
    · have es : spkS (lnD D W m) R W w n ln = slkS (lnD D W m) R W n (w 1) false ln := by unfold spkS; rw [if_neg (by omega), eq 0 (by omega) h0] <;> rfl
      rw [es]
      refine ⟨rfl, (c_speakLike (t := false) hb hR hW hm hw h hn).use ?_⟩
      exact ⟨rfl, rfl⟩
    · have es : spkS (lnD D W m) R W w n ln = slkS (lnD D W m) R W n (w 1) true ln := by unfold spkS; rw [if_neg (by omega), eq 1 (by omega) h1] <;> rfl
      rw [es]
      refine ⟨rfl, (c_speakLike (t := true) hb hR hW hm hw h hn).use ?_⟩
      exact ⟨rfl, rfl⟩
    · have es : spkS (lnD D W m) R W w n ln = smS W w n ln := by unfold spkS; rw [if_neg (by omega), eq 2 (by omega) h2] <;> rfl
      rw [es]
      refine ⟨rfl, (c_speakMirror hW hw hn).use ?_⟩
      exact ⟨rfl, rfl⟩
    · have es : spkS (lnD D W m) R W w n ln = stmS R W (w 1) w n ln := by unfold spkS; rw [if_neg (by omega), eq 3 (by omega) h3] <;> rfl
      rw [es]
      refine ⟨rfl, (c_speakTimes hR hW hw h hn).use ?_⟩
      exact ⟨rfl, rfl⟩
    · have es : spkS (lnD D W m) R W w n ln = (fitO R W (srS w n 1 ln).1, (srS w n 1 ln).2) := by unfold spkS; rw [if_neg (by omega), eq 4 (by omega) h4] <;> rfl
      rw [es]
      refine ⟨rfl, (c_speakRuns (fr := 1) hw hn (by omega)).fr [0, 1, 2] rfl (by decide) rfl ?_⟩
      refine (c_fitting (R := R) (W := W) (m := m) (b := b) hR hW ho rfl).fr [3, 4] rfl (by decide) rfl ?_
      exact ⟨rfl, rfl⟩
    · have es : spkS (lnD D W m) R W w n ln = (none, ln) := by
        have q0 : w 0 ≠ 0 := fun z => h0 (by rw [z] <;> rfl)
        have q1 : w 0 ≠ 1 := fun z => h1 (by rw [z] <;> rfl)
        have q2 : w 0 ≠ 2 := fun z => h2 (by rw [z] <;> rfl)
        have q3 : w 0 ≠ 3 := fun z => h3 (by rw [z] <;> rfl)
        have q4 : w 0 ≠ 4 := fun z => h4 (by rw [z] <;> rfl)
        unfold spkS
        rw [if_neg (by omega)]
        match hh : w 0 with
        | 0 => exact absurd hh q0
        | 1 => exact absurd hh q1
        | 2 => exact absurd hh q2
        | 3 => exact absurd hh q3
        | 4 => exact absurd hh q4
        | k + 5 => rfl
      rw [es]
      exact ⟨rfl, rfl⟩
  · rw [nI_leI (by omega) (by omega)] at h
    have es : spkS (lnD D W m) R W w n ln = (none, ln) := by unfold spkS; rw [if_pos (by omega)]
    rw [es]
    exact ⟨rfl, rfl⟩
end SLP
