theorem sm_0 {f : Nat → Nat} : ∀ (n c : Nat), (∀ i, c ≤ i → i < c + n → f i = 0) → sm f c n = 0 := by
  intro n c h
  have := sm_le (f := f) (k := 0) n c (fun i h1 h2 => by rw [h i h1 h2]; exact Nat.le_refl _)
  omega
theorem sm_1 {f : Nat → Nat} {k : Nat} : ∀ (n c : Nat), c ≤ k → k < c + n → (∀ i, c ≤ i → i < c + n → ¬ i = k → f i = 0) → sm f c n = f k := by
  intro n
  induction n with
  | zero => intro c h1 h2 _; omega
  | succ n ih =>
    intro c h1 h2 h3
    simp only [sm]
    by_cases e : c = k
    · subst e
      rw [sm_0 n (c + 1) (fun i a b => h3 i (by omega) (by omega) (by omega))]; omega
    · rw [h3 c (Nat.le_refl _) (by omega) e, ih (c + 1) (by omega) (by omega) (fun i a b d => h3 i (by omega) (by omega) d)]; omega
theorem nI_m4 {k : Nat} (hk : k < 2 ^ 31) : ¬ nI k = -nI 4 := fun e => by
  have e2 := congrArg Int32.toInt e
  rw [nI_toInt hk] at e2
  have : (-nI 4).toInt = -4 := by decide +kernel
  omega
section MOD
variable {g : GG} {a : Nat → Nat → Int32} {f : Nat → Int32} {R W m : Nat} {D : Nat → Nat → Int32}
theorem m_wordOf (hs : HM (a 1) R W m D) (hR : R ≤ 12) (hW : W ≤ 16) (hm : m ≤ 1) {r i : Nat} (hr : r < R) (hW1 : 1 ≤ W) (hi : i < (wrdN (lnD D W m) W r (frmL (lnD D W m) W r)).getD 0) : Dt g mX10_wordOf [vr 0, vi (nI r), vi (nI i)] (mW a f) (some (vi (wrdA (lnD D W m) W r i))) (mW a f) := by
  unfold wrdA
  have hform := m_formOf (g := g) (f := f) hs hR hW hm hr hW1
  have hle := frm_le (L := lnD D W m) (W := W) (r := r)
  have hsm := frm_some (L := lnD D W m) (W := W) (r := r)
  generalize frmL (lnD D W m) W r = q at hi hform hle hsm ⊢
  obtain ⟨k, hk⟩ := Option.isSome_iff_exists.mp hsm
  have hk34 := wrdN_le hW hW1 hk
  rw [hk] at hi
  have hi : i < k := hi
  have hp := partL_le (l := lnD D W m r) hW1
  have h0 : q = 0 ∨ q = 1 ∨ q = 2 ∨ q = 3 ∨ q = 4 := by omega
  refine Ev_of omX10_wordOf.1 (Nat.le_of_ble_eq_true rfl) ?_
  refine Z_go kX10_wordOf okX10 [12, 34, 57, 122] 80 ?_
  refine ⟨rfl, hform.use ?_⟩
  by_cases hi0 : i = 0
  · subst hi0
    refine ⟨fun z => absurd rfl z, fun _ => ⟨?_, rfl⟩⟩
    rw [tbS_0]
  · refine ⟨fun _ => ?_, fun (z : ¬ ¬ nI i = nI 0) => absurd (nI_ne0 (by omega) (by omega)) z⟩
    have e1 : nI i - nI 1 = nI (i - 1) := pk_sub (by omega)
    rcases h0 with rfl | rfl | rfl | rfl | rfl
    · refine Z_go kX10_wordOf okX10 [34] 80 ?_
      refine ⟨fun (z : nI 2 ≤ nI 0) => absurd z (by decide), fun _ => ⟨fun _ => ?_, fun z => absurd (show ¬ nI 0 = nI 1 by decide) z⟩⟩
      refine ⟨rfl, (m_likeOf (t := false) hs hR hW hm hr (by omega)).use ⟨?_, rfl⟩⟩
      simp only [wrdN] at hk
      unfold tbS
      cases hl : likeL (lnD D W m) W r r false with
      | none => rw [hl] at hk; simp at hk
      | some j =>
        rw [hl] at hk
        simp at hk
        simp only [tlk]
        rw [show i = 1 by omega, updS]; rfl
    · refine Z_go kX10_wordOf okX10 [34] 80 ?_
      refine ⟨fun (z : nI 2 ≤ nI 1) => absurd z (by decide), fun _ => ⟨fun z => absurd rfl z, fun _ => ?_⟩⟩
      refine ⟨rfl, (m_likeOf (t := true) hs hR hW hm hr (by omega)).use ⟨?_, rfl⟩⟩
      simp only [wrdN] at hk
      unfold tbS
      cases hl : likeL (lnD D W m) W r r true with
      | none => rw [hl] at hk; simp at hk
      | some j =>
        rw [hl] at hk
        simp at hk
        simp only [tlk]
        rw [show i = 1 by omega, updS]; rfl
    · simp only [wrdN] at hk
      by_cases hc : W < 2 ∨ sameL (lnD D W m) W r r true = false
      · rw [if_pos hc] at hk; cases hk
      · rw [if_neg hc] at hk
        have hk := Option.some.inj hk
        have e : (nI W + nI 1) / nI 2 = nI ((W + 1) / 2) := by rw [nI_add, pk_div (by omega) (by omega) (by omega)]
        have ev : (tbS (lnD D W m) W r 2 (fun _ => 0)).2.2 i = if (i - 1) % 2 = 0 then nI (cnt (lnD D W m r) ((i - 1) / 2) ((W + 1) / 2)) else col (lnD D W m r) ((i - 1) / 2) ((W + 1) / 2) := by
          unfold tbS tmr
          dsimp only
          rw [if_neg hc]
          have := trI_at (l := lnD D W m r) (n := (W + 1) / 2) (x := (1, upd (fun _ => 0) 0 (nI 2))) (t := i - 1) (by omega)
          rw [← this, show 1 + (i - 1) = i by omega]
        rw [ev]
        have k := wordOf_loop (g := g) (f := f) (v2 := some (vi (nI i))) (v3 := some (vi (nI 2))) (Q := fun r' B => r' = some (vi (if (i - 1) % 2 = 0 then nI (cnt (lnD D W m r) ((i - 1) / 2) ((W + 1) / 2)) else col (lnD D W m r) ((i - 1) / 2) ((W + 1) / 2))) ∧ B = mW a f) hs hR hW hm (N := (W + 1) / 2) (t := i - 1) hr (by omega) (by omega) ⟨rfl, rfl⟩ ((W + 1) / 2) 0 (by omega)
        refine Z_go kX10_wordOf okX10 [34, 57, 122] 80 ?_
        refine ⟨fun _ => ?_, fun z => absurd (show nI 2 ≤ nI 2 by decide) z⟩
        refine Z_go kX10_wordOf okX10 [57, 122] 80 ?_
        refine ⟨fun _ => ?_, fun z => absurd (show ¬ nI 2 = nI 3 by decide) z⟩
        refine Z_go kX10_wordOf okX10 [122] 80 ?_
        refine ⟨fun _ => ⟨fun z => absurd rfl z, fun _ => ?_⟩, fun z => absurd (show ¬ nI 2 = nI 3 by decide) z⟩
        refine ⟨vin (by omega) (by omega), ?_⟩
        rw [show (nI 1).toNatClampNeg = 1 from rfl, hs.2.1 (by omega)]
        refine ⟨by decide, ?_⟩
        rw [← e, ← e1] at k
        exact k
    · simp only [wrdN] at hk
      by_cases hc : partL (lnD D W m r) W = W
      · rw [if_pos hc] at hk; cases hk
      · rw [if_neg hc] at hk
        have hk := Option.some.inj hk
        have ev1 : (tbS (lnD D W m) W r 3 (fun _ => 0)).2.2 = (trI (lnD D W m r) (partL (lnD D W m r) W) (1 + 1, upd (upd (fun _ => 0) 0 (nI 3)) 1 (nI (W / partL (lnD D W m r) W))) (partL (lnD D W m r) W)).2.2 := by
          unfold tbS ttm
          dsimp only
          rw [if_neg (by omega)]
        rw [ev1]
        refine Z_go kX10_wordOf okX10 [34, 57, 122] 80 ?_
        refine ⟨fun _ => ?_, fun z => absurd (show nI 2 ≤ nI 3 by decide) z⟩
        refine Z_go kX10_wordOf okX10 [57, 122] 80 ?_
        refine ⟨fun z => absurd rfl z, fun _ => ⟨fun (h1 : ¬ nI i = nI 1) => ?_, fun (h1 : ¬ ¬ nI i = nI 1) => ?_⟩⟩
        · rw [nI_eq (by omega) (by omega)] at h1
          have e2 : nI i - nI 2 = nI (i - 2) := pk_sub (by omega)
          have ev := trI_at (l := lnD D W m r) (n := partL (lnD D W m r) W) (x := (1 + 1, upd (upd (fun _ => 0) 0 (nI 3)) 1 (nI (W / partL (lnD D W m r) W)))) (t := i - 2) (by omega)
          dsimp only at ev
          rw [show 1 + 1 + (i - 2) = i by omega] at ev
          rw [ev]
          have k := wordOf_loop (g := g) (f := f) (v2 := some (vi (nI i))) (v3 := some (vi (nI 3))) (Q := fun r' B => r' = some (vi (if (i - 2) % 2 = 0 then nI (cnt (lnD D W m r) ((i - 2) / 2) (partL (lnD D W m r) W)) else col (lnD D W m r) ((i - 2) / 2) (partL (lnD D W m r) W))) ∧ B = mW a f) hs hR hW hm (N := partL (lnD D W m r) W) (t := i - 2) hr (by omega) (by omega) ⟨rfl, rfl⟩ (partL (lnD D W m r) W) 0 (by omega)
          refine Z_go kX10_wordOf okX10 [122] 80 ?_
          refine ⟨fun z => absurd rfl z, fun _ => ⟨fun _ => ⟨fun z => absurd rfl z, fun _ => ?_⟩, fun z => absurd (show ¬ nI 3 = nI 2 by decide) z⟩⟩
          refine ⟨rfl, (m_partOf hs hR hW hm hr hW1).use ?_⟩
          rw [← e2] at k
          exact k
        · rw [nI_eq (by omega) (by omega)] at h1
          refine ⟨vin (by omega) (by omega), ?_⟩
          rw [show (nI 1).toNatClampNeg = 1 from rfl, hs.2.1 (by omega)]
          refine ⟨rfl, (m_partOf hs hR hW hm hr hW1).use ?_⟩
          refine ⟨nI_ne0 (by omega) (by omega), ?_, rfl⟩
          rw [pk_div (by omega) (by omega) (by omega), show i = 1 by omega]
          rw [(trI_keep (x := (1 + 1, upd (upd (fun _ => 0) 0 (nI 3)) 1 (nI (W / partL (lnD D W m r) W)))) _ 1 (Nat.le_of_ble_eq_true rfl)).1]
          dsimp only
          rw [updS]
    · have hk := Option.some.inj hk
      have ev : (tbS (lnD D W m) W r 4 (fun _ => 0)).2.2 i = if (i - 1) % 2 = 0 then nI (cnt (lnD D W m r) ((i - 1) / 2) W) else col (lnD D W m r) ((i - 1) / 2) W := by
        show (trI (lnD D W m r) W (1, upd (fun _ => 0) 0 (nI 4)) W).2.2 i = _
        have := trI_at (l := lnD D W m r) (n := W) (x := (1, upd (fun _ => 0) 0 (nI 4))) (t := i - 1) (by omega)
        rw [← this, show 1 + (i - 1) = i by omega]
      rw [ev]
      have k := wordOf_loop (g := g) (f := f) (v2 := some (vi (nI i))) (v3 := some (vi (nI 4))) (Q := fun r' B => r' = some (vi (if (i - 1) % 2 = 0 then nI (cnt (lnD D W m r) ((i - 1) / 2) W) else col (lnD D W m r) ((i - 1) / 2) W)) ∧ B = mW a f) hs hR hW hm (N := W) (t := i - 1) hr (by omega) (by omega) ⟨rfl, rfl⟩ W 0 (by omega)
      refine Z_go kX10_wordOf okX10 [34, 57, 122] 80 ?_
      refine ⟨fun _ => ?_, fun z => absurd (show nI 2 ≤ nI 4 by decide) z⟩
      refine Z_go kX10_wordOf okX10 [57, 122] 80 ?_
      refine ⟨fun _ => ?_, fun z => absurd (show ¬ nI 4 = nI 3 by decide) z⟩
      refine Z_go kX10_wordOf okX10 [122] 80 ?_
      refine ⟨fun _ => ⟨fun _ => ⟨fun _ => ?_, fun z => absurd (show ¬ nI 4 = nI 3 by decide) z⟩, fun z => absurd (show ¬ nI 4 = nI 2 by decide) z⟩, fun z => absurd (show ¬ nI 4 = nI 3 by decide) z⟩
      refine ⟨vin (by omega) (by omega), ?_⟩
      rw [show (nI 1).toNatClampNeg = 1 from rfl, hs.2.1 (by omega)]
      rw [← e1] at k
      exact k
theorem allWords_loop (hs : HM (a 1) R W m D) (hR : R ≤ 12) (hW : W ≤ 16) (hm : m ≤ 1) (hW1 : R ≠ 0 → 1 ≤ W) {Q : Option AV → AH → Prop} : ∀ (n c s : Nat), c + n = R → Q (some (vi (nI (s + sm (fun r => (wrdN (lnD D W m) W r (frmL (lnD D W m) W r)).getD 0) c n)))) (mW a f) →
    Z g mX10_allWords 11 Q 4 [some (vr 0), some (vi (nI s)), some (vi (nI c))] [] (mW a f) := by
  intro n
  induction n with
  | zero =>
    intro c s h1 hQ
    refine Z_go kX10_allWords okX10 [4] 80 ?_
    refine ⟨vin (by omega) (by omega), ?_⟩
    rw [show (nI 0).toNatClampNeg = 0 from rfl, hs.1]
    refine ⟨fun _ => hQ, fun (h : ¬ nI R ≤ nI c) => absurd (nI_le (by omega) (by omega)) h⟩
  | succ n ih =>
    intro c s h1 hQ
    have hW1 := hW1 (by omega)
    refine Z_go kX10_allWords okX10 [4] 80 ?_
    refine ⟨vin (by omega) (by omega), ?_⟩
    rw [show (nI 0).toNatClampNeg = 0 from rfl, hs.1]
    refine ⟨fun (h : nI R ≤ nI c) => ?_, fun _ => ?_⟩
    · rw [nI_leI (by omega) (by omega)] at h; omega
    · refine ⟨rfl, (m_formOf hs hR hW hm (show c < R by omega) hW1).use ?_⟩
      refine ⟨rfl, (m_wordsBy hs hR hW hm (show c < R by omega) hW1 frm_le).use ?_⟩
      obtain ⟨j, hj⟩ := Option.isSome_iff_exists.mp (frm_some (L := lnD D W m) (W := W) (r := c))
      have k := ih (c + 1) (s + j) (by omega) (by simpa [sm, hj, Nat.add_assoc] using hQ)
      rw [nI_a1 c, ← nI_add s] at k
      rw [hj]
      exact k
theorem m_allWords (hs : HM (a 1) R W m D) (hR : R ≤ 12) (hW : W ≤ 16) (hm : m ≤ 1) (hW1 : R ≠ 0 → 1 ≤ W) : Dt g mX10_allWords [vr 0] (mW a f) (some (vi (nI (allW (lnD D W m) W R)))) (mW a f) := by
  refine Ev_of omX10_allWords.1 (Nat.le_of_ble_eq_true rfl) ?_
  refine Z_go kX10_allWords okX10 [4] 80 ?_
  exact allWords_loop hs hR hW hm hW1 R 0 0 (by omega) ⟨by rw [Nat.zero_add]; rfl, rfl⟩
theorem unlike_loop (hs : HM (a 1) R W m D) (hR : R ≤ 12) (hW : W ≤ 16) (hm : m ≤ 1) {Q : Option AV → AH → Prop} : ∀ (n c s : Nat), c + n = R → Q (some (vi (nI (s + sm (fun r => fl (likeL (lnD D W m) W r r false).isNone) c n)))) (mW a f) →
    Z g mX10_unlike 11 Q 4 [some (vr 0), some (vi (nI s)), some (vi (nI c))] [] (mW a f) := by
  intro n
  induction n with
  | zero =>
    intro c s h1 hQ
    refine Z_go kX10_unlike okX10 [4] 80 ?_
    refine ⟨vin (by omega) (by omega), ?_⟩
    rw [show (nI 0).toNatClampNeg = 0 from rfl, hs.1]
    refine ⟨fun _ => hQ, fun (h : ¬ nI R ≤ nI c) => absurd (nI_le (by omega) (by omega)) h⟩
  | succ n ih =>
    intro c s h1 hQ
    have hn := oI_none (o := likeL (lnD D W m) W c c false) (fun k h => by have := likeL_lt h; omega)
    have go : ∀ b : Bool, (likeL (lnD D W m) W c c false).isNone = b → Z g mX10_unlike 11 Q 32 [some (vr 0), some (vi (nI s)), some (vi (nI c))] [vi (nI (fl b)), vi (nI s)] (mW a f) := by
      intro b hb
      refine Z_go kX10_unlike okX10 [4] 80 ?_
      refine (m_flag b).use ?_
      have k := ih (c + 1) (s + fl b) (by omega) (by rw [← hb]; simpa [sm, Nat.add_assoc] using hQ)
      rw [nI_a1 c, ← nI_add s] at k
      exact k
    refine Z_go kX10_unlike okX10 [4, 32] 80 ?_
    refine ⟨vin (by omega) (by omega), ?_⟩
    rw [show (nI 0).toNatClampNeg = 0 from rfl, hs.1]
    refine ⟨fun (h : nI R ≤ nI c) => ?_, fun _ => ?_⟩
    · rw [nI_leI (by omega) (by omega)] at h; omega
    · refine ⟨rfl, (m_likeOf (t := false) hs hR hW hm (show c < R by omega) (by omega)).use ?_⟩
      refine ⟨fun (h : ¬ oI (likeL (lnD D W m) W c c false) = -nI 4) => ?_, fun (h : ¬ ¬ oI (likeL (lnD D W m) W c c false) = -nI 4) => ?_⟩
      · rw [hn] at h
        exact go false (by cases h5 : likeL (lnD D W m) W c c false with
          | none => exact absurd h5 h
          | some _ => rfl)
      · rw [hn] at h
        exact go true (by simpa using h)
theorem m_unlike (hs : HM (a 1) R W m D) (hR : R ≤ 12) (hW : W ≤ 16) (hm : m ≤ 1) : Dt g mX10_unlike [vr 0] (mW a f) (some (vi (nI (unlikeL (lnD D W m) W R)))) (mW a f) := by
  refine Ev_of omX10_unlike.1 (Nat.le_of_ble_eq_true rfl) ?_
  refine Z_go kX10_unlike okX10 [4] 80 ?_
  exact unlike_loop hs hR hW hm R 0 0 (by omega) ⟨by rw [Nat.zero_add]; rfl, rfl⟩
theorem allRuns_loop (hs : HM (a 1) R W m D) (hR : R ≤ 12) (hW : W ≤ 16) (hm : m ≤ 1) {Q : Option AV → AH → Prop} : ∀ (n c s : Nat), c + n = R → Q (some (vi (nI (s + sm (fun r => runsL (lnD D W m r) W) c n)))) (mW a f) →
    Z g mX10_allRuns 11 Q 4 [some (vr 0), some (vi (nI s)), some (vi (nI c))] [] (mW a f) := by
  intro n
  induction n with
  | zero =>
    intro c s h1 hQ
    refine Z_go kX10_allRuns okX10 [4] 80 ?_
    refine ⟨vin (by omega) (by omega), ?_⟩
    rw [show (nI 0).toNatClampNeg = 0 from rfl, hs.1]
    refine ⟨fun _ => hQ, fun (h : ¬ nI R ≤ nI c) => absurd (nI_le (by omega) (by omega)) h⟩
  | succ n ih =>
    intro c s h1 hQ
    refine Z_go kX10_allRuns okX10 [4] 80 ?_
    refine ⟨vin (by omega) (by omega), ?_⟩
    rw [show (nI 0).toNatClampNeg = 0 from rfl, hs.1]
    refine ⟨fun (h : nI R ≤ nI c) => ?_, fun _ => ?_⟩
    · rw [nI_leI (by omega) (by omega)] at h; omega
    · refine ⟨vin (by omega) (by omega), ?_⟩
      rw [show (nI 1).toNatClampNeg = 1 from rfl, hs.2.1 (by omega)]
      refine ⟨rfl, (m_runsOf hs hR hW hm (show c < R by omega) (Nat.le_refl _)).use ?_⟩
      have k := ih (c + 1) (s + runsL (lnD D W m c) W) (by omega) (by simpa [sm, Nat.add_assoc] using hQ)
      rw [nI_a1 c, ← nI_add s] at k
      exact k
theorem m_allRuns (hs : HM (a 1) R W m D) (hR : R ≤ 12) (hW : W ≤ 16) (hm : m ≤ 1) : Dt g mX10_allRuns [vr 0] (mW a f) (some (vi (nI (runsA (lnD D W m) W R)))) (mW a f) := by
  refine Ev_of omX10_allRuns.1 (Nat.le_of_ble_eq_true rfl) ?_
  refine Z_go kX10_allRuns okX10 [4] 80 ?_
  exact allRuns_loop hs hR hW hm R 0 0 (by omega) ⟨by rw [Nat.zero_add]; rfl, rfl⟩
theorem likes_loop (hs : HM (a 1) R W m D) (hR : R ≤ 12) (hW : W ≤ 16) (hm : m ≤ 1) {r : Nat} (hr : r < R) {Q : Option AV → AH → Prop} : ∀ (n c s : Nat), c + n = R → Q (some (vi (nI (s + sm (fun q => fl (sameL (lnD D W m) W r q false)) c n)))) (mW a f) →
    Z g mX10_likes 11 Q 4 [some (vr 0), some (vi (nI r)), some (vi (nI s)), some (vi (nI c))] [] (mW a f) := by
  intro n
  induction n with
  | zero =>
    intro c s h1 hQ
    refine Z_go kX10_likes okX10 [4] 80 ?_
    refine ⟨vin (by omega) (by omega), ?_⟩
    rw [show (nI 0).toNatClampNeg = 0 from rfl, hs.1]
    refine ⟨fun _ => hQ, fun (h : ¬ nI R ≤ nI c) => absurd (nI_le (by omega) (by omega)) h⟩
  | succ n ih =>
    intro c s h1 hQ
    refine Z_go kX10_likes okX10 [4] 80 ?_
    refine ⟨vin (by omega) (by omega), ?_⟩
    rw [show (nI 0).toNatClampNeg = 0 from rfl, hs.1]
    refine ⟨fun (h : nI R ≤ nI c) => ?_, fun _ => ?_⟩
    · rw [nI_leI (by omega) (by omega)] at h; omega
    · refine ⟨rfl, (m_isSame (t := false) hs hR hW hm hr (show c < R by omega)).use ?_⟩
      refine (m_flag _).use ?_
      have k := ih (c + 1) (s + fl (sameL (lnD D W m) W r c false)) (by omega) (by simpa [sm, Nat.add_assoc] using hQ)
      rw [nI_a1 c, ← nI_add s] at k
      exact k
theorem m_likes (hs : HM (a 1) R W m D) (hR : R ≤ 12) (hW : W ≤ 16) (hm : m ≤ 1) {r : Nat} (hr : r < R) : Dt g mX10_likes [vr 0, vi (nI r)] (mW a f) (some (vi (nI (likesL (lnD D W m) W r R)))) (mW a f) := by
  refine Ev_of omX10_likes.1 (Nat.le_of_ble_eq_true rfl) ?_
  refine Z_go kX10_likes okX10 [4] 80 ?_
  exact likes_loop hs hR hW hm hr R 0 0 (by omega) ⟨by rw [Nat.zero_add]; rfl, rfl⟩
theorem m_width (hs : HM (a 1) R W m D) (hR : R ≤ 12) (hRW : R = 0 → W = 0) : Dt g mX10_width [vr 0] (mW a f) (some (vi (nI W))) (mW a f) := by
  refine Ev_of omX10_width.1 (Nat.le_of_ble_eq_true rfl) ?_
  refine Z_go kX10_width okX10 [] 80 ?_
  refine ⟨vin (by omega) (by omega), ?_⟩
  rw [show (nI 0).toNatClampNeg = 0 from rfl, hs.1]
  refine ⟨fun (h : ¬ nI R = nI 0) => ?_, fun (h : ¬ ¬ nI R = nI 0) => ⟨?_, rfl⟩⟩
  · rw [nI_eq (by omega) (by omega)] at h
    refine ⟨vin (by omega) (by omega), ?_⟩
    rw [show (nI 1).toNatClampNeg = 1 from rfl, hs.2.1 (by omega)]
    exact ⟨rfl, rfl⟩
  · rw [nI_eq (by omega) (by omega)] at h
    rw [hRW (Classical.not_not.mp h)]
theorem m_beads (hs : HM (a 1) R W m D) (hR : R ≤ 12) (hRW : R = 0 → W = 0) : Dt g mX10_beads [vr 0] (mW a f) (some (vi (nI (R * W)))) (mW a f) := by
  refine Ev_of omX10_beads.1 (Nat.le_of_ble_eq_true rfl) ?_
  refine Z_go kX10_beads okX10 [] 80 ?_
  refine ⟨vin (by omega) (by omega), ?_⟩
  rw [show (nI 0).toNatClampNeg = 0 from rfl, hs.1]
  refine ⟨rfl, (m_width hs hR hRW).use ⟨?_, rfl⟩⟩
  rw [pk_mul]
/-- the beads that manyOf counts -/
def mnB (D : Nat → Nat → Int32) (r x : Int32) (s c : Nat) : Bool := decide ((r = -nI 4 ∨ r = nI s) ∧ D s c = x)
theorem manyOf_in (hs : HM (a 1) R W m D) (hR : R ≤ 12) (hW : W ≤ 16) {r x : Int32} {q : Nat} (hq : q < R) {Q : Option AV → AH → Prop} : ∀ (n c s : Nat), c + n = W →
    Z g mX10_manyOf 11 Q 71 [some (vr 0), some (vi r), some (vi x), some (vi (nI (s + sm (fun c => fl (mnB D r x q c)) c n))), some (vi (nI q)), some (vi (nI W))] [] (mW a f) →
    Z g mX10_manyOf 11 Q 19 [some (vr 0), some (vi r), some (vi x), some (vi (nI s)), some (vi (nI q)), some (vi (nI c))] [] (mW a f) := by
  intro n
  induction n with
  | zero =>
    intro c s h1 hQ
    refine Z_go kX10_manyOf okX10 [19, 71] 80 ?_
    refine ⟨vin (by omega) (by omega), ?_⟩
    rw [show (nI 1).toNatClampNeg = 1 from rfl, hs.2.1 (by omega)]
    refine ⟨fun _ => ?_, fun (h : ¬ nI W ≤ nI c) => absurd (nI_le (by omega) (by omega)) h⟩
    rw [show nI c = nI W by rw [show c = W by omega]]
    exact hQ
  | succ n ih =>
    intro c s h1 hQ
    have go : ∀ b : Bool, mnB D r x q c = b → Z g mX10_manyOf 11 Q 60 [some (vr 0), some (vi r), some (vi x), some (vi (nI s)), some (vi (nI q)), some (vi (nI c))] [vi (nI (fl b)), vi (nI s)] (mW a f) := by
      intro b hb
      refine Z_go kX10_manyOf okX10 [19] 80 ?_
      refine (m_flag b).use ?_
      have k := ih (c + 1) (s + fl b) (by omega) (by rw [← hb]; simpa [sm, Nat.add_assoc] using hQ)
      rw [nI_a1 c, ← nI_add s] at k
      exact k
    have go2 : (r = -nI 4 ∨ r = nI q) → Z g mX10_manyOf 11 Q 43 [some (vr 0), some (vi r), some (vi x), some (vi (nI s)), some (vi (nI q)), some (vi (nI c))] [vi (nI s)] (mW a f) := by
      intro h
      refine Z_go kX10_manyOf okX10 [19, 60] 80 ?_
      refine ⟨rfl, (m_beadOf hs hR hW hq (show c < W by omega)).use ?_⟩
      exact ⟨fun (h3 : ¬ D q c = x) => go false (decide_eq_false (fun z => h3 z.2)), fun (h3 : ¬ ¬ D q c = x) => go true (decide_eq_true ⟨h, Classical.not_not.mp h3⟩)⟩
    refine Z_go kX10_manyOf okX10 [19, 43, 60] 80 ?_
    refine ⟨vin (by omega) (by omega), ?_⟩
    rw [show (nI 1).toNatClampNeg = 1 from rfl, hs.2.1 (by omega)]
    refine ⟨fun (h : nI W ≤ nI c) => ?_, fun _ => ?_⟩
    · rw [nI_leI (by omega) (by omega)] at h; omega
    · refine ⟨fun (h : r = -nI 4) => go2 (Or.inl h), fun (h : ¬ r = -nI 4) => ⟨fun (h2 : ¬ r = nI q) => go false (decide_eq_false (fun z => z.1.elim h h2)), fun (h2 : ¬ ¬ r = nI q) => go2 (Or.inr (Classical.not_not.mp h2))⟩⟩
theorem manyOf_loop (hs : HM (a 1) R W m D) (hR : R ≤ 12) (hW : W ≤ 16) {r x : Int32} {Q : Option AV → AH → Prop} : ∀ (n q s : Nat) (v : Option AV), q + n = R → Q (some (vi (nI (s + sm (fun q => sm (fun c => fl (mnB D r x q c)) 0 W) q n)))) (mW a f) →
    Z g mX10_manyOf 11 Q 5 [some (vr 0), some (vi r), some (vi x), some (vi (nI s)), some (vi (nI q)), v] [] (mW a f) := by
  intro n
  induction n with
  | zero =>
    intro q s v h1 hQ
    refine Z_go kX10_manyOf okX10 [5] 80 ?_
    refine ⟨vin (by omega) (by omega), ?_⟩
    rw [show (nI 0).toNatClampNeg = 0 from rfl, hs.1]
    refine ⟨fun _ => hQ, fun (h : ¬ nI R ≤ nI q) => absurd (nI_le (by omega) (by omega)) h⟩
  | succ n ih =>
    intro q s v h1 hQ
    refine Z_go kX10_manyOf okX10 [5, 19] 80 ?_
    refine ⟨vin (by omega) (by omega), ?_⟩
    rw [show (nI 0).toNatClampNeg = 0 from rfl, hs.1]
    refine ⟨fun (h : nI R ≤ nI q) => ?_, fun _ => ?_⟩
    · rw [nI_leI (by omega) (by omega)] at h; omega
    · refine manyOf_in hs hR hW (show q < R by omega) W 0 s (by omega) ?_
      refine Z_go kX10_manyOf okX10 [5] 80 ?_
      have k := ih (q + 1) (s + sm (fun c => fl (mnB D r x q c)) 0 W) (some (vi (nI W))) (by omega) (by simpa [sm, Nat.add_assoc] using hQ)
      rw [nI_a1 q] at k
      exact k
theorem m_manyAll (hs : HM (a 1) R W m D) (hR : R ≤ 12) (hW : W ≤ 16) (x : Int32) : Dt g mX10_manyOf [vr 0, vi (-nI 4), vi x] (mW a f) (some (vi (nI (manyA D R W x)))) (mW a f) := by
  refine Ev_of omX10_manyOf.1 (Nat.le_of_ble_eq_true rfl) ?_
  refine Z_go kX10_manyOf okX10 [5] 80 ?_
  refine manyOf_loop hs hR hW R 0 0 none (by omega) ⟨?_, rfl⟩
  rw [Nat.zero_add]
  unfold manyA manyR
  refine congrArg (fun y => some (vi (nI y))) (sm_congr _ _ (fun i _ _ => sm_congr _ _ (fun j _ _ => ?_)))
  simp [mnB]
theorem m_manyRow (hs : HM (a 1) R W m D) (hR : R ≤ 12) (hW : W ≤ 16) {r : Nat} (hr : r < R) (x : Int32) : Dt g mX10_manyOf [vr 0, vi (nI r), vi x] (mW a f) (some (vi (nI (manyR D W r x)))) (mW a f) := by
  have h4 : ∀ k, k < 12 → ¬ nI k = -nI 4 := fun k hk e => nI_m4 (by omega) e
  refine Ev_of omX10_manyOf.1 (Nat.le_of_ble_eq_true rfl) ?_
  refine Z_go kX10_manyOf okX10 [5] 80 ?_
  refine manyOf_loop hs hR hW R 0 0 none (by omega) ⟨?_, rfl⟩
  rw [Nat.zero_add, sm_1 (k := r) R 0 (by omega) (by omega) (fun i _ h2 h3 => sm_0 _ _ (fun j _ _ => ?_))]
  · unfold manyR
    refine congrArg (fun y => some (vi (nI y))) (sm_congr _ _ (fun j _ _ => ?_))
    simp [mnB]
  · unfold mnB
    rw [decide_eq_false]
    · rfl
    · rintro ⟨h5 | h5, -⟩
      · exact h4 r (by omega) h5
      · rw [nI_eq (by omega) (by omega)] at h5; omega
theorem colours_loop (hs : HM (a 1) R W m D) (hR : R ≤ 12) (hW : W ≤ 16) {Q : Option AV → AH → Prop} : ∀ (n c s : Nat), c + n = 6 → Q (some (vi (nI (s + sm (fun c => fl (decide (0 < manyA D R W (nI c)))) c n)))) (mW a f) →
    Z g mX10_colours 11 Q 4 [some (vr 0), some (vi (nI s)), some (vi (nI c))] [] (mW a f) := by
  intro n
  induction n with
  | zero =>
    intro c s h1 hQ
    refine Z_go kX10_colours okX10 [4] 80 ?_
    refine ⟨fun _ => hQ, fun (h : ¬ nI 6 ≤ nI c) => absurd (nI_le (by omega) (by omega)) h⟩
  | succ n ih =>
    intro c s h1 hQ
    have hle : manyA D R W (nI c) ≤ 192 := by
      have := sm_le (f := fun r => manyR D W r (nI c)) (k := W) R 0 (fun i _ _ => manyR_le)
      have h2 := RW_le hR hW
      unfold manyA
      rw [Nat.mul_comm] at this
      omega
    have go : ∀ b : Bool, decide (0 < manyA D R W (nI c)) = b → Z g mX10_colours 11 Q 26 [some (vr 0), some (vi (nI s)), some (vi (nI c))] [vi (nI (fl b)), vi (nI s)] (mW a f) := by
      intro b hb
      refine Z_go kX10_colours okX10 [4] 80 ?_
      refine (m_flag b).use ?_
      have k := ih (c + 1) (s + fl b) (by omega) (by rw [← hb]; simpa [sm, Nat.add_assoc] using hQ)
      rw [nI_a1 c, ← nI_add s] at k
      exact k
    refine Z_go kX10_colours okX10 [4, 26] 80 ?_
    refine ⟨fun (h : nI 6 ≤ nI c) => ?_, fun _ => ?_⟩
    · rw [nI_leI (by omega) (by omega)] at h; omega
    · refine ⟨rfl, (m_manyAll hs hR hW (nI c)).use ?_⟩
      refine ⟨fun (h : nI (manyA D R W (nI c)) ≤ nI 0) => ?_, fun (h : ¬ nI (manyA D R W (nI c)) ≤ nI 0) => ?_⟩
      · rw [nI_leI (by omega) (by omega)] at h
        exact go false (decide_eq_false (by omega))
      · rw [nI_leI (by omega) (by omega)] at h
        exact go true (decide_eq_true (by omega))
theorem m_colours (hs : HM (a 1) R W m D) (hR : R ≤ 12) (hW : W ≤ 16) : Dt g mX10_colours [vr 0] (mW a f) (some (vi (nI (allC D R W)))) (mW a f) := by
  refine Ev_of omX10_colours.1 (Nat.le_of_ble_eq_true rfl) ?_
  refine Z_go kX10_colours okX10 [4] 80 ?_
  exact colours_loop hs hR hW 6 0 0 (by omega) ⟨by rw [Nat.zero_add]; rfl, rfl⟩
end MOD
