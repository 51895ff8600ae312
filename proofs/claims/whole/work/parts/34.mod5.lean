/-! the reference: the thread and the plan; what is simple -/
section MOD
variable {g : GG} {a : Nat → Nat → Int32} {f : Nat → Int32} {R W m tn : Nat} {D : Nat → Nat → Int32} {T : Nat → Int32}
theorem m_planOf (hs : HM (a 1) R W m D) (hR : R ≤ 12) (hW : W ≤ 16) (hm : m ≤ 1) {j : Nat} (hj : j < R * W) : Dt g mX10_planOf [vr 0, vi (nI j)] (mW a f) (some (vi (planL (lnD D W m) W j))) (mW a f) := by
  have hRW := RW_le hR hW
  obtain ⟨d1, d2, d3⟩ := dm_lt hj
  have hR0 : R ≠ 0 := by intro z; rw [z] at d2; exact absurd d2 (Nat.not_lt_zero _)
  have e1 : nI j / nI W = nI (j / W) := pk_div (by omega) (by omega) (by omega)
  have e2 : nI j - nI j / nI W * nI W = nI (j % W) := pk_rem (by omega) (by omega) (by omega)
  have hl := m_lineOf (g := g) (f := f) hs hR hW hm d2 d3
  rw [← e1, ← e2] at hl
  refine Ev_of omX10_planOf.1 (Nat.le_of_ble_eq_true rfl) ?_
  refine Z_go kX10_planOf okX10 [] 80 ?_
  refine ⟨vin (by omega) (by omega), ?_⟩
  rw [show (nI 1).toNatClampNeg = 1 from rfl, hs.2.1 (by omega)]
  refine ⟨nI_ne0 (by omega) (by omega), ?_⟩
  refine ⟨vin (by omega) (by omega), ?_⟩
  rw [show (nI 1).toNatClampNeg = 1 from rfl, hs.2.1 (by omega)]
  refine ⟨nI_ne0 (by omega) (by omega), ?_⟩
  exact ⟨rfl, hl.use ⟨rfl, rfl⟩⟩
theorem firstMistake_loop (hs : HM (a 1) R W m D) (hR : R ≤ 12) (hW : W ≤ 16) (hm : m ≤ 1) (ht3 : a 1 3 = nI tn) (htT : ∀ j, j < tn → a 1 (196 + j) = T j) (ht : tn ≤ R * W) {Q : Option AV → AH → Prop} : ∀ (n c : Nat), c + n = tn → Q (some (vi (oI (fs1 (wrgP T (lnD D W m) W) c n)))) (mW a f) →
    Z g mX10_firstMistake 11 Q 2 [some (vr 0), some (vi (nI c))] [] (mW a f) := by
  have hRW := RW_le hR hW
  intro n
  induction n with
  | zero =>
    intro c h1 hQ
    refine Z_go kX10_firstMistake okX10 [2] 80 ?_
    refine ⟨vin (by omega) (by omega), ?_⟩
    rw [show (nI 3).toNatClampNeg = 3 from rfl, ht3]
    refine ⟨fun _ => hQ, fun (h : ¬ nI tn ≤ nI c) => absurd (nI_le (by omega) (by omega)) h⟩
  | succ n ih =>
    intro c h1 hQ
    have e : nI 196 + nI c = nI (196 + c) := nI_add _ _
    refine Z_go kX10_firstMistake okX10 [2] 80 ?_
    refine ⟨vin (by omega) (by omega), ?_⟩
    rw [show (nI 3).toNatClampNeg = 3 from rfl, ht3]
    refine ⟨fun (h : nI tn ≤ nI c) => ?_, fun _ => ?_⟩
    · rw [nI_leI (by omega) (by omega)] at h; omega
    · refine ⟨by rw [e]; exact vin (by omega) (by omega), ?_⟩
      rw [e, nI_clamp (by omega), htT c (by omega)]
      refine ⟨rfl, (m_planOf hs hR hW hm (show c < R * W by omega)).use ?_⟩
      refine ⟨fun (h3 : T c = planL (lnD D W m) W c) => ?_, fun (h3 : ¬ T c = planL (lnD D W m) W c) => ?_⟩
      · have k := ih (c + 1) (by omega) (by simpa [fs1, wrgP, h3] using hQ)
        rw [nI_a1 c] at k
        exact k
      · show Q (some (vi (nI c))) (mW a f)
        simpa [fs1, wrgP, h3, oI] using hQ
theorem m_firstMistake (hs : HM (a 1) R W m D) (hR : R ≤ 12) (hW : W ≤ 16) (hm : m ≤ 1) (ht3 : a 1 3 = nI tn) (htT : ∀ j, j < tn → a 1 (196 + j) = T j) (ht : tn ≤ R * W) : Dt g mX10_firstMistake [vr 0] (mW a f) (some (vi (oI (misL T tn (lnD D W m) W)))) (mW a f) := by
  refine Ev_of omX10_firstMistake.1 (Nat.le_of_ble_eq_true rfl) ?_
  refine Z_go kX10_firstMistake okX10 [2] 80 ?_
  exact firstMistake_loop hs hR hW hm ht3 htT ht tn 0 (by omega) ⟨rfl, rfl⟩
theorem asTold_loopM (hs : HM (a 1) R W m D) (hR : R ≤ 12) (hW : W ≤ 16) (hm : m ≤ 1) (hRW0 : R = 0 → W = 0) (ht3 : a 1 3 = nI tn) (htT : ∀ j, j < tn → a 1 (196 + j) = T j) (ht : tn ≤ R * W) {v1 v2 wy : Int32} {y : Nat → Nat} {q : Nat → Bool} {Q : Option AV → AH → Prop} : ∀ (n c s : Nat), c + n = tn →
    (∀ j, c ≤ j → j < tn → nI j + wy = nI (y j) ∧ y j ≤ 1000 ∧ q j = (decide (y j < R * W) && decide (T j = planL (lnD D W m) W (y j)))) →
    Q (some (vi (nI (s + sm (fun j => fl (q j)) c n)))) (mW a f) →
    Z g mX10_asTold 11 Q 36 [some (vr 0), some (vi v1), some (vi v2), some (vi (nI s)), some (vi wy), some (vi (nI c))] [] (mW a f) := by
  have hRW := RW_le hR hW
  intro n
  induction n with
  | zero =>
    intro c s h1 hp hQ
    refine Z_go kX10_asTold okX10 [36] 80 ?_
    refine ⟨vin (by omega) (by omega), ?_⟩
    rw [show (nI 3).toNatClampNeg = 3 from rfl, ht3]
    refine ⟨fun _ => hQ, fun (h : ¬ nI tn ≤ nI c) => absurd (nI_le (by omega) (by omega)) h⟩
  | succ n ih =>
    intro c s h1 hp hQ
    have e : nI 196 + nI c = nI (196 + c) := nI_add _ _
    obtain ⟨ey, ly, hq⟩ := hp c (Nat.le_refl _) (by omega)
    have go : ∀ b : Bool, q c = b → Z g mX10_asTold 11 Q 104 [some (vr 0), some (vi v1), some (vi v2), some (vi (nI s)), some (vi wy), some (vi (nI c))] [vi (nI (fl b)), vi (nI s)] (mW a f) := by
      intro b hb
      refine Z_go kX10_asTold okX10 [36] 80 ?_
      refine (m_flag b).use ?_
      have k := ih (c + 1) (s + fl b) (by omega) (fun j a1 a2 => hp j (by omega) a2) (by rw [← hb]; simpa [sm, Nat.add_assoc] using hQ)
      rw [nI_a1 c, ← nI_add s] at k
      exact k
    refine Z_go kX10_asTold okX10 [36, 104] 80 ?_
    refine ⟨vin (by omega) (by omega), ?_⟩
    rw [show (nI 3).toNatClampNeg = 3 from rfl, ht3]
    refine ⟨fun (h : nI tn ≤ nI c) => ?_, fun _ => ?_⟩
    · rw [nI_leI (by omega) (by omega)] at h; omega
    · refine ⟨rfl, (m_beads hs hR hRW0).use ?_⟩
      refine ⟨fun (h : nI (R * W) ≤ nI c + wy) => ?_, fun (h : ¬ nI (R * W) ≤ nI c + wy) => ?_⟩
      · rw [ey, nI_leI (by omega) (by omega)] at h
        exact go false (by rw [hq, decide_eq_false (by omega)]; rfl)
      · have h' := h
        rw [ey, nI_leI (by omega) (by omega)] at h'
        refine ⟨by rw [e]; exact vin (by omega) (by omega), ?_⟩
        rw [e, nI_clamp (by omega), htT c (by omega)]
        refine ⟨rfl, (m_beads hs hR hRW0).use ?_⟩
        refine ⟨fun (h2 : nI (R * W) ≤ nI c + wy) => absurd h2 h, fun _ => ?_⟩
        have hpl := m_planOf (g := g) (f := f) hs hR hW hm (show y c < R * W by omega)
        rw [← ey] at hpl
        refine ⟨rfl, hpl.use ?_⟩
        refine ⟨fun (h3 : ¬ T c = planL (lnD D W m) W (y c)) => go false (by rw [hq, decide_eq_false h3, Bool.and_false]), fun (h3 : ¬ ¬ T c = planL (lnD D W m) W (y c)) => go true (by rw [hq, decide_eq_true (Classical.not_not.mp h3), decide_eq_true (by omega)]; rfl)⟩
theorem m_asTold (hs : HM (a 1) R W m D) (hR : R ≤ 12) (hW : W ≤ 16) (hm : m ≤ 1) (hRW0 : R = 0 → W = 0) (ht3 : a 1 3 = nI tn) (htT : ∀ j, j < tn → a 1 (196 + j) = T j) (ht : tn ≤ R * W) {i k : Nat} (hi : i < tn) (hk : k ≤ 2) : Dt g mX10_asTold [vr 0, vi (nI i), vi (nI k)] (mW a f) (some (vi (nI (tldL T tn (lnD D W m) W (R * W) i k)))) (mW a f) := by
  have hRW := RW_le hR hW
  have h0 : k = 0 ∨ k = 1 ∨ k = 2 := by omega
  rcases h0 with rfl | rfl | rfl
  · refine Ev_of omX10_asTold.1 (Nat.le_of_ble_eq_true rfl) ?_
    refine Z_go kX10_asTold okX10 [36] 80 ?_
    refine ⟨fun z => absurd rfl z, fun _ => ⟨fun _ => ?_, fun h => absurd (by decide : ¬ nI 0 = nI 1) h⟩⟩
    have k := asTold_loopM (g := g) (f := f) (v1 := nI i) (v2 := nI 0) (wy := nI 0) (y := fun j => j) (q := tldP T (lnD D W m) W (R * W) 0) (Q := fun r' B => r' = some (vi (nI (tldL T tn (lnD D W m) W (R * W) i 0))) ∧ B = mW a f) hs hR hW hm hRW0 ht3 htT ht (tn - (i + 1)) (i + 1) 0 (by omega) (fun j a1 a2 => ⟨by rw [nI_add]; rfl, by omega, by rw [decide_eq_true (show j < R * W by omega)]; simp [tldP]⟩) ⟨by rw [Nat.zero_add]; rfl, rfl⟩
    rw [nI_a1 i] at k
    exact k
  · refine Ev_of omX10_asTold.1 (Nat.le_of_ble_eq_true rfl) ?_
    refine Z_go kX10_asTold okX10 [36] 80 ?_
    refine ⟨fun _ => ⟨fun z => absurd rfl z, fun _ => ⟨fun z => absurd rfl z, fun _ => ?_⟩⟩, fun z => absurd (by decide : ¬ nI 1 = nI 0) z⟩
    exact asTold_loopM (wy := nI 1) (y := fun j => j + 1) (q := tldP T (lnD D W m) W (R * W) 1) hs hR hW hm hRW0 ht3 htT ht (tn - i) i 0 (by omega) (fun j a1 a2 => ⟨by rw [nI_add], by show j + 1 ≤ 1000; omega, rfl⟩) ⟨by rw [Nat.zero_add]; rfl, rfl⟩
  · refine Ev_of omX10_asTold.1 (Nat.le_of_ble_eq_true rfl) ?_
    refine Z_go kX10_asTold okX10 [36] 80 ?_
    refine ⟨fun _ => ⟨fun _ => ⟨fun _ => ?_, fun h => absurd (by decide : ¬ nI 2 = nI 1) h⟩, fun h => absurd (by decide : ¬ nI 2 = nI 1) h⟩, fun h => absurd (by decide : ¬ nI 2 = nI 0) h⟩
    have k := asTold_loopM (g := g) (f := f) (v1 := nI i) (v2 := nI 2) (wy := -nI 1) (y := fun j => j - 1) (q := tldP T (lnD D W m) W (R * W) 2) (Q := fun r' B => r' = some (vi (nI (tldL T tn (lnD D W m) W (R * W) i 2))) ∧ B = mW a f) hs hR hW hm hRW0 ht3 htT ht (tn - (i + 1)) (i + 1) 0 (by omega) (fun j a1 a2 => ⟨by rw [← Int32.sub_eq_add_neg, pk_sub (by omega)], by show j - 1 ≤ 1000; omega, by rw [decide_eq_true (show j - 1 < R * W by omega)]; simp [tldP]⟩) ⟨by rw [Nat.zero_add]; rfl, rfl⟩
    rw [nI_a1 i] at k
    exact k
theorem m_kindOf (hs : HM (a 1) R W m D) (hR : R ≤ 12) (hW : W ≤ 16) (hm : m ≤ 1) (hRW0 : R = 0 → W = 0) (ht3 : a 1 3 = nI tn) (htT : ∀ j, j < tn → a 1 (196 + j) = T j) (ht : tn ≤ R * W) {i : Nat} (hi : i < tn) : Dt g mX10_kindOf [vr 0, vi (nI i)] (mW a f) (some (vi (nI (kndL (tldL T tn (lnD D W m) W (R * W) i))))) (mW a f) := by
  have hRW := RW_le hR hW
  have hle := fun k => tldL_le (t := T) (tn := tn) (W := W) (L := lnD D W m) (N := R * W) (a := i) (k := k)
  have ha := fun k hk => m_asTold (g := g) (f := f) hs hR hW hm hRW0 ht3 htT ht (k := k) hi hk
  generalize tldL T tn (lnD D W m) W (R * W) i = q at hle ha ⊢
  have e1 : nI 1 + nI 1 = nI 2 := by decide +kernel
  have e2 : nI 2 + nI 1 = nI 3 := by decide +kernel
  unfold kndL
  -- the second round
  have s2 : ∀ b : Nat, b ≤ 1 → Z g mX10_kindOf 11 (fun r' B => r' = some (vi (nI (if q b < q 2 then 2 else b))) ∧ B = mW a f) 4 [some (vr 0), some (vi (nI i)), some (vi (nI b)), some (vi (nI 2))] [] (mW a f) := by
    intro b hb
    have h2 := hle 2
    have h3 := hle b
    refine Z_go kX10_kindOf okX10 [4] 80 ?_
    refine ⟨fun (z : nI 3 ≤ nI 2) => absurd z (by decide), fun _ => ?_⟩
    refine ⟨rfl, (ha 2 (by omega)).use ?_⟩
    refine ⟨rfl, (ha b (by omega)).use ?_⟩
    refine ⟨fun (z : nI (q 2) ≤ nI (q b)) => ?_, fun (z : ¬ nI (q 2) ≤ nI (q b)) => ?_⟩
    · rw [nI_leI (by omega) (by omega)] at z
      rw [if_neg (by omega)]
      refine Z_go kX10_kindOf okX10 [] 80 ?_
      exact ⟨fun _ => ⟨rfl, rfl⟩, fun (z : ¬ nI 3 ≤ nI 2 + nI 1) => absurd (by decide +kernel) z⟩
    · rw [nI_leI (by omega) (by omega)] at z
      rw [if_pos (by omega)]
      refine Z_go kX10_kindOf okX10 [] 80 ?_
      exact ⟨fun _ => ⟨rfl, rfl⟩, fun (z : ¬ nI 3 ≤ nI 2 + nI 1) => absurd (by decide +kernel) z⟩
  have h0 := hle 0
  have h1 := hle 1
  refine Ev_of omX10_kindOf.1 (Nat.le_of_ble_eq_true rfl) ?_
  refine Z_go kX10_kindOf okX10 [4] 80 ?_
  refine Z_go kX10_kindOf okX10 [4] 80 ?_
  refine ⟨fun (z : nI 3 ≤ nI 1) => absurd z (by decide), fun _ => ?_⟩
  refine ⟨rfl, (ha 1 (by omega)).use ?_⟩
  refine ⟨rfl, (ha 0 (by omega)).use ?_⟩
  refine ⟨fun (z : nI (q 1) ≤ nI (q 0)) => ?_, fun (z : ¬ nI (q 1) ≤ nI (q 0)) => ?_⟩
  · rw [nI_leI (by omega) (by omega)] at z
    have k := s2 0 (by omega)
    rw [if_neg (show ¬ q 0 < q 1 by omega)]
    exact k
  · rw [nI_leI (by omega) (by omega)] at z
    have k := s2 1 (by omega)
    rw [if_pos (show q 0 < q 1 by omega)]
    exact k
theorem HM_o {s : Nat → Int32} {k : Nat} {v : Int32} (hR : R ≤ 12) (hW : W ≤ 16) (h : HM s R W m D) (hk : k = 3 ∨ 196 ≤ k) : HM (upd s k v) R W m D :=
  ⟨(updN (by omega)).trans h.1, fun z => (updN (by omega)).trans (h.2.1 z), (updN (by omega)).trans h.2.2.1, fun r c hr hc => (updN (by omega)).trans (h.2.2.2 r c hr hc)⟩
end MOD
section MOD
variable {g : GG} {S : Sg} {a : Nat → Nat → Int32} {f : Nat → Int32}
theorem y_plan (hS : okSg S) (hM : RM S a f) (i : Int32) : Ev g mX10_plan [vr 0, vi i] (mW a f) (MV (op_plan S i)) := by
  obtain ⟨⟨R, W, m, D⟩, ⟨tn, T⟩, ⟨n, TP⟩, ⟨sn, w⟩, im, sh, tf, rf⟩ := S
  obtain ⟨⟨p1, p2, p3, p4, p5⟩, ⟨q1, q2⟩, ⟨o3, o4⟩, ⟨o5, o5b⟩, o6, o7, o8, o9⟩ := id hS
  obtain ⟨⟨hs, ht3, htT⟩, hi, ⟨htp, h5⟩, ⟨h12, hsl⟩, hsh, h9, h19⟩ := id hM
  have hs : HM (a 1) R W m D := hs
  have ht3 : a 1 3 = nI tn := ht3
  have htT : ∀ j, j < tn → a 1 (196 + j) = T j := htT
  have p1 : R ≤ 12 := p1
  have p2 : W ≤ 16 := p2
  have p3 : m ≤ 1 := p3
  have p4 : R = 0 → W = 0 := p4
  have p5 : R ≠ 0 → 1 ≤ W := p5
  have q1 : tn ≤ R * W := q1
  have q2 : ∀ j, j < tn → isCol (T j) = true := q2
  have hRW := RW_le p1 p2
  unfold op_plan
  dsimp only
  refine Ev_of omX10_plan.1 (Nat.le_of_ble_eq_true rfl) ?_
  refine Z_go kX10_plan okX10 [] 80 ?_
  refine ⟨fun (z : 0 ≤ i) => ?_, fun (z : ¬ 0 ≤ i) => ?_⟩
  · have h0 : ¬ i < 0 := Int32.not_lt.mpr z
    rw [if_neg h0]
    obtain ⟨q, hq, rfl⟩ := nI_of h0
    refine ⟨rfl, (m_beads hs p1 p4).use ?_⟩
    refine ⟨fun (z2 : nI (R * W) ≤ nI q) => ?_, fun (z2 : ¬ nI (R * W) ≤ nI q) => ?_⟩
    · rw [if_pos z2]; exact ⟨rfl, _, _, rfl, hM⟩
    · rw [if_neg z2]
      rw [nI_leI (by omega) hq] at z2
      refine ⟨rfl, (m_planOf hs p1 p2 p3 (show q < R * W by omega)).use ?_⟩
      exact ⟨by rw [nOf_n hq], _, _, rfl, hM⟩
  · rw [if_pos (Int32.not_le.mp z)]; exact ⟨rfl, _, _, rfl, hM⟩
theorem y_mistake (hS : okSg S) (hM : RM S a f) (x : Int32) : Ev g mX10_mistake [vr 0, vi x] (mW a f) (MV (op_mistake S x)) := by
  obtain ⟨⟨R, W, m, D⟩, ⟨tn, T⟩, ⟨n, TP⟩, ⟨sn, w⟩, im, sh, tf, rf⟩ := S
  obtain ⟨⟨p1, p2, p3, p4, p5⟩, ⟨q1, q2⟩, ⟨o3, o4⟩, ⟨o5, o5b⟩, o6, o7, o8, o9⟩ := id hS
  obtain ⟨⟨hs, ht3, htT⟩, hi, ⟨htp, h5⟩, ⟨h12, hsl⟩, hsh, h9, h19⟩ := id hM
  have hs : HM (a 1) R W m D := hs
  have ht3 : a 1 3 = nI tn := ht3
  have htT : ∀ j, j < tn → a 1 (196 + j) = T j := htT
  have p1 : R ≤ 12 := p1
  have p2 : W ≤ 16 := p2
  have p3 : m ≤ 1 := p3
  have p4 : R = 0 → W = 0 := p4
  have p5 : R ≠ 0 → 1 ≤ W := p5
  have q1 : tn ≤ R * W := q1
  have q2 : ∀ j, j < tn → isCol (T j) = true := q2
  have hRW := RW_le p1 p2
  unfold op_mistake
  dsimp only
  have h := m_inN (g := g) (A := mW a f) x 0 6 (by omega) (by omega)
  have hdec : (decide (nI 0 ≤ x) && decide (x ≤ nI 6)) = decide (¬ (x < 0 ∨ nI 6 < x)) := by
    by_cases c1 : x < 0
    · simp [c1, show ¬ nI 0 ≤ x from Int32.not_le.mpr c1]
    · by_cases c2 : nI 6 < x
      · simp [c1, c2, show ¬ x ≤ nI 6 from Int32.not_le.mpr c2]
      · simp [c1, c2, show nI 0 ≤ x from Int32.not_lt.mp c1, show x ≤ nI 6 from Int32.not_lt.mp c2]
  rw [hdec] at h
  have hml : ∀ j, misL T tn (lnD D W m) W = some j → j < tn := fun j hj => by have := fs1_some _ _ _ hj; omega
  have hn := oI_none (o := misL T tn (lnD D W m) W) (fun j hj => by have := hml j hj; omega)
  refine Ev_of omX10_mistake.1 (Nat.le_of_ble_eq_true rfl) ?_
  refine Z_go kX10_mistake okX10 [] 80 ?_
  refine h.use ?_
  by_cases hx : x < 0 ∨ nI 6 < x
  · rw [if_pos hx, decide_eq_false (fun z => z hx)]
    exact ⟨fun z => absurd rfl z, fun _ => ⟨rfl, _, _, rfl, hM⟩⟩
  · rw [if_neg hx, decide_eq_true hx]
    refine ⟨fun _ => ?_, fun (z : ¬ ¬ nI 1 = 0) => absurd z1 z⟩
    refine ⟨rfl, (m_firstMistake hs p1 p2 p3 ht3 htT q1).use ?_⟩
    cases hm : misL T tn (lnD D W m) W with
    | none => exact ⟨fun z => absurd rfl z, fun _ => ⟨rfl, _, _, rfl, hM⟩⟩
    | some i =>
      have hi := hml i hm
      obtain ⟨d1, d2, d3⟩ := dm_lt (show i < R * W by omega)
      have hle := tldL_le (t := T) (tn := tn) (W := W) (L := lnD D W m) (N := R * W) (a := i) (k := kndL (tldL T tn (lnD D W m) W (R * W) i))
      refine ⟨fun _ => ?_, fun (z : ¬ ¬ nI i = -nI 4) => absurd (nI_m4 (by omega)) z⟩
      dsimp only
      refine ⟨fun (z0 : x = nI 0) => ?_, fun (z0 : ¬ x = nI 0) => ⟨fun (z1 : x = nI 1) => ?_, fun (z1 : ¬ x = nI 1) => ⟨fun (z2 : x = nI 2) => ?_, fun (z2 : ¬ x = nI 2) => ⟨fun (z3 : x = nI 3) => ?_, fun (z3 : ¬ x = nI 3) => ⟨fun (z4 : x = nI 4) => ?_, fun (z4 : ¬ x = nI 4) => ⟨fun (z5 : x = nI 5) => ?_, fun (z5 : ¬ x = nI 5) => ?_⟩⟩⟩⟩⟩⟩
      · rw [if_pos z0]; exact ⟨rfl, _, _, rfl, hM⟩
      · rw [if_neg z0, if_pos z1]
        refine ⟨vin (by omega) (by omega), ?_⟩
        rw [show (nI 1).toNatClampNeg = 1 from rfl, hs.2.1 (by omega)]
        refine ⟨nI_ne0 (by omega) (by omega), ?_⟩
        exact ⟨by show some (vi (nI i / nI W)) = some (vi (nI (i / W))); rw [pk_div (by omega) (by omega) (by omega)], _, _, rfl, hM⟩
      · rw [if_neg z0, if_neg z1, if_pos z2]
        refine ⟨vin (by omega) (by omega), ?_⟩
        rw [show (nI 1).toNatClampNeg = 1 from rfl, hs.2.1 (by omega)]
        refine ⟨nI_ne0 (by omega) (by omega), ?_⟩
        exact ⟨by show some (vi (nI i - nI i / nI W * nI W)) = some (vi (nI (i % W))); rw [pk_rem (by omega) (by omega) (by omega)], _, _, rfl, hM⟩
      · rw [if_neg z0, if_neg z1, if_neg z2, if_pos z3]
        refine ⟨rfl, (m_planOf hs p1 p2 p3 (show i < R * W by omega)).use ?_⟩
        exact ⟨rfl, _, _, rfl, hM⟩
      · rw [if_neg z0, if_neg z1, if_neg z2, if_neg z3, if_pos z4]
        refine ⟨rfl, (m_kindOf hs p1 p2 p3 p4 ht3 htT q1 hi).use ?_⟩
        exact ⟨rfl, _, _, rfl, hM⟩
      · rw [if_neg z0, if_neg z1, if_neg z2, if_neg z3, if_neg z4, if_pos z5]
        refine ⟨rfl, (m_kindOf hs p1 p2 p3 p4 ht3 htT q1 hi).use ?_⟩
        refine ⟨rfl, (m_asTold hs p1 p2 p3 p4 ht3 htT q1 hi (by unfold kndL; split <;> try split <;> omega)).use ?_⟩
        exact ⟨rfl, _, _, rfl, hM⟩
      · rw [if_neg z0, if_neg z1, if_neg z2, if_neg z3, if_neg z4, if_neg z5]
        refine ⟨vin (by omega) (by omega), ?_⟩
        rw [show (nI 3).toNatClampNeg = 3 from rfl, ht3]
        exact ⟨by show some (vi (nI tn - nI i)) = some (vi (nI (tn - i))); rw [pk_sub (by omega)], _, _, rfl, hM⟩
theorem y_fault (hM : RM S a f) : Ev g mX10_fault [vr 0] (mW a f) (MV (op_fault S)) := by
  obtain ⟨p, t, ⟨n, TP⟩, ⟨sn, w⟩, im, sh, tf, rf⟩ := S
  obtain ⟨-, -, -, -, -, h9, -⟩ := id hM
  refine Ev_of omX10_fault.1 (Nat.le_of_ble_eq_true rfl) ?_
  refine Z_go kX10_fault okX10 [] 80 ?_
  exact ⟨by rw [h9]; rfl, _, _, rfl, hM⟩
theorem y_torn (hM : RM S a f) : Ev g mX10_torn [vr 0] (mW a f) (MV (op_torn S)) := by
  obtain ⟨p, t, ⟨n, TP⟩, ⟨sn, w⟩, im, sh, tf, rf⟩ := S
  obtain ⟨-, -, -, -, -, -, h19⟩ := id hM
  refine Ev_of omX10_torn.1 (Nat.le_of_ble_eq_true rfl) ?_
  refine Z_go kX10_torn okX10 [] 80 ?_
  exact ⟨by rw [h19]; rfl, _, _, rfl, hM⟩
theorem y_count (hS : okSg S) (hM : RM S a f) (x : Int32) : Ev g mX10_count [vr 0, vi x] (mW a f) (MV (op_count S x)) := by
  obtain ⟨⟨R, W, m, D⟩, ⟨tn, T⟩, ⟨n, TP⟩, ⟨sn, w⟩, im, sh, tf, rf⟩ := S
  obtain ⟨⟨p1, p2, p3, p4, p5⟩, ⟨q1, q2⟩, ⟨o3, o4⟩, ⟨o5, o5b⟩, o6, o7, o8, o9⟩ := id hS
  obtain ⟨⟨hs, ht3, htT⟩, hi, ⟨htp, h5⟩, ⟨h12, hsl⟩, hsh, h9, h19⟩ := id hM
  have hs : HM (a 1) R W m D := hs
  have ht3 : a 1 3 = nI tn := ht3
  have htT : ∀ j, j < tn → a 1 (196 + j) = T j := htT
  have p1 : R ≤ 12 := p1
  have p2 : W ≤ 16 := p2
  have p3 : m ≤ 1 := p3
  have p4 : R = 0 → W = 0 := p4
  have p5 : R ≠ 0 → 1 ≤ W := p5
  have q1 : tn ≤ R * W := q1
  have q2 : ∀ j, j < tn → isCol (T j) = true := q2
  have hRW := RW_le p1 p2
  unfold op_count
  dsimp only
  obtain ⟨i0, -⟩ := hi 0 (by omega)
  obtain ⟨i1, -⟩ := hi 1 (by omega)
  obtain ⟨s0, s1, -⟩ := hsh 0 (by omega)
  refine Ev_of omX10_count.1 (Nat.le_of_ble_eq_true rfl) ?_
  refine Z_go kX10_count okX10 [] 80 ?_
  refine ⟨fun (z0 : x = nI 0) => ?_, fun (z0 : ¬ x = nI 0) => ⟨fun (z1 : x = nI 1) => ?_, fun (z1 : ¬ x = nI 1) => ⟨fun (z2 : x = nI 2) => ?_, fun (z2 : ¬ x = nI 2) => ?_⟩⟩⟩
  · rw [if_pos z0]
    refine ⟨vin (by omega) (by omega), ?_⟩
    rw [show (nI 0).toNatClampNeg = 0 from rfl, i0]
    refine (m_flag _).use ?_
    refine ⟨vin (by omega) (by omega), ?_⟩
    rw [show (nI 1).toNatClampNeg = 1 from rfl, i1]
    refine (m_flag _).use ?_
    exact ⟨by rw [nI_add], _, _, rfl, hM⟩
  · rw [if_neg z0, if_pos z1]
    exact ⟨by rw [h5], _, _, rfl, hM⟩
  · rw [if_neg z0, if_neg z1, if_pos z2]
    refine ⟨vin (by omega) (by omega), ?_⟩
    rw [show (nI 0).toNatClampNeg = 0 from rfl, s0]
    refine ⟨fun (z : ¬ (sh 0).1 = -nI 4) => ?_, fun (z : ¬ ¬ (sh 0).1 = -nI 4) => ?_⟩
    · rw [if_neg z]
      refine ⟨vin (by omega) (by omega), ?_⟩
      rw [show (nI 0).toNatClampNeg = 0 from rfl, s1]
      exact ⟨rfl, _, _, rfl, hM⟩
    · rw [if_pos (Classical.not_not.mp z)]; exact ⟨rfl, _, _, rfl, hM⟩
  · rw [if_neg z0, if_neg z1, if_neg z2]; exact ⟨rfl, _, _, rfl, hM⟩
end MOD
