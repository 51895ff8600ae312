section MOD
variable {g : GG} {a : Nat → Nat → Int32} {f : Nat → Int32} {R W m n : Nat} {D : Nat → Nat → Int32} {w : Nat → Nat}
theorem SPK_of {o o' : Option Nat × (Nat → Int32)} {v : Option AV} {A : AH} (h1 : o.1 = o'.1) (h2 : ∀ e, o.1 = some e → ∀ j, j < e → o.2 j = o'.2 j) (h : SPK a f o v A) : SPK a f o' v A := by
  obtain ⟨hv, ln', x, hA, hx⟩ := h
  refine ⟨by rw [← h1]; exact hv, ln', x, hA, fun e he => ?_⟩
  rw [← h1] at he
  obtain ⟨x1, x2⟩ := hx e he
  exact ⟨x1, fun j hj => (x2 j hj).trans (h2 e he j hj)⟩
theorem m_speaks (hs : HM (a 1) R W m D) (hR : R ≤ 12) (hW : W ≤ 16) (hm : m ≤ 1) (hRW : R = 0 → W = 0) (h12 : f 12 = nI n) (hsl : ∀ j, j < n → a 6 j = nI (w j)) (hw : ∀ j, j < n → w j ≤ 99) (hn : n ≤ 40) : Ev g mX10_speaks [vr 0] (mW a f) (SPK a f (spk (R, W, m, D) n w)) := by
  have hind := spkS_ind (L := lnD D W m) (R := R) (W := W) (w := w) (n := n) (ln := a 7) (ln' := fun _ => 0)
  have fin : ∀ v A, SPK a f (spkS (lnD D W m) R W w n (a 7)) v A → SPK a f (spk (R, W, m, D) n w) v A := fun v A h => SPK_of hind.1 hind.2 h
  -- what the switch comes to
  have key : ∀ o, (n = 1 → o.1 = none) → (2 ≤ n → o = spkS (lnD D W m) R W w n (a 7)) → ∀ v A, n ≠ 0 → SPK a f o v A → SPK a f (spk (R, W, m, D) n w) v A := by
    intro o ho1 ho2 v A hn0 h
    refine fin v A ?_
    by_cases h2 : n < 2
    · have h1 := ho1 (by omega)
      have e : spkS (lnD D W m) R W w n (a 7) = (none, a 7) := by unfold spkS; rw [if_pos h2]
      rw [e]
      exact SPK_of h1 (fun e he => by rw [h1] at he; cases he) h
    · rw [← ho2 (by omega)]; exact h
  have hr1 := m_readRuns (g := g) (fr := 1) h12 hsl hw hn (by omega)
  have hle1 : ∀ e, (srS w n 1 (a 7)).1 = some e → 1 ≤ e ∧ e ≤ 16 := fun e h => srS_le h
  refine Ev_of omX10_speaks.1 (Nat.le_of_ble_eq_true rfl) ?_
  refine Z_go kX10_speaks okX10 [] 80 ?_
  refine ⟨fun (h : ¬ f 12 = nI 0) => ?_, fun (h : ¬ ¬ f 12 = nI 0) => ?_⟩
  · rw [h12, nI_eq (by omega) (by omega)] at h
    have w0 := hsl 0 (by omega)
    have l0 := hw 0 (by omega)
    refine ⟨vin (by omega) (by omega), ?_⟩
    rw [show (nI 0).toNatClampNeg = 0 from rfl, w0]
    have eq : ∀ k, k ≤ 4 → nI (w 0) = nI k → w 0 = k := fun k h1 h2 => by rwa [nI_eq (by omega) (by omega)] at h2
    have ne : ∀ k, k ≤ 4 → ¬ nI (w 0) = nI k → ¬ w 0 = k := fun k h1 h2 h3 => h2 (by rw [h3])
    have srn : n = 1 → (srS w n 1 (a 7)).1 = none := fun h1 => by unfold srS; rw [if_pos (Or.inl (by omega))]
    refine ⟨fun h0 => ?_, fun h0 => ⟨fun h1 => ?_, fun h1 => ⟨fun h2 => ?_, fun h2 => ⟨fun h3 => ?_, fun h3 => ⟨fun h4 => ?_, fun h4 => ?_⟩⟩⟩⟩⟩
    · have hwk := eq 0 (by omega) h0
      refine ⟨rfl, (m_readLike (t := false) hs hR hW hm h12 hsl hw hn).mono (fun v A' _ hv => ?_)⟩
      have hv2 := key _ (fun h1 => by unfold slkS; rw [if_pos (Or.inl (by omega))]) (fun h2 => by unfold spkS; rw [if_neg (by omega), hwk] <;> rfl) _ _ h hv
      obtain ⟨rfl, -⟩ := hv
      cases hb : (slkS (lnD D W m) R W n (w 1) false (a 7)).1.isSome with
      | false => rw [hb] at hv2; exact ⟨Or.inl rfl, hv2⟩
      | true => rw [hb] at hv2; exact ⟨Or.inr rfl, hv2⟩
    · have hwk := eq 1 (by omega) h1
      refine ⟨rfl, (m_readLike (t := true) hs hR hW hm h12 hsl hw hn).mono (fun v A' _ hv => ?_)⟩
      have hv2 := key _ (fun h1 => by unfold slkS; rw [if_pos (Or.inl (by omega))]) (fun h2 => by unfold spkS; rw [if_neg (by omega), hwk] <;> rfl) _ _ h hv
      obtain ⟨rfl, -⟩ := hv
      cases hb : (slkS (lnD D W m) R W n (w 1) true (a 7)).1.isSome with
      | false => rw [hb] at hv2; exact ⟨Or.inl rfl, hv2⟩
      | true => rw [hb] at hv2; exact ⟨Or.inr rfl, hv2⟩
    · have hwk := eq 2 (by omega) h2
      refine ⟨rfl, (m_readMirror hs hR hW hRW h12 hsl hw hn).mono (fun v A' _ hv => ?_)⟩
      have hv2 := key _ (fun h1 => by unfold smS; split; rfl; rw [if_neg (by rw [srn h1]; simp)]) (fun h2 => by unfold spkS; rw [if_neg (by omega), hwk] <;> rfl) _ _ h hv
      obtain ⟨rfl, -⟩ := hv
      cases hb : (smS W w n (a 7)).1.isSome with
      | false => rw [hb] at hv2; exact ⟨Or.inl rfl, hv2⟩
      | true => rw [hb] at hv2; exact ⟨Or.inr rfl, hv2⟩
    · have hwk := eq 3 (by omega) h3
      refine ⟨rfl, (m_readTimes hs hR hW h12 hsl hw hn).mono (fun v A' _ hv => ?_)⟩
      have hv2 := key _ (fun h1 => by rw [if_pos (by omega)]) (fun h2 => by rw [if_neg (by omega)]; unfold spkS; rw [if_neg (by omega), hwk] <;> rfl) _ _ h hv
      obtain ⟨rfl, -⟩ := hv
      cases hb : (if n < 2 then (none, a 7) else stmS R W (w 1) w n (a 7)).1.isSome with
      | false => rw [hb] at hv2; exact ⟨Or.inl rfl, hv2⟩
      | true => rw [hb] at hv2; exact ⟨Or.inr rfl, hv2⟩
    · have hwk := eq 4 (by omega) h4
      refine ⟨rfl, hr1.mono (fun v A' _ hv => ?_)⟩
      have key4 := key (fitO R W (srS w n 1 (a 7)).1, (srS w n 1 (a 7)).2) (fun h1 => by rw [srn h1]; rfl) (fun h2 => by unfold spkS; rw [if_neg (by omega), hwk] <;> rfl)
      generalize srS w n 1 (a 7) = o at hv hle1 key4
      obtain ⟨o, l⟩ := o
      obtain ⟨rfl, ln', x, rfl, hx⟩ := hv
      cases o with
      | none => exact ⟨fun _ => ⟨Or.inl rfl, key4 _ _ h (SPK_no rfl)⟩, fun z => absurd rfl z⟩
      | some e =>
        obtain ⟨rfl, hl⟩ := hx e rfl
        obtain ⟨e1, e2⟩ := hle1 e rfl
        refine ⟨fun z => (z1 z).elim, fun _ => ?_⟩
        refine ⟨vin (by omega) (by omega), ?_⟩
        rw [show (nI 0).toNatClampNeg = 0 from rfl, show aU a 7 ln' 1 0 = nI R from hs.1]
        have yes : fit R W e = true → SPK a f (spk (R, W, m, D) n w) (some (vi (nI 1))) (mW (aU a 7 ln') (fU f 14 (nI e))) := by
          intro hf
          refine key4 _ _ h ?_
          show SPK a f (if fit R W e = true then some e else none, l) _ _
          rw [if_pos hf]
          exact SPK_yes hl
        have no : fit R W e = false → SPK a f (spk (R, W, m, D) n w) (some (vi (nI 0))) (mW (aU a 7 ln') (fU f 14 (nI e))) := by
          intro hf
          refine key4 _ _ h ?_
          show SPK a f (if fit R W e = true then some e else none, l) _ _
          rw [if_neg (by rw [hf]; decide)]
          exact SPK_no rfl
        unfold fit at yes no
        refine ⟨fun (c2 : nI R = nI 0) => ?_, fun (c2 : ¬ nI R = nI 0) => ?_⟩
        · rw [nI_eq (by omega) (by omega)] at c2
          rw [if_pos c2] at yes
          exact ⟨Or.inr rfl, yes (decide_eq_true ⟨e1, e2⟩)⟩
        · rw [nI_eq (by omega) (by omega)] at c2
          rw [if_neg c2] at yes no
          refine ⟨vin (by omega) (by omega), ?_⟩
          rw [show (nI 1).toNatClampNeg = 1 from rfl, show aU a 7 ln' 1 1 = nI W from hs.2.1 c2]
          refine ⟨fun (c3 : ¬ nI e = nI W) => ?_, fun (c3 : ¬ ¬ nI e = nI W) => ?_⟩
          · rw [nI_eq (by omega) (by omega)] at c3
            exact ⟨Or.inl rfl, no (decide_eq_false c3)⟩
          · rw [nI_eq (by omega) (by omega)] at c3
            exact ⟨Or.inr rfl, yes (decide_eq_true (Classical.not_not.mp c3))⟩
    · refine ⟨Or.inl rfl, key (none, a 7) (fun _ => rfl) (fun h2' => ?_) _ _ h (SPK_no (a := a) (f := f) (ln := a 7) (x := f 14) rfl)⟩
      have n0 := ne 0 (by omega) h0
      have n1 := ne 1 (by omega) h1
      have n2 := ne 2 (by omega) h2
      have n3 := ne 3 (by omega) h3
      have n4 := ne 4 (by omega) h4
      unfold spkS
      rw [if_neg (by omega)]
      split
      · omega
      · omega
      · omega
      · omega
      · omega
      · rfl
  · rw [h12, nI_eq (by omega) (by omega)] at h
    have h := Classical.not_not.mp h
    refine ⟨Or.inl rfl, fin _ _ ?_⟩
    have e : spkS (lnD D W m) R W w n (a 7) = (none, a 7) := by unfold spkS; rw [if_pos (by omega)]
    rw [e]
    exact SPK_no (a := a) (f := f) (ln := a 7) (x := f 14) rfl
theorem addM_loop {k : Nat} (hR : R < 12) (hk : k ≤ 16) (hm : m ≤ 1) {l : Nat → Int32} (hl : ∀ j, j < k → a 7 j = l j) (hf : f 14 = nI k) {s0 : Nat → Int32} {Q : Option AV → AH → Prop} (hQ : ∀ s', HM s' R k m D → s' 0 = nI R → (∀ c, c < k → s' (4 + 16 * R + plc k m R c) = l c) → (∀ j, 196 ≤ j ∨ j = 3 ∨ j = 1 → s' j = s0 j) → Z g mX10_add 11 Q 95 [some (vr 0), some (vi (nI R)), some (vi (nI k))] [] (mW (aU a 1 s') f)) : ∀ (z c : Nat) (s : Nat → Int32), c + z = k → HM s R k m D → (∀ i, i < c → s (4 + 16 * R + plc k m R i) = l i) → (∀ j, 196 ≤ j ∨ j = 3 ∨ j = 1 → s j = s0 j) →
    Z g mX10_add 11 Q 43 [some (vr 0), some (vi (nI R)), some (vi (nI c))] [] (mW (aU a 1 s) f) := by
  intro z
  induction z with
  | zero =>
    intro c s h1 hs hc hk2
    have h1 : c = k := by omega
    subst h1
    refine Z_go kX10_add okX10 [43, 95] 80 ?_
    exact ⟨fun _ => hQ s hs hs.1 hc hk2, fun (h : ¬ f 14 ≤ nI c) => absurd (by rw [hf]; exact nI_le (by omega) (by omega)) h⟩
  | succ z ih =>
    intro c s h1 hs hc hk2
    have hp := plc_lt (m := m) (r := R) (show c < k by omega)
    have e : ∀ p, nI 4 + nI 16 * nI R + nI p = nI (4 + 16 * R + p) := fun p => by rw [pk_mul, nI_add, nI_add]
    have kk := ih (c + 1) (upd s (4 + 16 * R + plc k m R c) (a 7 c)) (by omega) ⟨(updN (by omega)).trans hs.1, fun z => (updN (by omega)).trans (hs.2.1 z), (updN (by omega)).trans hs.2.2.1, fun r d hr hd => (updN (by omega)).trans (hs.2.2.2 r d hr hd)⟩ (fun i hi => by
      by_cases e1 : i = c
      · rw [e1, updS]; exact hl c (by omega)
      · have hi : i < c := by omega
        have hne : ¬ plc k m R i = plc k m R c := by unfold plc; split <;> omega
        rw [updN (by omega)]; exact hc i hi) (fun j hj => by rw [updN (by omega)]; exact hk2 j hj)
    rw [nI_a1 c] at kk
    have hib := m_isBack (g := g) (a := aU a 1 s) (f := f) (r := R) hs hm (by omega)
    refine Z_go kX10_add okX10 [43, 95] 80 ?_
    refine ⟨fun (h : f 14 ≤ nI c) => ?_, fun _ => ?_⟩
    · rw [hf, nI_leI (by omega) (by omega)] at h; omega
    · refine ⟨rfl, hib.use ?_⟩
      by_cases hb : m = 1 ∧ R % 2 = 1
      · rw [decide_eq_true hb]
        have ep : plc k m R c = k - 1 - c := by unfold plc; rw [if_pos hb]
        rw [ep] at kk
        refine ⟨fun z => (z1 z).elim, fun _ => ?_⟩
        have e2 : f 14 - nI 1 - nI c = nI (k - 1 - c) := by rw [hf, pk_sub (by omega), pk_sub (by omega)]
        refine ⟨vin (by omega) (by omega), ?_⟩
        refine ⟨by rw [e2, e]; exact vin (by omega) (by omega), ?_⟩
        rw [e2, e, nI_clamp (show c < 2 ^ 31 by omega), nI_clamp (show 4 + 16 * R + (k - 1 - c) < 2 ^ 31 by omega)]
        exact kk
      · rw [decide_eq_false hb]
        have ep : plc k m R c = c := by unfold plc; rw [if_neg hb]
        rw [ep] at kk
        refine ⟨fun _ => ?_, fun z => absurd rfl z⟩
        refine ⟨vin (by omega) (by omega), ?_⟩
        refine ⟨by rw [e]; exact vin (by omega) (by omega), ?_⟩
        rw [e, nI_clamp (show c < 2 ^ 31 by omega), nI_clamp (show 4 + 16 * R + c < 2 ^ 31 by omega)]
        exact kk
end MOD
section MOD
variable {g : GG} {S : Sg} {a : Nat → Nat → Int32} {f : Nat → Int32}
theorem y_spoken (hS : okSg S) (hM : RM S a f) : Ev g mX10_spoken [vr 0] (mW a f) (MV (op_spoken S)) := by
  obtain ⟨⟨R, W, m, D⟩, ⟨tn, T⟩, ⟨n, TP⟩, ⟨sn, w⟩, im, sh, tf, rf⟩ := S
  obtain ⟨⟨p1, p2, p3, p4, p5⟩, ⟨q1, q2⟩, ⟨o3, o4⟩, ⟨o5, o5b⟩, o6, o7, o8, o9⟩ := id hS
  obtain ⟨⟨hs, ht3, htT⟩, hi, ⟨htp, h5⟩, ⟨h12, hsl⟩, hsh, h9, h19⟩ := id hM
  have hs : HM (a 1) R W m D := hs
  have ht3 : a 1 3 = nI tn := ht3
  have htT : ∀ j, j < tn → a 1 (196 + j) = T j := htT
  have p1 : R ≤ 12 := p1
  have p2 : W ≤ 16 := p2
  have p3 : m ≤ 1 := p3
  have p4 : R = 0 → W = 0 := p4
  have p5 : R ≠ 0 → 1 ≤ W := p5
  have q1 : tn ≤ R * W := q1
  have q2 : ∀ j, j < tn → isCol (T j) = true := q2
  have hRW := RW_le p1 p2
  unfold op_spoken
  dsimp only
  refine Ev_of omX10_spoken.1 (Nat.le_of_ble_eq_true rfl) ?_
  refine Z_go kX10_spoken okX10 [] 80 ?_
  refine ⟨rfl, (m_speaks hs p1 p2 p3 p4 h12 hsl o5b o5).mono (fun v A' _ hv => ?_)⟩
  obtain ⟨rfl, ln', x, rfl, hx⟩ := hv
  have hM' : RM ((R, W, m, D), (tn, T), (n, TP), (sn, w), im, sh, tf, rf) (aU a 7 ln') (fU f 14 x) := hM
  cases ho : (spk (R, W, m, D) sn w).1 with
  | none => exact ⟨fun _ => ⟨rfl, _, _, rfl, hM'⟩, fun z => absurd rfl z⟩
  | some e =>
    obtain ⟨rfl, -⟩ := hx e ho
    exact ⟨fun z => (z1 z).elim, fun _ => ⟨rfl, _, _, rfl, hM'⟩⟩
theorem y_said (hS : okSg S) (hM : RM S a f) (i : Int32) : Ev g mX10_said [vr 0, vi i] (mW a f) (MV (op_said S i)) := by
  obtain ⟨⟨R, W, m, D⟩, ⟨tn, T⟩, ⟨n, TP⟩, ⟨sn, w⟩, im, sh, tf, rf⟩ := S
  obtain ⟨⟨p1, p2, p3, p4, p5⟩, ⟨q1, q2⟩, ⟨o3, o4⟩, ⟨o5, o5b⟩, o6, o7, o8, o9⟩ := id hS
  obtain ⟨⟨hs, ht3, htT⟩, hi, ⟨htp, h5⟩, ⟨h12, hsl⟩, hsh, h9, h19⟩ := id hM
  have hs : HM (a 1) R W m D := hs
  have ht3 : a 1 3 = nI tn := ht3
  have htT : ∀ j, j < tn → a 1 (196 + j) = T j := htT
  have p1 : R ≤ 12 := p1
  have p2 : W ≤ 16 := p2
  have p3 : m ≤ 1 := p3
  have p4 : R = 0 → W = 0 := p4
  have p5 : R ≠ 0 → 1 ≤ W := p5
  have q1 : tn ≤ R * W := q1
  have q2 : ∀ j, j < tn → isCol (T j) = true := q2
  have hRW := RW_le p1 p2
  unfold op_said
  dsimp only
  refine Ev_of omX10_said.1 (Nat.le_of_ble_eq_true rfl) ?_
  refine Z_go kX10_said okX10 [] 80 ?_
  refine ⟨fun (z : 0 ≤ i) => ?_, fun (z : ¬ 0 ≤ i) => ?_⟩
  · have h0 : ¬ i < 0 := Int32.not_lt.mpr z
    rw [if_neg h0]
    obtain ⟨q, hq, rfl⟩ := nI_of h0
    refine ⟨rfl, (m_speaks hs p1 p2 p3 p4 h12 hsl o5b o5).mono (fun v A' _ hv => ?_)⟩
    obtain ⟨rfl, ln', x, rfl, hx⟩ := hv
    have hM' : RM ((R, W, m, D), (tn, T), (n, TP), (sn, w), im, sh, tf, rf) (aU a 7 ln') (fU f 14 x) := hM
    cases ho : (spk (R, W, m, D) sn w).1 with
    | none =>
      rw [if_neg (show ¬ nI q < oI none from fun z => nI_pos hq (Int32.lt_trans z (by decide +kernel)))]
      exact ⟨fun _ => ⟨rfl, _, _, rfl, hM'⟩, fun z => absurd rfl z⟩
    | some e =>
      obtain ⟨rfl, hl⟩ := hx e ho
      have hf := spkS_fit p2 p4 p5 ho
      refine ⟨fun z => (z1 z).elim, fun _ => ?_⟩
      refine ⟨fun (z2 : nI e ≤ nI q) => ?_, fun (z2 : ¬ nI e ≤ nI q) => ?_⟩
      · rw [if_neg (show ¬ nI q < oI (some e) from Int32.not_lt.mpr z2)]
        exact ⟨rfl, _, _, rfl, hM'⟩
      · rw [if_pos (show nI q < oI (some e) from Int32.not_le.mp z2)]
        rw [nI_leI (by omega) hq] at z2
        refine ⟨vin (by omega) (by omega), ?_⟩
        rw [nOf_n hq, nI_clamp hq]
        exact ⟨by rw [← hl q (by omega)]; rfl, _, _, rfl, hM'⟩
  · rw [if_pos (Int32.not_le.mp z)]; exact ⟨rfl, _, _, rfl, hM⟩
theorem y_add (hS : okSg S) (hM : RM S a f) : Ev g mX10_add [vr 0] (mW a f) (MV (op_add S)) := by
  obtain ⟨⟨R, W, m, D⟩, ⟨tn, T⟩, ⟨n, TP⟩, ⟨sn, w⟩, im, sh, tf, rf⟩ := S
  obtain ⟨⟨p1, p2, p3, p4, p5⟩, ⟨q1, q2⟩, ⟨o3, o4⟩, ⟨o5, o5b⟩, o6, o7, o8, o9⟩ := id hS
  obtain ⟨⟨hs, ht3, htT⟩, hi, ⟨htp, h5⟩, ⟨h12, hsl⟩, hsh, h9, h19⟩ := id hM
  have hs : HM (a 1) R W m D := hs
  have ht3 : a 1 3 = nI tn := ht3
  have htT : ∀ j, j < tn → a 1 (196 + j) = T j := htT
  have p1 : R ≤ 12 := p1
  have p2 : W ≤ 16 := p2
  have p3 : m ≤ 1 := p3
  have p4 : R = 0 → W = 0 := p4
  have p5 : R ≠ 0 → 1 ≤ W := p5
  have q1 : tn ≤ R * W := q1
  have q2 : ∀ j, j < tn → isCol (T j) = true := q2
  have hRW := RW_le p1 p2
  unfold op_add
  dsimp only
  refine Ev_of omX10_add.1 (Nat.le_of_ble_eq_true rfl) ?_
  refine Z_go kX10_add okX10 [43] 80 ?_
  refine ⟨rfl, (m_speaks hs p1 p2 p3 p4 h12 hsl o5b o5).mono (fun v A' _ hv => ?_)⟩
  obtain ⟨rfl, ln', x, rfl, hx⟩ := hv
  have hM' : RM ((R, W, m, D), (tn, T), (n, TP), (sn, w), im, sh, tf, rf) (aU a 7 ln') (fU f 14 x) := hM
  cases ho : (spk (R, W, m, D) sn w).1 with
  | none => exact ⟨fun z => absurd rfl z, fun _ => ⟨rfl, _, _, rfl, hM'⟩⟩
  | some k =>
    obtain ⟨rfl, hl⟩ := hx k ho
    have hf := spkS_fit p2 p4 p5 ho
    dsimp only
    generalize (spk (R, W, m, D) sn w).2 = l at hl ⊢
    refine ⟨fun _ => ?_, fun (z : ¬ ¬ nI 1 = 0) => absurd z1 z⟩
    refine ⟨vin (by omega) (by omega), ?_⟩
    rw [show (nI 0).toNatClampNeg = 0 from rfl, show aU a 7 ln' 1 0 = nI R from hs.1]
    refine ⟨fun (z : ¬ nI R = nI 12) => ?_, fun (z : ¬ ¬ nI R = nI 12) => ?_⟩
    · rw [nI_eq (by omega) (by omega)] at z
      rw [if_neg (by omega)]
      refine ⟨vin (by omega) (by omega), ?_⟩
      rw [show (nI 0).toNatClampNeg = 0 from rfl, show aU a 7 ln' 1 0 = nI R from hs.1]
      refine ⟨vin (by omega) (by omega), ?_⟩
      rw [show (nI 1).toNatClampNeg = 1 from rfl]
      have h0 : HM (upd (a 1) 1 (nI k)) R k m D := ⟨(updN (by omega)).trans hs.1, fun _ => updS, (updN (by omega)).trans hs.2.2.1, fun r c hr hc => (updN (by omega)).trans (hs.2.2.2 r c hr (by rw [← hf.1 (by omega)]; exact hc))⟩
      refine addM_loop (a := aU a 7 ln') (f := fU f 14 (nI k)) (R := R) (k := k) (m := m) (D := D) (l := l) (s0 := upd (a 1) 1 (nI k)) (by omega) hf.2.2 p3 hl rfl (fun s' hs' h0' hc' hk' => ?_) k 0 (upd (a 1) 1 (nI k)) (by omega) h0 (fun i hi => by omega) ?_
      · refine Z_go kX10_add okX10 [] 80 ?_
        refine ⟨vin (by omega) (by omega), ?_⟩
        rw [show (nI 0).toNatClampNeg = 0 from rfl, show aU (aU a 7 ln') 1 s' 1 0 = nI R from h0']
        refine ⟨vin (by omega) (by omega), ?_⟩
        refine ⟨vin (by omega) (by omega), ?_⟩
        rw [show (nI 0).toNatClampNeg = 0 from rfl, updS, ← nI_a1]
        refine ⟨rfl, aU (aU a 7 ln') 1 (upd s' 0 (nI (R + 1))), fU (fU f 14 (nI k)) 12 (nI 0), rfl, ⟨⟨?_, fun _ => ?_, ?_, fun q c hq hc => ?_⟩, ?_, fun j hj => ?_⟩, hi, ⟨htp, h5⟩, ⟨rfl, fun j (hj : j < 0) => absurd hj (by omega)⟩, hsh, h9, h19⟩
        · show upd s' 0 (nI (R + 1)) 0 = nI (R + 1)
          rw [updS]
        · show upd s' 0 (nI (R + 1)) 1 = nI k
          rw [updN (by omega), hk' 1 (by omega), updS]
        · show upd s' 0 (nI (R + 1)) 2 = nI m
          rw [updN (by omega)]; exact hs'.2.2.1
        · show upd s' 0 (nI (R + 1)) (4 + 16 * q + c) = addD D R k m l q c
          have hq : q < R + 1 := hq
          have hc : c < k := hc
          rw [updN (by omega)]
          unfold addD
          by_cases e : q = R
          · rw [if_pos e, ← hc' _ (plc_lt hc), e]
            congr 2
            unfold plc; split <;> omega
          · rw [if_neg e]; exact hs'.2.2.2 q c (by omega) hc
        · show upd s' 0 (nI (R + 1)) 3 = nI tn
          rw [updN (by omega), hk' 3 (by omega), updN (by omega)]; exact ht3
        · show upd s' 0 (nI (R + 1)) (196 + j) = T j
          rw [updN (by omega), hk' _ (by omega), updN (by omega)]; exact htT j hj
      · exact fun _ _ => rfl
    · rw [nI_eq (by omega) (by omega)] at z
      rw [if_pos (by omega)]
      exact ⟨rfl, _, _, rfl, hM'⟩
end MOD
