section MOD
variable {g : GG} {a : Nat → Nat → Int32} {f : Nat → Int32} {n : Nat} {tp : Nat → Int32}
theorem clear_loop {Q : Option AV → AH → Prop} (hQ : ∀ d v, (∀ j, j < 388 → d j = nI 0) → Z g mX10_text 11 Q 32 [some (vr 0), v] [] (mW (aU a 2 d) f)) : ∀ (z c : Nat) (d : Nat → Int32), c + z = 388 → (∀ j, j < c → d j = nI 0) →
    Z g mX10_text 11 Q 12 [some (vr 0), some (vi (nI c))] [] (mW (aU a 2 d) f) := by
  intro z
  induction z with
  | zero =>
    intro c d h1 hd
    have h1 : c = 388 := by omega
    subst h1
    refine Z_go kX10_text okX10 [12, 32] 80 ?_
    exact ⟨fun _ => hQ d _ hd, fun (h : ¬ nI 388 ≤ nI 388) => absurd (nI_le (by omega) (by omega)) h⟩
  | succ z ih =>
    intro c d h1 hd
    have k := ih (c + 1) (upd d c (nI 0)) (by omega) (fun j hj => by
      by_cases e : j = c
      · rw [e, updS]
      · rw [updN e]; exact hd j (by omega))
    rw [nI_a1 c] at k
    refine Z_go kX10_text okX10 [12, 32] 80 ?_
    refine ⟨fun (h : nI 388 ≤ nI c) => ?_, fun _ => ?_⟩
    · rw [nI_leI (by omega) (by omega)] at h; omega
    · refine ⟨vin (by omega) (by omega), ?_⟩
      rw [nI_clamp (show c < 2 ^ 31 by omega)]
      exact k
theorem copyD_loop {Q : Option AV → AH → Prop} (hQ : ∀ s v, (∀ j, j < 388 → s j = a 2 j) → Z g mX10_text 11 Q 104 [some (vr 0), v] [] (mW (aU a 1 s) f)) : ∀ (z c : Nat) (s : Nat → Int32), c + z = 388 → (∀ j, j < c → s j = a 2 j) →
    Z g mX10_text 11 Q 79 [some (vr 0), some (vi (nI c))] [] (mW (aU a 1 s) f) := by
  intro z
  induction z with
  | zero =>
    intro c s h1 hd
    have h1 : c = 388 := by omega
    subst h1
    refine Z_go kX10_text okX10 [79, 104] 80 ?_
    exact ⟨fun _ => hQ s _ hd, fun (h : ¬ nI 388 ≤ nI 388) => absurd (nI_le (by omega) (by omega)) h⟩
  | succ z ih =>
    intro c s h1 hd
    have k := ih (c + 1) (upd s c (a 2 c)) (by omega) (fun j hj => by
      by_cases e : j = c
      · rw [e, updS]
      · rw [updN e]; exact hd j (by omega))
    rw [nI_a1 c] at k
    refine Z_go kX10_text okX10 [79, 104] 80 ?_
    refine ⟨fun (h : nI 388 ≤ nI c) => ?_, fun _ => ?_⟩
    · rw [nI_leI (by omega) (by omega)] at h; omega
    · refine ⟨vin (by omega) (by omega), ?_⟩
      refine ⟨vin (by omega) (by omega), ?_⟩
      rw [nI_clamp (show c < 2 ^ 31 by omega)]
      exact k
theorem lnS_ok {tp : Nat → Int32} {n st nx tk R W : Nat} {fro : Bool} {D : Nat → Nat → Int32} (hnx : nx ≤ n) (hRW : R = 0 → W = 0) (hRW1 : R ≠ 0 → 1 ≤ W) : ((lnS tp n st nx tk R W fro D).2.2.2.1 = 0 → (lnS tp n st nx tk R W fro D).2.2.2.2.1 = 0) ∧ ((lnS tp n st nx tk R W fro D).2.2.2.1 ≠ 0 → 1 ≤ (lnS tp n st nx tk R W fro D).2.2.2.2.1) := by
  have tl := tok_lt (tp := tp) hnx
  unfold lnS rwS frS
  split
  · exact ⟨hRW, hRW1⟩
  · split
    · split
      · exact ⟨hRW, hRW1⟩
      · split
        · exact ⟨hRW, hRW1⟩
        · split
          · exact ⟨hRW, hRW1⟩
          · rename_i h1 h2 h3
            have tl := tl (by omega)
            exact ⟨fun (z : R + 1 = 0) => by omega, fun _ => by show 1 ≤ (tok tp n nx).2.1 - (tok tp n nx).1; omega⟩
    · split
      · split
        · exact ⟨hRW, hRW1⟩
        · exact ⟨hRW, hRW1⟩
      · exact ⟨hRW, hRW1⟩
theorem prs_bd {tp : Nat → Int32} {n : Nat} : ∀ (k : Nat) (x : RX), x.2.1 ≤ n → x.2.2.1 ≤ 12 → x.2.2.2.1 ≤ 16 → (prs tp n k x).2.2.2.1 ≤ 12 ∧ (prs tp n k x).2.2.2.2.1 ≤ 16 := by
  intro k
  induction k with
  | zero => intro x _ h2 h3; exact ⟨h2, h3⟩
  | succ k ih =>
    intro x hx h2 h3
    obtain ⟨t1, t2, t3, t4⟩ := tok_le (tp := tp) hx
    have hb := lnS_bd (tp := tp) (n := n) (fro := x.2.2.2.2.1) (D := x.2.2.2.2.2) (st := (tok tp n x.2.1).1) (nx := (tok tp n x.2.1).2.1) (tk := (tok tp n x.2.1).2.2) h2 h3
    simp only [prs]
    split
    · exact ⟨h2, h3⟩
    · split
      · exact ih _ (lnS_nx t3) hb.1 hb.2
      · exact hb
end MOD
section MOD
variable {g : GG} {S : Sg} {a : Nat → Nat → Int32} {f : Nat → Int32}
theorem y_text (hS : okSg S) (hM : RM S a f) : Ev g mX10_text [vr 0] (mW a f) (MV (op_text S)) := by
  obtain ⟨⟨R, W, m, D⟩, ⟨tn, T⟩, ⟨n, TP⟩, ⟨sn, w⟩, im, sh, tf, rf⟩ := S
  obtain ⟨⟨p1, p2, p3, p4, p5⟩, ⟨q1, q2⟩, ⟨o3, o4⟩, ⟨o5, o5b⟩, o6, o7, o8, o9⟩ := id hS
  obtain ⟨⟨hs, ht3, htT⟩, hi, ⟨htp, h5⟩, ⟨h12, hsl⟩, hsh, h9, h19⟩ := id hM
  have hs : HM (a 1) R W m D := hs
  have ht3 : a 1 3 = nI tn := ht3
  have htT : ∀ j, j < tn → a 1 (196 + j) = T j := htT
  have p1 : R ≤ 12 := p1
  have p2 : W ≤ 16 := p2
  have p3 : m ≤ 1 := p3
  have p4 : R = 0 → W = 0 := p4
  have p5 : R ≠ 0 → 1 ≤ W := p5
  have q1 : tn ≤ R * W := q1
  have q2 : ∀ j, j < tn → isCol (T j) = true := q2
  have hRW := RW_le p1 p2
  have hpos : ∀ j, j < n → ¬ TP j < 0 := o4
  have hn : n ≤ 300 := o3
  unfold op_text
  dsimp only
  have hpl := txt_le (tp := TP) (n := n) o3
  have hbd := prs_bd (tp := TP) (n := n) 301 (0, 0, 0, 0, false, fun _ _ => 0) (by show 0 ≤ n; omega) (by show 0 ≤ 12; omega) (by show 0 ≤ 16; omega)
  have hbd : (txt TP n).2.2.2.1 ≤ 12 ∧ (txt TP n).2.2.2.2.1 ≤ 16 := hbd
  -- the end
  have fin : ∀ d p b s w0 v, ((txt TP n).1 = 0 → HD d (txt TP n).2.2.2.1 (txt TP n).2.2.2.2.1 (txt TP n).2.2.2.2.2.1 (txt TP n).2.2.2.2.2.2) → (¬ (txt TP n).1 = 0 → w0 = nI (txt TP n).2.1) → (txt TP n).1 ≤ 4 →
      Z g mX10_text 11 (MV (if (txt TP n).1 = 0 then (nI (txt TP n).2.2.2.1, ((txt TP n).2.2.2.1, (txt TP n).2.2.2.2.1, fl (txt TP n).2.2.2.2.2.1, (txt TP n).2.2.2.2.2.2), (0, T), (0, TP), (sn, w), (fun k => (false, (im k).2)), sh, 0, rf) else (-nI 10 - nI (txt TP n).2.1, (R, W, m, D), (tn, T), (0, TP), (sn, w), im, sh, (txt TP n).1, rf))) 57 [some (vr 0), v] [] (mW (aU a 2 d) (tU f p b s (nI (txt TP n).1) w0)) := by
    intro d p b s w0 v hd hw hle
    generalize txt TP n = t at hd hw hle hbd ⊢
    obtain ⟨F, st', nx', R', W', fro', D'⟩ := t
    dsimp only at hd hw hle hbd ⊢
    by_cases hF : F = 0
    · subst hF
      rw [if_pos rfl]
      have hd := hd rfl
      have end1 : ∀ s1 v', (∀ j, j < 388 → s1 j = d j) → Z g mX10_text 11 (MV (nI R', (R', W', fl fro', D'), (0, T), (0, TP), (sn, w), (fun k => (false, (im k).2)), sh, 0, rf)) 104 [some (vr 0), v'] [] (mW (aU (aU a 2 d) 1 s1) (fU (tU f p b s (nI 0) w0) 5 (nI 0))) := by
        intro s1 v' hs1
        have hb1 := hbd.1
        have hb2 := hbd.2
        refine Z_go kX10_text okX10 [] 80 ?_
        refine ⟨vin (by omega) (by omega), Or.inl rfl, ?_⟩
        refine ⟨vin (by omega) (by omega), Or.inl rfl, ?_⟩
        refine ⟨vin (by omega) (by omega), ?_⟩
        rw [show (nI 0).toNatClampNeg = 0 from rfl, show (nI 1).toNatClampNeg = 1 from rfl, show aU (aU a 2 d) 1 s1 1 0 = nI R' from (hs1 0 (by omega)).trans hd.1.1]
        refine ⟨rfl, aU (aU (aU a 2 d) 1 s1) 4 (upd (upd (a 4) 0 (nI 0)) 1 (nI 0)), fU (tU f p b s (nI 0) w0) 5 (nI 0), rfl, ⟨⟨(hs1 0 (by omega)).trans hd.1.1, fun z => (hs1 1 (by omega)).trans (hd.1.2.1 z), (hs1 2 (by omega)).trans hd.1.2.2.1, fun r c hr hc => ?_⟩, (hs1 3 (by omega)).trans hd.2, fun j (hj : j < 0) => absurd hj (by omega)⟩, fun k hk => ⟨?_, (hi k hk).2⟩, ⟨htp, rfl⟩, ⟨h12, hsl⟩, hsh, rfl, h19⟩
        · have hr : r < R' := hr
          have hc : c < W' := hc
          exact (hs1 _ (by omega)).trans (hd.1.2.2.2 r c hr hc)
        · show upd (upd (a 4) 0 (nI 0)) 1 (nI 0) k = nI 0
          by_cases e : k = 1
          · rw [e, updS]
          · rw [updN e, show k = 0 by omega, updS]
      have k := copyD_loop (g := g) (a := aU a 2 d) (f := fU (tU f p b s (nI 0) w0) 5 (nI 0)) (Q := MV (nI R', (R', W', fl fro', D'), (0, T), (0, TP), (sn, w), (fun k => (false, (im k).2)), sh, 0, rf)) (fun s1 v' h => end1 s1 v' h) 388 0 (a 1) (by omega) (fun j hj => by omega)
      refine Z_go kX10_text okX10 [79] 80 ?_
      refine ⟨fun _ => ?_, fun (z : ¬ nI 0 ≤ 0) => absurd (by decide) z⟩
      exact k
    · rw [if_neg hF]
      have hw := hw hF
      subst hw
      refine Z_go kX10_text okX10 [79] 80 ?_
      refine ⟨fun (z : nI F ≤ 0) => absurd z (nI_nle (by omega) (by omega)), fun _ => ?_⟩
      exact ⟨rfl, aU a 2 d, fU (tU f p b s (nI F) (nI st')) 5 (nI 0), rfl, ⟨hs, ht3, htT⟩, hi, ⟨htp, rfl⟩, ⟨h12, hsl⟩, hsh, rfl, h19⟩
  have k := clear_loop (g := g) (a := a) (f := tU f (nI 0) (f 7) (f 8) (nI 0) (f 10)) (Q := MV (if (txt TP n).1 = 0 then (nI (txt TP n).2.2.2.1, ((txt TP n).2.2.2.1, (txt TP n).2.2.2.2.1, fl (txt TP n).2.2.2.2.2.1, (txt TP n).2.2.2.2.2.2), (0, T), (0, TP), (sn, w), (fun k => (false, (im k).2)), sh, 0, rf) else (-nI 10 - nI (txt TP n).2.1, (R, W, m, D), (tn, T), (0, TP), (sn, w), im, sh, (txt TP n).1, rf))) (fun d v hd => by
    have hr := m_reads (g := g) (a := aU a 2 d) (f := f) (b := f 7) (s := f 8) (w := f 10) (n := n) (nx := 0) h5 htp hn hpos (by omega)
    have hl := lines_loop (g := g) (a := a) (f := f) (n := n) (tp := TP) (v := v) (Q := MV (if (txt TP n).1 = 0 then (nI (txt TP n).2.2.2.1, ((txt TP n).2.2.2.1, (txt TP n).2.2.2.2.1, fl (txt TP n).2.2.2.2.2.1, (txt TP n).2.2.2.2.2.2), (0, T), (0, TP), (sn, w), (fun k => (false, (im k).2)), sh, 0, rf) else (-nI 10 - nI (txt TP n).2.1, (R, W, m, D), (tn, T), (0, TP), (sn, w), im, sh, (txt TP n).1, rf))) h5 htp hn hpos 301 (0, 0, 0, 0, false, fun _ _ => 0) d (if (tok TP n 0).2.2 = 0 then nI (tok TP n 0).1 else f 10) (by show 0 ≤ n; omega) (by show 0 ≤ 12; omega) (by show 0 ≤ 16; omega) ⟨⟨hd 0 (by omega), fun z => absurd rfl z, hd 2 (by omega), fun r c (hr : r < 0) => absurd hr (by omega)⟩, hd 3 (by omega)⟩ (by show 301 ≤ 0 + 301; omega) (fun z => if_pos z) (fun d p b s w0 h1 h2 h3 => fin d p b s w0 v h1 h2 h3)
    refine Z_go kX10_text okX10 [36] 80 ?_
    exact ⟨rfl, hr.use hl⟩) 388 0 (a 2) (by omega) (fun j hj => by omega)
  refine Ev_of omX10_text.1 (Nat.le_of_ble_eq_true rfl) ?_
  refine Z_go kX10_text okX10 [12] 80 ?_
  exact k
end MOD
