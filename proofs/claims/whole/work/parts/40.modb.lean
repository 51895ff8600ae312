/-! the reference: draw -/
section MOD
variable {g : GG} {a : Nat → Nat → Int32} {f : Nat → Int32} {W kc : Nat} {D : Nat → Nat → Int32}
theorem m_gets0 : Dt g mX10_gets [vr 0] (mW a f) (some (vi (nI (gotN (nxS (f 15)))))) (mW a (fU f 15 (nxS (f 15)))) := by
  have e := got_s (nxS (f 15))
  refine Ev_of omX10_gets.1 (Nat.le_of_ble_eq_true rfl) ?_
  refine Z_go kX10_gets okX10 [] 80 ?_
  rw [← e]
  exact ⟨rfl, rfl⟩
theorem m_gets {sd : Int32} : Dt g mX10_gets [vr 0] (mW a (fU f 15 sd)) (some (vi (nI (gotN (nxS sd))))) (mW a (fU f 15 (nxS sd))) := by
  have h := m_gets0 (g := g) (a := a) (f := fU f 15 sd)
  have e : mW a (fU (fU f 15 sd) 15 (nxS (fU f 15 sd 15))) = mW a (fU f 15 (nxS sd)) := by
    have : fU f 15 sd 15 = sd := rfl
    rw [this]
    generalize nxS sd = y
    rfl
  rw [e] at h
  exact h
/-- the first r rows -/
def Hs (s : Nat → Int32) (D : Nat → Nat → Int32) (r W : Nat) : Prop := ∀ q d, q < r → d < W → s (4 + 16 * q + d) = D q d
theorem drawsB_loop {r pt : Nat} {wy : Int32} {Q : Option AV → AH → Prop} (hr : r < 12) (hW : W ≤ 16) (hk1 : 1 ≤ kc) (hk : kc ≤ 6) (hp : 1 ≤ pt) (hp2 : pt ≤ 16) : ∀ (q c : Nat) (s : Nat → Int32) (sd : Int32) (D : Nat → Nat → Int32), c + q = W → Hs s D r W → (∀ d, d < c → s (4 + 16 * r + d) = D r d) →
    (∀ s', Hs s' (drB W kc pt r q c (sd, D)).2 (r + 1) W → Kp s s' → Q none (mW (aU a 1 s') (fU f 15 (drB W kc pt r q c (sd, D)).1))) →
    Z g mX10_drawsRow 11 Q 60 [some (vr 0), some (vi (nI r)), some (vi (nI W)), some (vi (nI kc)), some (vi (nI (4 + 16 * r))), some (vi wy), some (vi (nI pt)), some (vi (nI c))] [] (mW (aU a 1 s) (fU f 15 sd)) := by
  intro q
  induction q with
  | zero =>
    intro c s sd D h1 h2 h3 hQ
    refine Z_go kX10_drawsRow okX10 [60] 80 ?_
    refine ⟨fun _ => ?_, fun (z : ¬ nI W ≤ nI c) => absurd (nI_le (by omega) (by omega)) z⟩
    refine hQ s ?_ (fun _ _ => rfl)
    intro q d hq hd
    by_cases e : q = r
    · subst e; exact h3 d (by omega)
    · exact h2 q d (by omega) hd
  | succ q ih =>
    intro c s sd D h1 h2 h3 hQ
    simp only [drB] at hQ
    have e1 : nI (4 + 16 * r) + nI c = nI (4 + 16 * r + c) := nI_add _ _
    refine Z_go kX10_drawsRow okX10 [60] 80 ?_
    refine ⟨fun (z : nI W ≤ nI c) => ?_, fun _ => ?_⟩
    · rw [nI_leI (by omega) (by omega)] at z; omega
    · refine ⟨fun (z : nI pt ≤ nI c) => ?_, fun (z : ¬ nI pt ≤ nI c) => ?_⟩
      · rw [nI_leI (by omega) (by omega)] at z
        rw [if_neg (by omega)] at hQ
        have e2 : nI (4 + 16 * r + c) - nI pt = nI (4 + 16 * r + (c - pt)) := by rw [pk_sub (by omega)]; congr 1; omega
        refine ⟨by rw [e1, e2]; exact vin (by omega) (by omega), ?_⟩
        refine ⟨by rw [e1]; exact vin (by omega) (by omega), ?_⟩
        rw [e1, e2, nI_clamp (show 4 + 16 * r + c < 2 ^ 31 by omega), nI_clamp (show 4 + 16 * r + (c - pt) < 2 ^ 31 by omega)]
        have k := ih (c + 1) (upd s (4 + 16 * r + c) (s (4 + 16 * r + (c - pt)))) sd (setD D r c (D r (c - pt))) (by omega) (fun q d hq hd => by
          unfold setD
          rw [if_neg (by omega), updN (by omega)]; exact h2 q d hq hd) (fun d hd => by
          unfold setD
          by_cases e : d = c
          · subst e; rw [updS, if_pos ⟨rfl, rfl⟩]; exact h3 _ (by omega)
          · rw [updN (by omega), if_neg (fun z => e z.2)]; exact h3 d (by omega)) (fun s' g1 g2 => hQ s' g1 (fun j hj => (g2 j hj).trans (updN (by omega))))
        rw [nI_a1 c] at k
        exact k
      · rw [nI_leI (by omega) (by omega)] at z
        rw [if_pos (by omega)] at hQ
        have hg := gotN_lt (nxS sd)
        have e3 := pk_rem (a := gotN (nxS sd)) (d := kc) (by omega) (by omega) (by omega)
        refine ⟨rfl, (m_gets (a := aU a 1 s)).use ?_⟩
        refine ⟨nI_ne0 (by omega) (by omega), ?_⟩
        rw [e3]
        refine ⟨by rw [e1]; exact vin (by omega) (by omega), ?_⟩
        rw [e1, nI_clamp (show 4 + 16 * r + c < 2 ^ 31 by omega)]
        have k := ih (c + 1) (upd s (4 + 16 * r + c) (nI (gotN (nxS sd) % kc))) (nxS sd) (setD D r c (nI (gotN (nxS sd) % kc))) (by omega) (fun q d hq hd => by
          unfold setD
          rw [if_neg (by omega), updN (by omega)]; exact h2 q d hq hd) (fun d hd => by
          unfold setD
          by_cases e : d = c
          · subst e; rw [updS, if_pos ⟨rfl, rfl⟩]
          · rw [updN (by omega), if_neg (fun z => e z.2)]; exact h3 d (by omega)) (fun s' g1 g2 => hQ s' g1 (fun j hj => (g2 j hj).trans (updN (by omega))))
        rw [nI_a1 c] at k
        exact k
theorem m_drawsRow {r : Nat} {s : Nat → Int32} {sd : Int32} {D : Nat → Nat → Int32} {Q : Option AV → AH → Prop} (hr : r < 12) (hW : W ≤ 16) (hW1 : 1 ≤ W) (hk1 : 1 ≤ kc) (hk : kc ≤ 6) (hb : Hs s D r W)
    (hQ : ∀ s', Hs s' (drR W kc r (sd, D)).2 (r + 1) W → Kp s s' → Q none (mW (aU a 1 s') (fU f 15 (drR W kc r (sd, D)).1))) :
    Ev g mX10_drawsRow [vr 0, vi (nI r), vi (nI W), vi (nI kc)] (mW (aU a 1 s) (fU f 15 sd)) Q := by
  have hg4 : gotN (nxS sd) % 4 < 4 := Nat.mod_lt _ (by decide)
  have hg := gotN_lt (nxS sd)
  have hg2 := gotN_lt (nxS (nxS sd))
  have e0 : nI 4 + nI 16 * nI r = nI (4 + 16 * r) := by rw [pk_mul, nI_add]
  have e4 : nI (gotN (nxS sd)) - nI (gotN (nxS sd)) / nI 4 * nI 4 = nI (gotN (nxS sd) % 4) := pk_rem (by omega) (by omega) (by omega)
  unfold drR at hQ
  dsimp only at hQ
  have fin : ∀ (wy : Int32) (pt : Nat) (sd' : Int32), 1 ≤ pt → pt ≤ 16 → (∀ s', Hs s' (drB W kc pt r W 0 (sd', D)).2 (r + 1) W → Kp s s' → Q none (mW (aU a 1 s') (fU f 15 (drB W kc pt r W 0 (sd', D)).1))) → Z g mX10_drawsRow 11 Q 55 [some (vr 0), some (vi (nI r)), some (vi (nI W)), some (vi (nI kc)), some (vi (nI (4 + 16 * r))), some (vi wy), none, none] [vi (nI pt)] (mW (aU a 1 s) (fU f 15 sd')) := by
    intro wy pt sd' hp1 hp2 hq
    refine Z_go kX10_drawsRow okX10 [60] 80 ?_
    exact drawsB_loop hr hW hk1 hk hp1 hp2 W 0 s sd' D (by omega) hb (fun d hd => by omega) hq
  have oth : ¬ (gotN (nxS sd) % 4 = 0 ∧ 0 < r) → Z g mX10_drawsRow 11 Q 37 [some (vr 0), some (vi (nI r)), some (vi (nI W)), some (vi (nI kc)), some (vi (nI (4 + 16 * r))), some (vi (nI (gotN (nxS sd) % 4))), none, none] [] (mW (aU a 1 s) (fU f 15 (nxS sd))) := by
    intro h0
    rw [if_neg h0] at hQ
    refine Z_go kX10_drawsRow okX10 [55] 80 ?_
    refine ⟨fun (z : ¬ nI (gotN (nxS sd) % 4) = nI 1) => ?_, fun (z : ¬ ¬ nI (gotN (nxS sd) % 4) = nI 1) => ?_⟩
    · rw [nI_eq (by omega) (by omega)] at z
      rw [if_neg z] at hQ
      exact fin _ W _ hW1 hW hQ
    · rw [nI_eq (by omega) (by omega)] at z
      rw [if_pos (Classical.not_not.mp z)] at hQ
      have hlt : gotN (nxS (nxS sd)) % W < W := Nat.mod_lt _ (by omega)
      have e3 := pk_rem (a := gotN (nxS (nxS sd))) (d := W) (by omega) (by omega) (by omega)
      refine ⟨rfl, (m_gets (a := aU a 1 s)).use ?_⟩
      refine ⟨nI_ne0 (by omega) (by omega), ?_⟩
      have k := fin (nI (gotN (nxS sd) % 4)) (gotN (nxS (nxS sd)) % W + 1) (nxS (nxS sd)) (by omega) (by omega) hQ
      rw [nI_a1 (gotN (nxS (nxS sd)) % W), ← e3] at k
      exact k
  have st : Z g mX10_drawsRow 11 Q 16 [some (vr 0), some (vi (nI r)), some (vi (nI W)), some (vi (nI kc)), some (vi (nI (4 + 16 * r))), some (vi (nI (gotN (nxS sd) % 4))), none, none] [] (mW (aU a 1 s) (fU f 15 (nxS sd))) := by
    refine Z_go kX10_drawsRow okX10 [37] 80 ?_
    refine ⟨fun (z : ¬ nI (gotN (nxS sd) % 4) = nI 0) => ?_, fun (z : ¬ ¬ nI (gotN (nxS sd) % 4) = nI 0) => ⟨fun (z2 : nI r ≤ nI 0) => ?_, fun (z2 : ¬ nI r ≤ nI 0) => ?_⟩⟩
    · rw [nI_eq (by omega) (by omega)] at z
      exact oth (fun y => z y.1)
    · rw [nI_leI (by omega) (by omega)] at z2
      exact oth (fun y => by omega)
    · rw [nI_eq (by omega) (by omega)] at z
      rw [nI_leI (by omega) (by omega)] at z2
      rw [if_pos ⟨Classical.not_not.mp z, by omega⟩] at hQ
      have hlt : gotN (nxS (nxS sd)) % r < r := Nat.mod_lt _ (by omega)
      have e3 := pk_rem (a := gotN (nxS (nxS sd))) (d := r) (by omega) (by omega) (by omega)
      refine ⟨rfl, (m_gets (a := aU a 1 s)).use ?_⟩
      refine ⟨nI_ne0 (by omega) (by omega), ?_⟩
      have hc := fun Q' hq => m_copiesRow (g := g) (a := a) (f := fU f 15 (nxS (nxS sd))) (q := gotN (nxS (nxS sd)) % r) (t := r) (s := s) (Q := Q') (by omega) hr hq
      rw [← e3] at hc
      refine ⟨rfl, hc _ (fun s' hs' hk' => ?_)⟩
      refine hQ s' (fun q d hq hd => ?_) hk'
      rw [hs' q d (by omega) (by omega)]
      dsimp only
      by_cases e : q = r
      · rw [if_pos e, if_pos e]; exact hb _ d hlt hd
      · rw [if_neg e, if_neg e]; exact hb q d (by omega) hd
  rw [← e0, ← e4] at st
  refine Ev_of omX10_drawsRow.1 (Nat.le_of_ble_eq_true rfl) ?_
  refine Z_go kX10_drawsRow okX10 [16] 80 ?_
  refine ⟨rfl, (m_gets (a := aU a 1 s)).use ?_⟩
  refine ⟨by decide, ?_⟩
  exact st
theorem draws_loop {N : Nat} {v1 : Int32} {Q : Option AV → AH → Prop} (hN : N ≤ 12) (hW : W ≤ 16) (hW1 : 1 ≤ W) (hk1 : 1 ≤ kc) (hk : kc ≤ 6) : ∀ (q r : Nat) (s : Nat → Int32) (sd : Int32) (D : Nat → Nat → Int32), r + q = N → Hs s D r W →
    (∀ s', Hs s' (itA (drR W kc) q r (sd, D)).2 N W → Kp s s' → Z g mX10_draw 11 Q 89 [some (vr 0), some (vi v1), some (vi (nI N)), some (vi (nI W)), some (vi (nI kc)), some (vi (nI N))] [] (mW (aU a 1 s') (fU f 15 (itA (drR W kc) q r (sd, D)).1))) →
    Z g mX10_draw 11 Q 68 [some (vr 0), some (vi v1), some (vi (nI N)), some (vi (nI W)), some (vi (nI kc)), some (vi (nI r))] [] (mW (aU a 1 s) (fU f 15 sd)) := by
  intro q
  induction q with
  | zero =>
    intro r s sd D h1 hb hQ
    have hQ := hQ s (by rw [show N = r by omega]; exact hb) (fun _ _ => rfl)
    refine Z_go kX10_draw okX10 [68, 89] 80 ?_
    refine ⟨fun _ => ?_, fun (z : ¬ nI N ≤ nI r) => absurd (nI_le (by omega) (by omega)) z⟩
    rw [show nI r = nI N by rw [show r = N by omega]]
    exact hQ
  | succ q ih =>
    intro r s sd D h1 hb hQ
    rw [itA_s] at hQ
    have hd := fun Q' h => m_drawsRow (g := g) (a := a) (f := f) (r := r) (s := s) (sd := sd) (D := D) (Q := Q') (by omega) hW hW1 hk1 hk hb h
    generalize drR W kc = ff at hQ hd ih
    generalize ff r (sd, D) = y at hQ hd
    obtain ⟨sd', D'⟩ := y
    refine Z_go kX10_draw okX10 [68, 89] 80 ?_
    refine ⟨fun (z : nI N ≤ nI r) => ?_, fun _ => ?_⟩
    · rw [nI_leI (by omega) (by omega)] at z; omega
    · refine ⟨rfl, hd _ (fun s' hs' hk' => ?_)⟩
      have k := ih (r + 1) s' sd' D' (by omega) hs' (fun s2 g1 g2 => hQ s2 g1 (fun j hj => (g2 j hj).trans (hk' j hj)))
      rw [nI_a1 r] at k
      exact k
end MOD
section MOD
variable {g : GG} {S : Sg} {a : Nat → Nat → Int32} {f : Nat → Int32}
theorem m_in1 {A : AH} (x : Int32) (k : Nat) (hk : k ≤ 1000) : Dt g mX10_in [vl x.toInt64, vl (lN 1), vl (lN k)] A (some (vi (nI (fl (decide (¬ (x < nI 1 ∨ nI k < x))))))) A := by
  have h := m_inN (g := g) (A := A) x 1 k (by omega) (by omega)
  have e : (decide (nI 1 ≤ x) && decide (x ≤ nI k)) = decide (¬ (x < nI 1 ∨ nI k < x)) := by
    by_cases c1 : x < nI 1
    · simp [c1, show ¬ nI 1 ≤ x from Int32.not_le.mpr c1]
    · by_cases c2 : nI k < x
      · simp [c1, c2, show ¬ x ≤ nI k from Int32.not_le.mpr c2]
      · simp [c1, c2, show nI 1 ≤ x from Int32.not_lt.mp c1, show x ≤ nI k from Int32.not_lt.mp c2]
  rw [e] at h
  exact h
theorem y_draw (hS : okSg S) (hM : RM S a f) (s nn ww kk : Int32) : Ev g mX10_draw [vr 0, vi s, vi nn, vi ww, vi kk] (mW a f) (MV (op_draw S s nn ww kk)) := by
  obtain ⟨⟨R, W, m, D⟩, ⟨tn, T⟩, ⟨n, TP⟩, ⟨sn, w⟩, im, sh, tf, rf⟩ := S
  obtain ⟨⟨p1, p2, p3, p4, p5⟩, ⟨q1, q2⟩, ⟨o3, o4⟩, ⟨o5, o5b⟩, o6, o7, o8, o9⟩ := id hS
  obtain ⟨⟨hs, ht3, htT⟩, hi, ⟨htp, h5⟩, ⟨h12, hsl⟩, hsh, h9, h19⟩ := id hM
  have hs : HM (a 1) R W m D := hs
  have ht3 : a 1 3 = nI tn := ht3
  have htT : ∀ j, j < tn → a 1 (196 + j) = T j := htT
  have p1 : R ≤ 12 := p1
  have p2 : W ≤ 16 := p2
  have p3 : m ≤ 1 := p3
  have p4 : R = 0 → W = 0 := p4
  have p5 : R ≠ 0 → 1 ≤ W := p5
  have q1 : tn ≤ R * W := q1
  have q2 : ∀ j, j < tn → isCol (T j) = true := q2
  have hRW := RW_le p1 p2
  unfold op_draw
  dsimp only
  have nat : ∀ (x : Int32) (N : Nat), N ≤ 16 → ¬ (x < nI 1 ∨ nI N < x) → ∃ k, 1 ≤ k ∧ k ≤ N ∧ x = nI k := by
    intro x N hN h
    have h1 : ¬ x < nI 1 := fun z => h (Or.inl z)
    have h2 : ¬ nI N < x := fun z => h (Or.inr z)
    have h0 : ¬ x < 0 := fun z => h1 (Int32.lt_trans z (by decide +kernel))
    obtain ⟨k, hk, rfl⟩ := nI_of h0
    rw [nI_ltI hk (by omega)] at h1
    rw [nI_ltI (by omega) hk] at h2
    exact ⟨k, by omega, by omega, rfl⟩
  refine Ev_of omX10_draw.1 (Nat.le_of_ble_eq_true rfl) ?_
  refine Z_go kX10_draw okX10 [68] 80 ?_
  refine (m_in1 nn 12 (by omega)).use ?_
  by_cases h1 : nn < nI 1 ∨ nI 12 < nn
  · rw [if_pos (h1.elim Or.inl (fun z => Or.inr (Or.inl z))), decide_eq_false (fun z => z h1)]
    exact ⟨fun _ => ⟨rfl, _, _, rfl, hM⟩, fun z => absurd rfl z⟩
  rw [decide_eq_true h1]
  refine ⟨fun z => (z1 z).elim, fun _ => ?_⟩
  refine (m_in1 ww 16 (by omega)).use ?_
  by_cases h2 : ww < nI 1 ∨ nI 16 < ww
  · rw [if_pos (Or.inr (Or.inr (h2.elim Or.inl (fun z => Or.inr (Or.inl z))))), decide_eq_false (fun z => z h2)]
    exact ⟨fun _ => ⟨rfl, _, _, rfl, hM⟩, fun z => absurd rfl z⟩
  rw [decide_eq_true h2]
  refine ⟨fun z => (z1 z).elim, fun _ => ?_⟩
  refine (m_in1 kk 6 (by omega)).use ?_
  by_cases h3 : kk < nI 1 ∨ nI 6 < kk
  · rw [if_pos (Or.inr (Or.inr (Or.inr (Or.inr (h3.elim Or.inl (fun z => Or.inr z)))))), decide_eq_false (fun z => z h3)]
    exact ⟨fun z => absurd rfl z, fun _ => ⟨rfl, _, _, rfl, hM⟩⟩
  rw [decide_eq_true h3]
  refine ⟨fun _ => ?_, fun (z : ¬ ¬ nI 1 = 0) => absurd z1 z⟩
  rw [if_neg (by
    rintro (z | z | z | z | z | z)
    · exact h1 (Or.inl z)
    · exact h1 (Or.inr z)
    · exact h2 (Or.inl z)
    · exact h2 (Or.inr z)
    · exact h3 (Or.inl z)
    · exact h3 (Or.inr z))]
  obtain ⟨N, n1, n2, rfl⟩ := nat nn 12 (by omega) h1
  obtain ⟨V, v1, v2, rfl⟩ := nat ww 16 (by omega) h2
  obtain ⟨K, k1, k2, rfl⟩ := nat kk 6 (by omega) h3
  rw [nOf_n (by omega), nOf_n (by omega), nOf_n (by omega)]
  refine ⟨vin (by omega) (by omega), ?_⟩
  refine ⟨vin (by omega) (by omega), ?_⟩
  refine ⟨vin (by omega) (by omega), ?_⟩
  rw [show (nI 0).toNatClampNeg = 0 from rfl, show (nI 1).toNatClampNeg = 1 from rfl, show (nI 3).toNatClampNeg = 3 from rfl]
  refine draws_loop (a := a) (f := f) (N := N) (W := V) (kc := K) (v1 := s) n2 v2 v1 k1 k2 N 0 (upd (upd (upd (a 1) 0 (nI N)) 1 (nI V)) 3 (nI 0)) s D (by omega) (fun q d (hq : q < 0) => absurd hq (by omega)) (fun s' hs' hk' => ?_)
  have x0 : s' 0 = nI N := by rw [hk' 0 (by omega), updN (by omega), updN (by omega), updS]
  have x1 : s' 1 = nI V := by rw [hk' 1 (by omega), updN (by omega), updS]
  have x2 : s' 2 = nI m := by rw [hk' 2 (by omega), updN (by omega), updN (by omega), updN (by omega)]; exact hs.2.2.1
  have x3 : s' 3 = nI 0 := by rw [hk' 3 (by omega), updS]
  unfold drA
  generalize itA (drR V K) N 0 (s, D) = y at hs' ⊢
  obtain ⟨sd', D'⟩ := y
  have hh : HM s' N V m D' := ⟨x0, fun _ => x1, x2, hs'⟩
  refine Z_go kX10_draw okX10 [] 80 ?_
  refine ⟨rfl, (m_beads (a := aU a 1 s') (f := fU f 15 sd') hh n2 (fun z => by omega)).use ?_⟩
  exact ⟨rfl, aU a 1 s', fU f 15 sd', rfl, ⟨hh, x3, fun i (hi2 : i < 0) => absurd hi2 (by omega)⟩, hi, ⟨htp, h5⟩, ⟨h12, hsl⟩, hsh, h9, h19⟩
end MOD
