section CMP
variable {g : GG} {S : Sg} {C : Ca}
theorem lnS_nx {tp : Nat → Int32} {n R W st nx tk : Nat} {fro : Bool} {D : Nat → Nat → Int32} (hnx : nx ≤ n) : (lnS tp n st nx tk R W fro D).2.2.1 ≤ n := by
  obtain ⟨t1, t2, t3, t4⟩ := tok_le (tp := tp) hnx
  obtain ⟨u1, u2, u3, u4⟩ := tok_le (tp := tp) t3
  unfold lnS rwS frS
  split
  · exact hnx
  · split
    · split
      · exact hnx
      · split
        · exact t3
        · split
          · exact t3
          · exact u3
    · split
      · split
        · exact hnx
        · exact t3
      · exact hnx
theorem prs_le {tp : Nat → Int32} {n : Nat} : ∀ (k : Nat) (x : RX), x.2.1 ≤ n → (prs tp n k x).1 ≤ 4 := by
  intro k
  induction k with
  | zero => intro x _; exact Nat.zero_le _
  | succ k ih =>
    intro x hx
    obtain ⟨t1, t2, t3, t4⟩ := tok_le (tp := tp) hx
    have hl := lnS_le (tp := tp) (n := n) (R := x.2.2.1) (W := x.2.2.2.1) (fro := x.2.2.2.2.1) (D := x.2.2.2.2.2) (st := (tok tp n x.2.1).1) (tk := (tok tp n x.2.1).2.2) t3
    simp only [prs]
    split
    · exact Nat.zero_le _
    · split
      · exact ih _ (lnS_nx t3)
      · exact hl.1
theorem txt_le {tp : Nat → Int32} {n : Nat} (hn : n ≤ 300) : (txt tp n).1 ≤ 4 := prs_le _ _ (by show 0 ≤ n; omega)
theorem x_text (hS : okSg S) (hC : RC S C) : Ev g mX9_text [vr 0] (cW S C) (CV (op_text S)) := by
  obtain ⟨⟨R, W, m, D⟩, ⟨tn, T⟩, ⟨n, TP⟩, ⟨sn, w⟩, im, sh, tf, rf⟩ := S
  obtain ⟨b, t, tp, ⟨st, nx, tk, fro, dR, dW, dm, db⟩, te, ⟨sl, ln⟩, sd, ia, sa⟩ := C
  obtain ⟨⟨p1, p2, p3, p4, p5⟩, ⟨q1, q2⟩, ⟨o3, o4⟩, ⟨o5, o5b⟩, o6, o7, o8, o9⟩ := id hS
  obtain ⟨h1, h2, h3, h4, h5, h6⟩ := id hC
  have p1 : R ≤ 12 := p1
  have p2 : W ≤ 16 := p2
  have p3 : m ≤ 1 := p3
  have p4 : R = 0 → W = 0 := p4
  have p5 : R ≠ 0 → 1 ≤ W := p5
  have q1 : tn ≤ R * W := q1
  have q2 : ∀ j, j < tn → isCol (T j) = true := q2
  have hRW := RW_le p1 p2
  have h3 : tp = TP := h3
  subst h3
  unfold op_text
  dsimp only
  have hcl : ∀ k : Nat, k ≤ 300 → (txt tp n).1 = k → k ≤ 4 → True := fun _ _ _ _ => trivial
  have e1 : nI 0 + nI 1 = nI 1 := by decide +kernel
  refine Ev_of omX9_text.1 (Nat.le_of_ble_eq_true rfl) ?_
  refine Z_go kX9_text okX9 [12] 80 ?_
  refine ⟨rfl, Ev.fr [7, 8, 9, 5, 6] (c_readAll (st := st) (nx := nx) (tk := tk) (fro := fro) (R := dR) (W := dW) (mm := dm) (b := db) (tp := tp) o3) rfl (by decide) rfl (fun r A' _ hq => ?_)⟩
  obtain ⟨tk', b', rfl, rfl, hx⟩ := hq
  generalize ht : txt tp n = tx at hx ⊢
  obtain ⟨f, s', n', R', W', fr', D'⟩ := tx
  obtain ⟨x1, x2, x3, x4, x5, x6⟩ := hx
  dsimp only at x1 x2 x3 x4 x5 x6 ⊢
  have hf4 : f ≤ 4 := by
    have := txt_le (tp := tp) (n := n) o3
    rw [ht] at this
    exact this
  by_cases hf : f = 0
  · subst hf
    rw [if_pos rfl]
    have fin1 : Z g mX9_text 36 (CV (nI R', (R', W', fl fr', D'), (0, T), (0, tp), (sn, w), (fun k => (false, (im k).2)), sh, 0, rf)) 65 [some (vr 0), some (vi (nI 1))] [] (cW ((R', W', fl fr', D'), (0, T), (0, tp), (sn, w), (fun k => if k = 0 then (false, (im k).2) else im k), sh, 0, rf) (va_cpy b' b 0 0 192, t, tp, (s', n', tk', fr', R', W', fl fr', b'), te, (sl, ln), sd, ia, sa)) := by
      refine Z_go kX9_text okX9 [65] 80 ?_
      refine ⟨fun z => absurd (show nI 2 ≤ nI 1 from z) (by decide), fun _ => ⟨Or.inl rfl, vin (by omega) (by omega), ?_⟩⟩
      rw [show (nI 1).toNatClampNeg = 1 from rfl]
      refine ⟨Or.inl rfl, ?_⟩
      refine Z_go kX9_text okX9 [] 80 ?_
      refine ⟨fun _ => ?_, fun z => absurd (show nI 2 ≤ nI 1 + nI 1 by decide) z⟩
      exact ⟨rfl, (va_cpy b' b 0 0 192, t, tp, (s', n', tk', fr', R', W', fl fr', b'), te, (sl, ln), sd, ia, sa), rfl, ⟨cpyH x2 x3 x1, fun i (hi : i < 0) => absurd hi (by omega), rfl, h4, h5, h6⟩, ⟨x2, x3, fl_le _, x5, x6⟩, ⟨Nat.zero_le _, fun i (hi : i < 0) => absurd hi (by omega)⟩, ⟨by show 0 ≤ 300; omega, fun i (hi : i < 0) => absurd hi (by omega)⟩, ⟨o5, o5b⟩, o6, o7, by show 0 ≤ 4; omega, o9⟩
    have fin : Z g mX9_text 36 (CV (nI R', (R', W', fl fr', D'), (0, T), (0, tp), (sn, w), (fun k => (false, (im k).2)), sh, 0, rf)) 65 [some (vr 0), some (vi (nI 0))] [] (cW ((R', W', fl fr', D'), (0, T), (0, tp), (sn, w), im, sh, 0, rf) (va_cpy b' b 0 0 192, t, tp, (s', n', tk', fr', R', W', fl fr', b'), te, (sl, ln), sd, ia, sa)) := by
      refine Z_go kX9_text okX9 [65] 80 ?_
      refine ⟨fun z => absurd (show nI 2 ≤ nI 0 from z) (by decide), fun _ => ⟨Or.inl rfl, vin (by omega) (by omega), ?_⟩⟩
      rw [show (nI 0).toNatClampNeg = 0 from rfl]
      refine ⟨Or.inl rfl, ?_⟩
      rw [← e1] at fin1
      exact fin1
    have fin2 : Z g mX9_text 36 (CV (nI R', (R', W', fl fr', D'), (0, T), (0, tp), (sn, w), (fun k => (false, (im k).2)), sh, 0, rf)) 41 [some (vr 0), none] [] (cW ((R, W, m, D), (tn, T), (0, tp), (sn, w), im, sh, 0, rf) (b, t, tp, (s', n', tk', fr', R', W', fl fr', b'), te, (sl, ln), sd, ia, sa)) := by
      refine Z_go kX9_text okX9 [65] 80 ?_
      refine ⟨rfl, (c_become (R := R) (W := W) (m := m) (b := b) (R' := R') (W' := W') (m' := fl fr') (b' := b')).fr [1, 2, 8, 9] rfl (by decide) rfl ?_⟩
      exact fin
    refine Z_go kX9_text okX9 [41] 80 ?_
    refine ⟨fun _ => fin2, fun z => absurd rfl z⟩
  · rw [if_neg hf]
    refine Z_go kX9_text okX9 [41] 80 ?_
    refine ⟨fun (z : nI f = nI 0) => ?_, fun _ => ?_⟩
    · rw [nI_eq (by omega) (by omega)] at z; exact absurd z hf
    · exact ⟨rfl, (b, t, tp, (s', n', tk', fr', R', W', fl fr', b'), te, (sl, ln), sd, ia, sa), rfl, ⟨h1, h2, rfl, h4, h5, h6⟩, ⟨p1, p2, p3, p4, p5⟩, ⟨q1, q2⟩, ⟨by show 0 ≤ 300; omega, fun i (hi : i < 0) => absurd hi (by omega)⟩, ⟨o5, o5b⟩, o6, o7, hf4, o9⟩
/-! draw -/
theorem drB_hd {W kc pt r : Nat} : ∀ (k c : Nat) (x : Int32 × (Nat → Nat → Int32)) (q d : Nat), q ≠ r → (drB W kc pt r k c x).2 q d = x.2 q d := by
  intro k
  induction k with
  | zero => intro c x q d _; rfl
  | succ k ih =>
    intro c x q d hq
    simp only [drB]
    rw [ih _ _ q d hq]
    split
    · show setD x.2 r c _ q d = _
      unfold setD; rw [if_neg (fun z => hq z.1)]
    · show setD x.2 r c _ q d = _
      unfold setD; rw [if_neg (fun z => hq z.1)]
theorem drawB_loop {R W m tn n sn tf rf r kc pt : Nat} {D0 : Nat → Nat → Int32} {T TP t tp sl ln : Nat → Int32} {w : Nat → Nat} {im : Nat → Bool × Pic × Thr} {sh : Nat → Int32 × Nat × (Nat → Int32)} {rd : Nat × Nat × Nat × Bool × Nat × Nat × Nat × (Nat → Int32)} {te : Nat × (Nat → Int32)} {ia : Nat → (Nat → Int32) × (Nat → Int32)} {sa : Nat → Nat → Int32} {wy : Int32} {Q : Option AV → AH → Prop} (hr : r < 12) (hW : W ≤ 16) (hk1 : 1 ≤ kc) (hk : kc ≤ 6) (hp : 1 ≤ pt) (hp2 : pt ≤ 16) : ∀ (q c : Nat) (b : Nat → Int32) (sd : Int32) (D : Nat → Nat → Int32), c + q = W → Hd b D r W → (∀ d, d < c → b (r * 16 + d) = D r d) →
    (∀ b', Hd b' (drB W kc pt r q c (sd, D)).2 (r + 1) W → Q none (cW ((R, W, m, D0), (tn, T), (n, TP), (sn, w), im, sh, tf, rf) (b', t, tp, rd, te, (sl, ln), (drB W kc pt r q c (sd, D)).1, ia, sa))) →
    Z g mX9_drawRow 36 Q 70 [some (vr 0), some (vi (nI r)), some (vi (nI kc)), some (vi wy), some (vi (nI pt)), some (vi (nI c))] [] (cW ((R, W, m, D0), (tn, T), (n, TP), (sn, w), im, sh, tf, rf) (b, t, tp, rd, te, (sl, ln), sd, ia, sa)) := by
  obtain ⟨st, nx, tk, fro, dR, dW, dm, db⟩ := rd
  intro q
  induction q with
  | zero =>
    intro c b sd D h1 h2 h3 hQ
    refine Z_go kX9_drawRow okX9 [70] 80 ?_
    refine ⟨fun _ => ?_, fun (z : ¬ nI W ≤ nI c) => absurd (nI_le (by omega) (by omega)) z⟩
    refine hQ b ?_
    intro q d hq hd
    by_cases e : q = r
    · subst e; exact h3 d (by omega)
    · exact h2 q d (by omega) hd
  | succ q ih =>
    intro c b sd D h1 h2 h3 hQ
    simp only [drB] at hQ
    refine Z_go kX9_drawRow okX9 [70] 80 ?_
    refine ⟨fun (z : nI W ≤ nI c) => ?_, fun _ => ?_⟩
    · rw [nI_leI (by omega) (by omega)] at z; omega
    · refine ⟨fun (z : nI pt ≤ nI c) => ?_, fun (z : ¬ nI pt ≤ nI c) => ?_⟩
      · rw [nI_leI (by omega) (by omega)] at z
        rw [if_neg (by omega)] at hQ
        have e : nI c - nI pt = nI (c - pt) := pk_sub z
        have hc := c_colourB (g := g) (R := R) (W := W) (m := m) (b := b) (r := r) (c := c - pt) hr (by omega)
        rw [← e] at hc
        refine ⟨rfl, hc.fr [1, 2] rfl (by decide) rfl ?_⟩
        refine ⟨rfl, (c_put (b (r * 16 + (c - pt))) hr (by omega)).fr [1, 2] rfl (by decide) rfl ?_⟩
        have k := ih (c + 1) (upd b (r * 16 + c) (b (r * 16 + (c - pt)))) sd (setD D r c (D r (c - pt))) (by omega) (fun q d hq hd => by
          unfold setD
          rw [if_neg (by omega), updN (by omega)]; exact h2 q d hq hd) (fun d hd => by
          unfold setD
          by_cases e : d = c
          · subst e; rw [updS, if_pos ⟨rfl, rfl⟩]; exact h3 _ (by omega)
          · rw [updN (by omega), if_neg (fun z => e z.2)]; exact h3 d (by omega)) hQ
        rw [nI_a1 c] at k
        exact k
      · rw [nI_leI (by omega) (by omega)] at z
        rw [if_pos (by omega)] at hQ
        refine ⟨rfl, (c_below (s := sd) (n := kc) (by omega) hk1).fr [15] rfl (by decide) rfl ?_⟩
        refine ⟨rfl, (c_put (nI (gotN (nxS sd) % kc)) hr (by omega)).fr [1, 2] rfl (by decide) rfl ?_⟩
        have k := ih (c + 1) (upd b (r * 16 + c) (nI (gotN (nxS sd) % kc))) (nxS sd) (setD D r c (nI (gotN (nxS sd) % kc))) (by omega) (fun q d hq hd => by
          unfold setD
          rw [if_neg (by omega), updN (by omega)]; exact h2 q d hq hd) (fun d hd => by
          unfold setD
          by_cases e : d = c
          · subst e; rw [updS, if_pos ⟨rfl, rfl⟩]
          · rw [updN (by omega), if_neg (fun z => e z.2)]; exact h3 d (by omega)) hQ
        rw [nI_a1 c] at k
        exact k
theorem x_drawRow {R W m tn n sn tf rf r kc : Nat} {D0 D : Nat → Nat → Int32} {T TP b t tp sl ln : Nat → Int32} {w : Nat → Nat} {im : Nat → Bool × Pic × Thr} {sh : Nat → Int32 × Nat × (Nat → Int32)} {rd : Nat × Nat × Nat × Bool × Nat × Nat × Nat × (Nat → Int32)} {te : Nat × (Nat → Int32)} {ia : Nat → (Nat → Int32) × (Nat → Int32)} {sa : Nat → Nat → Int32} {sd : Int32} {Q : Option AV → AH → Prop} (hr : r < 12) (hW : W ≤ 16) (hW1 : 1 ≤ W) (hk1 : 1 ≤ kc) (hk : kc ≤ 6) (hb : Hd b D r W)
    (hQ : ∀ b', Hd b' (drR W kc r (sd, D)).2 (r + 1) W → Q none (cW ((R, W, m, D0), (tn, T), (n, TP), (sn, w), im, sh, tf, rf) (b', t, tp, rd, te, (sl, ln), (drR W kc r (sd, D)).1, ia, sa))) :
    Ev g mX9_drawRow [vr 0, vi (nI r), vi (nI kc)] (cW ((R, W, m, D0), (tn, T), (n, TP), (sn, w), im, sh, tf, rf) (b, t, tp, rd, te, (sl, ln), sd, ia, sa)) Q := by
  obtain ⟨st, nx, tk, fro, dR, dW, dm, db⟩ := rd
  have hg4 : gotN (nxS sd) % 4 < 4 := Nat.mod_lt _ (by decide)
  unfold drR at hQ
  dsimp only at hQ
  have fin : ∀ (wy : Int32) (pt : Nat) (sd' : Int32), 1 ≤ pt → pt ≤ 16 → (∀ b', Hd b' (drB W kc pt r W 0 (sd', D)).2 (r + 1) W → Q none (cW ((R, W, m, D0), (tn, T), (n, TP), (sn, w), im, sh, tf, rf) (b', t, tp, (st, nx, tk, fro, dR, dW, dm, db), te, (sl, ln), (drB W kc pt r W 0 (sd', D)).1, ia, sa))) → Z g mX9_drawRow 36 Q 65 [some (vr 0), some (vi (nI r)), some (vi (nI kc)), some (vi wy), none, none] [vi (nI pt)] (cW ((R, W, m, D0), (tn, T), (n, TP), (sn, w), im, sh, tf, rf) (b, t, tp, (st, nx, tk, fro, dR, dW, dm, db), te, (sl, ln), sd', ia, sa)) := by
    intro wy pt sd' hp1 hp2 hq
    refine Z_go kX9_drawRow okX9 [70] 80 ?_
    exact drawB_loop hr hW hk1 hk hp1 hp2 W 0 b sd' D (by omega) hb (fun d hd => by omega) hq
  have oth : ¬ (gotN (nxS sd) % 4 = 0 ∧ 0 < r) → Z g mX9_drawRow 36 Q 34 [some (vr 0), some (vi (nI r)), some (vi (nI kc)), some (vi (nI (gotN (nxS sd) % 4))), none, none] [] (cW ((R, W, m, D0), (tn, T), (n, TP), (sn, w), im, sh, tf, rf) (b, t, tp, (st, nx, tk, fro, dR, dW, dm, db), te, (sl, ln), nxS sd, ia, sa)) := by
    intro h0
    rw [if_neg h0] at hQ
    refine Z_go kX9_drawRow okX9 [65] 80 ?_
    refine ⟨fun (z : ¬ nI (gotN (nxS sd) % 4) = nI 1) => ?_, fun (z : ¬ ¬ nI (gotN (nxS sd) % 4) = nI 1) => ?_⟩
    · rw [nI_eq (by omega) (by omega)] at z
      rw [if_neg z] at hQ
      exact fin _ W _ hW1 hW hQ
    · rw [nI_eq (by omega) (by omega)] at z
      rw [if_pos (Classical.not_not.mp z)] at hQ
      have hlt : gotN (nxS (nxS sd)) % W < W := Nat.mod_lt _ (by omega)
      refine ⟨rfl, (c_below (s := nxS sd) (n := W) (by omega) hW1).fr [15] rfl (by decide) rfl ?_⟩
      have k := fin (nI (gotN (nxS sd) % 4)) (gotN (nxS (nxS sd)) % W + 1) (nxS (nxS sd)) (by omega) (by omega) hQ
      rw [← nI_add] at k
      exact k
  refine Ev_of omX9_drawRow.1 (Nat.le_of_ble_eq_true rfl) ?_
  refine Z_go kX9_drawRow okX9 [34] 80 ?_
  refine ⟨rfl, (c_below (s := sd) (n := 4) (by omega) (by omega)).fr [15] rfl (by decide) rfl ?_⟩
  refine ⟨fun (z : ¬ nI (gotN (nxS sd) % 4) = nI 0) => ?_, fun (z : ¬ ¬ nI (gotN (nxS sd) % 4) = nI 0) => ⟨fun (z2 : nI r ≤ nI 0) => ?_, fun (z2 : ¬ nI r ≤ nI 0) => ?_⟩⟩
  · rw [nI_eq (by omega) (by omega)] at z
    exact oth (fun y => z y.1)
  · rw [nI_leI (by omega) (by omega)] at z2
    exact oth (fun y => by omega)
  · rw [nI_eq (by omega) (by omega)] at z
    rw [nI_leI (by omega) (by omega)] at z2
    rw [if_pos ⟨Classical.not_not.mp z, by omega⟩] at hQ
    have hlt : gotN (nxS (nxS sd)) % r < r := Nat.mod_lt _ (by omega)
    refine ⟨rfl, (c_below (s := nxS sd) (n := r) (by omega) (by omega)).fr [15] rfl (by decide) rfl ?_⟩
    refine ⟨rfl, (c_copyRow (R := R) (W := W) (m := m) (b := b) (f := gotN (nxS (nxS sd)) % r) (t := r) (by omega) hr).fr [1, 2] rfl (by decide) rfl ?_⟩
    refine hQ _ ?_
    intro q d hq hd
    dsimp only
    rw [cpy_at (by omega)]
    by_cases e : q = r
    · rw [if_pos e, if_pos e]; exact hb _ d hlt hd
    · rw [if_neg e, if_neg e]; exact hb q d (by omega) hd
end CMP
