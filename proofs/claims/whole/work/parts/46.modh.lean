/-- behind a line: the next token has been read, or a fault is there -/
def PLn (tp : Nat → Int32) (n : Nat) (a : Nat → Nat → Int32) (f : Nat → Int32) (y : Nat × RX) : Option AV → AH → Prop := fun v A => v = none ∧ ∃ d p b s F w, A = mW (aU a 2 d) (tU f p b s (nI F) w) ∧
  ((y.1 = 0 ∧ p = nI (tok tp n y.2.2.1).2.1 ∧ b = nI (tok tp n y.2.2.1).1 ∧ s = nI (so (tok tp n y.2.2.1).2.2) ∧ F = (if (tok tp n y.2.2.1).2.2 = 0 then 1 else 0) ∧ ((tok tp n y.2.2.1).2.2 = 0 → w = nI (tok tp n y.2.2.1).1) ∧ HD d y.2.2.2.1 y.2.2.2.2.1 y.2.2.2.2.2.1 y.2.2.2.2.2.2) ∨ (1 ≤ F ∧ F ≤ 4 ∧ y.1 = F ∧ w = nI y.2.1))
section MOD
variable {g : GG} {a : Nat → Nat → Int32} {f : Nat → Int32} {R W n st nx : Nat} {fro : Bool} {D : Nat → Nat → Int32} {tp : Nat → Int32} {p b s q w : Int32}
theorem PLn_f {d : Nat → Int32} {y : Nat × RX} {F : Nat} (h1 : 1 ≤ F) (h4 : F ≤ 4) (hy : y.1 = F) : PLn tp n a f y none (mW (aU a 2 d) (tU f p b s (nI F) (nI y.2.1))) := ⟨rfl, d, p, b, s, F, _, rfl, Or.inr ⟨h1, h4, hy, rfl⟩⟩
/-- a fault is there: the line ends -/
theorem line_f {v : Option AV} {F : Nat} (h1 : 1 ≤ F) (h4 : F ≤ 4) {Q : Option AV → AH → Prop} (hQ : Q none (mW a (tU f p b s (nI F) w))) : Z g mX10_readLine 11 Q 118 [some (vr 0), v] [] (mW a (tU f p b s (nI F) w)) ∧ Z g mX10_readLine 11 Q 93 [some (vr 0), v] [] (mW a (tU f p b s (nI F) w)) ∧ Z g mX10_readLine 11 Q 38 [some (vr 0), v] [] (mW a (tU f p b s (nI F) w)) := by
  have hn : ¬ nI F = 0 := nI_ne0 (by omega) (by omega)
  have r8 : Z g mX10_readLine 11 Q 118 [some (vr 0), v] [] (mW a (tU f p b s (nI F) w)) := by
    refine Z_go kX10_readLine okX10 [] 80 ?_
    exact ⟨rfl, (m_reads_f h1 h4).use hQ⟩
  have r3 : Z g mX10_readLine 11 Q 93 [some (vr 0), v] [] (mW a (tU f p b s (nI F) w)) := by
    refine Z_go kX10_readLine okX10 [118] 80 ?_
    exact ⟨fun _ => r8, fun (z : ¬ ¬ nI F = 0) => absurd hn z⟩
  refine ⟨r8, r3, ?_⟩
  refine Z_go kX10_readLine okX10 [93] 80 ?_
  exact ⟨fun _ => ⟨fun _ => r3, fun (z : ¬ ¬ nI F = 0) => absurd hn z⟩, fun (z : ¬ ¬ nI F = 0) => absurd hn z⟩
theorem line_tail (h5 : f 5 = nI n) (htp : a 5 = tp) (hn : n ≤ 300) (hpos : ∀ j, j < n → ¬ tp j < 0) {y : Nat × RX} (hy : y.2.2.1 ≤ n) {v : Option AV} {v0 : Option AV} {A : AH} (h : PRw a f y v0 A) : Z g mX10_readLine 11 (PLn tp n a f y) 93 [some (vr 0), v] [] A := by
  obtain ⟨-, d, p, b, s, F, w, rfl, h | h⟩ := h
  · obtain ⟨rfl, tk, k1, k3, rfl, hs, rfl, rfl, hd⟩ := h
    by_cases h2 : tk = 2
    · subst h2
      have hok := m_req_ok (g := g) (a := aU a 2 d) (f := tU f (nI y.2.2.1) (nI y.2.1) (nI (so 2)) (nI 0) w) (c := nI 2)
      have hr := m_reads (g := g) (a := aU a 2 d) (f := f) (b := nI y.2.1) (s := nI (so 2)) (w := w) h5 htp hn hpos hy
      have fin : PLn tp n a f y none (mW (aU a 2 d) (tU f (nI (tok tp n y.2.2.1).2.1) (nI (tok tp n y.2.2.1).1) (nI (so (tok tp n y.2.2.1).2.2)) (nI (if (tok tp n y.2.2.1).2.2 = 0 then 1 else 0)) (if (tok tp n y.2.2.1).2.2 = 0 then nI (tok tp n y.2.2.1).1 else w))) :=
        ⟨rfl, d, _, _, _, _, _, rfl, Or.inl ⟨hs, rfl, rfl, rfl, rfl, fun z => if_pos z, hd⟩⟩
      refine Z_go kX10_readLine okX10 [] 80 ?_
      refine ⟨fun z => absurd rfl z, fun _ => ?_⟩
      refine ⟨fun z => absurd rfl z, fun _ => ?_⟩
      refine ⟨rfl, hok.use ?_⟩
      exact ⟨rfl, hr.use fin⟩
    · have hsg : sgF tk = 2 := by unfold sgF unf; rw [if_neg h2, if_neg (by omega)]
      have hso : ¬ so tk = 2 := by unfold so; split; decide; rw [if_pos (by omega)]; decide
      have hso3 : so tk ≤ 2 := by unfold so; split; omega; rw [if_pos (by omega)]; omega
      have hq := m_req_no (g := g) (a := aU a 2 d) (f := f) (p := nI y.2.2.1) (b := nI y.2.1) (s := nI (so tk)) (w := w) (c := nI 2)
      have q2 := (line_f (g := g) (a := aU a 2 d) (f := f) (p := nI y.2.2.1) (b := nI y.2.1) (s := nI (so tk)) (w := nI y.2.1) (v := v) (F := 2) (Q := PLn tp n a f y) (by omega) (by omega) (PLn_f (by omega) (by omega) (by rw [hs, hsg]))).1
      refine Z_go kX10_readLine okX10 [118] 80 ?_
      refine ⟨fun z => absurd rfl z, fun _ => ?_⟩
      refine ⟨fun _ => ?_, fun (z : ¬ ¬ nI (so tk) = nI 2) => ?_⟩
      · exact ⟨rfl, hq.use q2⟩
      · rw [nI_eq (by omega) (by omega)] at z
        exact absurd hso z
  · obtain ⟨h1, h4, hyF, rfl⟩ := h
    exact (line_f (g := g) h1 h4 (PLn_f h1 h4 hyF)).2.1
theorem m_readLine (h5 : f 5 = nI n) (htp : a 5 = tp) (hn : n ≤ 300) (hpos : ∀ j, j < n → ¬ tp j < 0) {d : Nat → Int32} {tk : Nat} (hd : HD d R W fro D) (hR : R ≤ 12) (hW : W ≤ 16) (hst : st ≤ nx) (hnx : nx ≤ n) (htk : tk = 1 ∨ tk = 2) :
    Ev g mX10_readLine [vr 0] (mW (aU a 2 d) (tU f (nI nx) (nI st) (nI (so tk)) (nI 0) w)) (PLn tp n a f (lnS tp n st nx tk R W fro D)) := by
  have hle := lnS_nx (tp := tp) (R := R) (W := W) (D := D) (fro := fro) (st := st) (tk := tk) hnx
  have hso : so tk = tk := by rcases htk with rfl | rfl <;> rfl
  rw [hso]
  have i0 := m_is (g := g) (a := aU a 2 d) (f := f) (st := st) (nx := nx) (q := nI 0) (w := w) (i := 0) (k := tk) (by omega) h5 htp hn hst hnx (by omega)
  have i1 := m_is (g := g) (a := aU a 2 d) (f := f) (st := st) (nx := nx) (q := nI 0) (w := w) (i := 1) (k := tk) (by omega) h5 htp hn hst hnx (by omega)
  have hok := m_req_ok (g := g) (a := aU a 2 d) (f := tU f (nI nx) (nI st) (nI tk) (nI 0) w) (c := nI 2)
  have bad : ∀ (y : Nat × RX) (v : Option AV), y.1 = 2 → y.2.1 = st → Z g mX10_readLine 11 (PLn tp n a f y) 38 [some (vr 0), v] [] (mW (aU a 2 d) (tU f (nI nx) (nI st) (nI tk) (nI 2) (nI st))) := by
    intro y v h1 h2
    have := (line_f (g := g) (a := aU a 2 d) (f := f) (p := nI nx) (b := nI st) (s := nI tk) (w := nI y.2.1) (v := v) (F := 2) (Q := PLn tp n a f y) (by omega) (by omega) (PLn_f (by omega) (by omega) h1)).2.2
    rw [h2] at this
    exact this
  have hqn := m_req_no (g := g) (a := aU a 2 d) (f := f) (p := nI nx) (b := nI st) (s := nI tk) (w := w) (c := nI 2)
  unfold lnS at hle ⊢
  rcases htk with rfl | rfl
  · rw [if_neg (fun z => z rfl)] at hle ⊢
    cases n0 : isNm tp 0 st nx with
    | true =>
      rw [n0] at i0 hle
      rw [if_pos rfl] at hle ⊢
      have hrow := m_readRow (g := g) (a := a) (f := f) (st := st) (nx := nx) (w := w) h5 htp hn hpos hd hR hW hnx
      refine Ev_of omX10_readLine.1 (Nat.le_of_ble_eq_true rfl) ?_
      refine Z_go kX10_readLine okX10 [93] 80 ?_
      refine ⟨rfl, i0.use ?_⟩
      refine ⟨fun _ => ?_, fun (z : ¬ ¬ nI 1 = 0) => absurd z1 z⟩
      refine ⟨rfl, hok.use ?_⟩
      refine ⟨fun z => absurd rfl z, fun _ => ⟨fun z => (z1 z).elim, fun _ => ?_⟩⟩
      refine ⟨rfl, hrow.mono (fun v A _ h => ?_)⟩
      have h' := h
      obtain ⟨rfl, -⟩ := h'
      exact line_tail h5 htp hn hpos hle h
    | false =>
      rw [n0] at i0 hle
      rw [if_neg (by decide)] at hle ⊢
      cases n1 : isNm tp 1 st nx with
      | true =>
        rw [n1] at i1 hle
        rw [if_pos rfl] at hle ⊢
        unfold frS at hle ⊢
        cases fro with
        | true =>
          rw [if_pos rfl] at hle ⊢
          have hq4 := m_req_no (g := g) (a := aU a 2 d) (f := f) (p := nI nx) (b := nI st) (s := nI 1) (w := w) (c := nI 4)
          have hrf := m_reads_f (g := g) (a := aU a 2 (upd d 2 (nI 1))) (f := f) (p := nI nx) (b := nI st) (s := nI 1) (w := nI st) (k := 4) (by omega) (by omega)
          have q4 := fun v => (line_f (g := g) (a := aU a 2 (upd d 2 (nI 1))) (f := f) (p := nI nx) (b := nI st) (s := nI 1) (w := nI st) (v := v) (F := 4) (Q := PLn tp n a f (4, st, nx, R, W, true, D)) (by omega) (by omega) (PLn_f (y := (4, st, nx, R, W, true, D)) (by omega) (by omega) rfl)).2.1
          have hq4v := q4 (some (vi (nI 0)))
          refine Ev_of omX10_readLine.1 (Nat.le_of_ble_eq_true rfl) ?_
          refine Z_go kX10_readLine okX10 [93] 80 ?_
          refine ⟨rfl, i0.use ?_⟩
          refine ⟨fun z => absurd rfl z, fun _ => ?_⟩
          refine ⟨rfl, i1.use ?_⟩
          refine ⟨fun z => (z1 z).elim, fun _ => ?_⟩
          refine ⟨rfl, hok.use ?_⟩
          refine ⟨fun z => absurd rfl z, fun _ => ⟨fun _ => ?_, fun z => absurd rfl z⟩⟩
          refine ⟨fun z => absurd rfl z, fun _ => ?_⟩
          refine ⟨vin (by omega) (by omega), ?_⟩
          rw [show (nI 2).toNatClampNeg = 2 from rfl, show aU a 2 d 2 2 = nI 1 from hd.1.2.2.1]
          refine ⟨fun _ => ?_, fun (z : ¬ ¬ nI 1 = 0) => absurd z1 z⟩
          refine ⟨rfl, hq4.use ?_⟩
          refine ⟨vin (by omega) (by omega), ?_⟩
          rw [show (nI 2).toNatClampNeg = 2 from rfl]
          refine ⟨rfl, hrf.use ?_⟩
          exact hq4v
        | false =>
          rw [if_neg (by decide)] at hle ⊢
          have hok4 := m_req_ok (g := g) (a := aU a 2 d) (f := tU f (nI nx) (nI st) (nI 1) (nI 0) w) (c := nI 4)
          have hd2 : HD (upd d 2 (nI 1)) R W true D := ⟨⟨(updN (by omega)).trans hd.1.1, fun z => (updN (by omega)).trans (hd.1.2.1 z), updS, fun r c hr hc => (updN (by omega)).trans (hd.1.2.2.2 r c hr hc)⟩, (updN (by omega)).trans hd.2⟩
          have hsg := sign_end (g := g) (a := a) (f := f) (b := nI st) (s := nI 1) (w := w) (x := (0, 0, 0, 0, false, D)) h5 htp hn hpos hnx hd2
          refine Ev_of omX10_readLine.1 (Nat.le_of_ble_eq_true rfl) ?_
          refine Z_go kX10_readLine okX10 [93] 80 ?_
          refine ⟨rfl, i0.use ?_⟩
          refine ⟨fun z => absurd rfl z, fun _ => ?_⟩
          refine ⟨rfl, i1.use ?_⟩
          refine ⟨fun z => (z1 z).elim, fun _ => ?_⟩
          refine ⟨rfl, hok.use ?_⟩
          refine ⟨fun z => absurd rfl z, fun _ => ⟨fun _ => ?_, fun z => absurd rfl z⟩⟩
          refine ⟨fun z => absurd rfl z, fun _ => ?_⟩
          refine ⟨vin (by omega) (by omega), ?_⟩
          rw [show (nI 2).toNatClampNeg = 2 from rfl, show aU a 2 d 2 2 = nI 0 from hd.1.2.2.1]
          refine ⟨fun z => absurd rfl z, fun _ => ?_⟩
          refine ⟨rfl, hok4.use ?_⟩
          refine ⟨vin (by omega) (by omega), ?_⟩
          rw [show (nI 2).toNatClampNeg = 2 from rfl]
          refine ⟨rfl, hsg.mono (fun v A _ h => ?_)⟩
          have h' := h
          obtain ⟨rfl, -⟩ := h'
          exact line_tail h5 htp hn hpos hle h
      | false =>
        rw [n1] at i1 hle
        rw [if_neg (by decide)] at hle ⊢
        have bb := bad (2, st, nx, R, W, fro, D) (some (vi (nI 0))) rfl rfl
        refine Ev_of omX10_readLine.1 (Nat.le_of_ble_eq_true rfl) ?_
        refine Z_go kX10_readLine okX10 [38] 80 ?_
        refine ⟨rfl, i0.use ?_⟩
        refine ⟨fun z => absurd rfl z, fun _ => ?_⟩
        refine ⟨rfl, i1.use ?_⟩
        refine ⟨fun _ => ?_, fun z => absurd rfl z⟩
        exact ⟨rfl, hqn.use bb⟩
  · rw [if_pos (by decide)] at hle ⊢
    have bb := bad (unf 2, st, nx, R, W, fro, D) (some (vi (nI 0))) rfl rfl
    refine Ev_of omX10_readLine.1 (Nat.le_of_ble_eq_true rfl) ?_
    refine Z_go kX10_readLine okX10 [38] 80 ?_
    refine ⟨rfl, i0.use ?_⟩
    refine ⟨fun z => absurd rfl z, fun _ => ?_⟩
    refine ⟨rfl, i1.use ?_⟩
    refine ⟨fun _ => ?_, fun z => absurd rfl z⟩
    exact ⟨rfl, hqn.use bb⟩
theorem lnS_bd {tp : Nat → Int32} {n st nx tk R W : Nat} {fro : Bool} {D : Nat → Nat → Int32} (hR : R ≤ 12) (hW : W ≤ 16) : (lnS tp n st nx tk R W fro D).2.2.2.1 ≤ 12 ∧ (lnS tp n st nx tk R W fro D).2.2.2.2.1 ≤ 16 := by
  unfold lnS rwS frS
  split
  · exact ⟨hR, hW⟩
  · split
    · split
      · exact ⟨hR, hW⟩
      · split
        · exact ⟨hR, hW⟩
        · split
          · exact ⟨hR, hW⟩
          · rename_i h1 h2 h3
            have h3 : isBd tp R W (tok tp n nx).1 (tok tp n nx).2.1 = true := by
              cases h4 : isBd tp R W (tok tp n nx).1 (tok tp n nx).2.1 with
              | true => rfl
              | false => exact absurd h4 h3
            unfold isBd at h3
            rw [Bool.and_eq_true, Bool.and_eq_true] at h3
            exact ⟨by show R + 1 ≤ 12; omega, of_decide_eq_true h3.1.1⟩
    · split
      · split
        · exact ⟨hR, hW⟩
        · exact ⟨hR, hW⟩
      · exact ⟨hR, hW⟩
/-- the lines one by one: the token from x.2.1 on has been read -/
theorem lines_loop (h5 : f 5 = nI n) (htp : a 5 = tp) (hn : n ≤ 300) (hpos : ∀ j, j < n → ¬ tp j < 0) {v : Option AV} {Q : Option AV → AH → Prop} : ∀ (k : Nat) (x : RX) (d : Nat → Int32) (w : Int32), x.2.1 ≤ n → x.2.2.1 ≤ 12 → x.2.2.2.1 ≤ 16 → HD d x.2.2.1 x.2.2.2.1 x.2.2.2.2.1 x.2.2.2.2.2 → 301 ≤ x.2.1 + k → ((tok tp n x.2.1).2.2 = 0 → w = nI (tok tp n x.2.1).1) →
    (∀ d p b s w, ((prs tp n k x).1 = 0 → HD d (prs tp n k x).2.2.2.1 (prs tp n k x).2.2.2.2.1 (prs tp n k x).2.2.2.2.2.1 (prs tp n k x).2.2.2.2.2.2) → (¬ (prs tp n k x).1 = 0 → w = nI (prs tp n k x).2.1) → (prs tp n k x).1 ≤ 4 → Z g mX10_text 11 Q 57 [some (vr 0), v] [] (mW (aU a 2 d) (tU f p b s (nI (prs tp n k x).1) w))) →
    Z g mX10_text 11 Q 36 [some (vr 0), v] [] (mW (aU a 2 d) (tU f (nI (tok tp n x.2.1).2.1) (nI (tok tp n x.2.1).1) (nI (so (tok tp n x.2.1).2.2)) (nI (if (tok tp n x.2.1).2.2 = 0 then 1 else 0)) w)) := by
  intro k
  induction k with
  | zero => intro x d w h1 _ _ _ h2; omega
  | succ k ih =>
    intro x d w hx1 hx2 hx3 hd h1 hw hQ
    obtain ⟨st, nx, R, W, fro, D⟩ := x
    dsimp only at hx1 hx2 hx3 hd h1 hw hQ ⊢
    obtain ⟨t1, t2, t3, t4⟩ := tok_le (tp := tp) hx1
    have tl := tok_lt (tp := tp) hx1
    have hpl := prs_le (tp := tp) (n := n) (k + 1) (st, nx, R, W, fro, D) hx1
    simp only [prs] at hQ hpl
    generalize tok tp n nx = t at t1 t2 t3 t4 tl hw hQ hpl ⊢
    obtain ⟨st1, nx1, tk⟩ := t
    dsimp only at t1 t2 t3 t4 tl hw hQ hpl ⊢
    by_cases h3 : tk = 3
    · subst h3
      rw [if_pos rfl] at hQ
      have q := hQ d (nI nx1) (nI st1) (nI (so 3)) w (fun _ => hd) (fun z => absurd rfl z) (by show 0 ≤ 4; omega)
      rw [if_neg (by decide)]
      refine Z_go kX10_text okX10 [36, 57] 80 ?_
      refine ⟨fun z => absurd rfl z, fun _ => ?_⟩
      exact ⟨fun _ => q, fun z => absurd rfl z⟩
    · rw [if_neg h3] at hQ hpl
      by_cases h0 : tk = 0
      · subst h0
        have hw := hw rfl
        subst hw
        have el : lnS tp n st1 nx1 0 R W fro D = (1, st1, nx1, R, W, fro, D) := rfl
        rw [el, if_neg (show ¬ (1 : Nat) = 0 by decide)] at hQ
        have q := hQ d (nI nx1) (nI st1) (nI (so 0)) (nI st1) (fun z => absurd z (show ¬ (1 : Nat) = 0 by decide)) (fun _ => rfl) (by show 1 ≤ 4; omega)
        rw [if_pos rfl]
        refine Z_go kX10_text okX10 [36, 57] 80 ?_
        exact ⟨fun _ => q, fun (z : ¬ ¬ nI 1 = 0) => absurd z1 z⟩
      · rw [if_neg h0]
        have tl := tl h3
        have hln := m_readLine (g := g) (a := a) (f := f) (st := st1) (nx := nx1) (w := w) (tk := tk) h5 htp hn hpos hd hx2 hx3 t2 t3 (by omega)
        have hle := lnS_le (tp := tp) (R := R) (W := W) (D := D) (fro := fro) (st := st1) (tk := tk) t3
        have hnx := lnS_nx (tp := tp) (R := R) (W := W) (D := D) (fro := fro) (st := st1) (tk := tk) t3
        have hbd := lnS_bd (tp := tp) (n := n) (D := D) (fro := fro) (st := st1) (nx := nx1) (tk := tk) hx2 hx3
        generalize lnS tp n st1 nx1 tk R W fro D = L at hQ hpl hln hle hnx hbd
        have hso : so tk ≤ 2 ∧ so tk ≠ 0 := by unfold so; rw [if_neg h3]; split <;> omega
        have go : ∀ A, PLn tp n a f L none A → Z g mX10_text 11 Q 36 [some (vr 0), v] [] A := by
          intro A hA
          obtain ⟨-, d', p, b, s, F, w', rfl, h | h⟩ := hA
          · obtain ⟨hL0, rfl, rfl, rfl, rfl, hw', hd'⟩ := h
            rw [if_pos hL0] at hQ
            exact ih L.2 d' w' hnx hbd.1 hbd.2 hd' (by omega) hw' hQ
          · obtain ⟨g1, g4, gF, rfl⟩ := h
            rw [if_neg (by omega)] at hQ
            have q := hQ d' p b s (nI L.2.1) (fun z => by omega) (fun _ => rfl) (by omega)
            rw [gF] at q
            refine Z_go kX10_text okX10 [36, 57] 80 ?_
            exact ⟨fun _ => q, fun (z : ¬ ¬ nI F = 0) => absurd (nI_ne0 (by omega) (by omega)) z⟩
        refine Z_go kX10_text okX10 [36, 57] 80 ?_
        refine ⟨fun z => absurd rfl z, fun _ => ?_⟩
        refine ⟨fun (z : nI (so tk) = 0) => absurd z (nI_ne0 (by omega) (by omega)), fun _ => ?_⟩
        refine ⟨rfl, hln.mono (fun v' A _ h => ?_)⟩
        have h' := h
        obtain ⟨rfl, -⟩ := h'
        exact go A h
end MOD
