/-! the reference: a row, a line, the text -/
/-- behind a row, or fro: its sign has been read -/
def PRw (a : Nat → Nat → Int32) (f : Nat → Int32) (y : Nat × RX) : Option AV → AH → Prop := fun v A => v = none ∧ ∃ d p b s F w, A = mW (aU a 2 d) (tU f p b s (nI F) w) ∧
  ((F = 0 ∧ ∃ tk, 1 ≤ tk ∧ tk ≤ 3 ∧ s = nI (so tk) ∧ y.1 = sgF tk ∧ b = nI y.2.1 ∧ p = nI y.2.2.1 ∧ HD d y.2.2.2.1 y.2.2.2.2.1 y.2.2.2.2.2.1 y.2.2.2.2.2.2) ∨ (1 ≤ F ∧ F ≤ 4 ∧ y.1 = F ∧ w = nI y.2.1))
section MOD
variable {g : GG} {a : Nat → Nat → Int32} {f : Nat → Int32} {R W n st nx : Nat} {fro : Bool} {D : Nat → Nat → Int32} {tp : Nat → Int32} {p b s q w : Int32}
theorem PRw_f {d : Nat → Int32} {y : Nat × RX} {F : Nat} (h1 : 1 ≤ F) (h4 : F ≤ 4) (hy : y.1 = F) : PRw a f y none (mW (aU a 2 d) (tU f p b s (nI F) (nI y.2.1))) := ⟨rfl, d, p, b, s, F, _, rfl, Or.inr ⟨h1, h4, hy, rfl⟩⟩
/-- the sign is read -/
theorem sign_end (h5 : f 5 = nI n) (htp : a 5 = tp) (hn : n ≤ 300) (hpos : ∀ j, j < n → ¬ tp j < 0) {d : Nat → Int32} {x : RX} {k : Nat} (hk : k ≤ n) {R' W' : Nat} {fro' : Bool} {D' : Nat → Nat → Int32} (hd : HD d R' W' fro' D') :
    Ev g mX10_reads [vr 0] (mW (aU a 2 d) (tU f (nI k) b s (nI 0) w)) (PRw a f (sgF (tok tp n k).2.2, (tok tp n k).1, (tok tp n k).2.1, R', W', fro', D')) := by
  have t4 := tok_le (tp := tp) hk
  have hr := m_reads (g := g) (a := aU a 2 d) (f := f) (b := b) (s := s) (w := w) h5 htp hn hpos hk
  by_cases h0 : (tok tp n k).2.2 = 0
  · rw [if_pos h0, if_pos h0] at hr
    refine hr.use ?_
    exact PRw_f (y := (sgF (tok tp n k).2.2, (tok tp n k).1, (tok tp n k).2.1, R', W', fro', D')) (by omega) (by omega) (by show sgF _ = 1; rw [h0]; rfl)
  · rw [if_neg h0, if_neg h0] at hr
    refine hr.use ?_
    exact ⟨rfl, d, _, _, _, 0, _, rfl, Or.inl ⟨rfl, (tok tp n k).2.2, by omega, t4.2.2.2, rfl, rfl, rfl, rfl, hd⟩⟩
theorem m_readRow (h5 : f 5 = nI n) (htp : a 5 = tp) (hn : n ≤ 300) (hpos : ∀ j, j < n → ¬ tp j < 0) {d : Nat → Int32} (hd : HD d R W fro D) (hR : R ≤ 12) (hW : W ≤ 16) (hnx : nx ≤ n) :
    Ev g mX10_readRow [vr 0] (mW (aU a 2 d) (tU f (nI nx) (nI st) (nI 1) (nI 0) w)) (PRw a f (rwS tp n st nx R W fro D)) := by
  obtain ⟨t1, t2, t3, t4⟩ := tok_le (tp := tp) hnx
  have tl := tok_lt (tp := tp) hnx
  have hr := m_reads (g := g) (a := aU a 2 d) (f := f) (b := nI st) (s := nI 1) (w := w) h5 htp hn hpos hnx
  have hre := fun (dd : Nat → Int32) R' W' D' (hdd : HD dd R' W' fro D') => sign_end (g := g) (a := a) (f := f) (b := nI (tok tp n nx).1) (s := nI 1) (w := w) (x := (0, 0, 0, 0, false, D)) h5 htp hn hpos (d := dd) t3 hdd
  unfold rwS
  generalize tok tp n nx = t at hr t1 t2 t3 t4 tl hre ⊢
  obtain ⟨st1, nx1, tk1⟩ := t
  dsimp only at hr t1 t2 t3 t4 tl hre ⊢
  by_cases c1 : 12 ≤ R
  · rw [if_pos c1]
    have q4 := row_f (g := g) (a := aU a 2 d) (f := f) (p := nI nx) (b := nI st) (s := nI 1) (w := nI st) (v := none) (F := 4) (Q := PRw a f (4, st, nx, R, W, fro, D)) (by omega) (by omega) (PRw_f (y := (4, st, nx, R, W, fro, D)) (by omega) (by omega) rfl)
    have hq := m_req_no (g := g) (a := aU a 2 d) (f := f) (p := nI nx) (b := nI st) (s := nI 1) (w := w) (c := nI 4)
    refine Ev_of omX10_readRow.1 (Nat.le_of_ble_eq_true rfl) ?_
    refine Z_go kX10_readRow okX10 [25] 80 ?_
    refine ⟨vin (by omega) (by omega), ?_⟩
    rw [show (nI 0).toNatClampNeg = 0 from rfl, show aU a 2 d 2 0 = nI R from hd.1.1]
    refine ⟨fun _ => ?_, fun (z : ¬ nI 12 ≤ nI R) => absurd (nI_le c1 (by omega)) z⟩
    refine ⟨rfl, hq.use ?_⟩
    refine ⟨rfl, (m_reads_f (k := 4) (by omega) (by omega)).use ?_⟩
    exact q4.2.2
  · rw [if_neg c1]
    have go : Z g mX10_readRow 11 (PRw a f (if ¬ tk1 = 1 then (unf tk1, st1, nx1, R, W, fro, D) else if isBd tp R W st1 nx1 = false then (3, st1, nx1, R, W, fro, D) else (sgF (tok tp n nx1).2.2, (tok tp n nx1).1, (tok tp n nx1).2.1, R + 1, nx1 - st1, fro, rowD D R tp st1))) 25 [some (vr 0), none] [] (mW (aU a 2 d) (tU f (nI nx1) (nI st1) (nI (so tk1)) (nI (if tk1 = 0 then 1 else 0)) (if tk1 = 0 then nI st1 else w))) := by
      by_cases h0 : tk1 = 0
      · subst h0
        rw [if_pos rfl, if_pos rfl, if_pos (by decide)]
        exact (row_f (g := g) (F := 1) (by omega) (by omega) (PRw_f (F := 1) (y := (unf 0, st1, nx1, R, W, fro, D)) (by omega) (by omega) rfl)).2.2
      · rw [if_neg h0, if_neg h0]
        by_cases h1 : tk1 = 1
        · subst h1
          rw [if_neg (fun z => z rfl)]
          have tl := tl (by omega)
          have hab := m_areBeads (g := g) (a := aU a 2 d) (f := f) (s := nI (so 1)) (q := nI 0) (w := w) (st := st1) (nx := nx1) hd.1.1 hd.1.2.1 hR hW htp hn (by omega) t3
          have hok := fun c => m_req_ok (g := g) (a := aU a 2 d) (f := tU f (nI nx1) (nI st1) (nI (so 1)) (nI 0) w) (c := c)
          cases h2 : isBd tp R W st1 nx1 with
          | false =>
            rw [h2] at hab
            rw [if_pos rfl]
            have hq := m_req_no (g := g) (a := aU a 2 d) (f := f) (p := nI nx1) (b := nI st1) (s := nI (so 1)) (w := w) (c := nI 3)
            have q3 := (row_f (g := g) (a := aU a 2 d) (f := f) (p := nI nx1) (b := nI st1) (s := nI (so 1)) (w := nI st1) (v := none) (F := 3) (Q := PRw a f (3, st1, nx1, R, W, fro, D)) (by omega) (by omega) (PRw_f (y := (3, st1, nx1, R, W, fro, D)) (by omega) (by omega) rfl)).1
            refine Z_go kX10_readRow okX10 [66] 80 ?_
            refine ⟨fun z => absurd rfl z, fun _ => ?_⟩
            refine ⟨fun z => absurd rfl z, fun _ => ?_⟩
            refine ⟨rfl, (hok (nI 2)).use ?_⟩
            refine ⟨fun z => absurd rfl z, fun _ => ?_⟩
            refine ⟨rfl, hab.use ?_⟩
            exact ⟨rfl, hq.use q3⟩
          | true =>
            rw [h2] at hab
            rw [if_neg (by decide)]
            have hL : nx1 - st1 ≤ 16 := by
              unfold isBd at h2
              rw [Bool.and_eq_true, Bool.and_eq_true] at h2
              exact of_decide_eq_true h2.1.1
            have hWL : R ≠ 0 → nx1 - st1 = W := by
              unfold isBd at h2
              rw [Bool.and_eq_true, Bool.and_eq_true, Bool.or_eq_true] at h2
              intro hR0
              exact h2.1.2.elim (fun z => absurd (of_decide_eq_true z) hR0) of_decide_eq_true
            have ep : nI nx1 - nI st1 = nI (nx1 - st1) := pk_sub (by omega)
            have k := row_loop (g := g) (a := a) (f := f) (p := nI nx1) (s := nI 1) (q := nI 0) (w := w) (R := R) (st := st1) (L := nx1 - st1) (d0 := upd d 1 (nI (nx1 - st1))) (Q := PRw a f (sgF (tok tp n nx1).2.2, (tok tp n nx1).1, (tok tp n nx1).2.1, R + 1, nx1 - st1, fro, rowD D R tp st1)) htp hn hL (by omega) (by omega) ((updN (by omega)).trans hd.1.1) updS (fun d' v hd' => by
              have e0 : d' 0 = nI R := by rw [hd', if_neg (by omega), updN (by omega)]; exact hd.1.1
              have hD' : HD (upd d' 0 (nI (R + 1))) (R + 1) (nx1 - st1) fro (rowD D R tp st1) := by
                refine ⟨⟨updS, fun _ => ?_, ?_, fun r c hr hc => ?_⟩, ?_⟩
                · rw [updN (by omega), hd', if_neg (by omega), updS]
                · rw [updN (by omega), hd', if_neg (by omega), updN (by omega)]; exact hd.1.2.2.1
                · rw [updN (by omega), hd']
                  unfold rowD
                  by_cases e : r = R
                  · subst e
                    rw [if_pos (by omega), if_pos rfl, show 4 + 16 * r + c - 4 - 16 * r = c by omega]
                  · rw [if_neg (by omega), if_neg e, updN (by omega)]
                    exact hd.1.2.2.2 r c (by omega) (by rw [← hWL (by omega)]; exact hc)
                · rw [updN (by omega), hd', if_neg (by omega), updN (by omega)]; exact hd.2
              refine Z_go kX10_readRow okX10 [] 80 ?_
              refine ⟨vin (by omega) (by omega), ?_⟩
              rw [show (nI 0).toNatClampNeg = 0 from rfl, show aU a 2 d' 2 0 = nI R from e0]
              refine ⟨vin (by omega) (by omega), ?_⟩
              rw [show (nI 0).toNatClampNeg = 0 from rfl, ← nI_a1]
              refine ⟨rfl, (hre _ _ _ _ hD').mono (fun v A _ h => ?_)⟩
              have h' := h
              obtain ⟨rfl, -⟩ := h'
              exact h) (nx1 - st1) 0 (upd d 1 (nI (nx1 - st1))) (by omega) (fun j => by rw [if_neg (by omega)])
            rw [← ep] at k
            refine Z_go kX10_readRow okX10 [90] 80 ?_
            refine ⟨fun z => absurd rfl z, fun _ => ?_⟩
            refine ⟨fun z => absurd rfl z, fun _ => ?_⟩
            refine ⟨rfl, (hok (nI 2)).use ?_⟩
            refine ⟨fun z => absurd rfl z, fun _ => ?_⟩
            refine ⟨rfl, hab.use ?_⟩
            refine ⟨rfl, (hok (nI 3)).use ?_⟩
            refine ⟨fun z => absurd rfl z, fun _ => ?_⟩
            refine ⟨vin (by omega) (by omega), ?_⟩
            exact k
        · rw [if_pos h1]
          have hs2 : ¬ so tk1 = 1 := by unfold so; rw [if_neg h1]; split <;> decide
          have hs3 : so tk1 ≤ 2 := by unfold so; rw [if_neg h1]; split <;> omega
          have hu : unf tk1 = 2 := by unfold unf; rw [if_neg h0]
          have hq := m_req_no (g := g) (a := aU a 2 d) (f := f) (p := nI nx1) (b := nI st1) (s := nI (so tk1)) (w := w) (c := nI 2)
          have q2 := (row_f (g := g) (a := aU a 2 d) (f := f) (p := nI nx1) (b := nI st1) (s := nI (so tk1)) (w := nI st1) (v := none) (F := 2) (Q := PRw a f (unf tk1, st1, nx1, R, W, fro, D)) (by omega) (by omega) (PRw_f (y := (unf tk1, st1, nx1, R, W, fro, D)) (by omega) (by omega) hu)).2.1
          refine Z_go kX10_readRow okX10 [50] 80 ?_
          refine ⟨fun z => absurd rfl z, fun _ => ?_⟩
          refine ⟨fun _ => ?_, fun (z : ¬ ¬ nI (so tk1) = nI 1) => ?_⟩
          · exact ⟨rfl, hq.use q2⟩
          · rw [nI_eq (by omega) (by omega)] at z
            exact absurd hs2 z
    have hok := m_req_ok (g := g) (a := aU a 2 d) (f := tU f (nI nx) (nI st) (nI 1) (nI 0) w) (c := nI 4)
    refine Ev_of omX10_readRow.1 (Nat.le_of_ble_eq_true rfl) ?_
    refine Z_go kX10_readRow okX10 [25] 80 ?_
    refine ⟨vin (by omega) (by omega), ?_⟩
    rw [show (nI 0).toNatClampNeg = 0 from rfl, show aU a 2 d 2 0 = nI R from hd.1.1]
    refine ⟨fun (z : nI 12 ≤ nI R) => ?_, fun _ => ?_⟩
    · rw [nI_leI (by omega) (by omega)] at z; omega
    · refine ⟨rfl, hok.use ?_⟩
      refine ⟨rfl, hr.use ?_⟩
      exact go
end MOD
