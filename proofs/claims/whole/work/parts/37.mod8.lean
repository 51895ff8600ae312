/-! the reference: run; rows dyed, copied, swapped -/
theorem run_in {fr : Int32} {i N : Nat} (hi : i ≤ 1000) (hN : N ≤ 1000) : (decide (lN 0 ≤ fr.toInt64 + (nI i).toInt64) && decide (fr.toInt64 + (nI i).toInt64 ≤ (nI N - nI 1).toInt64)) = decide (¬ (fr + nI i < 0 ∨ nI N ≤ fr + nI i)) := by
  have h1 : (fr.toInt64 + (nI i).toInt64).toInt = fr.toInt + i := by
    rw [Int64.toInt_add, Int32.toInt_toInt64, Int32.toInt_toInt64, nI_toInt (by omega)]
    have a1 := Int32.toInt_lt fr
    have a2 := Int32.le_toInt fr
    simp only [Int.bmod]
    split <;> omega
  have h2 : (fr + nI i).toInt = if fr.toInt + i < 2 ^ 31 then fr.toInt + i else fr.toInt + i - 2 ^ 32 := by
    rw [Int32.toInt_add, nI_toInt (by omega)]
    have a1 := Int32.toInt_lt fr
    have a2 := Int32.le_toInt fr
    simp only [Int.bmod]
    split <;> split <;> omega
  have a1 := Int32.toInt_lt fr
  rw [← Bool.decide_and, decide_eq_decide, Int64.le_iff_toInt_le, Int64.le_iff_toInt_le, Int32.toInt_toInt64, h1, lN_toInt (by omega), pk_sub_toInt (by omega) (by omega), Int32.lt_iff_toInt_lt, Int32.le_iff_toInt_le, h2, nI_toInt (by omega)]
  have h0 : (0 : Int32).toInt = 0 := by decide
  rw [h0]
  split <;> omega
theorem op_string_sgn {S : Sg} {x : Int32} (hS : okSg S) : (op_string S x).1 ≤ 0 ↔ (op_string S x).1 < 0 := by
  obtain ⟨⟨R, W, m, D⟩, ⟨tn, T⟩, ⟨n, TP⟩, ⟨sn, w⟩, im, sh, tf, rf⟩ := S
  obtain ⟨⟨p1, p2, -⟩, ⟨q1, -⟩, -⟩ := hS
  have hRW : R * W ≤ 192 := RW_le p1 p2
  have q1 : tn ≤ R * W := q1
  unfold op_string
  dsimp only
  split
  · split
    · exact ⟨fun _ => (by decide +kernel : -nI 3 < 0), fun _ => (by decide +kernel : -nI 3 ≤ 0)⟩
    · exact ⟨fun z => absurd z (nI_nle (by omega) (by omega)), fun z => absurd z (nI_pos (by omega))⟩
  · exact ⟨fun _ => (by decide +kernel : -nI 1 < 0), fun _ => (by decide +kernel : -nI 1 ≤ 0)⟩
theorem op_string_ok {S : Sg} {x : Int32} (hS : okSg S) : okSg (op_string S x).2 := by
  obtain ⟨⟨R, W, m, D⟩, ⟨tn, T⟩, ⟨n, TP⟩, ⟨sn, w⟩, im, sh, tf, rf⟩ := S
  obtain ⟨hp, ⟨q1, q2⟩, ho⟩ := id hS
  have q2 : ∀ j, j < tn → isCol (T j) = true := q2
  unfold op_string
  dsimp only
  split
  · rename_i hx
    split
    · exact hS
    · rename_i h3
      refine ⟨hp, ⟨by show tn + 1 ≤ R * W; omega, fun j hj => ?_⟩, ho⟩
      have hj : j < tn + 1 := hj
      show isCol (upd T tn x j) = true
      by_cases e : j = tn
      · rw [e, updS]; exact hx
      · rw [updN e]; exact q2 j (by omega)
  · exact hS
section MOD
variable {g : GG} {a : Nat → Nat → Int32} {f : Nat → Int32}
theorem run_exit {x : Int32} {k l fr : Int32} {v7 : Option AV} {N i : Nat} (hN : N ≤ 32) (hi : i < N) (hx : x = nI i) {Q : Option AV → AH → Prop} (hQ : Q (some (vi (nI i))) (mW a f)) : Z g mX10_run 11 Q 34 [some (vr 0), some (vi k), some (vi l), some (vi fr), some (vi (nI N)), some (vi x), some (vi (nI 0)), v7, none] [] (mW a f) := by
  subst hx
  refine Z_go kX10_run okX10 [34] 80 ?_
  refine ⟨fun (z : nI N ≤ nI i) => ?_, fun _ => ⟨fun _ => hQ, fun z => absurd rfl z⟩⟩
  rw [nI_leI (by omega) (by omega)] at z; omega
theorem run_loopM {q : Nat} {l fr : Int32} {N : Nat} (hq : q < 4) (hN : N ≤ 32) {Q : Option AV → AH → Prop} : ∀ (z i : Nat) (S : Sg) (a : Nat → Nat → Int32) (f : Nat → Int32) (v7 : Option AV), okSg S → RM S a f → S.2.2.2.2.2.2.2 = 0 → i + z = N →
    (∀ a' f', RM (runS q l fr z i S).2 a' f' → Q (some (vi (runS q l fr z i S).1)) (mW a' f')) →
    Z g mX10_run 11 Q 34 [some (vr 0), some (vi (nI q)), some (vi l), some (vi fr), some (vi (nI N)), some (vi (nI i)), some (vi (nI 1)), v7, none] [] (mW a f) := by
  intro z
  induction z with
  | zero =>
    intro i S a f v7 hS hM hrf h1 hQ
    have hQ := hQ a f hM
    rw [runS_0] at hQ
    refine Z_go kX10_run okX10 [34] 80 ?_
    refine ⟨fun _ => hQ, fun (h : ¬ nI N ≤ nI i) => absurd (nI_le (by omega) (by omega)) h⟩
  | succ z ih =>
    intro i S a f v7 hS hM hrf h1 hQ
    rw [runS_s] at hQ
    have hset : setR S 0 = S := by
      obtain ⟨p, th, tp, sl, im, sh, tf, rf⟩ := S
      have hrf : rf = 0 := hrf
      subst hrf
      rfl
    rw [hset] at hQ
    have hst := fun x hm => y_string (g := g) (S := S) (a := a) (f := fU f 19 (nI 0)) hS hm x
    have hneg := fun x (hx : (op_string S x).1 < 0) => op_string_neg hx hS
    have hsgn := fun x => op_string_sgn (x := x) hS
    have hok := fun x => op_string_ok (x := x) hS
    have hrf2 := fun x => (op_string_rf (S := S) (x := x)).trans hrf
    have ih2 := fun x a' f' hm v hq => ih (i + 1) (op_string S x).2 a' f' v (hok x) hm (hrf2 x) (by omega) hq
    obtain ⟨⟨R, W, m, D⟩, ⟨tn, T⟩, ⟨n, TP⟩, ⟨sn, w⟩, im, sh, tf, rf⟩ := S
    obtain ⟨⟨p1, p2, p3, p4, p5⟩, ⟨q1, q2⟩, ⟨o3, o4⟩, ⟨o5, o5b⟩, o6, o7, o8, o9⟩ := id hS
    obtain ⟨⟨hs, ht3, htT⟩, hi, ⟨htp, h5⟩, ⟨h12, hsl⟩, hsh, h9, h19⟩ := id hM
    have hs : HM (a 1) R W m D := hs
    have ht3 : a 1 3 = nI tn := ht3
    have htT : ∀ j, j < tn → a 1 (196 + j) = T j := htT
    have p1 : R ≤ 12 := p1
    have p2 : W ≤ 16 := p2
    have p3 : m ≤ 1 := p3
    have p4 : R = 0 → W = 0 := p4
    have p5 : R ≠ 0 → 1 ≤ W := p5
    have q1 : tn ≤ R * W := q1
    have q2 : ∀ j, j < tn → isCol (T j) = true := q2
    have hRW := RW_le p1 p2
    have hrf : rf = 0 := hrf
    subst hrf
    dsimp only at hQ
    obtain ⟨o71, o72⟩ := o7 q hq
    obtain ⟨s8, s9, s10⟩ := hsh q hq
    have hM0 : RM ((R, W, m, D), (tn, T), (n, TP), (sn, w), im, sh, tf, 0) a (fU f 19 (nI 0)) := ⟨⟨hs, ht3, htT⟩, hi, ⟨htp, h5⟩, ⟨h12, hsl⟩, hsh, h9, rfl⟩
    have go : ∀ t : Nat, t ≤ 3 → fltS (sh q).1 (sh q).2.1 l (fr + nI i) = t → Z g mX10_run 11 Q 107 [some (vr 0), some (vi (nI q)), some (vi l), some (vi fr), some (vi (nI N)), some (vi (nI i)), some (vi (nI 1)), some (vl (fr.toInt64 + (nI i).toInt64)), none] [vi (nI t), vr 0] (mW a f) := by
      intro t ht3' ht
      rw [ht] at hQ
      by_cases h0 : t = 0
      · subst h0
        rw [if_pos rfl] at hQ
        obtain ⟨y, hy, ey⟩ := fltS_0 o71 ht
        rw [ey, nOf_n (by omega)] at hQ
        have e : nI 32 * nI q + (fr.toInt64 + (nI i).toInt64).toInt32 = nI (32 * q + y) := by
          rw [Int64.toInt32_add, Int32.toInt32_toInt64, Int32.toInt32_toInt64, ey, pk_mul, nI_add]
        refine Z_go kX10_run okX10 [34] 80 ?_
        refine ⟨fun z => absurd rfl z, fun _ => ?_⟩
        refine ⟨by rw [e]; exact vin (by omega) (by omega), ?_⟩
        rw [e, nI_clamp (by omega), s10 y (by omega)]
        refine ⟨rfl, (hst ((sh q).2.2 y) hM0).mono (fun v A' _ hv => ?_)⟩
        obtain ⟨rfl, a', f', rfl, hM'⟩ := hv
        by_cases hn : (op_string ((R, W, m, D), (tn, T), (n, TP), (sn, w), im, sh, tf, 0) ((sh q).2.2 y)).1 < 0
        · rw [if_pos hn] at hQ
          rw [hneg _ hn] at hM'
          refine ⟨fun _ => ?_, fun z => absurd ((hsgn _).mpr hn) z⟩
          refine (m_flag false).use ?_
          exact run_exit hN (by omega) (by show nI i + nI 0 = nI i; rw [nI_add]; rfl) (hQ a' f' hM')
        · rw [if_neg hn] at hQ
          refine ⟨fun z => absurd ((hsgn _).mp z) hn, fun _ => ?_⟩
          refine (m_flag true).use ?_
          have k := ih2 _ a' f' hM' (some (vl (fr.toInt64 + (nI i).toInt64))) hQ
          rw [nI_a1 i] at k
          exact k
      · rw [if_neg h0] at hQ
        refine Z_go kX10_run okX10 [34] 80 ?_
        refine ⟨fun _ => ?_, fun (z : ¬ ¬ nI t = 0) => absurd (nI_ne0 (by omega) (by omega)) z⟩
        refine (m_flag false).use ?_
        exact run_exit (a := a) (f := fU f 19 (nI t)) hN (by omega) (by show nI i + nI 0 = nI i; rw [nI_add]; rfl) (hQ a (fU f 19 (nI t)) ⟨⟨hs, ht3, htT⟩, hi, ⟨htp, h5⟩, ⟨h12, hsl⟩, hsh, h9, rfl⟩)
    refine Z_go kX10_run okX10 [34, 107] 80 ?_
    refine ⟨fun (h : nI N ≤ nI i) => ?_, fun _ => ⟨fun z => (z1 z).elim, fun _ => ?_⟩⟩
    · rw [nI_leI (by omega) (by omega)] at h; omega
    · refine ⟨vin (by omega) (by omega), ?_⟩
      rw [nI_clamp (show q < 2 ^ 31 by omega), s8]
      unfold fltS at go
      refine ⟨fun (c1 : ¬ (sh q).1 = -nI 4) => ?_, fun (c1 : ¬ ¬ (sh q).1 = -nI 4) => go 1 (by omega) (by rw [if_pos (Classical.not_not.mp c1)])⟩
      rw [if_neg c1] at go
      refine ⟨vin (by omega) (by omega), ?_⟩
      rw [nI_clamp (show q < 2 ^ 31 by omega), s8]
      refine ⟨fun (c2 : (sh q).1 = l) => ?_, fun (c2 : ¬ (sh q).1 = l) => go 2 (by omega) (by rw [if_pos c2])⟩
      rw [if_neg (show ¬ ¬ (sh q).1 = l from fun z => z c2)] at go
      refine ⟨vin (by omega) (by omega), ?_⟩
      rw [nI_clamp (show q < 2 ^ 31 by omega), s9]
      have hin := m_in (g := g) (A := mW a f) (fr.toInt64 + (nI i).toInt64) (lN 0) (nI (sh q).2.1 - nI 1).toInt64
      rw [run_in (by omega) (by omega)] at hin
      refine hin.use ?_
      by_cases c3 : fr + nI i < 0 ∨ nI (sh q).2.1 ≤ fr + nI i
      · rw [decide_eq_false (fun z => z c3)]
        rw [if_pos c3] at go
        exact ⟨fun _ => go 3 (by omega) rfl, fun z => absurd rfl z⟩
      · rw [decide_eq_true c3]
        rw [if_neg c3] at go
        exact ⟨fun z => (z1 z).elim, fun _ => go 0 (by omega) rfl⟩
end MOD
section MOD
variable {g : GG} {S : Sg} {a : Nat → Nat → Int32} {f : Nat → Int32}
theorem y_run (hS : okSg S) (hM : RM S a f) (k l fr v : Int32) : Ev g mX10_run [vr 0, vi k, vi l, vi fr, vi v] (mW a f) (MV (op_run S k l fr v)) := by
  have hk0 : okSg (setR S 0) := by
    obtain ⟨⟨R, W, m, D⟩, ⟨tn, T⟩, ⟨n, TP⟩, ⟨sn, w⟩, im, sh, tf, rf⟩ := S
    obtain ⟨p1, q1, o3, o5, o6, o7, o8, o9⟩ := hS
    exact ⟨p1, q1, o3, o5, o6, o7, o8, by show 0 ≤ 4; omega⟩
  have hc0 : RM (setR S 0) a (fU f 19 (nI 0)) := by
    obtain ⟨⟨R, W, m, D⟩, ⟨tn, T⟩, ⟨n, TP⟩, ⟨sn, w⟩, im, sh, tf, rf⟩ := S
    obtain ⟨h1, h2, h3, h4, h5, h6, -⟩ := hM
    exact ⟨h1, h2, h3, h4, h5, h6, rfl⟩
  have e0 : (setR S 0).2.2.2.2.2.2.2 = 0 := by
    obtain ⟨p, th, tp, sl, im, sh, tf, rf⟩ := S
    rfl
  unfold op_run
  refine Ev_of omX10_run.1 (Nat.le_of_ble_eq_true rfl) ?_
  refine Z_go kX10_run okX10 [34] 80 ?_
  refine (m_isSheet k l).use ?_
  cases hkl : (hasRow 4 k && hasRow 3 l) with
  | false => exact ⟨fun _ => ⟨rfl, _, _, rfl, hM⟩, fun z => absurd rfl z⟩
  | true =>
    obtain ⟨hk, -⟩ := Bool.and_eq_true_iff.mp hkl
    obtain ⟨q, hq, rfl, e1⟩ := hasRow_of (by omega) hk
    rw [e1]
    refine ⟨fun z => (z1 z).elim, fun _ => ?_⟩
    refine (m_inH v 32 (by omega)).use ?_
    cases hv : hasRow (32 + 1) v with
    | false => exact ⟨fun z => absurd rfl z, fun _ => ⟨rfl, _, _, rfl, hM⟩⟩
    | true =>
      obtain ⟨N, hN, rfl, e2⟩ := hasRow_of (by omega) hv
      rw [e2]
      refine ⟨fun _ => ?_, fun (z : ¬ ¬ nI 1 = 0) => absurd z1 z⟩
      exact run_loopM hq (by omega) N 0 (setR S 0) a (fU f 19 (nI 0)) none hk0 hc0 e0 (by omega) (fun a' f' h => ⟨rfl, a', f', rfl, h⟩)
end MOD
