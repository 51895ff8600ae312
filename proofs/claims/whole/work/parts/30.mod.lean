/-! the reference: its world, and what reads the picture -/
def mW (a : Nat → Nat → Int32) (f : Nat → Int32) : AH :=
  [ob 10 [vr 1, vr 2, vr 3, vr 4, vr 5, vi (f 5), vi (f 6), vi (f 7), vi (f 8), vi (f 9), vi (f 10), vr 6, vi (f 12), vr 7, vi (f 14), vi (f 15), vr 8, vr 9, vr 10, vi (f 19)],
   ar 0 388 (a 1), ar 0 388 (a 2), ar 0 776 (a 3), ar 1 2 (a 4), ar 0 300 (a 5), ar 0 40 (a 6), ar 0 16 (a 7), ar 0 4 (a 8), ar 0 4 (a 9), ar 0 128 (a 10)]
/-- the row of numbers holds a picture -/
def HM (s : Nat → Int32) (R W m : Nat) (D : Nat → Nat → Int32) : Prop := s 0 = nI R ∧ (R ≠ 0 → s 1 = nI W) ∧ s 2 = nI m ∧ ∀ r c, r < R → c < W → s (4 + 16 * r + c) = D r c
section MOD
variable {g : GG} {a : Nat → Nat → Int32} {f : Nat → Int32} {R W m : Nat} {D : Nat → Nat → Int32}
theorem lg_n {x y : Int64} : lg_cmp x y < 0 ↔ x < y := by
  unfold lg_cmp
  constructor
  · intro h
    by_cases h1 : x > y
    · rw [if_pos h1] at h; exact absurd h (by decide)
    · rw [if_neg h1] at h
      by_cases h2 : x = y
      · rw [if_pos h2] at h; exact absurd h (by decide)
      · rcases Int64.lt_or_eq_of_le (Int64.not_lt.mp h1) with h3 | h3
        · exact h3
        · exact absurd h3 h2
  · intro h
    rw [if_neg (Int64.not_lt.mpr (Int64.le_of_lt h)), if_neg (fun e => by rw [e] at h; exact Int64.lt_irrefl h)]
    decide
theorem lg_p {x y : Int64} : 0 < lg_cmp x y ↔ y < x := by
  unfold lg_cmp
  constructor
  · intro h
    by_cases h1 : x > y
    · exact h1
    · rw [if_neg h1] at h
      by_cases h2 : x = y
      · rw [if_pos h2] at h; exact absurd h (by decide)
      · rw [if_neg h2] at h; exact absurd h (by decide)
  · intro h
    rw [if_pos h]
    decide
theorem m_in {A : AH} (x y z : Int64) : Dt g mX10_in [vl x, vl y, vl z] A (some (vi (nI (fl (decide (y ≤ x) && decide (x ≤ z)))))) A := by
  refine Ev_of omX10_in.1 (Nat.le_of_ble_eq_true rfl) ?_
  refine Z_go kX10_in okX10 [] 80 ?_
  refine ⟨fun (h : lg_cmp x y < 0) => ⟨Or.inl rfl, ?_, rfl⟩, fun (h : ¬ lg_cmp x y < 0) => ⟨fun (h2 : 0 < lg_cmp x z) => ⟨Or.inl rfl, ?_, rfl⟩, fun (h2 : ¬ 0 < lg_cmp x z) => ⟨Or.inr rfl, ?_, rfl⟩⟩⟩
  · rw [lg_n] at h
    rw [decide_eq_false (Int64.not_le.mpr h)]; rfl
  · rw [lg_p] at h2
    rw [decide_eq_false (Int64.not_le.mpr h2), Bool.and_false]; rfl
  · rw [lg_n] at h
    rw [lg_p] at h2
    rw [decide_eq_true (Int64.not_lt.mp h), decide_eq_true (Int64.not_lt.mp h2)]; rfl
theorem i64_le {x y : Int32} : x.toInt64 ≤ y.toInt64 ↔ x ≤ y := by
  rw [Int64.le_iff_toInt_le, Int32.toInt_toInt64, Int32.toInt_toInt64, Int32.le_iff_toInt_le]
theorem lN_i64 {k : Nat} (h : k < 2 ^ 31) : lN k = (nI k).toInt64 := (nI_l h).symm
/-- in(x, 0, n) for ints -/
theorem m_in0 {A : AH} (x z : Int32) : Dt g mX10_in [vl x.toInt64, vl (lN 0), vl z.toInt64] A (some (vi (nI (fl (decide (¬ x < 0) && decide (x ≤ z)))))) A := by
  have h := m_in (g := g) (A := A) x.toInt64 (lN 0) z.toInt64
  have e1 : decide (lN 0 ≤ x.toInt64) = decide (¬ x < 0) := by
    rw [decide_eq_decide, lN_i64 (by decide), i64_le, Int32.not_lt]
    rfl
  have e2 : decide (x.toInt64 ≤ z.toInt64) = decide (x ≤ z) := by rw [decide_eq_decide, i64_le]
  rw [e1, e2] at h
  exact h
theorem m_inN {A : AH} (x : Int32) (j k : Nat) (hj : j < 2 ^ 31) (hk : k < 2 ^ 31) : Dt g mX10_in [vl x.toInt64, vl (lN j), vl (lN k)] A (some (vi (nI (fl (decide (nI j ≤ x) && decide (x ≤ nI k)))))) A := by
  have h := m_in (g := g) (A := A) x.toInt64 (lN j) (lN k)
  have e1 : decide (lN j ≤ x.toInt64) = decide (nI j ≤ x) := by rw [decide_eq_decide, lN_i64 hj, i64_le]
  have e2 : decide (x.toInt64 ≤ lN k) = decide (x ≤ nI k) := by rw [decide_eq_decide, lN_i64 hk, i64_le]
  rw [e1, e2] at h
  exact h
theorem m_flag {A : AH} (t : Bool) : Dt g mX10_flag [vi (nI (fl t))] A (some (vi (nI (fl t)))) A := by
  refine Ev_of omX10_flag.1 (Nat.le_of_ble_eq_true rfl) ?_
  refine Z_go kX10_flag okX10 [] 80 ?_
  cases t with
  | false => exact ⟨fun _ => ⟨rfl, rfl⟩, fun z => absurd rfl z⟩
  | true => exact ⟨fun z => (z1 z).elim, fun _ => ⟨rfl, rfl⟩⟩
theorem hasRow_in {N : Nat} {r : Int32} (hN : N ≤ 1000) : (decide (¬ r < 0) && decide (r ≤ nI N - nI 1)) = hasRow N r := by
  unfold hasRow
  by_cases h0 : r < 0
  · simp [h0]
  · obtain ⟨k, hk, rfl⟩ := nI_of h0
    have e : (nI k ≤ nI N - nI 1) ↔ nI k < nI N := by
      rw [nI_ltI hk (by omega), Int32.le_iff_toInt_le, nI_toInt hk, pk_sub_toInt (by omega) (by decide)]
      omega
    simp [h0, e]
theorem isCol_in {x : Int32} : (decide (nI 0 ≤ x) && decide (x ≤ nI 5)) = isCol x := by
  unfold isCol
  by_cases h0 : x < 0
  · have : ¬ nI 0 ≤ x := Int32.not_le.mpr h0
    simp [h0, this]
  · obtain ⟨k, hk, rfl⟩ := nI_of h0
    have e : (nI k ≤ nI 5) ↔ nI k < nI 6 := by rw [nI_ltI hk (by omega), nI_leI hk (by omega)]; omega
    have e0 : nI 0 ≤ nI k := nI_le (by omega) hk
    simp [h0, e, e0]
theorem m_isColour {A : AH} (x : Int32) : Dt g mX10_isColour [vi x] A (some (vi (nI (fl (isCol x))))) A := by
  have h := m_inN (g := g) (A := A) x 0 5 (by decide) (by decide)
  rw [isCol_in] at h
  refine Ev_of omX10_isColour.1 (Nat.le_of_ble_eq_true rfl) ?_
  refine Z_go kX10_isColour okX10 [] 80 ?_
  refine h.use ?_
  cases isCol x with
  | false => exact ⟨Or.inl rfl, rfl, rfl⟩
  | true => exact ⟨Or.inr rfl, rfl, rfl⟩
theorem m_isRow (hs : HM (a 1) R W m D) (hR : R ≤ 12) (r : Int32) : Dt g mX10_isRow [vr 0, vi r] (mW a f) (some (vi (nI (fl (hasRow R r))))) (mW a f) := by
  refine Ev_of omX10_isRow.1 (Nat.le_of_ble_eq_true rfl) ?_
  refine Z_go kX10_isRow okX10 [] 80 ?_
  refine ⟨vin (by omega) (by omega), ?_⟩
  rw [show (nI 0).toNatClampNeg = 0 from rfl, hs.1]
  have h := m_in0 (g := g) (A := mW a f) r (nI R - nI 1)
  rw [hasRow_in (by omega)] at h
  refine h.use ?_
  cases hasRow R r with
  | false => exact ⟨Or.inl rfl, rfl, rfl⟩
  | true => exact ⟨Or.inr rfl, rfl, rfl⟩
theorem m_beadOf (hs : HM (a 1) R W m D) (hR : R ≤ 12) (hW : W ≤ 16) {r c : Nat} (hr : r < R) (hc : c < W) : Dt g mX10_beadOf [vr 0, vi (nI r), vi (nI c)] (mW a f) (some (vi (D r c))) (mW a f) := by
  have e : nI 4 + nI 16 * nI r + nI c = nI (4 + 16 * r + c) := by rw [pk_mul, nI_add, nI_add]
  refine Ev_of omX10_beadOf.1 (Nat.le_of_ble_eq_true rfl) ?_
  refine Z_go kX10_beadOf okX10 [] 80 ?_
  refine ⟨by rw [e]; exact vp_in_nI (by omega) (by omega), ?_, rfl⟩
  rw [e, nI_clamp (by omega), hs.2.2.2 r c hr hc]
theorem m_isBack (hs : HM (a 1) R W m D) (hm : m ≤ 1) {r : Nat} (hr : r < 2 ^ 31) : Dt g mX10_isBack [vr 0, vi (nI r)] (mW a f) (some (vi (nI (fl (decide (m = 1 ∧ r % 2 = 1)))))) (mW a f) := by
  have e2 : nI r - nI r / nI 2 * nI 2 = nI (r % 2) := pk_rem hr (by omega) (by omega)
  refine Ev_of omX10_isBack.1 (Nat.le_of_ble_eq_true rfl) ?_
  refine Z_go kX10_isBack okX10 [] 80 ?_
  refine ⟨vin (by omega) (by omega), ?_⟩
  rw [show (nI 2).toNatClampNeg = 2 from rfl, hs.2.2.1]
  refine ⟨fun (h : ¬ nI m = nI 1) => ⟨Or.inl rfl, ?_, rfl⟩, fun (h : ¬ ¬ nI m = nI 1) => ⟨by decide, fun (h2 : ¬ nI r - nI r / nI 2 * nI 2 = nI 1) => ⟨Or.inl rfl, ?_, rfl⟩, fun (h2 : ¬ ¬ nI r - nI r / nI 2 * nI 2 = nI 1) => ⟨Or.inr rfl, ?_, rfl⟩⟩⟩
  · rw [nI_eq (by omega) (by omega)] at h
    rw [decide_eq_false (fun z => h z.1)]; rfl
  · rw [e2, nI_eq (by omega) (by omega)] at h2
    rw [decide_eq_false (fun z => h2 z.2)]; rfl
  · rw [e2, nI_eq (by omega) (by omega)] at h2
    rw [nI_eq (by omega) (by omega)] at h
    rw [decide_eq_true ⟨Classical.not_not.mp h, Classical.not_not.mp h2⟩]; rfl
theorem m_lineOf (hs : HM (a 1) R W m D) (hR : R ≤ 12) (hW : W ≤ 16) (hm : m ≤ 1) {r i : Nat} (hr : r < R) (hi : i < W) : Dt g mX10_lineOf [vr 0, vi (nI r), vi (nI i)] (mW a f) (some (vi (lnD D W m r i))) (mW a f) := by
  refine Ev_of omX10_lineOf.1 (Nat.le_of_ble_eq_true rfl) ?_
  refine Z_go kX10_lineOf okX10 [] 80 ?_
  refine ⟨rfl, (m_isBack hs hm (r := r) (by omega)).use ?_⟩
  have hp := plc_lt (m := m) (r := r) hi
  have hbe := m_beadOf (g := g) (f := f) hs hR hW hr hp
  unfold lnD
  by_cases h : m = 1 ∧ r % 2 = 1
  · rw [decide_eq_true h]
    refine ⟨fun z => (z1 z).elim, fun _ => ⟨vin (by omega) (by omega), ?_⟩⟩
    rw [show (nI 1).toNatClampNeg = 1 from rfl, hs.2.1 (by omega)]
    have e : plc W m r i = W - 1 - i := by unfold plc; rw [if_pos h]
    rw [e] at hbe ⊢
    have e2 : nI W - nI 1 - nI i = nI (W - 1 - i) := by rw [pk_sub (by omega), pk_sub (by omega)]
    rw [← e2] at hbe
    exact ⟨rfl, hbe.use ⟨rfl, rfl⟩⟩
  · rw [decide_eq_false h]
    refine ⟨fun _ => ?_, fun z => absurd rfl z⟩
    have e : plc W m r i = i := by unfold plc; rw [if_neg h]
    rw [e] at hbe ⊢
    exact ⟨rfl, hbe.use ⟨rfl, rfl⟩⟩
theorem isSame_loop (hs : HM (a 1) R W m D) (hR : R ≤ 12) (hW : W ≤ 16) (hm : m ≤ 1) {r s : Nat} {t : Bool} (hr : r < R) (hs2 : s < R) {Q : Option AV → AH → Prop} : ∀ (n c : Nat) (b : Bool), c + n = W → Q (some (vi (nI (fl (b && al (smp (lnD D W m) W r s t) c n))))) (mW a f) →
    Z g mX10_isSame 11 Q 6 [some (vr 0), some (vi (nI r)), some (vi (nI s)), some (vi (nI (fl t))), some (vi (nI (fl b))), some (vi (nI c))] [] (mW a f) := by
  intro n
  induction n with
  | zero =>
    intro c b h1 hQ
    refine Z_go kX10_isSame okX10 [6] 80 ?_
    refine ⟨vin (by omega) (by omega), ?_⟩
    rw [show (nI 1).toNatClampNeg = 1 from rfl, hs.2.1 (by omega)]
    simp only [al, Bool.and_true] at hQ
    refine ⟨fun _ => ?_, fun (h : ¬ nI W ≤ nI c) => absurd (nI_le (by omega) (by omega)) h⟩
    cases b with
    | false => exact ⟨Or.inl rfl, hQ⟩
    | true => exact ⟨Or.inr rfl, hQ⟩
  | succ n ih =>
    intro c b h1 hQ
    simp only [al] at hQ
    have go : ∀ b' : Bool, (b && (smp (lnD D W m) W r s t c)) = b' → Z g mX10_isSame 11 Q 62 [some (vr 0), some (vi (nI r)), some (vi (nI s)), some (vi (nI (fl t))), some (vi (nI (fl b))), some (vi (nI c))] [vi (nI (fl b'))] (mW a f) := by
      intro b' hb'
      refine Z_go kX10_isSame okX10 [6] 80 ?_
      have k := ih (c + 1) b' (by omega) (by rw [← hb', Bool.and_assoc]; exact hQ)
      rw [nI_a1 c] at k
      exact k
    refine Z_go kX10_isSame okX10 [6, 62] 80 ?_
    refine ⟨vin (by omega) (by omega), ?_⟩
    rw [show (nI 1).toNatClampNeg = 1 from rfl, hs.2.1 (by omega)]
    refine ⟨fun (h : nI W ≤ nI c) => ?_, fun _ => ?_⟩
    · rw [nI_leI (by omega) (by omega)] at h; omega
    · cases b with
      | false => exact ⟨fun _ => go false rfl, fun z => absurd rfl z⟩
      | true =>
        refine ⟨fun z => (z1 z).elim, fun _ => ?_⟩
        refine ⟨rfl, (m_lineOf hs hR hW hm hr (show c < W by omega)).use ?_⟩
        cases t with
        | false =>
          refine ⟨fun _ => ?_, fun z => absurd rfl z⟩
          refine ⟨rfl, (m_lineOf hs hR hW hm hs2 (show c < W by omega)).use ?_⟩
          refine ⟨fun (h3 : ¬ lnD D W m r c = lnD D W m s c) => go false (by simp [smp, h3]), fun (h3 : ¬ ¬ lnD D W m r c = lnD D W m s c) => go true (by simp [smp, Classical.not_not.mp h3])⟩
        | true =>
          refine ⟨fun z => (z1 z).elim, fun _ => ⟨vin (by omega) (by omega), ?_⟩⟩
          rw [show (nI 1).toNatClampNeg = 1 from rfl, hs.2.1 (by omega)]
          have e2 : nI W - nI 1 - nI c = nI (W - 1 - c) := by rw [pk_sub (by omega), pk_sub (by omega)]
          have hc := m_lineOf (g := g) (f := f) hs hR hW hm hs2 (show W - 1 - c < W by omega)
          rw [← e2] at hc
          refine ⟨rfl, hc.use ?_⟩
          refine ⟨fun (h3 : ¬ lnD D W m r c = lnD D W m s (W - 1 - c)) => go false (by simp [smp, h3]), fun (h3 : ¬ ¬ lnD D W m r c = lnD D W m s (W - 1 - c)) => go true (by simp [smp, Classical.not_not.mp h3])⟩
theorem m_isSame (hs : HM (a 1) R W m D) (hR : R ≤ 12) (hW : W ≤ 16) (hm : m ≤ 1) {r s : Nat} {t : Bool} (hr : r < R) (hs2 : s < R) : Dt g mX10_isSame [vr 0, vi (nI r), vi (nI s), vi (nI (fl t))] (mW a f) (some (vi (nI (fl (sameL (lnD D W m) W r s t))))) (mW a f) := by
  refine Ev_of omX10_isSame.1 (Nat.le_of_ble_eq_true rfl) ?_
  refine Z_go kX10_isSame okX10 [6] 80 ?_
  exact isSame_loop hs hR hW hm hr hs2 W 0 true (by omega) ⟨by rw [Bool.true_and]; rfl, rfl⟩
theorem likeOf_loop (hs : HM (a 1) R W m D) (hR : R ≤ 12) (hW : W ≤ 16) (hm : m ≤ 1) {r N : Nat} {t : Bool} (hr : r < R) (hN : N ≤ R) {Q : Option AV → AH → Prop} : ∀ (n c : Nat), c + n = N → Q (some (vi (oI (fs1 (fun s => sameL (lnD D W m) W r s t) c n)))) (mW a f) →
    Z g mX10_likeOf 11 Q 3 [some (vr 0), some (vi (nI r)), some (vi (nI N)), some (vi (nI (fl t))), some (vi (nI c))] [] (mW a f) := by
  intro n
  induction n with
  | zero =>
    intro c h1 hQ
    refine Z_go kX10_likeOf okX10 [3] 80 ?_
    refine ⟨fun _ => hQ, fun (h : ¬ nI N ≤ nI c) => absurd (nI_le (by omega) (by omega)) h⟩
  | succ n ih =>
    intro c h1 hQ
    refine Z_go kX10_likeOf okX10 [3] 80 ?_
    refine ⟨fun (h : nI N ≤ nI c) => ?_, fun _ => ?_⟩
    · rw [nI_leI (by omega) (by omega)] at h; omega
    · refine ⟨rfl, (m_isSame hs hR hW hm hr (show c < R by omega)).use ?_⟩
      cases h3 : sameL (lnD D W m) W r c t with
      | false =>
        refine ⟨fun _ => ?_, fun h => absurd rfl h⟩
        have k := ih (c + 1) (by omega) (by simpa [fs1, h3] using hQ)
        rw [nI_a1 c] at k
        exact k
      | true =>
        refine ⟨fun z => (z1 z).elim, fun _ => ?_⟩
        show Q (some (vi (nI c))) (mW a f)
        simpa [fs1, h3, oI] using hQ
theorem m_likeOf (hs : HM (a 1) R W m D) (hR : R ≤ 12) (hW : W ≤ 16) (hm : m ≤ 1) {r N : Nat} {t : Bool} (hr : r < R) (hN : N ≤ R) : Dt g mX10_likeOf [vr 0, vi (nI r), vi (nI N), vi (nI (fl t))] (mW a f) (some (vi (oI (likeL (lnD D W m) W r N t)))) (mW a f) := by
  refine Ev_of omX10_likeOf.1 (Nat.le_of_ble_eq_true rfl) ?_
  refine Z_go kX10_likeOf okX10 [3] 80 ?_
  exact likeOf_loop hs hR hW hm hr hN N 0 (by omega) ⟨rfl, rfl⟩
theorem runsOf_loopM (hs : HM (a 1) R W m D) (hR : R ≤ 12) (hW : W ≤ 16) (hm : m ≤ 1) {r N : Nat} (hr : r < R) (hN : N ≤ W) {Q : Option AV → AH → Prop} : ∀ (n c s : Nat), c + n = N → Q (some (vi (nI (s + sm (fun i => fl (rb (lnD D W m r) i)) c n)))) (mW a f) →
    Z g mX10_runsOf 11 Q 5 [some (vr 0), some (vi (nI r)), some (vi (nI N)), some (vi (nI s)), some (vi (nI c))] [] (mW a f) := by
  intro n
  induction n with
  | zero =>
    intro c s h1 hQ
    refine Z_go kX10_runsOf okX10 [5] 80 ?_
    refine ⟨fun _ => hQ, fun (h : ¬ nI N ≤ nI c) => absurd (nI_le (by omega) (by omega)) h⟩
  | succ n ih =>
    intro c s h1 hQ
    have go : ∀ b : Bool, rb (lnD D W m r) c = b → Z g mX10_runsOf 11 Q 41 [some (vr 0), some (vi (nI r)), some (vi (nI N)), some (vi (nI s)), some (vi (nI c))] [vi (nI (fl b)), vi (nI s)] (mW a f) := by
      intro b hb
      refine Z_go kX10_runsOf okX10 [5] 80 ?_
      refine (m_flag b).use ?_
      have k := ih (c + 1) (s + fl b) (by omega) (by rw [← hb]; simpa [sm, Nat.add_assoc] using hQ)
      rw [nI_a1 c, ← nI_add s] at k
      exact k
    refine Z_go kX10_runsOf okX10 [5, 41] 80 ?_
    refine ⟨fun (h : nI N ≤ nI c) => ?_, fun _ => ?_⟩
    · rw [nI_leI (by omega) (by omega)] at h; omega
    · refine ⟨fun (h0 : nI c = nI 0) => ?_, fun (h0 : ¬ nI c = nI 0) => ?_⟩
      · rw [nI_eq (by omega) (by omega)] at h0
        exact go true (by simp [rb, h0])
      · rw [nI_eq (by omega) (by omega)] at h0
        refine ⟨rfl, (m_lineOf hs hR hW hm hr (show c < W by omega)).use ?_⟩
        have hc := m_lineOf (g := g) (f := f) hs hR hW hm hr (show c - 1 < W by omega)
        rw [← pk_sub (by omega)] at hc
        refine ⟨rfl, hc.use ?_⟩
        refine ⟨fun (h3 : lnD D W m r c = lnD D W m r (c - 1)) => go false (by simp [rb, h0, h3]), fun (h3 : ¬ lnD D W m r c = lnD D W m r (c - 1)) => go true (by simp [rb, h3])⟩
theorem m_runsOf (hs : HM (a 1) R W m D) (hR : R ≤ 12) (hW : W ≤ 16) (hm : m ≤ 1) {r N : Nat} (hr : r < R) (hN : N ≤ W) : Dt g mX10_runsOf [vr 0, vi (nI r), vi (nI N)] (mW a f) (some (vi (nI (runsL (lnD D W m r) N)))) (mW a f) := by
  refine Ev_of omX10_runsOf.1 (Nat.le_of_ble_eq_true rfl) ?_
  refine Z_go kX10_runsOf okX10 [5] 80 ?_
  refine runsOf_loopM hs hR hW hm hr hN N 0 0 (by omega) ⟨?_, rfl⟩
  rw [Nat.zero_add]
  rfl
end MOD
