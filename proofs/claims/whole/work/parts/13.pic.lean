/-! contracts that are determined -/
def Dt (g : GG) (me : ME) (vs : List AV) (A : AH) (r : Option AV) (A' : AH) : Prop := Ev g me vs A (fun r' B => r' = r ∧ B = A')
theorem Dt.use {g : GG} {me : ME} {vs : List AV} {A A' : AH} {r : Option AV} {Q : Option AV → AH → Prop} (h : Dt g me vs A r A') (k : Q r A') : Ev g me vs A Q := Ev.mono h (fun r' B _ e => by rw [e.1, e.2]; exact k)
theorem Dt.fr {g : GG} {me : ME} {vs : List AV} {A A' B : AH} {r : Option AV} {Q : Option AV → AH → Prop} (is : List Nat) (h : Dt g me vs A r A') (hnd : va_nd is = true) (hbd : is.length ≤ 1000) (hB : is.map (fun i => B[i]?) = A.map (fun c => some (renC is c))) (k : Q (r.map (renV is)) (put is is A' B)) : Ev g me (vs.map (renV is)) B Q :=
  Ev.fr is h hnd hbd hB (fun r' C _ e => by rw [e.1, e.2]; exact k)
/-! sums, all, the first -/
def sm (f : Nat → Nat) : Nat → Nat → Nat
  | _, 0 => 0
  | c, n + 1 => f c + sm f (c + 1) n
def al (p : Nat → Bool) : Nat → Nat → Bool
  | _, 0 => true
  | c, n + 1 => p c && al p (c + 1) n
def fs1 (p : Nat → Bool) : Nat → Nat → Option Nat
  | _, 0 => none
  | c, n + 1 => if p c then some c else fs1 p (c + 1) n
def fl (b : Bool) : Nat := if b then 1 else 0
theorem sm_le {f : Nat → Nat} {k : Nat} : ∀ (n c : Nat), (∀ i, c ≤ i → i < c + n → f i ≤ k) → sm f c n ≤ k * n := by
  intro n
  induction n with
  | zero => intro c _; simp [sm]
  | succ n ih =>
    intro c h
    have h1 := h c (Nat.le_refl _) (by omega)
    have h2 := ih (c + 1) (fun i a b => h i (by omega) (by omega))
    simp only [sm, Nat.mul_succ]
    omega
theorem nI_a1 (a : Nat) : nI (a + 1) = nI a + nI 1 := (nI_add a 1).symm
theorem fl_le (b : Bool) : fl b ≤ 1 := by cases b <;> decide
/-! the picture -/
def plc (W m r i : Nat) : Nat := if m = 1 ∧ r % 2 = 1 then W - 1 - i else i
theorem plc_lt {W m r i : Nat} (h : i < W) : plc W m r i < W := by unfold plc; split <;> omega
/-- NONE, or a number -/
def oI (o : Option Nat) : Int32 := match o with
  | none => -nI 4
  | some k => nI k
def pW (R W m : Nat) (b : Nat → Int32) : AH := [ob 2 [vr 1, vi (nI R), vi (nI W), vi (nI m)], ar 0 192 b]
section PIC
variable {g : GG} {R W m : Nat} {b : Nat → Int32}
theorem c_size (hR : R ≤ 12) (hW : W ≤ 16) : Dt g mX2_size [vr 0] (pW R W m b) (some (vi (nI (R * W)))) (pW R W m b) := by
  refine Ev_of omX2_size.1 (Nat.le_of_ble_eq_true rfl) ?_
  refine Z_go kX2_size okX2 [] 30 ?_
  refine ⟨?_, rfl⟩
  rw [pk_mul]
def hasRow (R : Nat) (r : Int32) : Bool := decide (¬ r < 0 ∧ r < nI R)
theorem c_hasRow (r : Int32) : Dt g mX2_hasRow [vr 0, vi r] (pW R W m b) (some (vi (nI (fl (hasRow R r))))) (pW R W m b) := by
  refine Ev_of omX2_hasRow.1 (Nat.le_of_ble_eq_true rfl) ?_
  refine Z_go kX2_hasRow okX2 [] 30 ?_
  refine ⟨fun (h : r < 0) => ?_, fun (h : ¬ r < 0) => ⟨fun (h2 : nI R ≤ r) => ?_, fun (h2 : ¬ nI R ≤ r) => ?_⟩⟩
  · refine ⟨Or.inl rfl, ?_, rfl⟩
    simp [hasRow, h, fl]
  · refine ⟨Or.inl rfl, ?_, rfl⟩
    have : ¬ r < nI R := Int32.not_lt.mpr h2
    simp [hasRow, this, fl]
  · refine ⟨Or.inr rfl, ?_, rfl⟩
    have : r < nI R := Int32.not_le.mp h2
    simp [hasRow, this, h, fl]
/-- the beads from the left, in rows -/
def Hd (b : Nat → Int32) (D : Nat → Nat → Int32) (R W : Nat) : Prop := ∀ r c, r < R → c < W → b (r * 16 + c) = D r c
def lnD (D : Nat → Nat → Int32) (W m r i : Nat) : Int32 := D r (plc W m r i)
variable {D : Nat → Nat → Int32}
theorem c_colourAt {r c : Nat} (hb : Hd b D R W) (hR : R ≤ 12) (hW : W ≤ 16) (hr : r < R) (hc : c < W) : Dt g mX2_colourAt [vr 0, vi (nI r), vi (nI c)] (pW R W m b) (some (vi (D r c))) (pW R W m b) := by
  refine Ev_of omX2_colourAt.1 (Nat.le_of_ble_eq_true rfl) ?_
  refine Z_go kX2_colourAt okX2 [] 80 ?_
  have e : nI r * nI 16 + nI c = nI (r * 16 + c) := by rw [pk_mul, nI_add]
  refine ⟨by rw [e]; exact vp_in_nI (by omega) (by omega), ?_, rfl⟩
  rw [e, nI_clamp (by omega), hb r c hr hc]
theorem c_put {r c : Nat} (x : Int32) (hr : r < 12) (hc : c < 16) : Dt g mX2_put [vr 0, vi (nI r), vi (nI c), vi x] (pW R W m b) none (pW R W m (upd b (r * 16 + c) x)) := by
  refine Ev_of omX2_put.1 (Nat.le_of_ble_eq_true rfl) ?_
  refine Z_go kX2_put okX2 [] 30 ?_
  have e : nI r * nI 16 + nI c = nI (r * 16 + c) := by rw [pk_mul, nI_add]
  refine ⟨by rw [e]; exact vp_in_nI (by omega) (by omega), rfl, ?_⟩
  rw [e, nI_clamp (by omega)]
  rfl
theorem c_placeOf {r i : Nat} (hr : r < 12) (hW : W ≤ 16) (hi : i < W) (hm : m ≤ 1) : Dt g mX2_placeOf [vr 0, vi (nI r), vi (nI i)] (pW R W m b) (some (vi (nI (plc W m r i)))) (pW R W m b) := by
  refine Ev_of omX2_placeOf.1 (Nat.le_of_ble_eq_true rfl) ?_
  refine Z_go kX2_placeOf okX2 [] 30 ?_
  have e2 : nI r - nI r / nI 2 * nI 2 = nI (r % 2) := pk_rem (by omega) (by omega) (by omega)
  refine ⟨fun (h : ¬ nI m = nI 1) => ?_, fun (h : ¬ ¬ nI m = nI 1) => ⟨by decide, fun (h2 : ¬ nI r - nI r / nI 2 * nI 2 = nI 1) => ?_, fun (h2 : ¬ ¬ nI r - nI r / nI 2 * nI 2 = nI 1) => ?_⟩⟩
  · refine ⟨?_, rfl⟩
    rw [nI_eq (by omega) (by omega)] at h
    simp [plc, h]
  · refine ⟨?_, rfl⟩
    rw [e2, nI_eq (by omega) (by omega)] at h2
    simp [plc, h2]
  · refine ⟨?_, rfl⟩
    rw [e2, nI_eq (by omega) (by omega)] at h2
    rw [nI_eq (by omega) (by omega)] at h
    rw [pk_sub (by omega), pk_sub (by omega)]
    have h3 : m = 1 := by omega
    have h4 : r % 2 = 1 := by omega
    simp [plc, h3, h4]
theorem c_readAt {r i : Nat} (hb : Hd b D R W) (hR : R ≤ 12) (hW : W ≤ 16) (hr : r < R) (hi : i < W) (hm : m ≤ 1) : Dt g mX2_readAt [vr 0, vi (nI r), vi (nI i)] (pW R W m b) (some (vi (lnD D W m r i))) (pW R W m b) := by
  refine Ev_of omX2_readAt.1 (Nat.le_of_ble_eq_true rfl) ?_
  refine Z_go kX2_readAt okX2 [] 80 ?_
  refine ⟨rfl, (c_placeOf (by omega) hW hi hm).use ?_⟩
  have hp := plc_lt (m := m) (r := r) hi
  have e : nI r * nI 16 + nI (plc W m r i) = nI (r * 16 + plc W m r i) := by rw [pk_mul, nI_add]
  refine ⟨by rw [e]; exact vp_in_nI (by omega) (by omega), ?_, rfl⟩
  rw [e, nI_clamp (by omega), hb r _ hr hp]
  rfl
def manyR (D : Nat → Nat → Int32) (W r : Nat) (x : Int32) : Nat := sm (fun c => fl (decide (D r c = x))) 0 W
theorem manyR_le {W r : Nat} {x : Int32} : manyR D W r x ≤ W := by
  have := sm_le (f := fun c => fl (decide (D r c = x))) (k := 1) W 0 (fun i _ _ => fl_le _)
  unfold manyR; omega
theorem manyIn_loop {r : Nat} {x : Int32} {Q : Option AV → AH → Prop} (hb : Hd b D R W) (hR : R ≤ 12) (hr : r < R) (hW : W ≤ 16) : ∀ (n c s : Nat), c + n = W → Q (some (vi (nI (s + sm (fun c => fl (decide (D r c = x))) c n)))) (pW R W m b) →
    Z g mX2_manyIn 2 Q 5 [some (vr 0), some (vi (nI r)), some (vi x), some (vi (nI s)), some (vi (nI c))] [] (pW R W m b) := by
  intro n
  induction n with
  | zero =>
    intro c s h1 hQ
    refine Z_go kX2_manyIn okX2 [5] 80 ?_
    refine ⟨fun (h : nI W ≤ nI c) => hQ, fun (h : ¬ nI W ≤ nI c) => ?_⟩
    exact absurd (nI_le (by omega) (by omega)) h
  | succ n ih =>
    intro c s h1 hQ
    refine Z_go kX2_manyIn okX2 [5] 80 ?_
    refine ⟨fun (h : nI W ≤ nI c) => ?_, fun (h : ¬ nI W ≤ nI c) => ?_⟩
    · rw [nI_leI (by omega) (by omega)] at h; omega
    · refine ⟨rfl, (c_colourAt hb hR hW hr (by omega)).use ?_⟩
      refine ⟨fun (h3 : ¬ D r c = x) => ?_, fun (h3 : ¬ ¬ D r c = x) => ?_⟩
      · have k := ih (c + 1) s (by omega) (by simpa [sm, fl, h3] using hQ)
        rw [nI_a1 c] at k
        exact k
      · have h3 := Classical.not_not.mp h3
        have k := ih (c + 1) (s + 1) (by omega) (by simpa [sm, fl, h3, Nat.add_assoc] using hQ)
        rw [nI_a1 c, nI_a1 s] at k
        exact k
theorem c_manyIn {r : Nat} (x : Int32) (hb : Hd b D R W) (hR : R ≤ 12) (hr : r < R) (hW : W ≤ 16) : Dt g mX2_manyIn [vr 0, vi (nI r), vi x] (pW R W m b) (some (vi (nI (manyR D W r x)))) (pW R W m b) := by
  refine Ev_of omX2_manyIn.1 (Nat.le_of_ble_eq_true rfl) ?_
  refine Z_go kX2_manyIn okX2 [5] 80 ?_
  refine manyIn_loop hb hR hr hW W 0 0 (by omega) ⟨?_, rfl⟩
  rw [Nat.zero_add]
  rfl
def manyA (D : Nat → Nat → Int32) (R W : Nat) (x : Int32) : Nat := sm (fun r => manyR D W r x) 0 R
theorem manyInAll_loop {x : Int32} {Q : Option AV → AH → Prop} (hb : Hd b D R W) (hR : R ≤ 12) (hW : W ≤ 16) : ∀ (n c s : Nat), c + n = R → Q (some (vi (nI (s + sm (fun r => manyR D W r x) c n)))) (pW R W m b) →
    Z g mX2_manyInAll 2 Q 4 [some (vr 0), some (vi x), some (vi (nI s)), some (vi (nI c))] [] (pW R W m b) := by
  intro n
  induction n with
  | zero =>
    intro c s h1 hQ
    refine Z_go kX2_manyInAll okX2 [4] 80 ?_
    refine ⟨fun (h : nI R ≤ nI c) => hQ, fun (h : ¬ nI R ≤ nI c) => ?_⟩
    exact absurd (nI_le (by omega) (by omega)) h
  | succ n ih =>
    intro c s h1 hQ
    refine Z_go kX2_manyInAll okX2 [4] 80 ?_
    refine ⟨fun (h : nI R ≤ nI c) => ?_, fun (h : ¬ nI R ≤ nI c) => ?_⟩
    · rw [nI_leI (by omega) (by omega)] at h; omega
    · refine ⟨rfl, (c_manyIn x hb hR (by omega) hW).use ?_⟩
      have k := ih (c + 1) (s + manyR D W c x) (by omega) (by simpa [sm, Nat.add_assoc] using hQ)
      rw [nI_a1 c, ← nI_add s] at k
      exact k
theorem c_manyInAll (x : Int32) (hb : Hd b D R W) (hR : R ≤ 12) (hW : W ≤ 16) : Dt g mX2_manyInAll [vr 0, vi x] (pW R W m b) (some (vi (nI (manyA D R W x)))) (pW R W m b) := by
  refine Ev_of omX2_manyInAll.1 (Nat.le_of_ble_eq_true rfl) ?_
  refine Z_go kX2_manyInAll okX2 [4] 80 ?_
  refine manyInAll_loop hb hR hW R 0 0 (by omega) ⟨?_, rfl⟩
  rw [Nat.zero_add]
  rfl
theorem c_hasBead (r c : Int32) : Dt g mX2_hasBead [vr 0, vi r, vi c] (pW R W m b) (some (vi (nI (fl (hasRow R r && hasRow W c))))) (pW R W m b) := by
  refine Ev_of omX2_hasBead.1 (Nat.le_of_ble_eq_true rfl) ?_
  refine Z_go kX2_hasBead okX2 [] 80 ?_
  refine ⟨rfl, (c_hasRow r).use ?_⟩
  cases hh : hasRow R r with
  | false =>
    refine ⟨fun _ => ?_, fun h => ?_⟩
    · exact ⟨Or.inl rfl, rfl, rfl⟩
    · exact absurd (show nI (fl false) = 0 from rfl) h
  | true =>
    refine ⟨fun h => ?_, fun _ => ⟨fun (h : c < 0) => ?_, fun (h : ¬ c < 0) => ⟨fun (h2 : nI W ≤ c) => ?_, fun (h2 : ¬ nI W ≤ c) => ?_⟩⟩⟩
    · exact absurd (show nI 1 = 0 from h) (by decide)
    · refine ⟨Or.inl rfl, ?_, rfl⟩
      simp [hasRow, h, fl]
    · refine ⟨Or.inl rfl, ?_, rfl⟩
      have : ¬ c < nI W := Int32.not_lt.mpr h2
      simp [hasRow, this, fl]
    · refine ⟨Or.inr rfl, ?_, rfl⟩
      have : c < nI W := Int32.not_le.mp h2
      simp [hasRow, this, h, fl]
theorem sameBeads_loop {r s : Nat} {Q : Option AV → AH → Prop} (hb : Hd b D R W) (hR : R ≤ 12) (hW : W ≤ 16) (hr : r < R) (hs : s < R) : ∀ (n c : Nat), c + n = W → Q (some (vi (nI (fl (al (fun c => decide (D r c = D s c)) c n))))) (pW R W m b) →
    Z g mX2_sameBeads 2 Q 2 [some (vr 0), some (vi (nI r)), some (vi (nI s)), some (vi (nI c))] [] (pW R W m b) := by
  intro n
  induction n with
  | zero =>
    intro c h1 hQ
    refine Z_go kX2_sameBeads okX2 [2] 80 ?_
    refine ⟨fun (h : nI W ≤ nI c) => ⟨Or.inr rfl, hQ⟩, fun (h : ¬ nI W ≤ nI c) => ?_⟩
    exact absurd (nI_le (by omega) (by omega)) h
  | succ n ih =>
    intro c h1 hQ
    refine Z_go kX2_sameBeads okX2 [2] 80 ?_
    refine ⟨fun (h : nI W ≤ nI c) => ?_, fun (h : ¬ nI W ≤ nI c) => ?_⟩
    · rw [nI_leI (by omega) (by omega)] at h; omega
    · refine ⟨rfl, (c_colourAt hb hR hW hr (by omega)).use ?_⟩
      refine ⟨rfl, (c_colourAt hb hR hW hs (by omega)).use ?_⟩
      refine ⟨fun (h3 : D r c = D s c) => ?_, fun (h3 : ¬ D r c = D s c) => ⟨Or.inl rfl, ?_⟩⟩
      · have k := ih (c + 1) (by omega) (by simpa [al, h3] using hQ)
        rw [nI_a1 c] at k
        exact k
      · simpa [al, h3, fl] using hQ
theorem c_sameBeads {r s : Nat} (hb : Hd b D R W) (hR : R ≤ 12) (hW : W ≤ 16) (hr : r < R) (hs : s < R) : Dt g mX2_sameBeads [vr 0, vi (nI r), vi (nI s)] (pW R W m b) (some (vi (nI (fl (al (fun c => decide (D r c = D s c)) 0 W))))) (pW R W m b) := by
  refine Ev_of omX2_sameBeads.1 (Nat.le_of_ble_eq_true rfl) ?_
  refine Z_go kX2_sameBeads okX2 [2] 80 ?_
  exact sameBeads_loop hb hR hW hr hs W 0 (by omega) ⟨rfl, rfl⟩
/-- the lines of r and s are the same (s from its end, if t) -/
def smp (L : Nat → Nat → Int32) (W r s : Nat) (t : Bool) (i : Nat) : Bool := decide (L r i = L s (if t then W - 1 - i else i))
def sameL (L : Nat → Nat → Int32) (W r s : Nat) (t : Bool) : Bool := al (smp L W r s t) 0 W
theorem sameLine_loop {r s : Nat} {t : Bool} {Q : Option AV → AH → Prop} (hb : Hd b D R W) (hR : R ≤ 12) (hW : W ≤ 16) (hm : m ≤ 1) (hr : r < R) (hs : s < R) : ∀ (n c : Nat), c + n = W → Q (some (vi (nI (fl (al (smp (lnD D W m) W r s t) c n))))) (pW R W m b) →
    Z g mX2_sameLine 2 Q 3 [some (vr 0), some (vi (nI r)), some (vi (nI s)), some (vi (nI (fl t))), some (vi (nI c))] [] (pW R W m b) := by
  intro n
  induction n with
  | zero =>
    intro c h1 hQ
    refine Z_go kX2_sameLine okX2 [3] 80 ?_
    refine ⟨fun (h : nI W ≤ nI c) => ⟨Or.inr rfl, hQ⟩, fun (h : ¬ nI W ≤ nI c) => ?_⟩
    exact absurd (nI_le (by omega) (by omega)) h
  | succ n ih =>
    intro c h1 hQ
    refine Z_go kX2_sameLine okX2 [3] 80 ?_
    refine ⟨fun (h : nI W ≤ nI c) => ?_, fun (h : ¬ nI W ≤ nI c) => ?_⟩
    · rw [nI_leI (by omega) (by omega)] at h; omega
    · refine ⟨rfl, (c_readAt hb hR hW hr (by omega) hm).use ?_⟩
      cases t with
      | false =>
        refine ⟨fun _ => ?_, fun h => absurd rfl h⟩
        refine ⟨rfl, (c_readAt hb hR hW hs (by omega) hm).use ?_⟩
        refine ⟨fun (h3 : lnD D W m r c = lnD D W m s c) => ?_, fun (h3 : ¬ lnD D W m r c = lnD D W m s c) => ⟨Or.inl rfl, ?_⟩⟩
        · have k := ih (c + 1) (by omega) (by simpa [al, smp, h3] using hQ)
          rw [nI_a1 c] at k
          exact k
        · simpa [al, smp, h3, fl] using hQ
      | true =>
        refine ⟨fun h => absurd (show nI 1 = 0 from h) (by decide), fun _ => ?_⟩
        have e : nI W - nI 1 - nI c = nI (W - 1 - c) := by rw [pk_sub (by omega), pk_sub (by omega)]
        have hc := c_readAt (g := g) (i := W - 1 - c) hb hR hW hs (by omega) hm
        rw [← e] at hc
        refine ⟨rfl, hc.use ?_⟩
        refine ⟨fun (h3 : lnD D W m r c = lnD D W m s (W - 1 - c)) => ?_, fun (h3 : ¬ lnD D W m r c = lnD D W m s (W - 1 - c)) => ⟨Or.inl rfl, ?_⟩⟩
        · have k := ih (c + 1) (by omega) (by simpa [al, smp, h3] using hQ)
          rw [nI_a1 c] at k
          exact k
        · simpa [al, smp, h3, fl] using hQ
theorem c_sameLine {r s : Nat} {t : Bool} (hb : Hd b D R W) (hR : R ≤ 12) (hW : W ≤ 16) (hm : m ≤ 1) (hr : r < R) (hs : s < R) : Dt g mX2_sameLine [vr 0, vi (nI r), vi (nI s), vi (nI (fl t))] (pW R W m b) (some (vi (nI (fl (sameL (lnD D W m) W r s t))))) (pW R W m b) := by
  refine Ev_of omX2_sameLine.1 (Nat.le_of_ble_eq_true rfl) ?_
  refine Z_go kX2_sameLine okX2 [3] 80 ?_
  exact sameLine_loop hb hR hW hm hr hs W 0 (by omega) ⟨rfl, rfl⟩
/-- the first row of n whose line is that of r -/
def likeL (L : Nat → Nat → Int32) (W r n : Nat) (t : Bool) : Option Nat := fs1 (fun s => sameL L W r s t) 0 n
theorem fs1_some {p : Nat → Bool} : ∀ (n c k : Nat), fs1 p c n = some k → c ≤ k ∧ k < c + n ∧ p k = true := by
  intro n
  induction n with
  | zero => intro c k h; cases h
  | succ n ih =>
    intro c k h
    simp only [fs1] at h
    split at h
    · cases h; exact ⟨Nat.le_refl _, by omega, by assumption⟩
    · have := ih _ _ h; exact ⟨by omega, by omega, this.2.2⟩
theorem likeAhead_loop {r : Nat} {t : Bool} {Q : Option AV → AH → Prop} (hb : Hd b D R W) (hR : R ≤ 12) (hW : W ≤ 16) (hm : m ≤ 1) (hr : r < R) : ∀ (n c : Nat), c + n = r → Q (some (vi (oI (fs1 (fun s => sameL (lnD D W m) W r s t) c n)))) (pW R W m b) →
    Z g mX2_likeAhead 2 Q 2 [some (vr 0), some (vi (nI r)), some (vi (nI (fl t))), some (vi (nI c))] [] (pW R W m b) := by
  intro n
  induction n with
  | zero =>
    intro c h1 hQ
    refine Z_go kX2_likeAhead okX2 [2] 80 ?_
    refine ⟨fun (h : nI r ≤ nI c) => hQ, fun (h : ¬ nI r ≤ nI c) => ?_⟩
    exact absurd (nI_le (by omega) (by omega)) h
  | succ n ih =>
    intro c h1 hQ
    refine Z_go kX2_likeAhead okX2 [2] 80 ?_
    refine ⟨fun (h : nI r ≤ nI c) => ?_, fun (h : ¬ nI r ≤ nI c) => ?_⟩
    · rw [nI_leI (by omega) (by omega)] at h; omega
    · refine ⟨rfl, (c_sameLine hb hR hW hm hr (by omega)).use ?_⟩
      cases h3 : sameL (lnD D W m) W r c t with
      | false =>
        refine ⟨fun _ => ?_, fun h => absurd rfl h⟩
        have k := ih (c + 1) (by omega) (by simpa [fs1, h3] using hQ)
        rw [nI_a1 c] at k
        exact k
      | true =>
        refine ⟨fun h => absurd (show nI 1 = 0 from h) (by decide), fun _ => ?_⟩
        show Q (some (vi (nI c))) (pW R W m b)
        simpa [fs1, h3, oI] using hQ
theorem c_likeAhead {r : Nat} {t : Bool} (hb : Hd b D R W) (hR : R ≤ 12) (hW : W ≤ 16) (hm : m ≤ 1) (hr : r < R) : Dt g mX2_likeAhead [vr 0, vi (nI r), vi (nI (fl t))] (pW R W m b) (some (vi (oI (likeL (lnD D W m) W r r t)))) (pW R W m b) := by
  refine Ev_of omX2_likeAhead.1 (Nat.le_of_ble_eq_true rfl) ?_
  refine Z_go kX2_likeAhead okX2 [2] 80 ?_
  exact likeAhead_loop hb hR hW hm hr r 0 (by omega) ⟨rfl, rfl⟩
theorem oI_none {o : Option Nat} (h : ∀ k, o = some k → k < 2 ^ 31) : oI o = -nI 4 ↔ o = none := by
  cases o with
  | none => simp [oI]
  | some k =>
    have hk := h k rfl
    simp only [oI, reduceCtorEq, iff_false]
    intro e
    have e2 := congrArg Int32.toInt e
    rw [nI_toInt hk] at e2
    have : (-nI 4).toInt = -4 := by decide +kernel
    omega
theorem likeL_lt {L : Nat → Nat → Int32} {W r n k : Nat} {t : Bool} (h : likeL L W r n t = some k) : k < n := by
  have := fs1_some _ _ _ h; omega
/-- the first row whose line is that of r, itself at last -/
def firstL (L : Nat → Nat → Int32) (W r : Nat) : Nat := (likeL L W r r false).getD r
theorem c_firstLike {r : Nat} (hb : Hd b D R W) (hR : R ≤ 12) (hW : W ≤ 16) (hm : m ≤ 1) (hr : r < R) : Dt g mX2_firstLike [vr 0, vi (nI r)] (pW R W m b) (some (vi (nI (firstL (lnD D W m) W r)))) (pW R W m b) := by
  refine Ev_of omX2_firstLike.1 (Nat.le_of_ble_eq_true rfl) ?_
  refine Z_go kX2_firstLike okX2 [] 80 ?_
  refine ⟨rfl, (c_likeAhead (t := false) hb hR hW hm hr).use ?_⟩
  have hn := oI_none (o := likeL (lnD D W m) W r r false) (fun k h => by have := likeL_lt h; omega)
  refine ⟨fun (h : ¬ oI (likeL (lnD D W m) W r r false) = -nI 4) => ?_, fun (h : ¬ ¬ oI (likeL (lnD D W m) W r r false) = -nI 4) => ?_⟩
  · refine ⟨?_, rfl⟩
    rw [hn] at h
    unfold firstL
    cases hl : likeL (lnD D W m) W r r false with
    | none => exact absurd hl h
    | some k => rfl
  · refine ⟨?_, rfl⟩
    rw [hn] at h
    have h := Classical.not_not.mp h
    unfold firstL
    rw [h]
    rfl
/-- how many rows have the line of r -/
def likesL (L : Nat → Nat → Int32) (W r R : Nat) : Nat := sm (fun s => fl (sameL L W r s false)) 0 R
theorem manyLike_loop {r : Nat} {Q : Option AV → AH → Prop} (hb : Hd b D R W) (hR : R ≤ 12) (hW : W ≤ 16) (hm : m ≤ 1) (hr : r < R) : ∀ (n c s : Nat), c + n = R → Q (some (vi (nI (s + sm (fun s => fl (sameL (lnD D W m) W r s false)) c n)))) (pW R W m b) →
    Z g mX2_manyLike 2 Q 4 [some (vr 0), some (vi (nI r)), some (vi (nI s)), some (vi (nI c))] [] (pW R W m b) := by
  intro n
  induction n with
  | zero =>
    intro c s h1 hQ
    refine Z_go kX2_manyLike okX2 [4] 80 ?_
    refine ⟨fun (h : nI R ≤ nI c) => hQ, fun (h : ¬ nI R ≤ nI c) => ?_⟩
    exact absurd (nI_le (by omega) (by omega)) h
  | succ n ih =>
    intro c s h1 hQ
    refine Z_go kX2_manyLike okX2 [4] 80 ?_
    refine ⟨fun (h : nI R ≤ nI c) => ?_, fun (h : ¬ nI R ≤ nI c) => ?_⟩
    · rw [nI_leI (by omega) (by omega)] at h; omega
    · refine ⟨rfl, (c_sameLine (t := false) hb hR hW hm hr (by omega)).use ?_⟩
      cases h3 : sameL (lnD D W m) W r c false with
      | false =>
        refine ⟨fun _ => ?_, fun h => absurd rfl h⟩
        have k := ih (c + 1) s (by omega) (by simpa [sm, h3, fl] using hQ)
        rw [nI_a1 c] at k
        exact k
      | true =>
        refine ⟨fun h => absurd (show nI 1 = 0 from h) (by decide), fun _ => ?_⟩
        have k := ih (c + 1) (s + 1) (by omega) (by simpa [sm, h3, fl, Nat.add_assoc] using hQ)
        rw [nI_a1 c, nI_a1 s] at k
        exact k
theorem c_manyLike {r : Nat} (hb : Hd b D R W) (hR : R ≤ 12) (hW : W ≤ 16) (hm : m ≤ 1) (hr : r < R) : Dt g mX2_manyLike [vr 0, vi (nI r)] (pW R W m b) (some (vi (nI (likesL (lnD D W m) W r R)))) (pW R W m b) := by
  refine Ev_of omX2_manyLike.1 (Nat.le_of_ble_eq_true rfl) ?_
  refine Z_go kX2_manyLike okX2 [4] 80 ?_
  refine manyLike_loop hb hR hW hm hr R 0 0 (by omega) ⟨?_, rfl⟩
  rw [Nat.zero_add]
  rfl
/-- lines of which there is no like one ahead -/
def unlikeL (L : Nat → Nat → Int32) (W R : Nat) : Nat := sm (fun r => fl (likeL L W r r false).isNone) 0 R
theorem linesUnlike_loop {Q : Option AV → AH → Prop} (hb : Hd b D R W) (hR : R ≤ 12) (hW : W ≤ 16) (hm : m ≤ 1) : ∀ (n c s : Nat), c + n = R → Q (some (vi (nI (s + sm (fun r => fl (likeL (lnD D W m) W r r false).isNone) c n)))) (pW R W m b) →
    Z g mX2_linesUnlike 2 Q 4 [some (vr 0), some (vi (nI s)), some (vi (nI c))] [] (pW R W m b) := by
  intro n
  induction n with
  | zero =>
    intro c s h1 hQ
    refine Z_go kX2_linesUnlike okX2 [4] 80 ?_
    refine ⟨fun (h : nI R ≤ nI c) => hQ, fun (h : ¬ nI R ≤ nI c) => ?_⟩
    exact absurd (nI_le (by omega) (by omega)) h
  | succ n ih =>
    intro c s h1 hQ
    refine Z_go kX2_linesUnlike okX2 [4] 80 ?_
    refine ⟨fun (h : nI R ≤ nI c) => ?_, fun (h : ¬ nI R ≤ nI c) => ?_⟩
    · rw [nI_leI (by omega) (by omega)] at h; omega
    · refine ⟨rfl, (c_likeAhead (t := false) hb hR hW hm (by omega)).use ?_⟩
      have hn := oI_none (o := likeL (lnD D W m) W c c false) (fun k h => by have := likeL_lt h; omega)
      refine ⟨fun (h : ¬ oI (likeL (lnD D W m) W c c false) = -nI 4) => ?_, fun (h : ¬ ¬ oI (likeL (lnD D W m) W c c false) = -nI 4) => ?_⟩
      · rw [hn] at h
        have h3 : (likeL (lnD D W m) W c c false).isNone = false := by
          cases hl : likeL (lnD D W m) W c c false with
          | none => exact absurd hl h
          | some k => rfl
        have k := ih (c + 1) s (by omega) (by simpa [sm, h3, fl] using hQ)
        rw [nI_a1 c] at k
        exact k
      · rw [hn] at h
        have h := Classical.not_not.mp h
        have k := ih (c + 1) (s + 1) (by omega) (by simpa [sm, h, fl, Nat.add_assoc] using hQ)
        rw [nI_a1 c, nI_a1 s] at k
        exact k
theorem c_linesUnlike (hb : Hd b D R W) (hR : R ≤ 12) (hW : W ≤ 16) (hm : m ≤ 1) : Dt g mX2_linesUnlike [vr 0] (pW R W m b) (some (vi (nI (unlikeL (lnD D W m) W R)))) (pW R W m b) := by
  refine Ev_of omX2_linesUnlike.1 (Nat.le_of_ble_eq_true rfl) ?_
  refine Z_go kX2_linesUnlike okX2 [4] 80 ?_
  refine linesUnlike_loop hb hR hW hm R 0 0 (by omega) ⟨?_, rfl⟩
  rw [Nat.zero_add]
  rfl
/-- a run begins at i -/
def rb (l : Nat → Int32) (i : Nat) : Bool := decide (i = 0) || decide (¬ l i = l (i - 1))
def runsL (l : Nat → Int32) (n : Nat) : Nat := sm (fun i => fl (rb l i)) 0 n
theorem runsOf_loop {r : Nat} {Q : Option AV → AH → Prop} (hb : Hd b D R W) (hR : R ≤ 12) (hW : W ≤ 16) (hm : m ≤ 1) (hr : r < R) : ∀ (n c s : Nat), c + n = W → Q (some (vi (nI (s + sm (fun i => fl (rb (lnD D W m r) i)) c n)))) (pW R W m b) →
    Z g mX2_runsOf 2 Q 4 [some (vr 0), some (vi (nI r)), some (vi (nI s)), some (vi (nI c))] [] (pW R W m b) := by
  intro n
  induction n with
  | zero =>
    intro c s h1 hQ
    refine Z_go kX2_runsOf okX2 [4] 80 ?_
    refine ⟨fun (h : nI W ≤ nI c) => hQ, fun (h : ¬ nI W ≤ nI c) => ?_⟩
    exact absurd (nI_le (by omega) (by omega)) h
  | succ n ih =>
    intro c s h1 hQ
    refine Z_go kX2_runsOf okX2 [4] 80 ?_
    refine ⟨fun (h : nI W ≤ nI c) => ?_, fun (h : ¬ nI W ≤ nI c) => ?_⟩
    · rw [nI_leI (by omega) (by omega)] at h; omega
    · refine ⟨fun (h0 : nI c = nI 0) => ?_, fun (h0 : ¬ nI c = nI 0) => ?_⟩
      · rw [nI_eq (by omega) (by omega)] at h0
        have k := ih (c + 1) (s + 1) (by omega) (by simpa [sm, rb, h0, fl, Nat.add_assoc] using hQ)
        rw [nI_a1 c, nI_a1 s] at k
        exact k
      · rw [nI_eq (by omega) (by omega)] at h0
        refine ⟨rfl, (c_readAt hb hR hW hr (by omega) hm).use ?_⟩
        have hc := c_readAt (g := g) (i := c - 1) hb hR hW hr (by omega) hm
        rw [← pk_sub (by omega)] at hc
        refine ⟨rfl, hc.use ?_⟩
        refine ⟨fun (h3 : lnD D W m r c = lnD D W m r (c - 1)) => ?_, fun (h3 : ¬ lnD D W m r c = lnD D W m r (c - 1)) => ?_⟩
        · have k := ih (c + 1) s (by omega) (by simpa [sm, rb, h0, h3, fl] using hQ)
          rw [nI_a1 c] at k
          exact k
        · have k := ih (c + 1) (s + 1) (by omega) (by simpa [sm, rb, h0, h3, fl, Nat.add_assoc] using hQ)
          rw [nI_a1 c, nI_a1 s] at k
          exact k
theorem c_runsOf {r : Nat} (hb : Hd b D R W) (hR : R ≤ 12) (hW : W ≤ 16) (hm : m ≤ 1) (hr : r < R) : Dt g mX2_runsOf [vr 0, vi (nI r)] (pW R W m b) (some (vi (nI (runsL (lnD D W m r) W)))) (pW R W m b) := by
  refine Ev_of omX2_runsOf.1 (Nat.le_of_ble_eq_true rfl) ?_
  refine Z_go kX2_runsOf okX2 [4] 80 ?_
  refine runsOf_loop hb hR hW hm hr W 0 0 (by omega) ⟨?_, rfl⟩
  rw [Nat.zero_add]
  rfl
def runsA (L : Nat → Nat → Int32) (W R : Nat) : Nat := sm (fun r => runsL (L r) W) 0 R
theorem runsInAll_loop {Q : Option AV → AH → Prop} (hb : Hd b D R W) (hR : R ≤ 12) (hW : W ≤ 16) (hm : m ≤ 1) : ∀ (n c s : Nat), c + n = R → Q (some (vi (nI (s + sm (fun r => runsL (lnD D W m r) W) c n)))) (pW R W m b) →
    Z g mX2_runsInAll 2 Q 4 [some (vr 0), some (vi (nI s)), some (vi (nI c))] [] (pW R W m b) := by
  intro n
  induction n with
  | zero =>
    intro c s h1 hQ
    refine Z_go kX2_runsInAll okX2 [4] 80 ?_
    refine ⟨fun (h : nI R ≤ nI c) => hQ, fun (h : ¬ nI R ≤ nI c) => ?_⟩
    exact absurd (nI_le (by omega) (by omega)) h
  | succ n ih =>
    intro c s h1 hQ
    refine Z_go kX2_runsInAll okX2 [4] 80 ?_
    refine ⟨fun (h : nI R ≤ nI c) => ?_, fun (h : ¬ nI R ≤ nI c) => ?_⟩
    · rw [nI_leI (by omega) (by omega)] at h; omega
    · refine ⟨rfl, (c_runsOf hb hR hW hm (by omega)).use ?_⟩
      have k := ih (c + 1) (s + runsL (lnD D W m c) W) (by omega) (by simpa [sm, Nat.add_assoc] using hQ)
      rw [nI_a1 c, ← nI_add s] at k
      exact k
theorem c_runsInAll (hb : Hd b D R W) (hR : R ≤ 12) (hW : W ≤ 16) (hm : m ≤ 1) : Dt g mX2_runsInAll [vr 0] (pW R W m b) (some (vi (nI (runsA (lnD D W m) W R)))) (pW R W m b) := by
  refine Ev_of omX2_runsInAll.1 (Nat.le_of_ble_eq_true rfl) ?_
  refine Z_go kX2_runsInAll okX2 [4] 80 ?_
  refine runsInAll_loop hb hR hW hm R 0 0 (by omega) ⟨?_, rfl⟩
  rw [Nat.zero_add]
  rfl
end PIC
