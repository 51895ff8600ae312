/-! contracts that are determined -/
def Dt (g : GG) (me : ME) (vs : List AV) (A : AH) (r : Option AV) (A' : AH) : Prop := Ev g me vs A (fun r' B => r' = r ∧ B = A')
theorem Dt.use {g : GG} {me : ME} {vs : List AV} {A A' : AH} {r : Option AV} {Q : Option AV → AH → Prop} (h : Dt g me vs A r A') (k : Q r A') : Ev g me vs A Q := Ev.mono h (fun r' B _ e => by rw [e.1, e.2]; exact k)
theorem Dt.fr {g : GG} {me : ME} {vs : List AV} {A A' B : AH} {r : Option AV} {Q : Option AV → AH → Prop} (is : List Nat) (h : Dt g me vs A r A') (hnd : va_nd is = true) (hbd : is.length ≤ 1000) (hB : is.map (fun i => B[i]?) = A.map (fun c => some (renC is c))) (k : Q (r.map (renV is)) (put is is A' B)) : Ev g me (vs.map (renV is)) B Q :=
  Ev.fr is h hnd hbd hB (fun r' C _ e => by rw [e.1, e.2]; exact k)
/-! sums, all, the first -/
def sm (f : Nat → Nat) : Nat → Nat → Nat
  | _, 0 => 0
  | c, n + 1 => f c + sm f (c + 1) n
def al (p : Nat → Bool) : Nat → Nat → Bool
  | _, 0 => true
  | c, n + 1 => p c && al p (c + 1) n
def fs1 (p : Nat → Bool) : Nat → Nat → Option Nat
  | _, 0 => none
  | c, n + 1 => if p c then some c else fs1 p (c + 1) n
def fl (b : Bool) : Nat := if b then 1 else 0
theorem sm_le {f : Nat → Nat} {k : Nat} : ∀ (n c : Nat), (∀ i, c ≤ i → i < c + n → f i ≤ k) → sm f c n ≤ k * n := by
  intro n
  induction n with
  | zero => intro c _; simp [sm]
  | succ n ih =>
    intro c h
    have h1 := h c (Nat.le_refl _) (by omega)
    have h2 := ih (c + 1) (fun i a b => h i (by omega) (by omega))
    simp only [sm, Nat.mul_succ]
    omega
theorem nI_a1 (a : Nat) : nI (a + 1) = nI a + nI 1 := (nI_add a 1).symm
theorem fl_le (b : Bool) : fl b ≤ 1 := by cases b <;> decide
/-! the picture -/
def pW (R W m : Nat) (b : Nat → Int32) : AH := [ob 2 [vr 1, vi (nI R), vi (nI W), vi (nI m)], ar 0 192 b]
section PIC
variable {g : GG} {R W m : Nat} {b : Nat → Int32}
theorem c_size (hR : R ≤ 12) (hW : W ≤ 16) : Dt g mX2_size [vr 0] (pW R W m b) (some (vi (nI (R * W)))) (pW R W m b) := by
  refine Ev_of omX2_size.1 (Nat.le_of_ble_eq_true rfl) ?_
  refine Z_go kX2_size okX2 [] 30 ?_
  refine ⟨?_, rfl⟩
  rw [pk_mul]
def hasRow (R : Nat) (r : Int32) : Bool := decide (¬ r < 0 ∧ r < nI R)
theorem c_hasRow (r : Int32) : Dt g mX2_hasRow [vr 0, vi r] (pW R W m b) (some (vi (nI (fl (hasRow R r))))) (pW R W m b) := by
  refine Ev_of omX2_hasRow.1 (Nat.le_of_ble_eq_true rfl) ?_
  refine Z_go kX2_hasRow okX2 [] 30 ?_
  refine ⟨fun (h : r < 0) => ?_, fun (h : ¬ r < 0) => ⟨fun (h2 : nI R ≤ r) => ?_, fun (h2 : ¬ nI R ≤ r) => ?_⟩⟩
  · refine ⟨Or.inl rfl, ?_, rfl⟩
    simp [hasRow, h, fl]
  · refine ⟨Or.inl rfl, ?_, rfl⟩
    have : ¬ r < nI R := Int32.not_lt.mpr h2
    simp [hasRow, this, fl]
  · refine ⟨Or.inr rfl, ?_, rfl⟩
    have : r < nI R := Int32.not_le.mp h2
    simp [hasRow, this, h, fl]
theorem c_colourAt {r c : Nat} (hr : r < 12) (hc : c < 16) : Dt g mX2_colourAt [vr 0, vi (nI r), vi (nI c)] (pW R W m b) (some (vi (b (r * 16 + c)))) (pW R W m b) := by
  refine Ev_of omX2_colourAt.1 (Nat.le_of_ble_eq_true rfl) ?_
  refine Z_go kX2_colourAt okX2 [] 30 ?_
  have e : nI r * nI 16 + nI c = nI (r * 16 + c) := by rw [pk_mul, nI_add]
  refine ⟨by rw [e]; exact vp_in_nI (by omega) (by omega), ?_, rfl⟩
  rw [e, nI_clamp (by omega)]
theorem c_put {r c : Nat} (x : Int32) (hr : r < 12) (hc : c < 16) : Dt g mX2_put [vr 0, vi (nI r), vi (nI c), vi x] (pW R W m b) none (pW R W m (upd b (r * 16 + c) x)) := by
  refine Ev_of omX2_put.1 (Nat.le_of_ble_eq_true rfl) ?_
  refine Z_go kX2_put okX2 [] 30 ?_
  have e : nI r * nI 16 + nI c = nI (r * 16 + c) := by rw [pk_mul, nI_add]
  refine ⟨by rw [e]; exact vp_in_nI (by omega) (by omega), rfl, ?_⟩
  rw [e, nI_clamp (by omega)]
  rfl
def plc (W m r i : Nat) : Nat := if m = 1 ∧ r % 2 = 1 then W - 1 - i else i
theorem plc_lt {W m r i : Nat} (h : i < W) : plc W m r i < W := by unfold plc; split <;> omega
theorem c_placeOf {r i : Nat} (hr : r < 12) (hW : W ≤ 16) (hi : i < W) (hm : m ≤ 1) : Dt g mX2_placeOf [vr 0, vi (nI r), vi (nI i)] (pW R W m b) (some (vi (nI (plc W m r i)))) (pW R W m b) := by
  refine Ev_of omX2_placeOf.1 (Nat.le_of_ble_eq_true rfl) ?_
  refine Z_go kX2_placeOf okX2 [] 30 ?_
  have e2 : nI r - nI r / nI 2 * nI 2 = nI (r % 2) := pk_rem (by omega) (by omega) (by omega)
  refine ⟨fun (h : ¬ nI m = nI 1) => ?_, fun (h : ¬ ¬ nI m = nI 1) => ⟨by decide, fun (h2 : ¬ nI r - nI r / nI 2 * nI 2 = nI 1) => ?_, fun (h2 : ¬ ¬ nI r - nI r / nI 2 * nI 2 = nI 1) => ?_⟩⟩
  · refine ⟨?_, rfl⟩
    rw [nI_eq (by omega) (by omega)] at h
    simp [plc, h]
  · refine ⟨?_, rfl⟩
    rw [e2, nI_eq (by omega) (by omega)] at h2
    simp [plc, h2]
  · refine ⟨?_, rfl⟩
    rw [e2, nI_eq (by omega) (by omega)] at h2
    rw [nI_eq (by omega) (by omega)] at h
    rw [pk_sub (by omega), pk_sub (by omega)]
    have h3 : m = 1 := by omega
    have h4 : r % 2 = 1 := by omega
    simp [plc, h3, h4]
theorem c_readAt {r i : Nat} (hr : r < 12) (hW : W ≤ 16) (hi : i < W) (hm : m ≤ 1) : Dt g mX2_readAt [vr 0, vi (nI r), vi (nI i)] (pW R W m b) (some (vi (b (r * 16 + plc W m r i)))) (pW R W m b) := by
  refine Ev_of omX2_readAt.1 (Nat.le_of_ble_eq_true rfl) ?_
  refine Z_go kX2_readAt okX2 [] 30 ?_
  refine ⟨rfl, (c_placeOf hr hW hi hm).use ?_⟩
  have hp := plc_lt (m := m) (r := r) hi
  have e : nI r * nI 16 + nI (plc W m r i) = nI (r * 16 + plc W m r i) := by rw [pk_mul, nI_add]
  refine ⟨by rw [e]; exact vp_in_nI (by omega) (by omega), ?_, rfl⟩
  rw [e, nI_clamp (by omega)]
theorem manyIn_loop {r : Nat} {x : Int32} {Q : Option AV → AH → Prop} (hr : r < 12) (hW : W ≤ 16) : ∀ (n c s : Nat), c + n = W → s ≤ c → Q (some (vi (nI (s + sm (fun c => fl (decide (b (r * 16 + c) = x))) c n)))) (pW R W m b) →
    Z g mX2_manyIn 2 Q 5 [some (vr 0), some (vi (nI r)), some (vi x), some (vi (nI s)), some (vi (nI c))] [] (pW R W m b) := by
  intro n
  induction n with
  | zero =>
    intro c s h1 h2 hQ
    refine Z_go kX2_manyIn okX2 [5] 30 ?_
    refine ⟨fun (h : nI W ≤ nI c) => ?_, fun (h : ¬ nI W ≤ nI c) => ?_⟩
    · exact hQ
    · exact absurd (nI_le (by omega) (by omega)) h
  | succ n ih =>
    intro c s h1 h2 hQ
    refine Z_go kX2_manyIn okX2 [5] 30 ?_
    refine ⟨fun (h : nI W ≤ nI c) => ?_, fun (h : ¬ nI W ≤ nI c) => ?_⟩
    · rw [nI_leI (by omega) (by omega)] at h; omega
    · refine ⟨rfl, (c_colourAt hr (by omega)).use ?_⟩
      refine ⟨fun (h3 : ¬ b (r * 16 + c) = x) => ?_, fun (h3 : ¬ ¬ b (r * 16 + c) = x) => ?_⟩
      · have k := ih (c + 1) s (by omega) (by omega) (by simpa [sm, fl, h3] using hQ)
        rw [nI_a1 c] at k
        exact k
      · have h3 := Classical.not_not.mp h3
        have k := ih (c + 1) (s + 1) (by omega) (by omega) (by simpa [sm, fl, h3, Nat.add_assoc] using hQ)
        rw [nI_a1 c, nI_a1 s] at k
        exact k
theorem c_manyIn {r : Nat} (x : Int32) (hr : r < 12) (hW : W ≤ 16) : Dt g mX2_manyIn [vr 0, vi (nI r), vi x] (pW R W m b) (some (vi (nI (sm (fun c => fl (decide (b (r * 16 + c) = x))) 0 W)))) (pW R W m b) := by
  refine Ev_of omX2_manyIn.1 (Nat.le_of_ble_eq_true rfl) ?_
  refine Z_go kX2_manyIn okX2 [5] 30 ?_
  refine manyIn_loop hr hW W 0 0 (by omega) (by omega) ⟨?_, rfl⟩
  rw [Nat.zero_add]
end PIC
