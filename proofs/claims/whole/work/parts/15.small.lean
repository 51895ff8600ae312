section SML
variable {g : GG} {R W m : Nat} {b t : Nat → Int32} {D : Nat → Nat → Int32} {tn : Nat}
/-! Chance -/
def nxS (s : Int32) : Int32 := s * 1103515245 + nI 12345
def gotN (x : Int32) : Nat := x.toBitVec.toNat / 65536 % 32768
theorem gotN_lt (x : Int32) : gotN x < 32768 := Nat.mod_lt _ (by decide)
theorem got_u (x : Int32) : (x.toUInt32 >>> ((nI 16).toUInt32 &&& Int32.toUInt32 31)).toInt32 &&& nI 32767 = nI (gotN x) := by
  rw [pk_and _ 15 (by decide +kernel), pk_ushr x (nI 16) 16 (by decide +kernel)]
  rfl
theorem c_below {s : Int32} {n : Nat} (hn : n < 2 ^ 31) (h1 : 1 ≤ n) : Dt g mX0_below [vr 0, vi (nI n)] [ob 0 [vi s]] (some (vi (nI (gotN (nxS s) % n)))) [ob 0 [vi (nxS s)]] := by
  refine Ev_of omX0_below.1 (Nat.le_of_ble_eq_true rfl) ?_
  refine Z_go kX0_below okX0 [] 80 ?_
  have hg := gotN_lt (nxS s)
  refine ⟨fun _ => ⟨nI_ne0 (by omega) hn, ?_, rfl⟩, fun (h : ¬ nI 1 ≤ nI n) => absurd (nI_le h1 hn) h⟩
  have e := got_u (nxS s)
  have e2 := pk_rem (a := gotN (nxS s)) (d := n) (by omega) (by omega) hn
  rw [← e] at e2
  rw [← e2]
  rfl
/-! Sheet -/
def shW (ln : Int32) (n : Nat) (c : Nat → Int32) : AH := [ob 4 [vr 1, vi (nI n), vi ln], ar 0 32 c]
def zI (c : Nat → Int32) (k : Nat) : Nat → Int32 := fun j => if j < k then 0 else c j
theorem zI_up {c : Nat → Int32} {k : Nat} : upd (zI c k) k 0 = zI c (k + 1) := by
  funext j
  unfold upd zI
  by_cases h : j = k
  · subst h; rw [if_pos rfl, if_pos (by omega)]
  · rw [if_neg h]
    by_cases h2 : j < k
    · rw [if_pos h2, if_pos (by omega)]
    · rw [if_neg h2, if_neg (by omega)]
theorem renew_loop {ln : Int32} {n0 n1 : Int32} {l1 : Int32} {n : Nat} {c : Nat → Int32} {Q : Option AV → AH → Prop} (hQ : Q none (shW ln n (zI c 32))) : ∀ (q k : Nat), k + q = 32 →
    Z g mX4_renew 2 Q 12 [some (vr 0), some (vi l1), some (vi n1), some (vi (nI k))] [] (shW ln n (zI c k)) := by
  intro q
  induction q with
  | zero =>
    intro k h1
    refine Z_go kX4_renew okX4 [12] 80 ?_
    refine ⟨fun _ => ?_, fun (h : ¬ nI 32 ≤ nI k) => ?_⟩
    · have : k = 32 := by omega
      rw [this]; exact hQ
    · exact absurd (nI_le (by omega) (by omega)) h
  | succ q ih =>
    intro k h1
    refine Z_go kX4_renew okX4 [12] 80 ?_
    refine ⟨fun (h : nI 32 ≤ nI k) => ?_, fun _ => ?_⟩
    · rw [nI_leI (by omega) (by omega)] at h; omega
    · refine ⟨vp_in_nI (by omega) (by omega), ?_⟩
      have k2 := ih (k + 1) (by omega)
      rw [nI_a1 k, ← zI_up] at k2
      rw [nI_clamp (by omega)]
      exact k2
theorem c_renew {ln l0 : Int32} {n n0 : Nat} {c : Nat → Int32} : Dt g mX4_renew [vr 0, vi ln, vi (nI n)] (shW l0 n0 c) none (shW ln n (zI c 32)) := by
  refine Ev_of omX4_renew.1 (Nat.le_of_ble_eq_true rfl) ?_
  refine Z_go kX4_renew okX4 [12] 80 ?_
  have k := renew_loop (g := g) (n0 := 0) (n1 := nI n) (l1 := ln) (ln := ln) (n := n) (c := c) (Q := fun r' B => r' = none ∧ B = shW ln n (zI c 32)) ⟨rfl, rfl⟩ 32 0 (by omega)
  have e : zI c 0 = c := by funext j; simp [zI]
  rw [e] at k
  exact k
/-- what the machine finds -/
def fltS (ln : Int32) (n : Nat) (asked i : Int32) : Nat := if ln = -nI 4 then 1 else if ¬ ln = asked then 2 else if i < 0 ∨ nI n ≤ i then 3 else 0
theorem c_faultAt {ln asked i : Int32} {n : Nat} {c : Nat → Int32} : Dt g mX4_faultAt [vr 0, vi asked, vi i] (shW ln n c) (some (vi (nI (fltS ln n asked i)))) (shW ln n c) := by
  refine Ev_of omX4_faultAt.1 (Nat.le_of_ble_eq_true rfl) ?_
  refine Z_go kX4_faultAt okX4 [] 80 ?_
  refine ⟨fun (h : ¬ ln = -nI 4) => ⟨fun (h2 : ln = asked) => ⟨fun (h3 : i < 0) => ⟨?_, rfl⟩, fun (h3 : ¬ i < 0) => ⟨fun (h4 : i < nI n) => ⟨?_, rfl⟩, fun (h4 : ¬ i < nI n) => ⟨?_, rfl⟩⟩⟩, fun (h2 : ¬ ln = asked) => ⟨?_, rfl⟩⟩, fun (h : ¬ ¬ ln = -nI 4) => ⟨?_, rfl⟩⟩
  · unfold fltS; rw [if_neg h, if_neg (by simp [h2]), if_pos (Or.inl h3)]
  · unfold fltS; rw [if_neg h, if_neg (by simp [h2]), if_neg (fun q => q.elim h3 (fun q => Int32.not_le.mpr h4 q))]
  · unfold fltS; rw [if_neg h, if_neg (by simp [h2]), if_pos (Or.inr (Int32.not_lt.mp h4))]
  · unfold fltS; rw [if_neg h, if_pos h2]
  · unfold fltS; rw [if_pos (Classical.not_not.mp h)]
/-- a number as a cell of a lane keeps it -/
def celV (ln v : Int32) : Int32 := if ln = nI 0 then v.toInt8.toInt32 else if ln = nI 1 then v.toInt16.toInt32 else v
theorem c_sput {ln v : Int32} {n k : Nat} {c : Nat → Int32} (hk : k < 32) : Dt g mX4_put [vr 0, vi (nI k), vi v] (shW ln n c) none (shW ln n (upd c k (celV ln v))) := by
  refine Ev_of omX4_put.1 (Nat.le_of_ble_eq_true rfl) ?_
  refine Z_go kX4_put okX4 [] 80 ?_
  refine ⟨fun (h : ¬ ln = nI 0) => ⟨fun (h2 : ¬ ln = nI 1) => ⟨vp_in_nI hk (by omega), rfl, ?_⟩, fun (h2 : ¬ ¬ ln = nI 1) => ⟨vp_in_nI hk (by omega), rfl, ?_⟩⟩, fun (h : ¬ ¬ ln = nI 0) => ⟨vp_in_nI hk (by omega), rfl, ?_⟩⟩
  · rw [nI_clamp (by omega)]; unfold celV; rw [if_neg h, if_neg h2]; rfl
  · rw [nI_clamp (by omega)]; unfold celV; rw [if_neg h, if_pos (Classical.not_not.mp h2)]; rfl
  · rw [nI_clamp (by omega)]; unfold celV; rw [if_pos (Classical.not_not.mp h)]; rfl
/-! Tape -/
def tpW (n : Nat) (tp : Nat → Int32) : AH := [ob 7 [vr 1, vi (nI n)], ar 0 300 tp]
theorem c_ttake_full {n : Nat} {tp : Nat → Int32} {x : Int32} (hn : n = 300) : Dt g mX7_take [vr 0, vi x] (tpW n tp) (some (vi (nI 0))) (tpW n tp) := by
  subst hn
  refine Ev_of omX7_take.1 (Nat.le_of_ble_eq_true rfl) ?_
  refine Z_go kX7_take okX7 [] 80 ?_
  refine ⟨fun (h : nI 300 < nI 300) => ?_, fun _ => ⟨Or.inl rfl, rfl, rfl⟩⟩
  exact absurd h (by decide +kernel)
theorem c_ttake {n : Nat} {tp : Nat → Int32} {x : Int32} (hn : n < 300) : Dt g mX7_take [vr 0, vi x] (tpW n tp) (some (vi (nI 1))) (tpW (n + 1) (upd tp n x)) := by
  refine Ev_of omX7_take.1 (Nat.le_of_ble_eq_true rfl) ?_
  refine Z_go kX7_take okX7 [] 80 ?_
  refine ⟨fun _ => ⟨vp_in_nI hn (by omega), Or.inr rfl, rfl, ?_⟩, fun (h : ¬ nI n < nI 300) => absurd (nI_lt hn (by omega)) h⟩
  rw [nI_clamp (by omega)]
  unfold tpW
  rw [nI_a1 n]
  rfl
def lett (x : Int32) : Bool := decide (nI 97 ≤ x) && decide (x ≤ nI 122)
theorem c_isLetter {n k : Nat} {tp : Nat → Int32} (hn : n ≤ 300) (hk : k ≤ 300) : Dt g mX7_isLetter [vr 0, vi (nI k)] (tpW n tp) (some (vi (nI (fl (decide (k < n) && lett (tp k)))))) (tpW n tp) := by
  refine Ev_of omX7_isLetter.1 (Nat.le_of_ble_eq_true rfl) ?_
  refine Z_go kX7_isLetter okX7 [] 80 ?_
  refine ⟨fun (h : nI n ≤ nI k) => ?_, fun (h : ¬ nI n ≤ nI k) => ?_⟩
  · rw [nI_leI (by omega) (by omega)] at h
    refine ⟨Or.inl rfl, ?_, rfl⟩
    have : ¬ k < n := by omega
    simp [this, fl]
  · rw [nI_leI (by omega) (by omega)] at h
    have hkn : k < n := by omega
    refine ⟨vp_in_nI (by omega) (by omega), ?_⟩
    rw [nI_clamp (by omega)]
    refine ⟨fun (h2 : tp k < nI 97) => ⟨Or.inl rfl, ?_, rfl⟩, fun (h2 : ¬ tp k < nI 97) => ⟨vp_in_nI (by omega) (by omega), ?_⟩⟩
    · have : ¬ nI 97 ≤ tp k := Int32.not_le.mpr h2
      simp [lett, this, fl]
    · rw [nI_clamp (by omega)]
      refine ⟨fun (h3 : nI 122 < tp k) => ⟨Or.inl rfl, ?_, rfl⟩, fun (h3 : ¬ nI 122 < tp k) => ⟨Or.inr rfl, ?_, rfl⟩⟩
      · have : ¬ tp k ≤ nI 122 := Int32.not_le.mpr h3
        simp [lett, this, fl]
      · have a1 : nI 97 ≤ tp k := Int32.not_lt.mp h2
        have a2 : tp k ≤ nI 122 := Int32.not_lt.mp h3
        simp [lett, a1, a2, hkn, fl]
/-! Strand -/
def stW (tn : Nat) (t : Nat → Int32) : AH := [ob 6 [vr 1, vi (nI tn)], ar 0 192 t]
theorem c_stake {x : Int32} (hn : tn < 192) : Dt g mX6_take [vr 0, vi x] (stW tn t) none (stW (tn + 1) (upd t tn x)) := by
  refine Ev_of omX6_take.1 (Nat.le_of_ble_eq_true rfl) ?_
  refine Z_go kX6_take okX6 [] 80 ?_
  refine ⟨fun (h : nI 192 ≤ nI tn) => ?_, fun _ => ⟨vp_in_nI hn (by omega), rfl, ?_⟩⟩
  · rw [nI_leI (by omega) (by omega)] at h; omega
  · rw [nI_clamp (by omega)]
    unfold stW
    rw [nI_a1 tn]
    rfl
theorem c_sbecome {tn' : Nat} {t' : Nat → Int32} : Dt g mX6_become [vr 0, vr 2] (stW tn t ++ [ob 6 [vr 3, vi (nI tn')], ar 0 192 t']) none (stW tn' (va_cpy t' t 0 0 192) ++ [ob 6 [vr 3, vi (nI tn')], ar 0 192 t']) := by
  refine Ev_of omX6_become.1 (Nat.le_of_ble_eq_true rfl) ?_
  refine Z_go kX6_become okX6 [] 80 ?_
  refine ⟨by decide, by decide, by decide, by decide, by decide, rfl, ?_⟩
  rfl
def spW (tn : Nat) (t : Nat → Int32) (R W m : Nat) (b : Nat → Int32) : AH := [ob 6 [vr 1, vi (nI tn)], ar 0 192 t, ob 2 [vr 3, vi (nI R), vi (nI W), vi (nI m)], ar 0 192 b]
/-- where the mistake began -/
def wrgP (t : Nat → Int32) (L : Nat → Nat → Int32) (W i : Nat) : Bool := !decide (t i = planL L W i)
def misL (t : Nat → Int32) (tn : Nat) (L : Nat → Nat → Int32) (W : Nat) : Option Nat := fs1 (wrgP t L W) 0 tn
theorem firstWrong_loop {Q : Option AV → AH → Prop} (hb : Hd b D R W) (hR : R ≤ 12) (hW : W ≤ 16) (hm : m ≤ 1) (ht : tn ≤ R * W) : ∀ (n c : Nat), c + n = tn → Q (some (vi (oI (fs1 (wrgP t (lnD D W m) W) c n)))) (spW tn t R W m b) →
    Z g mX6_firstWrong 4 Q 2 [some (vr 0), some (vr 2), some (vi (nI c))] [] (spW tn t R W m b) := by
  have hRW := RW_le hR hW
  intro n
  induction n with
  | zero =>
    intro c h1 hQ
    refine Z_go kX6_firstWrong okX6 [2] 80 ?_
    refine ⟨fun _ => hQ, fun (h : ¬ nI tn ≤ nI c) => ?_⟩
    exact absurd (nI_le (by omega) (by omega)) h
  | succ n ih =>
    intro c h1 hQ
    refine Z_go kX6_firstWrong okX6 [2] 80 ?_
    refine ⟨fun (h : nI tn ≤ nI c) => ?_, fun _ => ?_⟩
    · rw [nI_leI (by omega) (by omega)] at h; omega
    · refine ⟨vp_in_nI (by omega) (by omega), ?_⟩
      rw [nI_clamp (by omega)]
      refine ⟨rfl, (c_planAt (j := c) hb hR hW hm (by omega)).fr [2, 3] rfl (by decide) rfl ?_⟩
      refine ⟨fun (h3 : t c = planL (lnD D W m) W c) => ?_, fun (h3 : ¬ t c = planL (lnD D W m) W c) => ?_⟩
      · have k := ih (c + 1) (by omega) (by simpa [fs1, wrgP, h3] using hQ)
        rw [nI_a1 c] at k
        exact k
      · show Q (some (vi (nI c))) (spW tn t R W m b)
        simpa [fs1, wrgP, h3, oI] using hQ
theorem c_firstWrong (hb : Hd b D R W) (hR : R ≤ 12) (hW : W ≤ 16) (hm : m ≤ 1) (ht : tn ≤ R * W) : Dt g mX6_firstWrong [vr 0, vr 2] (spW tn t R W m b) (some (vi (oI (misL t tn (lnD D W m) W)))) (spW tn t R W m b) := by
  refine Ev_of omX6_firstWrong.1 (Nat.le_of_ble_eq_true rfl) ?_
  refine Z_go kX6_firstWrong okX6 [2] 80 ?_
  exact firstWrong_loop hb hR hW hm ht tn 0 (by omega) ⟨rfl, rfl⟩
/-- the bead j is as it is told by a kind -/
def tldP (t : Nat → Int32) (L : Nat → Nat → Int32) (W N k j : Nat) : Bool := match k with
  | 0 => decide (t j = planL L W j)
  | 1 => decide (j + 1 < N) && decide (t j = planL L W (j + 1))
  | _ => decide (t j = planL L W (j - 1))
def tldS (k at' : Nat) : Nat := if k = 1 then at' else at' + 1
def tldL (t : Nat → Int32) (tn : Nat) (L : Nat → Nat → Int32) (W N at' k : Nat) : Nat := sm (fun j => fl (tldP t L W N k j)) (tldS k at') (tn - tldS k at')
theorem asTold_loop {a k sh : Int32} {q : Nat → Bool} {Q : Option AV → AH → Prop} (hR : R ≤ 12) (hW : W ≤ 16) (ht : tn ≤ R * W) : ∀ (n c s : Nat), c + n = tn → (∀ j, c ≤ j → j < tn → ∃ x, Dt g mX2_planAt [vr 0, vi (nI j + sh)] (pW R W m b) (some (vi x)) (pW R W m b) ∧ (t j = x ↔ q j = true)) →
    Q (some (vi (nI (s + sm (fun j => fl (q j)) c n)))) (spW tn t R W m b) →
    Z g mX6_asTold 4 Q 38 [some (vr 0), some (vr 2), some (vi a), some (vi k), some (vi sh), some (vi (nI s)), some (vi (nI c))] [] (spW tn t R W m b) := by
  have hRW := RW_le hR hW
  intro n
  induction n with
  | zero =>
    intro c s h1 hp hQ
    refine Z_go kX6_asTold okX6 [38] 80 ?_
    refine ⟨fun _ => hQ, fun (h : ¬ nI tn ≤ nI c) => ?_⟩
    exact absurd (nI_le (by omega) (by omega)) h
  | succ n ih =>
    intro c s h1 hp hQ
    refine Z_go kX6_asTold okX6 [38] 80 ?_
    refine ⟨fun (h : nI tn ≤ nI c) => ?_, fun _ => ?_⟩
    · rw [nI_leI (by omega) (by omega)] at h; omega
    · refine ⟨vp_in_nI (by omega) (by omega), ?_⟩
      rw [nI_clamp (by omega)]
      obtain ⟨x, hx1, hx2⟩ := hp c (Nat.le_refl _) (by omega)
      refine ⟨rfl, hx1.fr [2, 3] rfl (by decide) rfl ?_⟩
      refine ⟨fun (h3 : ¬ t c = x) => ?_, fun (h3 : ¬ ¬ t c = x) => ?_⟩
      · have hq : q c = false := by cases hq : q c with
          | false => rfl
          | true => exact absurd (hx2.mpr hq) h3
        have k := ih (c + 1) s (by omega) (fun j a1 a2 => hp j (by omega) a2) (by simpa [sm, hq, fl] using hQ)
        rw [nI_a1 c] at k
        exact k
      · have hq : q c = true := hx2.mp (Classical.not_not.mp h3)
        have k := ih (c + 1) (s + 1) (by omega) (fun j a1 a2 => hp j (by omega) a2) (by simpa [sm, hq, fl, Nat.add_assoc] using hQ)
        rw [nI_a1 c, nI_a1 s] at k
        exact k
theorem c_asTold {a k : Nat} (hb : Hd b D R W) (hR : R ≤ 12) (hW : W ≤ 16) (hm : m ≤ 1) (ht : tn ≤ R * W) (hk : k ≤ 2) (ha : a < tn) (hc : ∀ j, j < tn → ¬ t j = -nI 4) : Dt g mX6_asTold [vr 0, vr 2, vi (nI a), vi (nI k)] (spW tn t R W m b) (some (vi (nI (tldL t tn (lnD D W m) W (R * W) a k)))) (spW tn t R W m b) := by
  have hRW := RW_le hR hW
  have h0 : k = 0 ∨ k = 1 ∨ k = 2 := by omega
  rcases h0 with rfl | rfl | rfl
  · refine Ev_of omX6_asTold.1 (Nat.le_of_ble_eq_true rfl) ?_
    refine Z_go kX6_asTold okX6 [38] 80 ?_
    refine ⟨fun _ => ⟨fun _ => ⟨fun _ => ?_, fun h => absurd (by decide : ¬ nI 0 = nI 1) h⟩, fun h => absurd (by decide : ¬ nI 0 = nI 2) h⟩, fun h => absurd (by decide : ¬ nI 0 = nI 1) h⟩
    have k := asTold_loop (g := g) (m := m) (b := b) (t := t) (a := nI a) (k := nI 0) (sh := nI 0) (q := tldP t (lnD D W m) W (R * W) 0) (Q := fun r' B => r' = some (vi (nI (tldL t tn (lnD D W m) W (R * W) a 0))) ∧ B = spW tn t R W m b) hR hW ht (tn - (a + 1)) (a + 1) 0 (by omega) (fun j a1 a2 => ⟨planL (lnD D W m) W j, by rw [nI_add]; exact c_planAt hb hR hW hm (by omega), by simp [tldP]⟩) ⟨by rw [Nat.zero_add]; rfl, rfl⟩
    rw [nI_a1 a] at k
    exact k
  · refine Ev_of omX6_asTold.1 (Nat.le_of_ble_eq_true rfl) ?_
    refine Z_go kX6_asTold okX6 [38] 80 ?_
    refine ⟨fun h => absurd rfl h, fun _ => ⟨fun h => absurd rfl h, fun _ => ?_⟩⟩
    refine asTold_loop (sh := nI 1) (q := tldP t (lnD D W m) W (R * W) 1) hR hW ht (tn - a) a 0 (by omega) (fun j a1 a2 => ?_) ⟨by rw [Nat.zero_add]; rfl, rfl⟩
    rw [nI_add]
    rcases Nat.lt_or_ge (j + 1) (R * W) with q1 | q1
    · exact ⟨planL (lnD D W m) W (j + 1), c_planAt hb hR hW hm q1, by simp [tldP, q1]⟩
    · refine ⟨-nI 4, c_planAt_out hR hW (Or.inr (nI_le q1 (by omega))), ?_⟩
      have : ¬ j + 1 < R * W := by omega
      simp [tldP, this, hc j a2]
  · refine Ev_of omX6_asTold.1 (Nat.le_of_ble_eq_true rfl) ?_
    refine Z_go kX6_asTold okX6 [38] 80 ?_
    refine ⟨fun _ => ⟨fun h => absurd rfl h, fun _ => ⟨fun _ => ?_, fun h => absurd (by decide : ¬ nI 2 = nI 1) h⟩⟩, fun h => absurd (by decide : ¬ nI 2 = nI 1) h⟩
    have k := asTold_loop (g := g) (m := m) (b := b) (t := t) (a := nI a) (k := nI 2) (sh := -nI 1) (q := tldP t (lnD D W m) W (R * W) 2) (Q := fun r' B => r' = some (vi (nI (tldL t tn (lnD D W m) W (R * W) a 2))) ∧ B = spW tn t R W m b) hR hW ht (tn - (a + 1)) (a + 1) 0 (by omega) (fun j a1 a2 => ⟨planL (lnD D W m) W (j - 1), by rw [← Int32.sub_eq_add_neg, pk_sub (by omega)]; exact c_planAt hb hR hW hm (by omega), by simp [tldP]⟩) ⟨by rw [Nat.zero_add]; rfl, rfl⟩
    rw [nI_a1 a] at k
    exact k
def kndL (f : Nat → Nat) : Nat := if f (if f 0 < f 1 then 1 else 0) < f 2 then 2 else if f 0 < f 1 then 1 else 0
theorem tldL_le {L : Nat → Nat → Int32} {N a k : Nat} : tldL t tn L W N a k ≤ tn := by
  have := sm_le (f := fun j => fl (tldP t L W N k j)) (k := 1) (tn - tldS k a) (tldS k a) (fun i _ _ => fl_le _)
  unfold tldL; omega
theorem c_kindOf {a : Nat} (hb : Hd b D R W) (hR : R ≤ 12) (hW : W ≤ 16) (hm : m ≤ 1) (ht : tn ≤ R * W) (ha : a < tn) (hc : ∀ j, j < tn → ¬ t j = -nI 4) : Dt g mX6_kindOf [vr 0, vr 2, vi (nI a)] (spW tn t R W m b) (some (vi (nI (kndL (tldL t tn (lnD D W m) W (R * W) a))))) (spW tn t R W m b) := by
  have hRW := RW_le hR hW
  have q0 := tldL_le (t := t) (tn := tn) (W := W) (L := lnD D W m) (N := R * W) (a := a) (k := 0)
  have q1 := tldL_le (t := t) (tn := tn) (W := W) (L := lnD D W m) (N := R * W) (a := a) (k := 1)
  have q2 := tldL_le (t := t) (tn := tn) (W := W) (L := lnD D W m) (N := R * W) (a := a) (k := 2)
  have step2 : ∀ best : Nat, best ≤ 1 → (nI best = nI best) → Z g mX6_kindOf 4 (fun r' B => r' = some (vi (nI (if tldL t tn (lnD D W m) W (R * W) a best < tldL t tn (lnD D W m) W (R * W) a 2 then 2 else best))) ∧ B = spW tn t R W m b) 5 [some (vr 0), some (vr 2), some (vi (nI a)), some (vi (nI best)), some (vi (nI 2))] [] (spW tn t R W m b) := by
    intro best hb1 _
    have qb := tldL_le (t := t) (tn := tn) (W := W) (L := lnD D W m) (N := R * W) (a := a) (k := best)
    refine Z_go kX6_kindOf okX6 [] 80 ?_
    refine ⟨fun h => absurd (show nI 3 ≤ nI 2 from h) (by decide), fun _ => ?_⟩
    refine ⟨rfl, (c_asTold (k := 2) hb hR hW hm ht (by omega) ha hc).use ?_⟩
    refine ⟨rfl, (c_asTold (k := best) hb hR hW hm ht (by omega) ha hc).use ?_⟩
    refine ⟨fun (h : nI (tldL t tn (lnD D W m) W (R * W) a 2) ≤ nI (tldL t tn (lnD D W m) W (R * W) a best)) => ⟨fun _ => ⟨?_, rfl⟩, fun h => absurd (by decide +kernel : nI 3 ≤ nI 2 + nI 1) h⟩, fun (h : ¬ nI (tldL t tn (lnD D W m) W (R * W) a 2) ≤ nI (tldL t tn (lnD D W m) W (R * W) a best)) => ⟨fun _ => ⟨?_, rfl⟩, fun h => absurd (by decide +kernel : nI 3 ≤ nI 2 + nI 1) h⟩⟩
    · rw [nI_leI (by omega) (by omega)] at h
      rw [if_neg (by omega)]
    · rw [nI_leI (by omega) (by omega)] at h
      rw [if_pos (by omega)]
  refine Ev_of omX6_kindOf.1 (Nat.le_of_ble_eq_true rfl) ?_
  refine Z_go kX6_kindOf okX6 [5] 80 ?_
  refine Z_go kX6_kindOf okX6 [5] 80 ?_
  refine ⟨fun h => absurd (show nI 3 ≤ nI 1 from h) (by decide), fun _ => ?_⟩
  refine ⟨rfl, (c_asTold (k := 1) hb hR hW hm ht (by omega) ha hc).use ?_⟩
  refine ⟨rfl, (c_asTold (k := 0) hb hR hW hm ht (by omega) ha hc).use ?_⟩
  have e2 : nI 1 + nI 1 = nI 2 := by decide +kernel
  refine ⟨fun (h : nI (tldL t tn (lnD D W m) W (R * W) a 1) ≤ nI (tldL t tn (lnD D W m) W (R * W) a 0)) => ?_, fun (h : ¬ nI (tldL t tn (lnD D W m) W (R * W) a 1) ≤ nI (tldL t tn (lnD D W m) W (R * W) a 0)) => ?_⟩
  · rw [nI_leI (by omega) (by omega)] at h
    have k := step2 0 (by omega) rfl
    rw [← e2] at k
    unfold kndL
    rw [if_neg (show ¬ tldL t tn (lnD D W m) W (R * W) a 0 < tldL t tn (lnD D W m) W (R * W) a 1 by omega)]
    exact k
  · rw [nI_leI (by omega) (by omega)] at h
    have k := step2 1 (by omega) rfl
    rw [← e2] at k
    unfold kndL
    rw [if_pos (show tldL t tn (lnD D W m) W (R * W) a 0 < tldL t tn (lnD D W m) W (R * W) a 1 by omega)]
    exact k
end SML
