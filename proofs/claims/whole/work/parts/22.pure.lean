section PUR
variable {R W : Nat} {L : Nat → Nat → Int32}
theorem trI_keep {l : Nat → Int32} {n : Nat} {x : Nat × (Nat → Int32)} : ∀ i j, j < x.1 → (trI l n x i).2.2 j = x.2 j ∧ x.1 ≤ (trI l n x i).2.1 := by
  intro i
  induction i with
  | zero => intro j hj; exact ⟨rfl, Nat.le_refl _⟩
  | succ i ih =>
    intro j hj
    obtain ⟨h1, h2⟩ := ih j hj
    by_cases hc : i + 1 = n ∨ ¬ l (i + 1) = l i
    · rw [trI_s1 hc]
      dsimp only
      rw [updN (by omega), updN (by omega)]
      exact ⟨h1, by omega⟩
    · rw [trI_s2 hc]
      exact ⟨h1, h2⟩
theorem trI_ind {l : Nat → Int32} {n : Nat} {x y : Nat × (Nat → Int32)} (hxy : x.1 = y.1) (hj : ∀ j, j < x.1 → x.2 j = y.2 j) : ∀ i, (trI l n x i).1 = (trI l n y i).1 ∧ (trI l n x i).2.1 = (trI l n y i).2.1 ∧ ∀ j, j < (trI l n x i).2.1 → (trI l n x i).2.2 j = (trI l n y i).2.2 j := by
  intro i
  induction i with
  | zero => exact ⟨rfl, hxy, hj⟩
  | succ i ih =>
    obtain ⟨h1, h2, h3⟩ := ih
    by_cases hc : i + 1 = n ∨ ¬ l (i + 1) = l i
    · rw [trI_s1 hc, trI_s1 hc]
      dsimp only
      refine ⟨rfl, by omega, fun j hj => ?_⟩
      rw [← h1, ← h2]
      by_cases e1 : j = (trI l n x i).2.1 + 1
      · rw [e1, updS, updS]
      · rw [updN e1, updN e1]
        by_cases e2 : j = (trI l n x i).2.1
        · rw [e2, updS, updS]
        · rw [updN e2, updN e2]; exact h3 j (by omega)
    · rw [trI_s2 hc, trI_s2 hc]
      dsimp only
      exact ⟨by omega, h2, h3⟩
theorem tbS_0 {r f : Nat} {tl : Nat → Int32} : (tbS L W r f tl).2.2 0 = nI f := by
  match f with
  | 0 =>
    unfold tbS
    cases likeL L W r r false with
    | none => simp [tlk, updS]
    | some k => simp only [tlk]; rw [updN (by decide), updS]
  | 1 =>
    unfold tbS
    cases likeL L W r r true with
    | none => simp [tlk, updS]
    | some k => simp only [tlk]; rw [updN (by decide), updS]
  | 2 =>
    show (tmr L W r (1, upd tl 0 (nI 2))).2.2 0 = nI 2
    unfold tmr
    split
    · exact updS (f := tl) (k := 0)
    · exact (trI_keep (x := (1, upd tl 0 (nI 2))) _ 0 (Nat.le_of_ble_eq_true rfl)).1.trans (updS (f := tl) (k := 0))
  | 3 =>
    show (ttm (L r) W (partL (L r) W) (1, upd tl 0 (nI 3))).2.2 0 = nI 3
    unfold ttm
    split
    · exact updS (f := tl) (k := 0)
    · refine (trI_keep (x := (1 + 1, upd (upd tl 0 (nI 3)) 1 (nI (W / partL (L r) W)))) _ 0 (Nat.le_of_ble_eq_true rfl)).1.trans ?_
      dsimp only
      rw [updN (by decide), updS]
  | k + 4 =>
    show (trI (L r) W (1, upd tl 0 (nI (k + 4))) W).2.2 0 = nI (k + 4)
    exact (trI_keep (x := (1, upd tl 0 (nI (k + 4)))) _ 0 (Nat.le_of_ble_eq_true rfl)).1.trans (updS (f := tl) (k := 0))
theorem tbS_len {r f k : Nat} {tl : Nat → Int32} (h : (tbS L W r f tl).1 = some k) : (tbS L W r f tl).2.1 = k := by
  match f with
  | 0 =>
    unfold tbS at h ⊢
    cases hl : likeL L W r r false with
    | none => rw [hl] at h; simp [tlk] at h
    | some j => rw [hl] at h; simp [tlk] at h ⊢; exact h
  | 1 =>
    unfold tbS at h ⊢
    cases hl : likeL L W r r true with
    | none => rw [hl] at h; simp [tlk] at h
    | some j => rw [hl] at h; simp [tlk] at h ⊢; exact h
  | 2 =>
    unfold tbS tmr at h ⊢
    dsimp only at h ⊢
    split at h
    · cases h
    · rename_i h2; rw [if_neg h2]; exact Option.some.inj h
  | 3 =>
    unfold tbS ttm at h ⊢
    dsimp only at h ⊢
    split at h
    · cases h
    · rename_i h2; rw [if_neg h2]; exact Option.some.inj h
  | q + 4 =>
    unfold tbS at h ⊢
    exact Option.some.inj h
theorem tbS_ind {r f : Nat} {tl tl' : Nat → Int32} : ∀ j, j < (tbS L W r f tl).2.1 → (tbS L W r f tl).2.2 j = (tbS L W r f tl').2.2 j := by
  have b0 : ∀ (v : Int32) (j : Nat), j < 1 → upd tl 0 v j = upd tl' 0 v j := by
    intro v j hj
    have : j = 0 := by omega
    rw [this, updS, updS]
  match f with
  | 0 =>
    intro j hj
    unfold tbS at hj ⊢
    cases hl : likeL L W r r false with
    | none => rw [hl] at hj; exact b0 _ j hj
    | some k =>
      rw [hl] at hj
      have hj : j < 2 := hj
      show upd (upd tl 0 _) 1 _ j = upd (upd tl' 0 _) 1 _ j
      by_cases e : j = 1
      · rw [e, updS, updS]
      · rw [updN e, updN e]; exact b0 _ j (by omega)
  | 1 =>
    intro j hj
    unfold tbS at hj ⊢
    cases hl : likeL L W r r true with
    | none => rw [hl] at hj; exact b0 _ j hj
    | some k =>
      rw [hl] at hj
      have hj : j < 2 := hj
      show upd (upd tl 0 _) 1 _ j = upd (upd tl' 0 _) 1 _ j
      by_cases e : j = 1
      · rw [e, updS, updS]
      · rw [updN e, updN e]; exact b0 _ j (by omega)
  | 2 =>
    intro j hj
    unfold tbS tmr at hj ⊢
    dsimp only at hj ⊢
    split at hj
    · rename_i h; rw [if_pos h, if_pos h]; exact b0 _ j hj
    · rename_i h; rw [if_neg h, if_neg h]; exact (trI_ind (x := (1, upd tl 0 (nI 2))) (y := (1, upd tl' 0 (nI 2))) rfl (b0 _) _).2.2 j hj
  | 3 =>
    intro j hj
    unfold tbS ttm at hj ⊢
    dsimp only at hj ⊢
    split at hj
    · rename_i h; rw [if_pos h, if_pos h]; exact b0 _ j hj
    · rename_i h
      rw [if_neg h, if_neg h]
      refine (trI_ind (x := (1 + 1, upd (upd tl 0 (nI 3)) 1 (nI (W / partL (L r) W)))) (y := (1 + 1, upd (upd tl' 0 (nI 3)) 1 (nI (W / partL (L r) W)))) rfl (fun i hi => ?_) _).2.2 j hj
      have hi : i < 2 := hi
      show upd (upd tl 0 _) 1 _ i = upd (upd tl' 0 _) 1 _ i
      by_cases e : i = 1
      · rw [e, updS, updS]
      · rw [updN e, updN e]; exact b0 _ i (by omega)
  | q + 4 =>
    intro j hj
    unfold tbS at hj ⊢
    exact (trI_ind (x := (1, upd tl 0 (nI (q + 4)))) (y := (1, upd tl' 0 (nI (q + 4)))) rfl (b0 _) _).2.2 j hj
theorem frm_some {r : Nat} : (wrdN L W r (frmL L W r)).isSome := by
  unfold frmL
  exact bst_some (bst_some (bst_some (bst_some rfl)))
theorem frm_le {r : Nat} : frmL L W r ≤ 4 := by
  unfold frmL
  exact bst_le (bst_le (bst_le (bst_le (by omega) (by omega)) (by omega)) (by omega)) (by omega)
/-! what is spoken doesn't ask what was in the line -/
theorem rdR_ind {w : Nat → Nat} : ∀ (k i be : Nat) (ln ln' : Nat → Int32), (∀ j, j < be → ln j = ln' j) → (rdR w k i be ln).1 = (rdR w k i be ln').1 ∧ ∀ e, (rdR w k i be ln).1 = some e → ∀ j, j < e → (rdR w k i be ln).2 j = (rdR w k i be ln').2 j := by
  intro k
  induction k with
  | zero => intro i be ln ln' h; exact ⟨rfl, fun e he j hj => by cases he; exact h j hj⟩
  | succ k ih =>
    intro i be ln ln' h
    simp only [rdR]
    split
    · refine ih _ _ _ _ (fun j hj => ?_)
      unfold filB
      by_cases h2 : be ≤ j ∧ j < be + w i
      · rw [if_pos h2, if_pos h2]
      · rw [if_neg h2, if_neg h2]; exact h j (by omega)
    · exact ⟨rfl, fun e he => by cases he⟩
theorem srS_ind {w : Nat → Nat} {n fr : Nat} {ln ln' : Nat → Int32} : (srS w n fr ln).1 = (srS w n fr ln').1 ∧ ∀ e, (srS w n fr ln).1 = some e → ∀ j, j < e → (srS w n fr ln).2 j = (srS w n fr ln').2 j := by
  unfold srS
  split
  · exact ⟨rfl, fun e he => by cases he⟩
  · exact rdR_ind _ _ _ _ _ (fun j hj => by omega)
theorem spkS_ind {w : Nat → Nat} {n : Nat} {ln ln' : Nat → Int32} : (spkS L R W w n ln).1 = (spkS L R W w n ln').1 ∧ ∀ e, (spkS L R W w n ln).1 = some e → ∀ j, j < e → (spkS L R W w n ln).2 j = (spkS L R W w n ln').2 j := by
  have hlk : ∀ t, (slkS L R W n (w 1) t ln).1 = (slkS L R W n (w 1) t ln').1 ∧ ∀ e, (slkS L R W n (w 1) t ln).1 = some e → ∀ j, j < e → (slkS L R W n (w 1) t ln).2 j = (slkS L R W n (w 1) t ln').2 j := by
    intro t
    unfold slkS
    split
    · exact ⟨rfl, fun e he => by cases he⟩
    · refine ⟨rfl, fun e he j hj => ?_⟩
      cases he
      unfold lkI
      dsimp only
      rw [if_pos hj, if_pos hj]
  unfold spkS
  split
  · exact ⟨rfl, fun e he => by cases he⟩
  · split
    · exact hlk false
    · exact hlk true
    · have h1 := srS_ind (w := w) (n := n) (fr := 1) (ln := ln) (ln' := ln')
      unfold smS
      split
      · exact ⟨rfl, fun e he => by cases he⟩
      · rename_i hW
        rw [← h1.1]
        split
        · rename_i h2
          refine ⟨rfl, fun e he j hj => ?_⟩
          cases he
          unfold mrI
          dsimp only
          by_cases h3 : (W + 1) / 2 ≤ j ∧ j < W
          · rw [if_pos h3, if_pos h3]; exact h1.2 _ h2 _ (by omega)
          · rw [if_neg h3, if_neg h3]; exact h1.2 _ h2 _ (by omega)
        · exact ⟨rfl, fun e he => by cases he⟩
    · have h1 := srS_ind (w := w) (n := n) (fr := 2) (ln := ln) (ln' := ln')
      unfold stmS
      split
      · exact ⟨rfl, fun e he => by cases he⟩
      · rw [← h1.1]
        cases h2 : (srS w n 2 ln).1 with
        | none => exact ⟨rfl, fun e he => by cases he⟩
        | some p =>
          have hp := srS_le h2
          dsimp only
          split
          · refine ⟨rfl, fun e he j hj => ?_⟩
            cases he
            unfold tmI
            dsimp only
            by_cases h3 : p ≤ j ∧ j < w 1 * p
            · rw [if_pos h3, if_pos h3]; exact h1.2 _ h2 _ (Nat.mod_lt _ (by omega))
            · rw [if_neg h3, if_neg h3]; exact h1.2 _ h2 _ (by omega)
          · exact ⟨rfl, fun e he => by cases he⟩
    · have h1 := srS_ind (w := w) (n := n) (fr := 1) (ln := ln) (ln' := ln')
      rw [← h1.1]
      refine ⟨rfl, fun e he j hj => ?_⟩
      cases h2 : (srS w n 1 ln).1 with
      | none => rw [h2] at he; cases he
      | some be =>
        rw [h2] at he
        simp only [fitO] at he
        split at he
        · cases he; exact h1.2 _ h2 j hj
        · cases he
    · exact ⟨rfl, fun e he => by cases he⟩
theorem fitO_fit {o : Option Nat} {k : Nat} (ho : ∀ be, o = some be → 1 ≤ be ∧ be ≤ 16) (h : fitO R W o = some k) : (R ≠ 0 → k = W) ∧ 1 ≤ k ∧ k ≤ 16 := by
  cases o with
  | none => cases h
  | some be =>
    have := ho be rfl
    simp only [fitO] at h
    split at h
    · rename_i h2
      cases h
      refine ⟨fun hR => ?_, this⟩
      unfold fit at h2
      rw [if_neg hR] at h2
      exact of_decide_eq_true h2
    · cases h
/-- a line that is spoken fits the picture -/
theorem spkS_fit {w : Nat → Nat} {n k : Nat} {ln : Nat → Int32} (hW : W ≤ 16) (hRW : R = 0 → W = 0) (hRW1 : R ≠ 0 → 1 ≤ W) (h : (spkS L R W w n ln).1 = some k) : (R ≠ 0 → k = W) ∧ 1 ≤ k ∧ k ≤ 16 := by
  have hlk : ∀ t, (slkS L R W n (w 1) t ln).1 = some k → (R ≠ 0 → k = W) ∧ 1 ≤ k ∧ k ≤ 16 := by
    intro t h
    unfold slkS at h
    split at h
    · cases h
    · rename_i h2
      cases h
      have := hRW1 (by omega)
      exact ⟨fun _ => rfl, this, hW⟩
  unfold spkS at h
  split at h
  · cases h
  · split at h
    · exact hlk _ h
    · exact hlk _ h
    · unfold smS at h
      split at h
      · cases h
      · split at h
        · cases h; exact ⟨fun _ => rfl, by omega, hW⟩
        · cases h
    · unfold stmS at h
      split at h
      · cases h
      · rename_i h3
        cases h2 : (srS w n 2 ln).1 with
        | none => rw [h2] at h; cases h
        | some p =>
          rw [h2] at h
          have hp := srS_le h2
          dsimp only at h
          split at h
          · rename_i h4
            cases h
            have h5 := fit_le hW h4
            have h6 : 1 ≤ w 1 * p := Nat.mul_pos (by omega) (by omega)
            refine ⟨fun hR => ?_, h6, h5⟩
            unfold fit at h4
            rw [if_neg hR] at h4
            exact of_decide_eq_true h4
          · cases h
    · exact fitO_fit (fun be hbe => srS_le hbe) h
    · cases h
end PUR
