/-! the state that both sides keep, and what every call answers and does -/
/-- rows, beads of a row, mode, beads from the left -/
abbrev Pic : Type := Nat × Nat × Nat × (Nat → Nat → Int32)
/-- how many, which -/
abbrev Thr : Type := Nat × (Nat → Int32)
/-- picture, thread, tape, slip, images, sheets, the text's fault, the run's fault -/
abbrev Sg : Type := Pic × Thr × Thr × (Nat × (Nat → Nat)) × (Nat → Bool × Pic × Thr) × (Nat → Int32 × Nat × (Nat → Int32)) × Nat × Nat
def lnP (p : Pic) : Nat → Nat → Int32 := lnD p.2.2.2 p.2.1 p.2.2.1
/-- the number of a word -/
def nOf (x : Int32) : Nat := x.toNatClampNeg
def op_feed (S : Sg) (c : Int32) : Int32 × Sg := match S with
  | (p, th, (n, tp), sl, im, sh, tf, rf) => if c < 0 ∨ nI 127 < c then (-nI 1, S) else if n = 300 then (-nI 3, S) else (nI (n + 1), p, th, (n + 1, upd tp n c), sl, im, sh, tf, rf)
def op_end (S : Sg) (k : Int32) : Int32 × Sg := match S with
  | (p, th, (n, tp), sl, im, sh, tf, rf) => if k < 0 ∨ nI n < k then (-nI 1, S) else (nI n, p, th, (nOf k, tp), sl, im, sh, tf, rf)
def op_text (S : Sg) : Int32 × Sg := match S with
  | (p, th, (n, tp), sl, im, sh, tf, rf) => if (txt tp n).1 = 0 then (nI (txt tp n).2.2.2.1, ((txt tp n).2.2.2.1, (txt tp n).2.2.2.2.1, fl (txt tp n).2.2.2.2.2.1, (txt tp n).2.2.2.2.2.2), (0, th.2), (0, tp), sl, (fun k => (false, (im k).2)), sh, 0, rf)
    else (-nI 10 - nI (txt tp n).2.1, p, th, (0, tp), sl, im, sh, (txt tp n).1, rf)
def op_fault (S : Sg) : Int32 × Sg := (nI S.2.2.2.2.2.2.1, S)
/-- words of all rows; colours that there are -/
def allW (L : Nat → Nat → Int32) (W R : Nat) : Nat := sm (fun r => (wrdN L W r (frmL L W r)).getD 0) 0 R
def allC (D : Nat → Nat → Int32) (R W : Nat) : Nat := sm (fun c => fl (decide (0 < manyA D R W (nI c)))) 0 6
def op_rule (S : Sg) (x : Int32) : Int32 × Sg := match S with
  | ((R, W, m, D), th, tp, sl, im, sh, tf, rf) => (if x = nI 0 then nI R else if x = nI 1 then nI W else if x = nI 2 then nI m else if x = nI 3 then nI (R * W) else if x = nI 4 then nI (allW (lnD D W m) W R) else if x = nI 5 then nI (unlikeL (lnD D W m) W R)
      else if x = nI 6 then nI (runsA (lnD D W m) W R) else if x = nI 7 then nI (allC D R W) else if x = nI 8 then nI th.1 else if x = nI 9 then nI sl.1 else -nI 1, S)
def op_bead (S : Sg) (r c : Int32) : Int32 × Sg := match S with
  | ((R, W, m, D), _) => (if hasRow R r && hasRow W c then D (nOf r) (nOf c) else -nI 1, S)
def op_many (S : Sg) (r x : Int32) : Int32 × Sg := match S with
  | ((R, W, m, D), _) => (if isCol x then (if r = -nI 4 then nI (manyA D R W x) else if hasRow R r then nI (manyR D W (nOf r) x) else -nI 1) else -nI 1, S)
def op_row (S : Sg) (r x : Int32) : Int32 × Sg := match S with
  | ((R, W, m, D), _) => (if hasRow R r then (if x = nI 0 then nI (frmL (lnD D W m) W (nOf r)) else if x = nI 1 then oI (wrdN (lnD D W m) W (nOf r) (frmL (lnD D W m) W (nOf r))) else if x = nI 2 then nI (runsL (lnD D W m (nOf r)) W) else if x = nI 3 then nI (firstL (lnD D W m) W (nOf r))
      else if x = nI 4 then nI (likesL (lnD D W m) W (nOf r) R) else if x = nI 5 then nI (partL (lnD D W m (nOf r)) W) else -nI 1) else -nI 1, S)
def op_words (S : Sg) (r f : Int32) : Int32 × Sg := match S with
  | ((R, W, m, D), _) => (if hasRow R r && hasRow 5 f then oI (wrdN (lnD D W m) W (nOf r) (nOf f)) else -nI 1, S)
/-- word i of row r by its form -/
def wrdA (L : Nat → Nat → Int32) (W r i : Nat) : Int32 := (tbS L W r (frmL L W r) (fun _ => 0)).2.2 i
def op_word (S : Sg) (r i : Int32) : Int32 × Sg := match S with
  | ((R, W, m, D), _) => (if hasRow R r then (if i < 0 then -nI 1 else if i < oI (wrdN (lnD D W m) W (nOf r) (frmL (lnD D W m) W (nOf r))) then wrdA (lnD D W m) W (nOf r) (nOf i) else -nI 4) else -nI 1, S)
def op_tell (S : Sg) (v : Int32) : Int32 × Sg := match S with
  | (p, th, tp, (n, w), im, sh, tf, rf) => if v < 0 ∨ nI 99 < v then (-nI 1, S) else if n = 40 then (-nI 3, S) else (nI (n + 1), p, th, tp, (n + 1, fun j => if j = n then nOf v else w j), im, sh, tf, rf)
def op_tear (S : Sg) : Int32 × Sg := match S with
  | (p, th, tp, (n, w), im, sh, tf, rf) => (nI n, p, th, tp, (0, w), im, sh, tf, rf)
/-- what is spoken -/
def spk (p : Pic) (n : Nat) (w : Nat → Nat) : Option Nat × (Nat → Int32) := spkS (lnD p.2.2.2 p.2.1 p.2.2.1) p.1 p.2.1 w n (fun _ => 0)
def op_spoken (S : Sg) : Int32 × Sg := match S with
  | (p, th, tp, (n, w), im, sh, tf, rf) => (oI (spk p n w).1, S)
def op_said (S : Sg) (i : Int32) : Int32 × Sg := match S with
  | (p, th, tp, (n, w), im, sh, tf, rf) => (if i < 0 then -nI 1 else if i < oI (spk p n w).1 then (spk p n w).2 (nOf i) else -nI 4, S)
def op_add (S : Sg) : Int32 × Sg := match S with
  | ((R, W, m, D), th, tp, (n, w), im, sh, tf, rf) => match (spk (R, W, m, D) n w).1 with
    | none => (-nI 2, S)
    | some k => if 12 ≤ R then (-nI 3, S) else (nI (R + 1), (R + 1, k, m, addD D R k m (spk (R, W, m, D) n w).2), th, tp, (0, w), im, sh, tf, rf)
def op_string (S : Sg) (x : Int32) : Int32 × Sg := match S with
  | ((R, W, m, D), (n, t), tp, sl, im, sh, tf, rf) => if isCol x then (if R * W ≤ n then (-nI 3, S) else (nI (n + 1), (R, W, m, D), (n + 1, upd t n x), tp, sl, im, sh, tf, rf)) else (-nI 1, S)
def op_off (S : Sg) (k : Int32) : Int32 × Sg := match S with
  | (p, (n, t), tp, sl, im, sh, tf, rf) => if k < 0 ∨ nI n < k then (-nI 1, S) else (nI (n - nOf k), p, (n - nOf k, t), tp, sl, im, sh, tf, rf)
def op_plan (S : Sg) (i : Int32) : Int32 × Sg := match S with
  | ((R, W, m, D), _) => (if i < 0 then -nI 1 else if nI (R * W) ≤ i then -nI 4 else planL (lnD D W m) W (nOf i), S)
def op_mistake (S : Sg) (x : Int32) : Int32 × Sg := match S with
  | ((R, W, m, D), (n, t), _) => (if x < 0 ∨ nI 6 < x then -nI 1 else match misL t n (lnD D W m) W with
    | none => -nI 4
    | some i => if x = nI 0 then nI i else if x = nI 1 then nI (i / W) else if x = nI 2 then nI (i % W) else if x = nI 3 then planL (lnD D W m) W i else if x = nI 4 then nI (kndL (tldL t n (lnD D W m) W (R * W) i))
      else if x = nI 5 then nI (tldL t n (lnD D W m) W (R * W) i (kndL (tldL t n (lnD D W m) W (R * W) i))) else nI (n - i), S)
def setD (D : Nat → Nat → Int32) (r c : Nat) (x : Int32) : Nat → Nat → Int32 := fun q d => if q = r ∧ d = c then x else D q d
def op_paint (S : Sg) (r c x : Int32) : Int32 × Sg := match S with
  | ((R, W, m, D), (n, t), tp, sl, im, sh, tf, rf) => if hasRow R r && hasRow W c && isCol x then (D (nOf r) (nOf c), (R, W, m, setD D (nOf r) (nOf c) x), (0, t), tp, sl, im, sh, tf, rf) else (-nI 1, S)
def op_dye (S : Sg) (x y : Int32) : Int32 × Sg := match S with
  | ((R, W, m, D), (n, t), tp, sl, im, sh, tf, rf) => if isCol x && isCol y then (nI (manyA D R W x), (R, W, m, dyeD D x y), (0, t), tp, sl, im, sh, tf, rf) else (-nI 1, S)
def op_change (S : Sg) (r x : Int32) : Int32 × Sg := match S with
  | ((R, W, m, D), (n, t), tp, sl, im, sh, tf, rf) => if hasRow R r && hasRow 4 x then
      (if x = nI 3 ∧ 12 ≤ R then (-nI 3, S)
      else if x = nI 0 then (nI R, (R, W, m, turnD D W (nOf r)), (0, t), tp, sl, im, sh, tf, rf)
      else if x = nI 1 then (nI R, (R, W, m, moveD D W (nOf r)), (0, t), tp, sl, im, sh, tf, rf)
      else if x = nI 2 then (nI (R - 1), (R - 1, (if R - 1 = 0 then 0 else W), m, dropD D (nOf r)), (0, t), tp, sl, im, sh, tf, rf)
      else (nI (R + 1), (R + 1, W, m, repD D (nOf r)), (0, t), tp, sl, im, sh, tf, rf)) else (-nI 1, S)
def op_swap (S : Sg) (r s : Int32) : Int32 × Sg := match S with
  | ((R, W, m, D), (n, t), tp, sl, im, sh, tf, rf) => if hasRow R r && hasRow R s then (nI (fl (al (fun c => decide (D (nOf r) c = D (nOf s) c)) 0 W)), (R, W, m, swapD D (nOf r) (nOf s)), (0, t), tp, sl, im, sh, tf, rf) else (-nI 1, S)
def op_mode (S : Sg) (v : Int32) : Int32 × Sg := match S with
  | ((R, W, m, D), (n, t), tp, sl, im, sh, tf, rf) => if v < 0 ∨ nI 1 < v then (-nI 1, S) else (nI m, (R, W, nOf v, D), (0, t), tp, sl, im, sh, tf, rf)
/-- beads that are got, or those of the part ahead: from bead c on, k of them -/
def drB (W kc pt r : Nat) : Nat → Nat → Int32 × (Nat → Nat → Int32) → Int32 × (Nat → Nat → Int32)
  | 0, _, x => x
  | k + 1, c, x => drB W kc pt r k (c + 1) (if c < pt then (nxS x.1, setD x.2 r c (nI (gotN (nxS x.1) % kc))) else (x.1, setD x.2 r c (x.2 r (c - pt))))
def drR (W kc r : Nat) (x : Int32 × (Nat → Nat → Int32)) : Int32 × (Nat → Nat → Int32) :=
  if gotN (nxS x.1) % 4 = 0 ∧ 0 < r then (nxS (nxS x.1), fun q c => if q = r then x.2 (gotN (nxS (nxS x.1)) % r) c else x.2 q c)
  else if gotN (nxS x.1) % 4 = 1 then drB W kc (gotN (nxS (nxS x.1)) % W + 1) r W 0 (nxS (nxS x.1), x.2)
  else drB W kc W r W 0 (nxS x.1, x.2)
def itA {σ : Type} (f : Nat → σ → σ) : Nat → Nat → σ → σ
  | 0, _, x => x
  | k + 1, r, x => itA f k (r + 1) (f r x)
theorem itA_s {σ : Type} {f : Nat → σ → σ} {k r : Nat} {x : σ} : itA f (k + 1) r x = itA f k (r + 1) (f r x) := rfl
theorem itA_0 {σ : Type} {f : Nat → σ → σ} {r : Nat} {x : σ} : itA f 0 r x = x := rfl
abbrev drA (W kc : Nat) : Nat → Nat → Int32 × (Nat → Nat → Int32) → Int32 × (Nat → Nat → Int32) := itA (drR W kc)
def op_draw (S : Sg) (s n w k : Int32) : Int32 × Sg := match S with
  | ((R, W, m, D), (tn, t), tp, sl, im, sh, tf, rf) => if n < nI 1 ∨ nI 12 < n ∨ w < nI 1 ∨ nI 16 < w ∨ k < nI 1 ∨ nI 6 < k then (-nI 1, S) else
      (nI (nOf n * nOf w), (nOf n, nOf w, m, (drA (nOf w) (nOf k) (nOf n) 0 (s, D)).2), (0, t), tp, sl, im, sh, tf, rf)
def op_keep (S : Sg) (k : Int32) : Int32 × Sg := match S with
  | (p, th, tp, sl, im, sh, tf, rf) => if hasRow 2 k then (nI (fl (im (nOf k)).1), p, th, tp, sl, (fun j => if j = nOf k then (true, p, th) else im j), sh, tf, rf) else (-nI 1, S)
def op_back (S : Sg) (k : Int32) : Int32 × Sg := match S with
  | (p, th, tp, sl, im, sh, tf, rf) => if hasRow 2 k then (if (im (nOf k)).1 then (nI (im (nOf k)).2.1.1, (im (nOf k)).2.1, (im (nOf k)).2.2, tp, sl, im, sh, tf, rf) else (-nI 2, S)) else (-nI 1, S)
def op_sheet (S : Sg) (k ln n : Int32) : Int32 × Sg := match S with
  | (p, th, tp, sl, im, sh, tf, rf) => if hasRow 4 k && hasRow 3 ln && decide (n ≤ nI 32) then (if n < 0 then (-nI 14, S) else (nI 1, p, th, tp, sl, im, (fun j => if j = nOf k then (ln, nOf n, fun _ => 0) else sh j), tf, rf)) else (-nI 1, S)
def op_lay (S : Sg) (k i v : Int32) : Int32 × Sg := match S with
  | (p, th, tp, sl, im, sh, tf, rf) => if hasRow 4 k then (if fltS (sh (nOf k)).1 (sh (nOf k)).2.1 (sh (nOf k)).1 i = 0 then (nI 1, p, th, tp, sl, im, (fun j => if j = nOf k then ((sh j).1, (sh j).2.1, upd (sh j).2.2 (nOf i) (celV (sh j).1 v)) else sh j), tf, rf)
      else (-nI 10 - nI (fltS (sh (nOf k)).1 (sh (nOf k)).2.1 (sh (nOf k)).1 i), S)) else (-nI 1, S)
def setR (S : Sg) (f : Nat) : Sg := match S with
  | (p, th, tp, sl, im, sh, tf, _) => (p, th, tp, sl, im, sh, tf, f)
/-- cells are strung, q of them, from the i-th on -/
def runS (k : Nat) (ln f : Int32) : Nat → Nat → Sg → Int32 × Sg
  | 0, i, S => (nI i, S)
  | q + 1, i, S => if fltS (S.2.2.2.2.2.1 k).1 (S.2.2.2.2.2.1 k).2.1 ln (f + nI i) = 0 then
      (if (op_string (setR S 0) ((S.2.2.2.2.2.1 k).2.2 (nOf (f + nI i)))).1 < 0 then (nI i, setR S 0) else runS k ln f q (i + 1) (op_string (setR S 0) ((S.2.2.2.2.2.1 k).2.2 (nOf (f + nI i)))).2)
      else (nI i, setR S (fltS (S.2.2.2.2.2.1 k).1 (S.2.2.2.2.2.1 k).2.1 ln (f + nI i)))
def op_run (S : Sg) (k ln f n : Int32) : Int32 × Sg := if hasRow 4 k && hasRow 3 ln && hasRow 33 n then runS (nOf k) ln f (nOf n) 0 (setR S 0) else (-nI 1, S)
def op_torn (S : Sg) : Int32 × Sg := (nI S.2.2.2.2.2.2.2, S)
def op_count (S : Sg) (x : Int32) : Int32 × Sg := match S with
  | (p, th, tp, sl, im, sh, tf, rf) => (if x = nI 0 then nI (fl (im 0).1 + fl (im 1).1) else if x = nI 1 then nI tp.1 else if x = nI 2 then (if (sh 0).1 = -nI 4 then -nI 4 else nI (sh 0).2.1) else -nI 1, S)
/-! what the state keeps to -/
def okP (p : Pic) : Prop := p.1 ≤ 12 ∧ p.2.1 ≤ 16 ∧ p.2.2.1 ≤ 1 ∧ (p.1 = 0 → p.2.1 = 0) ∧ (p.1 ≠ 0 → 1 ≤ p.2.1)
def okTh (p : Pic) (th : Thr) : Prop := th.1 ≤ p.1 * p.2.1 ∧ ∀ j, j < th.1 → isCol (th.2 j) = true
def okSg (S : Sg) : Prop := match S with
  | (p, th, (n, tp), (sn, w), im, sh, tf, rf) => okP p ∧ okTh p th ∧ (n ≤ 300 ∧ ∀ j, j < n → ¬ tp j < 0) ∧ (sn ≤ 40 ∧ ∀ j, j < sn → w j ≤ 99) ∧ (∀ k, k < 2 → okP (im k).2.1 ∧ okTh (im k).2.1 (im k).2.2) ∧ (∀ k, k < 4 → (sh k).2.1 ≤ 32 ∧ ((sh k).1 = -nI 4 ∨ (sh k).1 = nI 0 ∨ (sh k).1 = nI 1 ∨ (sh k).1 = nI 2)) ∧ tf ≤ 4 ∧ rf ≤ 4
