/-! abstract values, cells, worlds: a reference is the number of its cell in the world -/
abbrev AV : Type := Int32 ⊕ (Int64 ⊕ Nat)
abbrev vi (x : Int32) : AV := .inl x
abbrev vl (x : Int64) : AV := .inr (.inl x)
abbrev vr (k : Nat) : AV := .inr (.inr k)
def cv (ad : Nat → Nat) : AV → Value
  | .inl x => .int x
  | .inr (.inl x) => .long x
  | .inr (.inr k) => .ref (ad k)
abbrev AC : Type := (Nat × Nat × (Nat → Int32)) ⊕ ((Nat × Nat × (Nat → Nat)) ⊕ (Nat × List AV))
abbrev ar (t n : Nat) (f : Nat → Int32) : AC := .inl (t, n, f)
abbrev rr (t n : Nat) (f : Nat → Nat) : AC := .inr (.inl (t, n, f))
abbrev ob (ci : Nat) (fs : List AV) : AC := .inr (.inr (ci, fs))
def ce (ad : Nat → Nat) (tc : Nat → ClassId) : AC → va_E
  | .inl (t, n, f) => .inl (tc t, n, .inl f)
  | .inr (.inl (t, n, g)) => .inl (tc t, n, .inr (.inr (.inr (.inr (fun i => some (ad (g i)))))))
  | .inr (.inr (ci, fs)) => .inr (ci, fs.map (cv ad))
abbrev AH : Type := List AC
def wm (ad : Nat → Nat) (tc : Nat → ClassId) (A : AH) : va_W := A.mapIdx (fun k c => (ad k, ce ad tc c))
theorem wm_get {ad : Nat → Nat} {tc : Nat → ClassId} {A : AH} {k : Nat} : (wm ad tc A)[k]? = (A[k]?).map (fun c => (ad k, ce ad tc c)) := by simp [wm]
theorem wm_at {ad : Nat → Nat} {tc : Nat → ClassId} {A : AH} {k : Nat} {c : AC} (h : A[k]? = some c) : (wm ad tc A)[k]? = some (ad k, ce ad tc c) := by rw [wm_get, h]; rfl
theorem wm_of {ad : Nat → Nat} {tc : Nat → ClassId} {A : AH} {k : Nat} {q : Nat × va_E} (h : (wm ad tc A)[k]? = some q) : ∃ c, A[k]? = some c ∧ q = (ad k, ce ad tc c) := by
  rw [wm_get] at h
  cases hc : A[k]? with
  | none => rw [hc] at h; cases h
  | some c => rw [hc] at h; exact ⟨c, rfl, (Option.some.inj h).symm⟩
theorem wm_set {ad : Nat → Nat} {tc : Nat → ClassId} {A : AH} {k : Nat} {c : AC} : wm ad tc (A.set k c) = (wm ad tc A).set k (ad k, ce ad tc c) := by
  apply List.ext_getElem?
  intro i
  rw [wm_get, List.getElem?_set, List.getElem?_set, wm_get]
  by_cases h : k = i
  · subst h
    have : (wm ad tc A).length = A.length := by simp [wm]
    rw [this]
    by_cases h2 : k < A.length
    · simp [h2]
    · simp [h2]
  · simp [h]
/-- name, bytes, most locals, type of the answer, level -/
abbrev ME : Type := MethodName × ByteArray × Nat × Option FieldType × Nat
def rmL (d : Nat) : Room := { frames := d, cells := 0, slots := 0, locals := 35 * d }
/-- launch, numbers of classes and slots, classes of arrays, places of the String constants -/
abbrev GG : Type := Launch × va_G × (Nat → ClassId) × (Nat → Nat) × (Nat → Nat)
def tyG (tc : Nat → ClassId) : List (ClassId × FieldType) := [(tc 0, .int), (tc 1, .boolean), (tc 2, .object RX1), (tc 3, .object RX4)]
abbrev vwCl : List vw_C := [(RX0, TX0, 1), (RX1, TX1, 3), (RX2, TX2, 4), (RX3, TX3, 5), (RX4, TX4, 3), (RX5, TX5, 3), (RX6, TX6, 2), (RX7, TX7, 2), (RX8, TX8, 2), (RX9, TX9, 11), (RX10, TX10, 20)]
def AA (ad : Nat → Nat) (N sz : Nat) : Nat → Prop := fun q => (∃ k, k < N ∧ q = ad k) ∨ sz ≤ q
def inj (ad : Nat → Nat) (N : Nat) : Prop := ∀ i j, i < N → j < N → ad i = ad j → i = j
/-- what stands outside every world: the nest mates' links, the String constants, two statics of the JDK -/
def Sx (g : GG) (A : Nat → Prop) (U : State) : Prop :=
  (va_Nw (.methodLinkNest RX3 106 yX9_isColour RX9) U ∧ va_Nw (.methodLinkNest RX5 54 yX9_isColour RX9) U) ∧
  (vk_R RX3 60 "row" (g.2.2.2.1 0) U ∧ vk_R RX3 69 "fro" (g.2.2.2.1 1) U) ∧
  vk_S 2 [3, 3] [[114, 111, 119], [102, 114, 111]] g.2.2.2.1 g.2.2.2.2 A U U.heap ∧
  va_Z RJ0 "COMPACT_STRINGS" "Z" (.int 1) A U U.heap ∧ va_Zq RJ3 "SIOOBE_FORMATTER" "Ljava/util/function/BiFunction;" A U U.heap
theorem Sx.go {g : GG} {A B : Nat → Prop} {s U : State} (h : Sx g A s) (hW : s.WarmedH U.vm) (hAB : ∀ q, B q → A q) (hq : ∀ a : Nat, a < s.heap.size → ¬ A a → U.heap[a]? = s.heap[a]?) : Sx g B U := by
  obtain ⟨⟨h1, h2⟩, ⟨h3, h4⟩, h5, h6, h7⟩ := h
  exact ⟨⟨h1.warmM hW, h2.warmM hW⟩, ⟨h3.warm hW, h4.warm hW⟩, ((h5.moved hW.alike).kept hq).narrow hAB, ((h6.moved hW.alike).kept hq).narrow hAB, ((h7.moved hW.alike).kept hq).narrow hAB⟩
theorem Sx.same {g : GG} {A : Nat → Prop} {s U : State} (h : Sx g A s) (hv : U.vm = s.vm) (hh : U.heap = s.heap) : Sx g A U := by
  obtain ⟨⟨h1, h2⟩, ⟨h3, h4⟩, h5, h6, h7⟩ := h
  have ha : s.vm.Alike U.vm := by rw [hv]; exact Vm.Alike.refl _
  refine ⟨⟨h1.same rfl hv.symm, h2.same rfl hv.symm⟩, ⟨h3.same hv, h4.same hv⟩, ?_, ?_, ?_⟩
  · rw [hh]; exact h5.moved ha
  · rw [hh]; exact h6.moved ha
  · rw [hh]; exact h7.moved ha
/-- the words that every method is given: all of the tables that last -/
def wsG : List Cond := lw_tbl.filter goodWord
theorem wsG_in {w : Cond} (h : w ∈ wsG) : w ∈ lw_tbl := (List.mem_filter.mp h).1
theorem wsG_good {w : Cond} (h : w ∈ wsG) : goodWord w = true := (List.mem_filter.mp h).2
def wsM (M : ME) : List Cond := Cond.code M.1 M.2.1 M.2.2.1 M.2.2.2.1 :: wsG
def PcE (g : GG) (ad : Nat → Nat) (sz : Nat) (vs : List AV) (A : AH) : Array Value → State → Prop :=
  va_Pc (vs.map (cv ad)) (fun U => U.heap.size = sz ∧ va_P g.2.1 vwCl (wm ad g.2.2.1 A) U.heap ∧ va_K g.2.1 vwCl (tyG g.2.2.1) U ∧ Sx g (AA ad A.length sz) U)
def QcE (g : GG) (ad : Nat → Nat) (N : Nat) (Q : Option AV → AH → Prop) : Array Value → State → Outcome → State → Prop := fun _ st oc t =>
  (∃ (r : Option AV) (A' : AH), oc = .returned (r.map (cv ad)) ∧ Q r A' ∧ A'.length = N ∧ va_P g.2.1 vwCl (wm ad g.2.2.1 A') t.heap) ∧ va_F (AA ad N st.heap.size) st t
/-- where the String constants lie, and their bytes -/
def stA (g : GG) (i : Nat) : Nat := match i with
  | 0 => g.2.2.2.1 0
  | 1 => g.2.2.2.1 1
  | 2 => g.2.2.2.2 0
  | _ => g.2.2.2.2 1
def okS (g : GG) (ad : Nat → Nat) : Prop := ∀ i, i < 4 → ad (1000 + i) = stA g i
/-- the contract of a method: from these arguments and this world it comes to an answer and a world of which Q holds -/
def Ev (g : GG) (M : ME) (vs : List AV) (A : AH) (Q : Option AV → AH → Prop) : Prop :=
  ∀ (ad : Nat → Nat) (sz : Nat), inj ad A.length → okS g ad → Met g.1 M.1 (wsM M) (rmL M.2.2.2.2) (PcE g ad sz vs A) (QcE g ad A.length Q) 0 0 (AA ad A.length sz)
def LV (ad : Nat → Nat) (ls : Array Slot) (n : Nat) (lv : List (Option AV)) : Prop := ls.size = n ∧ lv_wf ls ∧ ∀ (k : Nat) (v : AV), lv[k]? = some (some v) → ls[k]? = some (.val (cv ad v))
def asc (ad : Nat → Nat) (lv : List (Option AV)) : List (Nat × Value) := (List.range lv.length).filterMap (fun k => (lv.getD k none).map (fun v => (k, cv ad v)))
theorem asc_mem {ad : Nat → Nat} {lv : List (Option AV)} {q : Nat × Value} : q ∈ asc ad lv ↔ ∃ v, lv[q.1]? = some (some v) ∧ q.2 = cv ad v := by
  unfold asc
  rw [List.mem_filterMap]
  constructor
  · rintro ⟨k, hk, h⟩
    have hk := List.mem_range.mp hk
    rw [List.getD_eq_getElem?_getD, List.getElem?_eq_getElem hk] at h
    cases hv : lv[k] with
    | none => rw [hv] at h; cases h
    | some v =>
      rw [hv] at h
      have h := Option.some.inj h
      subst h
      exact ⟨v, by rw [List.getElem?_eq_getElem hk, hv], rfl⟩
  · rintro ⟨v, h1, h2⟩
    have hk : q.1 < lv.length := (List.getElem?_eq_some_iff.mp h1).1
    refine ⟨q.1, List.mem_range.mpr hk, ?_⟩
    rw [List.getD_eq_getElem?_getD, h1]
    show some (q.1, cv ad v) = some q
    rw [← h2]
theorem LV.has {ad : Nat → Nat} {ls : Array Slot} {n : Nat} {lv : List (Option AV)} (h : LV ad ls n lv) : lv_has ls n (asc ad lv) := by
  refine ⟨h.1, h.2.1, fun q hq => ?_⟩
  obtain ⟨v, h1, h2⟩ := asc_mem.mp hq
  rw [h.2.2 _ v h1, h2]
theorem LV.at {ad : Nat → Nat} {ls : Array Slot} {n : Nat} {lv : List (Option AV)} (h : LV ad ls n lv) {i : Nat} {v : AV} (hi : lv[i]? = some (some v)) : ls[i]? = some (.val (cv ad v)) := h.2.2 i v hi
def isL (v : Option AV) : Bool := match v with
  | some (.inr (.inl _)) => true
  | _ => false
/-- a store at i kills no long -/
def okSt (lv : List (Option AV)) (i : Nat) : Bool := match i with
  | 0 => true
  | k + 1 => !(isL (lv.getD k none))
theorem cv_cat {ad : Nat → Nat} {v : AV} : (cv ad v).category = 2 ↔ isL (some v) = true := by
  rcases v with x | x | k <;> simp [cv, Value.category, isL]
theorem LV.set1 {ad : Nat → Nat} {ls' : Array Slot} {n : Nat} {lv : List (Option AV)} {i : Nat} {v : AV} (hok : okSt lv i = true)
    (h : lv_has ls' n ((i, cv ad v) :: (asc ad lv).filter (fun q => !(q.1 == i) && !(q.1 + 1 == i && q.2.category == 2)))) : LV ad ls' n (lv.set i (some v)) := by
  refine ⟨h.1, h.2.1, fun k w hk => ?_⟩
  rw [List.getElem?_set] at hk
  by_cases e : i = k
  · subst e
    rw [if_pos rfl] at hk
    split at hk
    · have e2 : v = w := Option.some.inj (Option.some.inj hk)
      subst e2
      exact h.2.2 (i, cv ad v) List.mem_cons_self
    · cases hk
  · rw [if_neg e] at hk
    refine h.2.2 (k, cv ad w) (List.mem_cons_of_mem _ (List.mem_filter.mpr ⟨asc_mem.mpr ⟨w, hk, rfl⟩, ?_⟩))
    have e1 : ¬ k = i := fun q => e q.symm
    simp only [Bool.and_eq_true, Bool.not_eq_true', beq_eq_false_iff_ne, ne_eq, e1, not_false_eq_true, true_and, Bool.and_eq_false_iff]
    by_cases e2 : k + 1 = i
    · right
      subst e2
      intro hc
      have h2 := cv_cat.mp hc
      simp only [okSt] at hok
      rw [List.getD_eq_getElem?_getD, hk] at hok
      simp [h2] at hok
    · exact Or.inl e2
theorem LV.set2 {ad : Nat → Nat} {ls' : Array Slot} {n : Nat} {lv : List (Option AV)} {i : Nat} {v : AV} (hok : okSt lv i = true)
    (h : lv_has ls' n ((i, cv ad v) :: (asc ad lv).filter (fun q => !(q.1 == i) && (!(q.1 == i + 1) && !(q.1 + 1 == i && q.2.category == 2))))) : LV ad ls' n ((lv.set i (some v)).set (i + 1) none) := by
  refine ⟨h.1, h.2.1, fun k w hk => ?_⟩
  rw [List.getElem?_set] at hk
  by_cases e0 : i + 1 = k
  · rw [if_pos e0] at hk
    split at hk <;> cases hk
  rw [if_neg e0, List.getElem?_set] at hk
  by_cases e : i = k
  · subst e
    rw [if_pos rfl] at hk
    split at hk
    · have e2 : v = w := Option.some.inj (Option.some.inj hk)
      subst e2
      exact h.2.2 (i, cv ad v) List.mem_cons_self
    · cases hk
  · rw [if_neg e] at hk
    refine h.2.2 (k, cv ad w) (List.mem_cons_of_mem _ (List.mem_filter.mpr ⟨asc_mem.mpr ⟨w, hk, rfl⟩, ?_⟩))
    have e1 : ¬ k = i := fun q => e q.symm
    have e3 : ¬ k = i + 1 := fun q => e0 q.symm
    simp only [Bool.and_eq_true, Bool.not_eq_true', beq_eq_false_iff_ne, ne_eq, e1, e3, not_false_eq_true, true_and, Bool.and_eq_false_iff]
    by_cases e2 : k + 1 = i
    · right
      subst e2
      intro hc
      have h2 := cv_cat.mp hc
      simp only [okSt] at hok
      rw [List.getD_eq_getElem?_getD, hk] at hok
      simp [h2] at hok
    · exact Or.inl e2
/-- the locals at the start -/
def lv0 : List AV → List (Option AV)
  | [] => []
  | .inr (.inl x) :: r => some (.inr (.inl x)) :: none :: lv0 r
  | .inl x :: r => some (.inl x) :: lv0 r
  | .inr (.inr x) :: r => some (.inr (.inr x)) :: lv0 r
theorem lv0_mem {ad : Nat → Nat} : ∀ (vs : List AV) (i k : Nat) (v : AV), (lv0 vs)[k]? = some (some v) → (i + k, cv ad v) ∈ lv_args i (vs.map (cv ad)) := by
  intro vs
  induction vs with
  | nil => intro i k v h; simp [lv0] at h
  | cons a r ih =>
    intro i k v h
    rcases a with x | x | x
    · cases k with
      | zero => simp [lv0] at h; subst h; exact List.mem_cons_self
      | succ k =>
        simp only [lv0, List.getElem?_cons_succ] at h
        have := ih (i + 1) k v h
        refine List.mem_cons_of_mem _ ?_
        simpa [cv, Value.category, Nat.add_assoc, Nat.add_comm 1 k] using this
    · match k, h with
      | 0, h => simp [lv0] at h; subst h; exact List.mem_cons_self
      | 1, h => simp [lv0] at h
      | k + 2, h =>
        simp only [lv0, List.getElem?_cons_succ] at h
        have := ih (i + 2) k v h
        refine List.mem_cons_of_mem _ ?_
        simpa [cv, Value.category, Nat.add_assoc, Nat.add_comm 2 k] using this
    · cases k with
      | zero => simp [lv0] at h; subst h; exact List.mem_cons_self
      | succ k =>
        simp only [lv0, List.getElem?_cons_succ] at h
        have := ih (i + 1) k v h
        refine List.mem_cons_of_mem _ ?_
        simpa [cv, Value.category, Nat.add_assoc, Nat.add_comm 1 k] using this
theorem lv0_len {ad : Nat → Nat} : ∀ (vs : List AV), (lg_sl (vs.map (cv ad))).length = (lv0 vs).length := by
  intro vs
  induction vs with
  | nil => rfl
  | cons a r ih =>
    rcases a with x | x | x <;> simp [lg_sl, lv0, cv, Value.category] at ih ⊢ <;> omega
