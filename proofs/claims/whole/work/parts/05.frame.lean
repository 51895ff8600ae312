/-! the frame: a contract over a small world holds in every world that has it as a part -/
def ren (is : List Nat) (k : Nat) : Nat := is.getD k k
def renV (is : List Nat) : AV → AV
  | .inl x => .inl x
  | .inr (.inl x) => .inr (.inl x)
  | .inr (.inr k) => .inr (.inr (ren is k))
def renC (is : List Nat) : AC → AC
  | .inl a => .inl a
  | .inr (.inl (t, n, f)) => .inr (.inl (t, n, fun i => ren is (f i)))
  | .inr (.inr (ci, fs)) => .inr (.inr (ci, fs.map (renV is)))
def put (r : List Nat) : List Nat → AH → AH → AH
  | i :: is, c :: A, B => put r is A (B.set i (renC r c))
  | _, _, B => B
theorem cv_ren {ad : Nat → Nat} {is : List Nat} (v : AV) : cv ad (renV is v) = cv (fun k => ad (ren is k)) v := by
  rcases v with x | x | k <;> rfl
theorem ce_ren {ad : Nat → Nat} {tc : Nat → ClassId} {is : List Nat} (c : AC) : ce ad tc (renC is c) = ce (fun k => ad (ren is k)) tc c := by
  rcases c with ⟨t, n, f⟩ | ⟨t, n, f⟩ | ⟨ci, fs⟩
  · rfl
  · rfl
  · show (Sum.inr (ci, (fs.map (renV is)).map (cv ad)) : va_E) = Sum.inr (ci, fs.map (cv (fun k => ad (ren is k))))
    rw [List.map_map]
    congr 2
    apply List.map_congr_left
    intro v _
    exact cv_ren v
theorem put_len {r : List Nat} : ∀ (is : List Nat) (A B : AH), (put r is A B).length = B.length := by
  intro is
  induction is with
  | nil => intro A B; rfl
  | cons i is ih =>
    intro A B
    cases A with
    | nil => rfl
    | cons c A => simp only [put]; rw [ih, List.length_set]
theorem put_out {r : List Nat} {k : Nat} : ∀ (is : List Nat) (A B : AH), k ∉ is → (put r is A B)[k]? = B[k]? := by
  intro is
  induction is with
  | nil => intro A B _; rfl
  | cons i is ih =>
    intro A B h
    cases A with
    | nil => rfl
    | cons c A =>
      simp only [put]
      rw [ih A _ (fun q => h (List.mem_cons_of_mem _ q)), List.getElem?_set_ne (fun (e : i = k) => h (by rw [e]; exact List.mem_cons_self))]
theorem put_in {r : List Nat} : ∀ (is : List Nat) (A B : AH), is.Nodup → ∀ (j k : Nat) (c : AC), is[j]? = some k → A[j]? = some c → k < B.length → (put r is A B)[k]? = some (renC r c) := by
  intro is
  induction is with
  | nil => intro A B _ j k c h; simp at h
  | cons i is ih =>
    intro A B hn j k c h1 h2 h3
    obtain ⟨hn1, hn2⟩ := List.nodup_cons.mp hn
    cases A with
    | nil => simp at h2
    | cons c0 A =>
      simp only [put]
      cases j with
      | zero =>
        simp at h1 h2
        subst h1; subst h2
        rw [put_out is A _ hn1, List.getElem?_set_self h3]
      | succ j =>
        simp at h1 h2
        exact ih A _ hn2 j k c h1 h2 (by rw [List.length_set]; exact h3)
theorem nd_of {l : List Nat} (h : va_nd l = true) : l.Nodup := by
  induction l with
  | nil => exact List.nodup_nil
  | cons a l ih =>
    simp only [va_nd, Bool.and_eq_true] at h
    refine List.nodup_cons.mpr ⟨?_, ih h.2⟩
    have h1 := h.1
    intro hm
    simp [hm] at h1
theorem Sx.nar {g : GG} {A B : Nat → Prop} {s : State} (h : Sx g A s) (hAB : ∀ q, B q → A q) : Sx g B s :=
  ⟨h.1, h.2.1, h.2.2.1.narrow hAB, h.2.2.2.1.narrow hAB, h.2.2.2.2.narrow hAB⟩
theorem Ev.fr {g : GG} {me : ME} {vs : List AV} {A B : AH} {Q Q' : Option AV → AH → Prop} (is : List Nat) (h : Ev g me vs A Q) (hnd : va_nd is = true) (hbd : is.length ≤ 1000) (hB : is.map (fun i => B[i]?) = A.map (fun c => some (renC is c)))
    (hq : ∀ r A', A'.length = A.length → Q r A' → Q' (r.map (renV is)) (put is is A' B)) : Ev g me (vs.map (renV is)) B Q' := by
  have hlen : is.length = A.length := by have := congrArg List.length hB; simpa using this
  have hN := nd_of hnd
  have atB : ∀ (j : Nat) (c : AC), A[j]? = some c → ∃ k : Nat, is[j]? = some k ∧ B[k]? = some (renC is c) := by
    intro j c hc
    have h1 : (is.map (fun i => B[i]?))[j]? = some (some (renC is c)) := by rw [hB, List.getElem?_map, hc]; rfl
    rw [List.getElem?_map] at h1
    cases hi : is[j]? with
    | none => rw [hi] at h1; cases h1
    | some k => rw [hi] at h1; exact ⟨k, rfl, Option.some.inj h1⟩
  have renAt : ∀ (j k : Nat), is[j]? = some k → ren is j = k := by
    intro j k hj
    unfold ren
    rw [List.getD_eq_getElem?_getD, hj]
    rfl
  have isA : ∀ (j : Nat), j < A.length → ∃ c, A[j]? = some c := fun j hj => ⟨A[j], List.getElem?_eq_getElem hj⟩
  intro ad sz hi hs
  have hAA : ∀ q, AA (fun k => ad (ren is k)) A.length sz q → AA ad B.length sz q := by
    rintro q (⟨j, h1, h2⟩ | h1)
    · obtain ⟨c, hc⟩ := isA j h1
      obtain ⟨k, k1, k2⟩ := atB j c hc
      refine Or.inl ⟨k, (List.getElem?_eq_some_iff.mp k2).1, ?_⟩
      rw [h2]
      show ad (ren is j) = ad k
      rw [renAt j k k1]
    · exact Or.inr h1
  have hi' : inj (fun k => ad (ren is k)) A.length := by
    intro i j h1 h2 h3
    obtain ⟨c1, hc1⟩ := isA i h1
    obtain ⟨c2, hc2⟩ := isA j h2
    obtain ⟨k1, a1, b1⟩ := atB i c1 hc1
    obtain ⟨k2, a2, b2⟩ := atB j c2 hc2
    have h3 : ad (ren is i) = ad (ren is j) := h3
    rw [renAt i k1 a1, renAt j k2 a2] at h3
    have e := hi k1 k2 (List.getElem?_eq_some_iff.mp b1).1 (List.getElem?_eq_some_iff.mp b2).1 h3
    subst e
    exact va_nd_inj is hnd i j k1 a1 a2
  have hs' : okS g (fun k => ad (ren is k)) := by
    intro i hi2
    have : ren is (1000 + i) = 1000 + i := by
      unfold ren
      rw [List.getD_eq_getElem?_getD, List.getElem?_eq_none (by omega)]
      rfl
    show ad (ren is (1000 + i)) = _
    rw [this]
    exact hs i hi2
  intro p e ha hc hk s m args below hf happ hP hK
  obtain ⟨p0, p1, p2, p3, p4⟩ := hP
  have hP' : PcE g (fun k => ad (ren is k)) sz vs A args s := by
    refine ⟨?_, p1, ?_, p3, ?_⟩
    · rw [p0, List.map_map]
      congr 1
      apply List.map_congr_left
      intro v _
      exact cv_ren v
    · intro j q hq2
      obtain ⟨c, c1, rfl⟩ := wm_of hq2
      obtain ⟨k, k1, k2⟩ := atB j c c1
      have := p2 k _ (wm_at k2)
      rw [ce_ren] at this
      show va_at _ _ (ad (ren is j), _) _
      rw [renAt j k k1]
      exact this
    · exact p4.nar hAA
  obtain ⟨n, o, h1, h2, h3, ⟨⟨r, A', b1, b2, b3, b4⟩, hF⟩, L, h5, h6⟩ := h _ sz hi' hs' p e ha hc hk s m args below hf happ hP' hK
  refine ⟨n, o, h1, h2, h3, ⟨⟨r.map (renV is), put is is A' B, ?_, hq r A' b3 b2, put_len _ _ _, ?_⟩, ?_⟩, L, h5, fun q hq2 => hAA _ (h6 q hq2)⟩
  · rw [b1]
    cases r with
    | none => rfl
    | some v => show Outcome.returned (some _) = Outcome.returned (some _); rw [cv_ren]
  · intro k q hq2
    obtain ⟨c, c1, rfl⟩ := wm_of hq2
    have hkB : k < B.length := by have := (List.getElem?_eq_some_iff.mp c1).1; rwa [put_len] at this
    by_cases hin : k ∈ is
    · obtain ⟨j, hj⟩ := List.getElem?_of_mem hin
      have hjA : j < A'.length := by rw [b3, ← hlen]; exact (List.getElem?_eq_some_iff.mp hj).1
      have hc' : A'[j]? = some A'[j] := List.getElem?_eq_getElem hjA
      have e1 := put_in (r := is) is A' B hN j k _ hj hc' hkB
      have e2 : c = renC is A'[j] := Option.some.inj (c1.symm.trans e1)
      have e3 := b4 j _ (wm_at hc')
      rw [e2]
      show va_at _ _ (ad k, ce ad _ (renC is A'[j])) _
      rw [ce_ren, ← renAt j k hj]
      exact e3
    · rw [put_out is A' B hin] at c1
      have hat := p2 k _ (wm_at c1)
      refine hat.kept ?_
      have hlt : ad k < s.heap.size := hat.lt
      refine hF.2 _ hlt ?_
      rintro (⟨j, j1, j2⟩ | j1)
      · obtain ⟨c2, hc2⟩ := isA j j1
        obtain ⟨k2, k3, k4⟩ := atB j c2 hc2
        have j2 : ad k = ad (ren is j) := j2
        rw [renAt j k2 k3] at j2
        have := hi k k2 hkB (List.getElem?_eq_some_iff.mp k4).1 j2
        subst this
        exact hin (List.mem_of_getElem? k3)
      · exact absurd hlt (by have : s.heap.size ≤ ad k := j1; omega)
  · rw [p1] at hF ⊢
    exact ⟨hF.1, fun q h1 h2 => hF.2 q h1 (fun z => h2 (by rw [p1] at *; exact hAA q z))⟩
