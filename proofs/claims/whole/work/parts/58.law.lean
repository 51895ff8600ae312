/-! the law, from its entry -/
def mLaw : ME := (yL_law, code, 4, ret, 11)
set_option maxHeartbeats 4000000 in
set_option maxRecDepth 100000 in
theorem whole_start {p : Program} {e : Env} {s : State} {m : MethodId} {below : List Frame} {meth : Method} {c : Code} (l : Launch) (hflags : l.flags = flags0) {b L : Nat} {xs : Nat → Int32} (hL : L ≤ 2560) (hC0 : lw_At p s m meth c b L xs) : W p l e room_1 s m #[Value.ref b] below meth c s.heap [] 0 0 (lw_Z below #[Value.ref b] s) (entryFrame m ([Value.ref b] : List Value).toArray 4) := by
  obtain ⟨hx, hb, hr, hml, hown, hts, hX, hbl, hlocks, hgv⟩ := hC0
  obtain ⟨D, cI, cZ, hK⟩ := K_of hts
  obtain ⟨adK, adV, hSx⟩ := Sx_of hts hgv
  have C : VX mLaw (fun q => s.heap.size ≤ q) p s m #[Value.ref b] meth c := ⟨hx, hb, hr, hml, hown, fun w hw => hts w (wsG_in hw), hlocks, fun h => absurd h (by decide), Nx_of hts, fun _ h => h⟩
  have hl := lv_entry ([.ref b]) (n := 4) (Nat.le_of_ble_eq_true rfl)
  rw [lg_entry_eq]
  generalize (lg_sl ([.ref b]) ++ List.replicate (4 - (lg_sl ([.ref b])).length) Slot.unset).toArray = ls at hl ⊢
  have main : V p l e room_1 s m #[Value.ref b] below meth c (lw_Z below #[Value.ref b] s) mLaw D (fun q => s.heap.size ≤ q) 0 0 0 [(0, .ref b)] [] [] := by
    refine V_new C hK (by decide +kernel : decode mLaw.2.1 0 = .ok (.new 7, 3)) nwRL_7 (Nat.le_of_ble_eq_true rfl) (Nat.le_of_ble_eq_true rfl) (fun q1 => ?_)
    refine V_dup C (by decide +kernel : decode mLaw.2.1 3 = .ok (.dup, 1)) ?_
    refine V_callI (me' := mX9_init) C hK ct9 oki9 (tb1 19 rfl rfl) ⟨(Nat.le_of_ble_eq_true rfl), (Nat.le_of_ble_eq_true rfl)⟩ (by decide +kernel : decode mLaw.2.1 4 = .ok (.invokespecial 9, 3)) (Nat.le_of_ble_eq_true rfl) (Nat.le_of_ble_eq_true rfl) (Nat.le_of_ble_eq_true rfl) (fun u t hvm hE => ?_)
    obtain ⟨e1, hK4⟩ := hE
    have hK4 := va_K.moved hvm.symm hK4
    subst e1
    refine V_astore C [(1, .ref (u.1 0)), (0, .ref b)] (by decide +kernel : decode mLaw.2.1 7 = .ok (.astore_n 1, 1)) (by decide) rfl ?_
    refine V_new C hK (by decide +kernel : decode mLaw.2.1 8 = .ok (.new 10, 3)) nwRL_10 (Nat.le_of_ble_eq_true rfl) (Nat.le_of_ble_eq_true rfl) (fun q2 => ?_)
    refine V_dup C (by decide +kernel : decode mLaw.2.1 11 = .ok (.dup, 1)) ?_
    refine V_callI (me' := mX10_init) C hK (ct10 (cM := u.2.1) (cS := u.2.2)) oki10 (tb4 13 rfl rfl) ⟨(Nat.le_of_ble_eq_true rfl), (Nat.le_of_ble_eq_true rfl)⟩ (by decide +kernel : decode mLaw.2.1 12 = .ok (.invokespecial 12, 3)) (Nat.le_of_ble_eq_true rfl) (Nat.le_of_ble_eq_true rfl) (Nat.le_of_ble_eq_true rfl) (fun v t2 hvm2 e2 => ?_)
    subst e2
    refine V_astore C [(2, .ref (v 0)), (1, .ref (u.1 0)), (0, .ref b)] (by decide +kernel : decode mLaw.2.1 15 = .ok (.astore_n 2, 1)) (by decide) rfl ?_
    refine V_iconst C (nI 0) (by decide +kernel : decode mLaw.2.1 16 = .ok (.iconst 0, 1)) (by decide) ?_
    refine V_istore C [(3, .int (nI 0)), (2, .ref (v 0)), (1, .ref (u.1 0)), (0, .ref b)] (by decide +kernel : decode mLaw.2.1 17 = .ok (.istore_n 3, 1)) (by decide) rfl ?_
    refine V_eq (ws' := wmF u.1 (tcV cI cZ u.2.1 u.2.2) 0 (cW S0 C0) ++ wmF v (tcV cI cZ u.2.1 u.2.2) 0 (mW a0 f0)) (by unfold bW9 bW10; rw [wm_F, wm_F]; rfl) ?_
    refine V_rr 16 (f' := fun i => some (adW u.1 v (stA (l, D, (fun _ => cI), adK, adV)) (imA i))) rfl (fun j hj => by rcases (show j = 0 ∨ j = 1 by omega) with rfl | rfl <;> rfl) ?_
    refine V_rr 17 (f' := fun i => some (adW u.1 v (stA (l, D, (fun _ => cI), adK, adV)) (shA i))) rfl (fun j hj => by rcases (show j = 0 ∨ j = 1 ∨ j = 2 ∨ j = 3 by omega) with rfl | rfl | rfl | rfl <;> rfl) ?_
    refine V_eq adW_eq ?_
    intro H locs ls hP hD hS hl
    rw [← wm_F] at hP hD
    have hlen := wB_len S0 C0 a0 f0
    have hat : ∀ k, k < 47 → ∃ q : va_E, (wm (adW u.1 v (stA (l, D, (fun _ => cI), adK, adV))) (tcV cI cZ u.2.1 u.2.2) (wB S0 C0 a0 f0))[k]? = some (adW u.1 v (stA (l, D, (fun _ => cI), adK, adV)) k, q) := fun k hk => ⟨_, wm_at (List.getElem?_eq_getElem (by rw [hlen]; exact hk))⟩
    have hinj : inj (adW u.1 v (stA (l, D, (fun _ => cI), adK, adV))) 47 := by
      intro i j hi hj he
      obtain ⟨c1, h1⟩ := hat i hi
      obtain ⟨c2, h2⟩ := hat j hj
      exact hD.1 i j _ _ h1 h2 he
    have hge : ∀ k, k < 47 → s.heap.size ≤ adW u.1 v (stA (l, D, (fun _ => cI), adK, adV)) k := by
      intro k hk
      obtain ⟨c1, h1⟩ := hat k hk
      exact hD.2 k _ h1
    have hok : okS (l, D, tcV cI cZ u.2.1 u.2.2, adK, adV) (adW u.1 v (stA (l, D, (fun _ => cI), adK, adV))) := by
      intro i hi
      rcases (show i = 0 ∨ i = 1 ∨ i = 2 ∨ i = 3 by omega) with rfl | rfl | rfl | rfl <;> rfl
    exact law_loop (g := (l, D, tcV cI cZ u.2.1 u.2.2, adK, adV)) (b := b) (L := L) (xs := xs) ⟨(Nat.le_of_ble_eq_true rfl), (Nat.le_of_ble_eq_true rfl)⟩ 513 0 S0 C0 a0 f0 (by decide) (by decide) okS0 RC0 RM0 hL _ p e s m below meth c ⟨⟨hx, hb, hr, hml, hown⟩, C.2.2.2.2.2.1, hlocks, hK4, hSx _ _ _, hinj, hok, ⟨hX, hbl, hL⟩, hge⟩ H locs ls hP hS hlen (lv_sub hl [3, 2, 1, 0] rfl)
  exact main s.heap [] ls (fun k q h => by simp at h) ⟨fun i j p q h => by simp at h, fun k q h => by simp at h⟩ va_S.rf hl
