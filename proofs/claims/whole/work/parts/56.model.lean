/-! the reference, new -/
def a0 : Nat → Nat → Int32 := fun k => if k = 8 then upd (upd (upd (upd (fun _ => 0) 0 (-nI 4)) 1 (-nI 4)) 2 (-nI 4)) 3 (-nI 4) else fun _ => 0
def f0 : Nat → Int32 := fun _ => 0
def bW10 (cI cZ cM cS : ClassId) (_ : Nat) (u : Nat → Nat) : va_W := wm u (tcV cI cZ cM cS) (mW a0 f0)
set_option maxHeartbeats 4000000 in
set_option maxRecDepth 100000 in
theorem ct10 {l : Launch} {D : va_G} {cI cZ cM cS : ClassId} : CN l D cI cZ mX10_init 10 2046 10 [.null, .null, .null, .null, .null, .int 0, .int 0, .int 0, .int 0, .int 0, .int 0, .null, .int 0, .null, .int 0, .int 0, .null, .null, .null, .int 0] (bW10 cI cZ cM cS) (fun h0 u _ => u 0 = h0) := by
  refine CN_of oki10 (by decide) ?_
  intro h0 p e s m args below meth c A C hK
  refine V_aload C 0 (by decide +kernel : decode mX10_init.2.1 0 = .ok (.aload_n 0, 1)) rfl ?_
  refine V_obj C (by decide +kernel : decode mX10_init.2.1 1 = .ok (.invokespecial 1, 3)) (tb4 16 rfl rfl) (by decide) (by decide) ?_
  refine V_aload C 0 (by decide +kernel : decode mX10_init.2.1 4 = .ok (.aload_n 0, 1)) rfl ?_
  refine V_sipush C (nI 388) (by decide +kernel : decode mX10_init.2.1 5 = .ok (.sipush 388, 3)) (by decide) ?_
  refine V_newi C hK rfl (by decide +kernel : decode mX10_init.2.1 8 = .ok (.newarray .int, 2)) (by decide) (Nat.le_of_ble_eq_true rfl) (Nat.le_of_ble_eq_true rfl) (fun q1 => ?_)
  refine V_putF C hK 0 (by decide +kernel : decode mX10_init.2.1 10 = .ok (.putfield 7, 3)) fn10_7 rfl (Nat.le_of_ble_eq_true rfl) rfl rfl rfl ?_
  refine V_eq (ws' := [(h0, .inr (10, [.ref q1, .null, .null, .null, .null, .int 0, .int 0, .int 0, .int 0, .int 0, .int 0, .null, .int 0, .null, .int 0, .int 0, .null, .null, .null, .int 0])), (q1, .inl (cI, 388, .inl (fun _ => 0)))]) rfl ?_
  refine V_aload C 0 (by decide +kernel : decode mX10_init.2.1 13 = .ok (.aload_n 0, 1)) rfl ?_
  refine V_sipush C (nI 388) (by decide +kernel : decode mX10_init.2.1 14 = .ok (.sipush 388, 3)) (by decide) ?_
  refine V_newi C hK rfl (by decide +kernel : decode mX10_init.2.1 17 = .ok (.newarray .int, 2)) (by decide) (Nat.le_of_ble_eq_true rfl) (Nat.le_of_ble_eq_true rfl) (fun q2 => ?_)
  refine V_putF C hK 0 (by decide +kernel : decode mX10_init.2.1 19 = .ok (.putfield 13, 3)) fn10_13 rfl (Nat.le_of_ble_eq_true rfl) rfl rfl rfl ?_
  refine V_eq (ws' := [(h0, .inr (10, [.ref q1, .ref q2, .null, .null, .null, .int 0, .int 0, .int 0, .int 0, .int 0, .int 0, .null, .int 0, .null, .int 0, .int 0, .null, .null, .null, .int 0])), (q1, .inl (cI, 388, .inl (fun _ => 0))), (q2, .inl (cI, 388, .inl (fun _ => 0)))]) rfl ?_
  refine V_aload C 0 (by decide +kernel : decode mX10_init.2.1 22 = .ok (.aload_n 0, 1)) rfl ?_
  refine V_sipush C (nI 776) (by decide +kernel : decode mX10_init.2.1 23 = .ok (.sipush 776, 3)) (by decide) ?_
  refine V_newi C hK rfl (by decide +kernel : decode mX10_init.2.1 26 = .ok (.newarray .int, 2)) (by decide) (Nat.le_of_ble_eq_true rfl) (Nat.le_of_ble_eq_true rfl) (fun q3 => ?_)
  refine V_putF C hK 0 (by decide +kernel : decode mX10_init.2.1 28 = .ok (.putfield 16, 3)) fn10_16 rfl (Nat.le_of_ble_eq_true rfl) rfl rfl rfl ?_
  refine V_eq (ws' := [(h0, .inr (10, [.ref q1, .ref q2, .ref q3, .null, .null, .int 0, .int 0, .int 0, .int 0, .int 0, .int 0, .null, .int 0, .null, .int 0, .int 0, .null, .null, .null, .int 0])), (q1, .inl (cI, 388, .inl (fun _ => 0))), (q2, .inl (cI, 388, .inl (fun _ => 0))), (q3, .inl (cI, 776, .inl (fun _ => 0)))]) rfl ?_
  refine V_aload C 0 (by decide +kernel : decode mX10_init.2.1 31 = .ok (.aload_n 0, 1)) rfl ?_
  refine V_iconst C (nI 2) (by decide +kernel : decode mX10_init.2.1 32 = .ok (.iconst 2, 1)) (by decide) ?_
  refine V_newz C hK rfl (by decide +kernel : decode mX10_init.2.1 33 = .ok (.newarray .boolean, 2)) (by decide) (Nat.le_of_ble_eq_true rfl) (Nat.le_of_ble_eq_true rfl) (fun q4 => ?_)
  refine V_putF C hK 0 (by decide +kernel : decode mX10_init.2.1 35 = .ok (.putfield 19, 3)) fn10_19 rfl (Nat.le_of_ble_eq_true rfl) rfl rfl rfl ?_
  refine V_eq (ws' := [(h0, .inr (10, [.ref q1, .ref q2, .ref q3, .ref q4, .null, .int 0, .int 0, .int 0, .int 0, .int 0, .int 0, .null, .int 0, .null, .int 0, .int 0, .null, .null, .null, .int 0])), (q1, .inl (cI, 388, .inl (fun _ => 0))), (q2, .inl (cI, 388, .inl (fun _ => 0))), (q3, .inl (cI, 776, .inl (fun _ => 0))), (q4, .inl (cZ, 2, .inl (fun _ => 0)))]) rfl ?_
  refine V_aload C 0 (by decide +kernel : decode mX10_init.2.1 38 = .ok (.aload_n 0, 1)) rfl ?_
  refine V_sipush C (nI 300) (by decide +kernel : decode mX10_init.2.1 39 = .ok (.sipush 300, 3)) (by decide) ?_
  refine V_newi C hK rfl (by decide +kernel : decode mX10_init.2.1 42 = .ok (.newarray .int, 2)) (by decide) (Nat.le_of_ble_eq_true rfl) (Nat.le_of_ble_eq_true rfl) (fun q5 => ?_)
  refine V_putF C hK 0 (by decide +kernel : decode mX10_init.2.1 44 = .ok (.putfield 23, 3)) fn10_23 rfl (Nat.le_of_ble_eq_true rfl) rfl rfl rfl ?_
  refine V_eq (ws' := [(h0, .inr (10, [.ref q1, .ref q2, .ref q3, .ref q4, .ref q5, .int 0, .int 0, .int 0, .int 0, .int 0, .int 0, .null, .int 0, .null, .int 0, .int 0, .null, .null, .null, .int 0])), (q1, .inl (cI, 388, .inl (fun _ => 0))), (q2, .inl (cI, 388, .inl (fun _ => 0))), (q3, .inl (cI, 776, .inl (fun _ => 0))), (q4, .inl (cZ, 2, .inl (fun _ => 0))), (q5, .inl (cI, 300, .inl (fun _ => 0)))]) rfl ?_
  refine V_aload C 0 (by decide +kernel : decode mX10_init.2.1 47 = .ok (.aload_n 0, 1)) rfl ?_
  refine V_bipush C (nI 40) (by decide +kernel : decode mX10_init.2.1 48 = .ok (.bipush 40, 2)) (by decide) ?_
  refine V_newi C hK rfl (by decide +kernel : decode mX10_init.2.1 50 = .ok (.newarray .int, 2)) (by decide) (Nat.le_of_ble_eq_true rfl) (Nat.le_of_ble_eq_true rfl) (fun q6 => ?_)
  refine V_putF C hK 0 (by decide +kernel : decode mX10_init.2.1 52 = .ok (.putfield 26, 3)) fn10_26 rfl (Nat.le_of_ble_eq_true rfl) rfl rfl rfl ?_
  refine V_eq (ws' := [(h0, .inr (10, [.ref q1, .ref q2, .ref q3, .ref q4, .ref q5, .int 0, .int 0, .int 0, .int 0, .int 0, .int 0, .ref q6, .int 0, .null, .int 0, .int 0, .null, .null, .null, .int 0])), (q1, .inl (cI, 388, .inl (fun _ => 0))), (q2, .inl (cI, 388, .inl (fun _ => 0))), (q3, .inl (cI, 776, .inl (fun _ => 0))), (q4, .inl (cZ, 2, .inl (fun _ => 0))), (q5, .inl (cI, 300, .inl (fun _ => 0))), (q6, .inl (cI, 40, .inl (fun _ => 0)))]) rfl ?_
  refine V_aload C 0 (by decide +kernel : decode mX10_init.2.1 55 = .ok (.aload_n 0, 1)) rfl ?_
  refine V_bipush C (nI 16) (by decide +kernel : decode mX10_init.2.1 56 = .ok (.bipush 16, 2)) (by decide) ?_
  refine V_newi C hK rfl (by decide +kernel : decode mX10_init.2.1 58 = .ok (.newarray .int, 2)) (by decide) (Nat.le_of_ble_eq_true rfl) (Nat.le_of_ble_eq_true rfl) (fun q7 => ?_)
  refine V_putF C hK 0 (by decide +kernel : decode mX10_init.2.1 60 = .ok (.putfield 29, 3)) fn10_29 rfl (Nat.le_of_ble_eq_true rfl) rfl rfl rfl ?_
  refine V_eq (ws' := [(h0, .inr (10, [.ref q1, .ref q2, .ref q3, .ref q4, .ref q5, .int 0, .int 0, .int 0, .int 0, .int 0, .int 0, .ref q6, .int 0, .ref q7, .int 0, .int 0, .null, .null, .null, .int 0])), (q1, .inl (cI, 388, .inl (fun _ => 0))), (q2, .inl (cI, 388, .inl (fun _ => 0))), (q3, .inl (cI, 776, .inl (fun _ => 0))), (q4, .inl (cZ, 2, .inl (fun _ => 0))), (q5, .inl (cI, 300, .inl (fun _ => 0))), (q6, .inl (cI, 40, .inl (fun _ => 0))), (q7, .inl (cI, 16, .inl (fun _ => 0)))]) rfl ?_
  refine V_aload C 0 (by decide +kernel : decode mX10_init.2.1 63 = .ok (.aload_n 0, 1)) rfl ?_
  refine V_iconst C (nI 4) (by decide +kernel : decode mX10_init.2.1 64 = .ok (.iconst 4, 1)) (by decide) ?_
  refine V_newi C hK rfl (by decide +kernel : decode mX10_init.2.1 65 = .ok (.newarray .int, 2)) (by decide) (Nat.le_of_ble_eq_true rfl) (Nat.le_of_ble_eq_true rfl) (fun q8 => ?_)
  refine V_putF C hK 0 (by decide +kernel : decode mX10_init.2.1 67 = .ok (.putfield 32, 3)) fn10_32 rfl (Nat.le_of_ble_eq_true rfl) rfl rfl rfl ?_
  refine V_eq (ws' := [(h0, .inr (10, [.ref q1, .ref q2, .ref q3, .ref q4, .ref q5, .int 0, .int 0, .int 0, .int 0, .int 0, .int 0, .ref q6, .int 0, .ref q7, .int 0, .int 0, .ref q8, .null, .null, .int 0])), (q1, .inl (cI, 388, .inl (fun _ => 0))), (q2, .inl (cI, 388, .inl (fun _ => 0))), (q3, .inl (cI, 776, .inl (fun _ => 0))), (q4, .inl (cZ, 2, .inl (fun _ => 0))), (q5, .inl (cI, 300, .inl (fun _ => 0))), (q6, .inl (cI, 40, .inl (fun _ => 0))), (q7, .inl (cI, 16, .inl (fun _ => 0))), (q8, .inl (cI, 4, .inl (fun _ => 0)))]) rfl ?_
  refine V_aload C 0 (by decide +kernel : decode mX10_init.2.1 70 = .ok (.aload_n 0, 1)) rfl ?_
  refine V_iconst C (nI 4) (by decide +kernel : decode mX10_init.2.1 71 = .ok (.iconst 4, 1)) (by decide) ?_
  refine V_newi C hK rfl (by decide +kernel : decode mX10_init.2.1 72 = .ok (.newarray .int, 2)) (by decide) (Nat.le_of_ble_eq_true rfl) (Nat.le_of_ble_eq_true rfl) (fun q9 => ?_)
  refine V_putF C hK 0 (by decide +kernel : decode mX10_init.2.1 74 = .ok (.putfield 35, 3)) fn10_35 rfl (Nat.le_of_ble_eq_true rfl) rfl rfl rfl ?_
  refine V_eq (ws' := [(h0, .inr (10, [.ref q1, .ref q2, .ref q3, .ref q4, .ref q5, .int 0, .int 0, .int 0, .int 0, .int 0, .int 0, .ref q6, .int 0, .ref q7, .int 0, .int 0, .ref q8, .ref q9, .null, .int 0])), (q1, .inl (cI, 388, .inl (fun _ => 0))), (q2, .inl (cI, 388, .inl (fun _ => 0))), (q3, .inl (cI, 776, .inl (fun _ => 0))), (q4, .inl (cZ, 2, .inl (fun _ => 0))), (q5, .inl (cI, 300, .inl (fun _ => 0))), (q6, .inl (cI, 40, .inl (fun _ => 0))), (q7, .inl (cI, 16, .inl (fun _ => 0))), (q8, .inl (cI, 4, .inl (fun _ => 0))), (q9, .inl (cI, 4, .inl (fun _ => 0)))]) rfl ?_
  refine V_aload C 0 (by decide +kernel : decode mX10_init.2.1 77 = .ok (.aload_n 0, 1)) rfl ?_
  refine V_sipush C (nI 128) (by decide +kernel : decode mX10_init.2.1 78 = .ok (.sipush 128, 3)) (by decide) ?_
  refine V_newi C hK rfl (by decide +kernel : decode mX10_init.2.1 81 = .ok (.newarray .int, 2)) (by decide) (Nat.le_of_ble_eq_true rfl) (Nat.le_of_ble_eq_true rfl) (fun q10 => ?_)
  refine V_putF C hK 0 (by decide +kernel : decode mX10_init.2.1 83 = .ok (.putfield 38, 3)) fn10_38 rfl (Nat.le_of_ble_eq_true rfl) rfl rfl rfl ?_
  refine V_eq (ws' := [(h0, .inr (10, [.ref q1, .ref q2, .ref q3, .ref q4, .ref q5, .int 0, .int 0, .int 0, .int 0, .int 0, .int 0, .ref q6, .int 0, .ref q7, .int 0, .int 0, .ref q8, .ref q9, .ref q10, .int 0])), (q1, .inl (cI, 388, .inl (fun _ => 0))), (q2, .inl (cI, 388, .inl (fun _ => 0))), (q3, .inl (cI, 776, .inl (fun _ => 0))), (q4, .inl (cZ, 2, .inl (fun _ => 0))), (q5, .inl (cI, 300, .inl (fun _ => 0))), (q6, .inl (cI, 40, .inl (fun _ => 0))), (q7, .inl (cI, 16, .inl (fun _ => 0))), (q8, .inl (cI, 4, .inl (fun _ => 0))), (q9, .inl (cI, 4, .inl (fun _ => 0))), (q10, .inl (cI, 128, .inl (fun _ => 0)))]) rfl ?_
  refine V_iconst C (nI 0) (by decide +kernel : decode mX10_init.2.1 86 = .ok (.iconst 0, 1)) (by decide) ?_
  refine V_istore C [(1, .int (nI 0)), (0, .ref h0)] (by decide +kernel : decode mX10_init.2.1 87 = .ok (.istore_n 1, 1)) (by decide) rfl ?_
  refine V_iload C 0 (by decide +kernel : decode mX10_init.2.1 88 = .ok (.iload_n 1, 1)) rfl ?_
  refine V_iconst C (nI 4) (by decide +kernel : decode mX10_init.2.1 89 = .ok (.iconst 4, 1)) (by decide) ?_
  refine V_geF (t := 107) C (by decide +kernel : decode mX10_init.2.1 90 = .ok (.if_icmp .ge 17, 3)) (by decide) (by decide) ?_
  refine V_aload C 1 (by decide +kernel : decode mX10_init.2.1 93 = .ok (.aload_n 0, 1)) rfl ?_
  refine V_get C hK 0 (by decide +kernel : decode mX10_init.2.1 94 = .ok (.getfield 32, 3)) fn10_32 rfl rfl ?_
  refine V_iload C 0 (by decide +kernel : decode mX10_init.2.1 97 = .ok (.iload_n 1, 1)) rfl ?_
  refine V_bipush C (-nI 4) (by decide +kernel : decode mX10_init.2.1 98 = .ok (.bipush (-4), 2)) (by decide) ?_
  refine V_iast C hK rfl 8 (by decide +kernel : decode mX10_init.2.1 100 = .ok (.iastore, 1)) rfl (vp_in_nI (by decide) (by decide)) ?_
  refine V_eq (ws' := [(h0, .inr (10, [.ref q1, .ref q2, .ref q3, .ref q4, .ref q5, .int 0, .int 0, .int 0, .int 0, .int 0, .int 0, .ref q6, .int 0, .ref q7, .int 0, .int 0, .ref q8, .ref q9, .ref q10, .int 0])), (q1, .inl (cI, 388, .inl (fun _ => 0))), (q2, .inl (cI, 388, .inl (fun _ => 0))), (q3, .inl (cI, 776, .inl (fun _ => 0))), (q4, .inl (cZ, 2, .inl (fun _ => 0))), (q5, .inl (cI, 300, .inl (fun _ => 0))), (q6, .inl (cI, 40, .inl (fun _ => 0))), (q7, .inl (cI, 16, .inl (fun _ => 0))), (q8, .inl (cI, 4, .inl (upd (fun _ => 0) 0 (-nI 4)))), (q9, .inl (cI, 4, .inl (fun _ => 0))), (q10, .inl (cI, 128, .inl (fun _ => 0)))]) rfl ?_
  refine V_iinc C 0 (nI 1) [(1, .int (nI 1)), (0, .ref h0)] (by decide +kernel : decode mX10_init.2.1 101 = .ok (.iinc 1 1, 3)) rfl (by decide) (by decide) rfl ?_
  refine V_goto (t := 88) C (by decide +kernel : decode mX10_init.2.1 104 = .ok (.goto (-16), 3)) (by decide) ?_
  refine V_iload C 0 (by decide +kernel : decode mX10_init.2.1 88 = .ok (.iload_n 1, 1)) rfl ?_
  refine V_iconst C (nI 4) (by decide +kernel : decode mX10_init.2.1 89 = .ok (.iconst 4, 1)) (by decide) ?_
  refine V_geF (t := 107) C (by decide +kernel : decode mX10_init.2.1 90 = .ok (.if_icmp .ge 17, 3)) (by decide) (by decide) ?_
  refine V_aload C 1 (by decide +kernel : decode mX10_init.2.1 93 = .ok (.aload_n 0, 1)) rfl ?_
  refine V_get C hK 0 (by decide +kernel : decode mX10_init.2.1 94 = .ok (.getfield 32, 3)) fn10_32 rfl rfl ?_
  refine V_iload C 0 (by decide +kernel : decode mX10_init.2.1 97 = .ok (.iload_n 1, 1)) rfl ?_
  refine V_bipush C (-nI 4) (by decide +kernel : decode mX10_init.2.1 98 = .ok (.bipush (-4), 2)) (by decide) ?_
  refine V_iast C hK rfl 8 (by decide +kernel : decode mX10_init.2.1 100 = .ok (.iastore, 1)) rfl (vp_in_nI (by decide) (by decide)) ?_
  refine V_eq (ws' := [(h0, .inr (10, [.ref q1, .ref q2, .ref q3, .ref q4, .ref q5, .int 0, .int 0, .int 0, .int 0, .int 0, .int 0, .ref q6, .int 0, .ref q7, .int 0, .int 0, .ref q8, .ref q9, .ref q10, .int 0])), (q1, .inl (cI, 388, .inl (fun _ => 0))), (q2, .inl (cI, 388, .inl (fun _ => 0))), (q3, .inl (cI, 776, .inl (fun _ => 0))), (q4, .inl (cZ, 2, .inl (fun _ => 0))), (q5, .inl (cI, 300, .inl (fun _ => 0))), (q6, .inl (cI, 40, .inl (fun _ => 0))), (q7, .inl (cI, 16, .inl (fun _ => 0))), (q8, .inl (cI, 4, .inl (upd (upd (fun _ => 0) 0 (-nI 4)) 1 (-nI 4)))), (q9, .inl (cI, 4, .inl (fun _ => 0))), (q10, .inl (cI, 128, .inl (fun _ => 0)))]) rfl ?_
  refine V_iinc C 0 (nI 2) [(1, .int (nI 2)), (0, .ref h0)] (by decide +kernel : decode mX10_init.2.1 101 = .ok (.iinc 1 1, 3)) rfl (by decide) (by decide) rfl ?_
  refine V_goto (t := 88) C (by decide +kernel : decode mX10_init.2.1 104 = .ok (.goto (-16), 3)) (by decide) ?_
  refine V_iload C 0 (by decide +kernel : decode mX10_init.2.1 88 = .ok (.iload_n 1, 1)) rfl ?_
  refine V_iconst C (nI 4) (by decide +kernel : decode mX10_init.2.1 89 = .ok (.iconst 4, 1)) (by decide) ?_
  refine V_geF (t := 107) C (by decide +kernel : decode mX10_init.2.1 90 = .ok (.if_icmp .ge 17, 3)) (by decide) (by decide) ?_
  refine V_aload C 1 (by decide +kernel : decode mX10_init.2.1 93 = .ok (.aload_n 0, 1)) rfl ?_
  refine V_get C hK 0 (by decide +kernel : decode mX10_init.2.1 94 = .ok (.getfield 32, 3)) fn10_32 rfl rfl ?_
  refine V_iload C 0 (by decide +kernel : decode mX10_init.2.1 97 = .ok (.iload_n 1, 1)) rfl ?_
  refine V_bipush C (-nI 4) (by decide +kernel : decode mX10_init.2.1 98 = .ok (.bipush (-4), 2)) (by decide) ?_
  refine V_iast C hK rfl 8 (by decide +kernel : decode mX10_init.2.1 100 = .ok (.iastore, 1)) rfl (vp_in_nI (by decide) (by decide)) ?_
  refine V_eq (ws' := [(h0, .inr (10, [.ref q1, .ref q2, .ref q3, .ref q4, .ref q5, .int 0, .int 0, .int 0, .int 0, .int 0, .int 0, .ref q6, .int 0, .ref q7, .int 0, .int 0, .ref q8, .ref q9, .ref q10, .int 0])), (q1, .inl (cI, 388, .inl (fun _ => 0))), (q2, .inl (cI, 388, .inl (fun _ => 0))), (q3, .inl (cI, 776, .inl (fun _ => 0))), (q4, .inl (cZ, 2, .inl (fun _ => 0))), (q5, .inl (cI, 300, .inl (fun _ => 0))), (q6, .inl (cI, 40, .inl (fun _ => 0))), (q7, .inl (cI, 16, .inl (fun _ => 0))), (q8, .inl (cI, 4, .inl (upd (upd (upd (fun _ => 0) 0 (-nI 4)) 1 (-nI 4)) 2 (-nI 4)))), (q9, .inl (cI, 4, .inl (fun _ => 0))), (q10, .inl (cI, 128, .inl (fun _ => 0)))]) rfl ?_
  refine V_iinc C 0 (nI 3) [(1, .int (nI 3)), (0, .ref h0)] (by decide +kernel : decode mX10_init.2.1 101 = .ok (.iinc 1 1, 3)) rfl (by decide) (by decide) rfl ?_
  refine V_goto (t := 88) C (by decide +kernel : decode mX10_init.2.1 104 = .ok (.goto (-16), 3)) (by decide) ?_
  refine V_iload C 0 (by decide +kernel : decode mX10_init.2.1 88 = .ok (.iload_n 1, 1)) rfl ?_
  refine V_iconst C (nI 4) (by decide +kernel : decode mX10_init.2.1 89 = .ok (.iconst 4, 1)) (by decide) ?_
  refine V_geF (t := 107) C (by decide +kernel : decode mX10_init.2.1 90 = .ok (.if_icmp .ge 17, 3)) (by decide) (by decide) ?_
  refine V_aload C 1 (by decide +kernel : decode mX10_init.2.1 93 = .ok (.aload_n 0, 1)) rfl ?_
  refine V_get C hK 0 (by decide +kernel : decode mX10_init.2.1 94 = .ok (.getfield 32, 3)) fn10_32 rfl rfl ?_
  refine V_iload C 0 (by decide +kernel : decode mX10_init.2.1 97 = .ok (.iload_n 1, 1)) rfl ?_
  refine V_bipush C (-nI 4) (by decide +kernel : decode mX10_init.2.1 98 = .ok (.bipush (-4), 2)) (by decide) ?_
  refine V_iast C hK rfl 8 (by decide +kernel : decode mX10_init.2.1 100 = .ok (.iastore, 1)) rfl (vp_in_nI (by decide) (by decide)) ?_
  refine V_eq (ws' := [(h0, .inr (10, [.ref q1, .ref q2, .ref q3, .ref q4, .ref q5, .int 0, .int 0, .int 0, .int 0, .int 0, .int 0, .ref q6, .int 0, .ref q7, .int 0, .int 0, .ref q8, .ref q9, .ref q10, .int 0])), (q1, .inl (cI, 388, .inl (fun _ => 0))), (q2, .inl (cI, 388, .inl (fun _ => 0))), (q3, .inl (cI, 776, .inl (fun _ => 0))), (q4, .inl (cZ, 2, .inl (fun _ => 0))), (q5, .inl (cI, 300, .inl (fun _ => 0))), (q6, .inl (cI, 40, .inl (fun _ => 0))), (q7, .inl (cI, 16, .inl (fun _ => 0))), (q8, .inl (cI, 4, .inl (upd (upd (upd (upd (fun _ => 0) 0 (-nI 4)) 1 (-nI 4)) 2 (-nI 4)) 3 (-nI 4)))), (q9, .inl (cI, 4, .inl (fun _ => 0))), (q10, .inl (cI, 128, .inl (fun _ => 0)))]) rfl ?_
  refine V_iinc C 0 (nI 4) [(1, .int (nI 4)), (0, .ref h0)] (by decide +kernel : decode mX10_init.2.1 101 = .ok (.iinc 1 1, 3)) rfl (by decide) (by decide) rfl ?_
  refine V_goto (t := 88) C (by decide +kernel : decode mX10_init.2.1 104 = .ok (.goto (-16), 3)) (by decide) ?_
  refine V_iload C 0 (by decide +kernel : decode mX10_init.2.1 88 = .ok (.iload_n 1, 1)) rfl ?_
  refine V_iconst C (nI 4) (by decide +kernel : decode mX10_init.2.1 89 = .ok (.iconst 4, 1)) (by decide) ?_
  refine V_geT (t := 107) C (by decide +kernel : decode mX10_init.2.1 90 = .ok (.if_icmp .ge 17, 3)) (by decide) (by decide) ?_
  exact V_ret (B := bW10 cI cZ cM cS h0) (E := fun u _ => u 0 = h0) C (fun k => ([h0, q1, q2, q3, q4, q5, q6, q7, q8, q9, q10] : List Nat).getD k 0) (by decide +kernel : decode mX10_init.2.1 107 = .ok (.return_, 1)) rfl (by unfold bW10; rw [wm_F]; rfl) (fun _ _ => rfl)
