theorem lH_X10_9 : vFP RX10 9 10 0 (tyX10 0) true := ⟨RX10, TX10, 9, tyX10, rfl, by decide, wd_193, wsin_10, tyX10_ok, nmX10, rfl, tyX10_ok 0 (by decide), rfl⟩
theorem lH_X10_15 : vFP RX10 15 10 1 (tyX10 1) true := ⟨RX10, TX10, 9, tyX10, rfl, by decide, wd_195, wsin_10, tyX10_ok, nmX10, rfl, tyX10_ok 1 (by decide), rfl⟩
theorem lH_X10_21 : vFP RX10 21 10 2 (tyX10 2) true := ⟨RX10, TX10, 9, tyX10, rfl, by decide, wd_198, wsin_10, tyX10_ok, nmX10, rfl, tyX10_ok 2 (by decide), rfl⟩
theorem lD_X10_21 : vFL RX10 21 10 2 := ⟨RX10, TX10, 9, rfl, by decide, wd_198, wsin_10⟩
theorem lN_X10_19 : vNw RX10 19 1 8 [.int 0, .int 0, .int 0, .int 0, .int 0, .int 0, .int 0, .int 0] := ⟨RX1, TX1, tyX1, rfl, wsin_1, tyX1_ok, wd_146, wd_148, wd_71, fun j hj => match j, hj with | 0, _ => rfl | 1, _ => rfl | 2, _ => rfl | 3, _ => rfl | 4, _ => rfl | 5, _ => rfl | 6, _ => rfl | 7, _ => rfl | (_ + 8), h => absurd h (by omega), fun _ => rfl⟩
theorem lI_X10_25 : vLI RX10 25 yX1_init cX1_init 1 0 := ⟨Or.inr (List.mem_of_getElem? (i := 13) rfl), wd_150, wd_71, wd_151, rfl, ⟨by decide +kernel, by decide +kernel, by rfl⟩, by decide⟩
theorem lH_X10_26 : vFP RX10 26 10 3 (tyX10 3) true := ⟨RX10, TX10, 9, tyX10, rfl, by decide, wd_200, wsin_10, tyX10_ok, nmX10, rfl, tyX10_ok 3 (by decide), rfl⟩
theorem lD_X10_26 : vFL RX10 26 10 3 := ⟨RX10, TX10, 9, rfl, by decide, wd_200, wsin_10⟩
theorem lH_X10_29 : vFP RX10 29 10 8 (tyX10 8) false := ⟨RX10, TX10, 9, tyX10, rfl, by decide, wd_211, wsin_10, tyX10_ok, nmX10, rfl, tyX10_ok 8 (by decide), rfl⟩
def L_X10 (i tp : Nat) : List AC := [.inr (10, [.ref tp, .ref (i + 1), .ref (i + 2), .ref (i + 11), .int 0, .int 0, .int 0, .int 0, .int 1]), .inl (0, (25, .inl (fun _ => 0))), .inl (3, (8, .inr (.inr (.inr (.inr (frl (eadr 3008 (i + 2)) 8)))))), .inr (1, [.int 0, .int 0, .int 0, .int 0, .int 0, .int 0, .int 0, .int 0]), .inr (1, [.int 0, .int 0, .int 0, .int 0, .int 0, .int 0, .int 0, .int 0]), .inr (1, [.int 0, .int 0, .int 0, .int 0, .int 0, .int 0, .int 0, .int 0]), .inr (1, [.int 0, .int 0, .int 0, .int 0, .int 0, .int 0, .int 0, .int 0]), .inr (1, [.int 0, .int 0, .int 0, .int 0, .int 0, .int 0, .int 0, .int 0]), .inr (1, [.int 0, .int 0, .int 0, .int 0, .int 0, .int 0, .int 0, .int 0]), .inr (1, [.int 0, .int 0, .int 0, .int 0, .int 0, .int 0, .int 0, .int 0]), .inr (1, [.int 0, .int 0, .int 0, .int 0, .int 0, .int 0, .int 0, .int 0]), .inl (0, (10, .inl (fil 0 (-1) (fun _ => 0) 10)))]
set_option maxRecDepth 8000 in
theorem ct_X10 {hp0 : Nat → AC} {n0 i tp : Nat} {Pr : List AC} (hi : n0 + Pr.length = i) (h9 : i + 12 < 1000) : Ct yX10_init cX10_init 3 none 2 11 107 [.ref i, .ref tp] (i + 1) (hx hp0 n0 (Pr ++ [.inr (10, [.null, .null, .null, .null, .int 0, .int 0, .int 0, .int 0, .int 0])])) (QN (i + 12) (hx hp0 n0 (Pr ++ L_X10 i tp))) := by
  rw [← hx_split hi, ← hx_split hi]
  generalize hx hp0 n0 Pr = hq
  clear hi
  refine Ct.ofV (by decide +kernel) (Nat.le_of_ble_eq_true rfl) fun E => ?_
  refine V_aload_n (pc := 0) (i := 0) dX10_init_0 rfl rfl ?_
  refine V_obj (pc := 1) wd_145 dX10_init_1 (by decide) (Nat.le_of_ble_eq_true rfl) ?_
  refine V_aload_n (pc := 4) (i := 0) dX10_init_4 rfl rfl ?_
  refine V_aload_n (pc := 5) (i := 1) dX10_init_5 rfl rfl ?_
  refine V_putF (pc := 6) rfl rfl lH_X10_9 dX10_init_6 (by omega) (hx_get 0 rfl rfl) (Nat.le_of_ble_eq_true rfl) (fun _ => ⟨rfl, rfl⟩) (hx_set (L2 := [.inr (10, [.ref tp, .null, .null, .null, .int 0, .int 0, .int 0, .int 0, .int 0])]) 0 rfl rfl (Nat.le_of_ble_eq_true rfl)) ?_
  refine V_aload_n (pc := 9) (i := 0) dX10_init_9 rfl rfl ?_
  refine V_bipush (pc := 10) (v := 25) dX10_init_10 (by decide) ?_
  refine V_newa (pc := 12) (kc := 10) (ks := 82) (t := 0) (N := 25) (ty := .int) rfl (Or.inl ⟨rfl, rfl⟩) wd_192 dX10_init_12 (by decide) (by decide) (by decide) (by omega) (hx_push (L2 := [.inr (10, [.ref tp, .null, .null, .null, .int 0, .int 0, .int 0, .int 0, .int 0]), .inl (0, (25, .inl (fun _ => 0)))]) rfl rfl) ?_
  refine V_putF (pc := 14) rfl rfl lH_X10_15 dX10_init_14 (by omega) (hx_get 0 rfl rfl) (Nat.le_of_ble_eq_true rfl) (fun _ => ⟨rfl, rfl⟩) (hx_set (L2 := [.inr (10, [.ref tp, .ref (i + 1), .null, .null, .int 0, .int 0, .int 0, .int 0, .int 0]), .inl (0, (25, .inl (fun _ => 0)))]) 0 rfl rfl (Nat.le_of_ble_eq_true rfl)) ?_
  refine V_aload_n (pc := 17) (i := 0) dX10_init_17 rfl rfl ?_
  refine V_bipush (pc := 18) (v := 8) dX10_init_18 (by decide) ?_
  refine V_newq (pc := 20) (kc := 9) (ks := 74) (t := 3) (N := 8) (Cn := "SmokeHome$Fire") (List.mem_of_getElem? (i := 1) rfl) (fun _ => rfl) wd_146 dX10_init_20 (by decide) (by decide) (by decide) (by omega) (hx_push (L2 := [.inr (10, [.ref tp, .ref (i + 1), .null, .null, .int 0, .int 0, .int 0, .int 0, .int 0]), .inl (0, (25, .inl (fun _ => 0))), .inl (3, (8, .inr (.inr (.inr (.inr (frl (eadr 3008 (i + 2)) 0))))))]) rfl rfl) ?_
  refine V_putF (pc := 23) rfl rfl lH_X10_21 dX10_init_23 (by omega) (hx_get 0 rfl rfl) (Nat.le_of_ble_eq_true rfl) (fun _ => ⟨rfl, rfl⟩) (hx_set (L2 := [.inr (10, [.ref tp, .ref (i + 1), .ref (i + 2), .null, .int 0, .int 0, .int 0, .int 0, .int 0]), .inl (0, (25, .inl (fun _ => 0))), .inl (3, (8, .inr (.inr (.inr (.inr (frl (eadr 3008 (i + 2)) 0))))))]) 0 rfl rfl (Nat.le_of_ble_eq_true rfl)) ?_
  refine V_iconst (pc := 26) (v := 0) dX10_init_26 (by decide) ?_
  refine V_istore_n (pc := 27) (i := 2) (ls2 := [some (.ref i), some (.ref tp), some (.int 0)]) dX10_init_27 rfl (by decide) rfl rfl ?_
  refine V_iload_n (pc := 28) (i := 2) dX10_init_28 rfl rfl ?_
  refine V_bipush (pc := 29) (v := 8) dX10_init_29 (by decide) ?_
  refine V_icmp_ge (pc := 31) (tgt := 53) dX10_init_31 (by decide) (fun h => absurd h (by decide)) (fun _ => ?_)
  refine V_aload_n (pc := 34) (i := 0) dX10_init_34 rfl rfl ?_
  refine V_getf (pc := 35) lD_X10_21 dX10_init_35 (by omega) (hx_get 0 rfl rfl) rfl ?_
  refine V_iload_n (pc := 38) (i := 2) dX10_init_38 rfl rfl ?_
  refine V_new (pc := 39) (kc := 8) (ks := 66) lN_X10_19 dX10_init_39 (by omega) (hx_push (L2 := [.inr (10, [.ref tp, .ref (i + 1), .ref (i + 2), .null, .int 0, .int 0, .int 0, .int 0, .int 0]), .inl (0, (25, .inl (fun _ => 0))), .inl (3, (8, .inr (.inr (.inr (.inr (frl (eadr 3008 (i + 2)) 0)))))), .inr (1, [.int 0, .int 0, .int 0, .int 0, .int 0, .int 0, .int 0, .int 0])]) rfl rfl) ?_
  refine V_dup (pc := 42) dX10_init_42 rfl ?_
  refine V_callI (pc := 43) (kc := 8) (ks := 66) (kc2 := 0) (ks2 := 0) (d2 := 1) (args := []) (st := [.ref (i + 3), .int 0, .ref (i + 2)]) lI_X10_25 dX10_init_43 (by decide) (Nat.le_of_ble_eq_true rfl) ct_X1 (fun r n2 hp2 hz => ?_)
  obtain ⟨rfl, rfl, rfl⟩ := hz
  refine V_aast (pc := 46) (Cn := "SmokeHome$Fire") (C' := RX1) (T := TX1) (N := 8) 0 (by decide) dX10_init_46 (by omega) (by omega) (hx_get 2 rfl rfl) (hx_get 3 rfl rfl) (fun _ => rfl) rfl (Or.inl rfl) (vp_in_iff.mpr (by decide)) (hx_set (L2 := [.inr (10, [.ref tp, .ref (i + 1), .ref (i + 2), .null, .int 0, .int 0, .int 0, .int 0, .int 0]), .inl (0, (25, .inl (fun _ => 0))), .inl (3, (8, .inr (.inr (.inr (.inr (frl (eadr 3008 (i + 2)) 1)))))), .inr (1, [.int 0, .int 0, .int 0, .int 0, .int 0, .int 0, .int 0, .int 0])]) 2 rfl rfl (Nat.le_of_ble_eq_true rfl)) ?_
  refine V_iinc (pc := 47) (i := 2) (v := 1) (ls2 := [some (.ref i), some (.ref tp), some (.int 1)]) dX10_init_47 rfl (by decide) (by decide) rfl rfl ?_
  refine V_goto (pc := 50) (tgt := 28) dX10_init_50 (by decide) ?_
  refine V_iload_n (pc := 28) (i := 2) dX10_init_28 rfl rfl ?_
  refine V_bipush (pc := 29) (v := 8) dX10_init_29 (by decide) ?_
  refine V_icmp_ge (pc := 31) (tgt := 53) dX10_init_31 (by decide) (fun h => absurd h (by decide)) (fun _ => ?_)
  refine V_aload_n (pc := 34) (i := 0) dX10_init_34 rfl rfl ?_
  refine V_getf (pc := 35) lD_X10_21 dX10_init_35 (by omega) (hx_get 0 rfl rfl) rfl ?_
  refine V_iload_n (pc := 38) (i := 2) dX10_init_38 rfl rfl ?_
  refine V_new (pc := 39) (kc := 7) (ks := 58) lN_X10_19 dX10_init_39 (by omega) (hx_push (L2 := [.inr (10, [.ref tp, .ref (i + 1), .ref (i + 2), .null, .int 0, .int 0, .int 0, .int 0, .int 0]), .inl (0, (25, .inl (fun _ => 0))), .inl (3, (8, .inr (.inr (.inr (.inr (frl (eadr 3008 (i + 2)) 1)))))), .inr (1, [.int 0, .int 0, .int 0, .int 0, .int 0, .int 0, .int 0, .int 0]), .inr (1, [.int 0, .int 0, .int 0, .int 0, .int 0, .int 0, .int 0, .int 0])]) rfl rfl) ?_
  refine V_dup (pc := 42) dX10_init_42 rfl ?_
  refine V_callI (pc := 43) (kc := 7) (ks := 58) (kc2 := 0) (ks2 := 0) (d2 := 1) (args := []) (st := [.ref (i + 4), .int 1, .ref (i + 2)]) lI_X10_25 dX10_init_43 (by decide) (Nat.le_of_ble_eq_true rfl) ct_X1 (fun r n2 hp2 hz => ?_)
  obtain ⟨rfl, rfl, rfl⟩ := hz
  refine V_aast (pc := 46) (Cn := "SmokeHome$Fire") (C' := RX1) (T := TX1) (N := 8) 1 (by decide) dX10_init_46 (by omega) (by omega) (hx_get 2 rfl rfl) (hx_get 4 rfl rfl) (fun _ => rfl) rfl (Or.inl rfl) (vp_in_iff.mpr (by decide)) (hx_set (L2 := [.inr (10, [.ref tp, .ref (i + 1), .ref (i + 2), .null, .int 0, .int 0, .int 0, .int 0, .int 0]), .inl (0, (25, .inl (fun _ => 0))), .inl (3, (8, .inr (.inr (.inr (.inr (frl (eadr 3008 (i + 2)) 2)))))), .inr (1, [.int 0, .int 0, .int 0, .int 0, .int 0, .int 0, .int 0, .int 0]), .inr (1, [.int 0, .int 0, .int 0, .int 0, .int 0, .int 0, .int 0, .int 0])]) 2 rfl rfl (Nat.le_of_ble_eq_true rfl)) ?_
  refine V_iinc (pc := 47) (i := 2) (v := 2) (ls2 := [some (.ref i), some (.ref tp), some (.int 2)]) dX10_init_47 rfl (by decide) (by decide) rfl rfl ?_
  refine V_goto (pc := 50) (tgt := 28) dX10_init_50 (by decide) ?_
  refine V_iload_n (pc := 28) (i := 2) dX10_init_28 rfl rfl ?_
  refine V_bipush (pc := 29) (v := 8) dX10_init_29 (by decide) ?_
  refine V_icmp_ge (pc := 31) (tgt := 53) dX10_init_31 (by decide) (fun h => absurd h (by decide)) (fun _ => ?_)
  refine V_aload_n (pc := 34) (i := 0) dX10_init_34 rfl rfl ?_
  refine V_getf (pc := 35) lD_X10_21 dX10_init_35 (by omega) (hx_get 0 rfl rfl) rfl ?_
  refine V_iload_n (pc := 38) (i := 2) dX10_init_38 rfl rfl ?_
  refine V_new (pc := 39) (kc := 6) (ks := 50) lN_X10_19 dX10_init_39 (by omega) (hx_push (L2 := [.inr (10, [.ref tp, .ref (i + 1), .ref (i + 2), .null, .int 0, .int 0, .int 0, .int 0, .int 0]), .inl (0, (25, .inl (fun _ => 0))), .inl (3, (8, .inr (.inr (.inr (.inr (frl (eadr 3008 (i + 2)) 2)))))), .inr (1, [.int 0, .int 0, .int 0, .int 0, .int 0, .int 0, .int 0, .int 0]), .inr (1, [.int 0, .int 0, .int 0, .int 0, .int 0, .int 0, .int 0, .int 0]), .inr (1, [.int 0, .int 0, .int 0, .int 0, .int 0, .int 0, .int 0, .int 0])]) rfl rfl) ?_
  refine V_dup (pc := 42) dX10_init_42 rfl ?_
  refine V_callI (pc := 43) (kc := 6) (ks := 50) (kc2 := 0) (ks2 := 0) (d2 := 1) (args := []) (st := [.ref (i + 5), .int 2, .ref (i + 2)]) lI_X10_25 dX10_init_43 (by decide) (Nat.le_of_ble_eq_true rfl) ct_X1 (fun r n2 hp2 hz => ?_)
  obtain ⟨rfl, rfl, rfl⟩ := hz
  refine V_aast (pc := 46) (Cn := "SmokeHome$Fire") (C' := RX1) (T := TX1) (N := 8) 2 (by decide) dX10_init_46 (by omega) (by omega) (hx_get 2 rfl rfl) (hx_get 5 rfl rfl) (fun _ => rfl) rfl (Or.inl rfl) (vp_in_iff.mpr (by decide)) (hx_set (L2 := [.inr (10, [.ref tp, .ref (i + 1), .ref (i + 2), .null, .int 0, .int 0, .int 0, .int 0, .int 0]), .inl (0, (25, .inl (fun _ => 0))), .inl (3, (8, .inr (.inr (.inr (.inr (frl (eadr 3008 (i + 2)) 3)))))), .inr (1, [.int 0, .int 0, .int 0, .int 0, .int 0, .int 0, .int 0, .int 0]), .inr (1, [.int 0, .int 0, .int 0, .int 0, .int 0, .int 0, .int 0, .int 0]), .inr (1, [.int 0, .int 0, .int 0, .int 0, .int 0, .int 0, .int 0, .int 0])]) 2 rfl rfl (Nat.le_of_ble_eq_true rfl)) ?_
  refine V_iinc (pc := 47) (i := 2) (v := 3) (ls2 := [some (.ref i), some (.ref tp), some (.int 3)]) dX10_init_47 rfl (by decide) (by decide) rfl rfl ?_
  refine V_goto (pc := 50) (tgt := 28) dX10_init_50 (by decide) ?_
  refine V_iload_n (pc := 28) (i := 2) dX10_init_28 rfl rfl ?_
  refine V_bipush (pc := 29) (v := 8) dX10_init_29 (by decide) ?_
  refine V_icmp_ge (pc := 31) (tgt := 53) dX10_init_31 (by decide) (fun h => absurd h (by decide)) (fun _ => ?_)
  refine V_aload_n (pc := 34) (i := 0) dX10_init_34 rfl rfl ?_
  refine V_getf (pc := 35) lD_X10_21 dX10_init_35 (by omega) (hx_get 0 rfl rfl) rfl ?_
  refine V_iload_n (pc := 38) (i := 2) dX10_init_38 rfl rfl ?_
  refine V_new (pc := 39) (kc := 5) (ks := 42) lN_X10_19 dX10_init_39 (by omega) (hx_push (L2 := [.inr (10, [.ref tp, .ref (i + 1), .ref (i + 2), .null, .int 0, .int 0, .int 0, .int 0, .int 0]), .inl (0, (25, .inl (fun _ => 0))), .inl (3, (8, .inr (.inr (.inr (.inr (frl (eadr 3008 (i + 2)) 3)))))), .inr (1, [.int 0, .int 0, .int 0, .int 0, .int 0, .int 0, .int 0, .int 0]), .inr (1, [.int 0, .int 0, .int 0, .int 0, .int 0, .int 0, .int 0, .int 0]), .inr (1, [.int 0, .int 0, .int 0, .int 0, .int 0, .int 0, .int 0, .int 0]), .inr (1, [.int 0, .int 0, .int 0, .int 0, .int 0, .int 0, .int 0, .int 0])]) rfl rfl) ?_
  refine V_dup (pc := 42) dX10_init_42 rfl ?_
  refine V_callI (pc := 43) (kc := 5) (ks := 42) (kc2 := 0) (ks2 := 0) (d2 := 1) (args := []) (st := [.ref (i + 6), .int 3, .ref (i + 2)]) lI_X10_25 dX10_init_43 (by decide) (Nat.le_of_ble_eq_true rfl) ct_X1 (fun r n2 hp2 hz => ?_)
  obtain ⟨rfl, rfl, rfl⟩ := hz
  refine V_aast (pc := 46) (Cn := "SmokeHome$Fire") (C' := RX1) (T := TX1) (N := 8) 3 (by decide) dX10_init_46 (by omega) (by omega) (hx_get 2 rfl rfl) (hx_get 6 rfl rfl) (fun _ => rfl) rfl (Or.inl rfl) (vp_in_iff.mpr (by decide)) (hx_set (L2 := [.inr (10, [.ref tp, .ref (i + 1), .ref (i + 2), .null, .int 0, .int 0, .int 0, .int 0, .int 0]), .inl (0, (25, .inl (fun _ => 0))), .inl (3, (8, .inr (.inr (.inr (.inr (frl (eadr 3008 (i + 2)) 4)))))), .inr (1, [.int 0, .int 0, .int 0, .int 0, .int 0, .int 0, .int 0, .int 0]), .inr (1, [.int 0, .int 0, .int 0, .int 0, .int 0, .int 0, .int 0, .int 0]), .inr (1, [.int 0, .int 0, .int 0, .int 0, .int 0, .int 0, .int 0, .int 0]), .inr (1, [.int 0, .int 0, .int 0, .int 0, .int 0, .int 0, .int 0, .int 0])]) 2 rfl rfl (Nat.le_of_ble_eq_true rfl)) ?_
  refine V_iinc (pc := 47) (i := 2) (v := 4) (ls2 := [some (.ref i), some (.ref tp), some (.int 4)]) dX10_init_47 rfl (by decide) (by decide) rfl rfl ?_
  refine V_goto (pc := 50) (tgt := 28) dX10_init_50 (by decide) ?_
  refine V_iload_n (pc := 28) (i := 2) dX10_init_28 rfl rfl ?_
  refine V_bipush (pc := 29) (v := 8) dX10_init_29 (by decide) ?_
  refine V_icmp_ge (pc := 31) (tgt := 53) dX10_init_31 (by decide) (fun h => absurd h (by decide)) (fun _ => ?_)
  refine V_aload_n (pc := 34) (i := 0) dX10_init_34 rfl rfl ?_
  refine V_getf (pc := 35) lD_X10_21 dX10_init_35 (by omega) (hx_get 0 rfl rfl) rfl ?_
  refine V_iload_n (pc := 38) (i := 2) dX10_init_38 rfl rfl ?_
  refine V_new (pc := 39) (kc := 4) (ks := 34) lN_X10_19 dX10_init_39 (by omega) (hx_push (L2 := [.inr (10, [.ref tp, .ref (i + 1), .ref (i + 2), .null, .int 0, .int 0, .int 0, .int 0, .int 0]), .inl (0, (25, .inl (fun _ => 0))), .inl (3, (8, .inr (.inr (.inr (.inr (frl (eadr 3008 (i + 2)) 4)))))), .inr (1, [.int 0, .int 0, .int 0, .int 0, .int 0, .int 0, .int 0, .int 0]), .inr (1, [.int 0, .int 0, .int 0, .int 0, .int 0, .int 0, .int 0, .int 0]), .inr (1, [.int 0, .int 0, .int 0, .int 0, .int 0, .int 0, .int 0, .int 0]), .inr (1, [.int 0, .int 0, .int 0, .int 0, .int 0, .int 0, .int 0, .int 0]), .inr (1, [.int 0, .int 0, .int 0, .int 0, .int 0, .int 0, .int 0, .int 0])]) rfl rfl) ?_
  refine V_dup (pc := 42) dX10_init_42 rfl ?_
  refine V_callI (pc := 43) (kc := 4) (ks := 34) (kc2 := 0) (ks2 := 0) (d2 := 1) (args := []) (st := [.ref (i + 7), .int 4, .ref (i + 2)]) lI_X10_25 dX10_init_43 (by decide) (Nat.le_of_ble_eq_true rfl) ct_X1 (fun r n2 hp2 hz => ?_)
  obtain ⟨rfl, rfl, rfl⟩ := hz
  refine V_aast (pc := 46) (Cn := "SmokeHome$Fire") (C' := RX1) (T := TX1) (N := 8) 4 (by decide) dX10_init_46 (by omega) (by omega) (hx_get 2 rfl rfl) (hx_get 7 rfl rfl) (fun _ => rfl) rfl (Or.inl rfl) (vp_in_iff.mpr (by decide)) (hx_set (L2 := [.inr (10, [.ref tp, .ref (i + 1), .ref (i + 2), .null, .int 0, .int 0, .int 0, .int 0, .int 0]), .inl (0, (25, .inl (fun _ => 0))), .inl (3, (8, .inr (.inr (.inr (.inr (frl (eadr 3008 (i + 2)) 5)))))), .inr (1, [.int 0, .int 0, .int 0, .int 0, .int 0, .int 0, .int 0, .int 0]), .inr (1, [.int 0, .int 0, .int 0, .int 0, .int 0, .int 0, .int 0, .int 0]), .inr (1, [.int 0, .int 0, .int 0, .int 0, .int 0, .int 0, .int 0, .int 0]), .inr (1, [.int 0, .int 0, .int 0, .int 0, .int 0, .int 0, .int 0, .int 0]), .inr (1, [.int 0, .int 0, .int 0, .int 0, .int 0, .int 0, .int 0, .int 0])]) 2 rfl rfl (Nat.le_of_ble_eq_true rfl)) ?_
  refine V_iinc (pc := 47) (i := 2) (v := 5) (ls2 := [some (.ref i), some (.ref tp), some (.int 5)]) dX10_init_47 rfl (by decide) (by decide) rfl rfl ?_
  refine V_goto (pc := 50) (tgt := 28) dX10_init_50 (by decide) ?_
  refine V_iload_n (pc := 28) (i := 2) dX10_init_28 rfl rfl ?_
  refine V_bipush (pc := 29) (v := 8) dX10_init_29 (by decide) ?_
  refine V_icmp_ge (pc := 31) (tgt := 53) dX10_init_31 (by decide) (fun h => absurd h (by decide)) (fun _ => ?_)
  refine V_aload_n (pc := 34) (i := 0) dX10_init_34 rfl rfl ?_
  refine V_getf (pc := 35) lD_X10_21 dX10_init_35 (by omega) (hx_get 0 rfl rfl) rfl ?_
  refine V_iload_n (pc := 38) (i := 2) dX10_init_38 rfl rfl ?_
  refine V_new (pc := 39) (kc := 3) (ks := 26) lN_X10_19 dX10_init_39 (by omega) (hx_push (L2 := [.inr (10, [.ref tp, .ref (i + 1), .ref (i + 2), .null, .int 0, .int 0, .int 0, .int 0, .int 0]), .inl (0, (25, .inl (fun _ => 0))), .inl (3, (8, .inr (.inr (.inr (.inr (frl (eadr 3008 (i + 2)) 5)))))), .inr (1, [.int 0, .int 0, .int 0, .int 0, .int 0, .int 0, .int 0, .int 0]), .inr (1, [.int 0, .int 0, .int 0, .int 0, .int 0, .int 0, .int 0, .int 0]), .inr (1, [.int 0, .int 0, .int 0, .int 0, .int 0, .int 0, .int 0, .int 0]), .inr (1, [.int 0, .int 0, .int 0, .int 0, .int 0, .int 0, .int 0, .int 0]), .inr (1, [.int 0, .int 0, .int 0, .int 0, .int 0, .int 0, .int 0, .int 0]), .inr (1, [.int 0, .int 0, .int 0, .int 0, .int 0, .int 0, .int 0, .int 0])]) rfl rfl) ?_
  refine V_dup (pc := 42) dX10_init_42 rfl ?_
  refine V_callI (pc := 43) (kc := 3) (ks := 26) (kc2 := 0) (ks2 := 0) (d2 := 1) (args := []) (st := [.ref (i + 8), .int 5, .ref (i + 2)]) lI_X10_25 dX10_init_43 (by decide) (Nat.le_of_ble_eq_true rfl) ct_X1 (fun r n2 hp2 hz => ?_)
  obtain ⟨rfl, rfl, rfl⟩ := hz
  refine V_aast (pc := 46) (Cn := "SmokeHome$Fire") (C' := RX1) (T := TX1) (N := 8) 5 (by decide) dX10_init_46 (by omega) (by omega) (hx_get 2 rfl rfl) (hx_get 8 rfl rfl) (fun _ => rfl) rfl (Or.inl rfl) (vp_in_iff.mpr (by decide)) (hx_set (L2 := [.inr (10, [.ref tp, .ref (i + 1), .ref (i + 2), .null, .int 0, .int 0, .int 0, .int 0, .int 0]), .inl (0, (25, .inl (fun _ => 0))), .inl (3, (8, .inr (.inr (.inr (.inr (frl (eadr 3008 (i + 2)) 6)))))), .inr (1, [.int 0, .int 0, .int 0, .int 0, .int 0, .int 0, .int 0, .int 0]), .inr (1, [.int 0, .int 0, .int 0, .int 0, .int 0, .int 0, .int 0, .int 0]), .inr (1, [.int 0, .int 0, .int 0, .int 0, .int 0, .int 0, .int 0, .int 0]), .inr (1, [.int 0, .int 0, .int 0, .int 0, .int 0, .int 0, .int 0, .int 0]), .inr (1, [.int 0, .int 0, .int 0, .int 0, .int 0, .int 0, .int 0, .int 0]), .inr (1, [.int 0, .int 0, .int 0, .int 0, .int 0, .int 0, .int 0, .int 0])]) 2 rfl rfl (Nat.le_of_ble_eq_true rfl)) ?_
  refine V_iinc (pc := 47) (i := 2) (v := 6) (ls2 := [some (.ref i), some (.ref tp), some (.int 6)]) dX10_init_47 rfl (by decide) (by decide) rfl rfl ?_
  refine V_goto (pc := 50) (tgt := 28) dX10_init_50 (by decide) ?_
  refine V_iload_n (pc := 28) (i := 2) dX10_init_28 rfl rfl ?_
  refine V_bipush (pc := 29) (v := 8) dX10_init_29 (by decide) ?_
  refine V_icmp_ge (pc := 31) (tgt := 53) dX10_init_31 (by decide) (fun h => absurd h (by decide)) (fun _ => ?_)
  refine V_aload_n (pc := 34) (i := 0) dX10_init_34 rfl rfl ?_
  refine V_getf (pc := 35) lD_X10_21 dX10_init_35 (by omega) (hx_get 0 rfl rfl) rfl ?_
  refine V_iload_n (pc := 38) (i := 2) dX10_init_38 rfl rfl ?_
  refine V_new (pc := 39) (kc := 2) (ks := 18) lN_X10_19 dX10_init_39 (by omega) (hx_push (L2 := [.inr (10, [.ref tp, .ref (i + 1), .ref (i + 2), .null, .int 0, .int 0, .int 0, .int 0, .int 0]), .inl (0, (25, .inl (fun _ => 0))), .inl (3, (8, .inr (.inr (.inr (.inr (frl (eadr 3008 (i + 2)) 6)))))), .inr (1, [.int 0, .int 0, .int 0, .int 0, .int 0, .int 0, .int 0, .int 0]), .inr (1, [.int 0, .int 0, .int 0, .int 0, .int 0, .int 0, .int 0, .int 0]), .inr (1, [.int 0, .int 0, .int 0, .int 0, .int 0, .int 0, .int 0, .int 0]), .inr (1, [.int 0, .int 0, .int 0, .int 0, .int 0, .int 0, .int 0, .int 0]), .inr (1, [.int 0, .int 0, .int 0, .int 0, .int 0, .int 0, .int 0, .int 0]), .inr (1, [.int 0, .int 0, .int 0, .int 0, .int 0, .int 0, .int 0, .int 0]), .inr (1, [.int 0, .int 0, .int 0, .int 0, .int 0, .int 0, .int 0, .int 0])]) rfl rfl) ?_
  refine V_dup (pc := 42) dX10_init_42 rfl ?_
  refine V_callI (pc := 43) (kc := 2) (ks := 18) (kc2 := 0) (ks2 := 0) (d2 := 1) (args := []) (st := [.ref (i + 9), .int 6, .ref (i + 2)]) lI_X10_25 dX10_init_43 (by decide) (Nat.le_of_ble_eq_true rfl) ct_X1 (fun r n2 hp2 hz => ?_)
  obtain ⟨rfl, rfl, rfl⟩ := hz
  refine V_aast (pc := 46) (Cn := "SmokeHome$Fire") (C' := RX1) (T := TX1) (N := 8) 6 (by decide) dX10_init_46 (by omega) (by omega) (hx_get 2 rfl rfl) (hx_get 9 rfl rfl) (fun _ => rfl) rfl (Or.inl rfl) (vp_in_iff.mpr (by decide)) (hx_set (L2 := [.inr (10, [.ref tp, .ref (i + 1), .ref (i + 2), .null, .int 0, .int 0, .int 0, .int 0, .int 0]), .inl (0, (25, .inl (fun _ => 0))), .inl (3, (8, .inr (.inr (.inr (.inr (frl (eadr 3008 (i + 2)) 7)))))), .inr (1, [.int 0, .int 0, .int 0, .int 0, .int 0, .int 0, .int 0, .int 0]), .inr (1, [.int 0, .int 0, .int 0, .int 0, .int 0, .int 0, .int 0, .int 0]), .inr (1, [.int 0, .int 0, .int 0, .int 0, .int 0, .int 0, .int 0, .int 0]), .inr (1, [.int 0, .int 0, .int 0, .int 0, .int 0, .int 0, .int 0, .int 0]), .inr (1, [.int 0, .int 0, .int 0, .int 0, .int 0, .int 0, .int 0, .int 0]), .inr (1, [.int 0, .int 0, .int 0, .int 0, .int 0, .int 0, .int 0, .int 0]), .inr (1, [.int 0, .int 0, .int 0, .int 0, .int 0, .int 0, .int 0, .int 0])]) 2 rfl rfl (Nat.le_of_ble_eq_true rfl)) ?_
  refine V_iinc (pc := 47) (i := 2) (v := 7) (ls2 := [some (.ref i), some (.ref tp), some (.int 7)]) dX10_init_47 rfl (by decide) (by decide) rfl rfl ?_
  refine V_goto (pc := 50) (tgt := 28) dX10_init_50 (by decide) ?_
  refine V_iload_n (pc := 28) (i := 2) dX10_init_28 rfl rfl ?_
  refine V_bipush (pc := 29) (v := 8) dX10_init_29 (by decide) ?_
  refine V_icmp_ge (pc := 31) (tgt := 53) dX10_init_31 (by decide) (fun h => absurd h (by decide)) (fun _ => ?_)
  refine V_aload_n (pc := 34) (i := 0) dX10_init_34 rfl rfl ?_
  refine V_getf (pc := 35) lD_X10_21 dX10_init_35 (by omega) (hx_get 0 rfl rfl) rfl ?_
  refine V_iload_n (pc := 38) (i := 2) dX10_init_38 rfl rfl ?_
  refine V_new (pc := 39) (kc := 1) (ks := 10) lN_X10_19 dX10_init_39 (by omega) (hx_push (L2 := [.inr (10, [.ref tp, .ref (i + 1), .ref (i + 2), .null, .int 0, .int 0, .int 0, .int 0, .int 0]), .inl (0, (25, .inl (fun _ => 0))), .inl (3, (8, .inr (.inr (.inr (.inr (frl (eadr 3008 (i + 2)) 7)))))), .inr (1, [.int 0, .int 0, .int 0, .int 0, .int 0, .int 0, .int 0, .int 0]), .inr (1, [.int 0, .int 0, .int 0, .int 0, .int 0, .int 0, .int 0, .int 0]), .inr (1, [.int 0, .int 0, .int 0, .int 0, .int 0, .int 0, .int 0, .int 0]), .inr (1, [.int 0, .int 0, .int 0, .int 0, .int 0, .int 0, .int 0, .int 0]), .inr (1, [.int 0, .int 0, .int 0, .int 0, .int 0, .int 0, .int 0, .int 0]), .inr (1, [.int 0, .int 0, .int 0, .int 0, .int 0, .int 0, .int 0, .int 0]), .inr (1, [.int 0, .int 0, .int 0, .int 0, .int 0, .int 0, .int 0, .int 0]), .inr (1, [.int 0, .int 0, .int 0, .int 0, .int 0, .int 0, .int 0, .int 0])]) rfl rfl) ?_
  refine V_dup (pc := 42) dX10_init_42 rfl ?_
  refine V_callI (pc := 43) (kc := 1) (ks := 10) (kc2 := 0) (ks2 := 0) (d2 := 1) (args := []) (st := [.ref (i + 10), .int 7, .ref (i + 2)]) lI_X10_25 dX10_init_43 (by decide) (Nat.le_of_ble_eq_true rfl) ct_X1 (fun r n2 hp2 hz => ?_)
  obtain ⟨rfl, rfl, rfl⟩ := hz
  refine V_aast (pc := 46) (Cn := "SmokeHome$Fire") (C' := RX1) (T := TX1) (N := 8) 7 (by decide) dX10_init_46 (by omega) (by omega) (hx_get 2 rfl rfl) (hx_get 10 rfl rfl) (fun _ => rfl) rfl (Or.inl rfl) (vp_in_iff.mpr (by decide)) (hx_set (L2 := [.inr (10, [.ref tp, .ref (i + 1), .ref (i + 2), .null, .int 0, .int 0, .int 0, .int 0, .int 0]), .inl (0, (25, .inl (fun _ => 0))), .inl (3, (8, .inr (.inr (.inr (.inr (frl (eadr 3008 (i + 2)) 8)))))), .inr (1, [.int 0, .int 0, .int 0, .int 0, .int 0, .int 0, .int 0, .int 0]), .inr (1, [.int 0, .int 0, .int 0, .int 0, .int 0, .int 0, .int 0, .int 0]), .inr (1, [.int 0, .int 0, .int 0, .int 0, .int 0, .int 0, .int 0, .int 0]), .inr (1, [.int 0, .int 0, .int 0, .int 0, .int 0, .int 0, .int 0, .int 0]), .inr (1, [.int 0, .int 0, .int 0, .int 0, .int 0, .int 0, .int 0, .int 0]), .inr (1, [.int 0, .int 0, .int 0, .int 0, .int 0, .int 0, .int 0, .int 0]), .inr (1, [.int 0, .int 0, .int 0, .int 0, .int 0, .int 0, .int 0, .int 0]), .inr (1, [.int 0, .int 0, .int 0, .int 0, .int 0, .int 0, .int 0, .int 0])]) 2 rfl rfl (Nat.le_of_ble_eq_true rfl)) ?_
  refine V_iinc (pc := 47) (i := 2) (v := 8) (ls2 := [some (.ref i), some (.ref tp), some (.int 8)]) dX10_init_47 rfl (by decide) (by decide) rfl rfl ?_
  refine V_goto (pc := 50) (tgt := 28) dX10_init_50 (by decide) ?_
  refine V_iload_n (pc := 28) (i := 2) dX10_init_28 rfl rfl ?_
  refine V_bipush (pc := 29) (v := 8) dX10_init_29 (by decide) ?_
  refine V_icmp_ge (pc := 31) (tgt := 53) dX10_init_31 (by decide) (fun _ => ?_) (fun h => absurd h (by decide))
  refine V_aload_n (pc := 53) (i := 0) dX10_init_53 rfl rfl ?_
  refine V_bipush (pc := 54) (v := 10) dX10_init_54 (by decide) ?_
  refine V_newa (pc := 56) (kc := 0) (ks := 0) (t := 0) (N := 10) (ty := .int) rfl (Or.inl ⟨rfl, rfl⟩) wd_192 dX10_init_56 (by decide) (by decide) (by decide) (by omega) (hx_push (L2 := [.inr (10, [.ref tp, .ref (i + 1), .ref (i + 2), .null, .int 0, .int 0, .int 0, .int 0, .int 0]), .inl (0, (25, .inl (fun _ => 0))), .inl (3, (8, .inr (.inr (.inr (.inr (frl (eadr 3008 (i + 2)) 8)))))), .inr (1, [.int 0, .int 0, .int 0, .int 0, .int 0, .int 0, .int 0, .int 0]), .inr (1, [.int 0, .int 0, .int 0, .int 0, .int 0, .int 0, .int 0, .int 0]), .inr (1, [.int 0, .int 0, .int 0, .int 0, .int 0, .int 0, .int 0, .int 0]), .inr (1, [.int 0, .int 0, .int 0, .int 0, .int 0, .int 0, .int 0, .int 0]), .inr (1, [.int 0, .int 0, .int 0, .int 0, .int 0, .int 0, .int 0, .int 0]), .inr (1, [.int 0, .int 0, .int 0, .int 0, .int 0, .int 0, .int 0, .int 0]), .inr (1, [.int 0, .int 0, .int 0, .int 0, .int 0, .int 0, .int 0, .int 0]), .inr (1, [.int 0, .int 0, .int 0, .int 0, .int 0, .int 0, .int 0, .int 0]), .inl (0, (10, .inl (fun _ => 0)))]) rfl rfl) ?_
  refine V_putF (pc := 58) rfl rfl lH_X10_26 dX10_init_58 (by omega) (hx_get 0 rfl rfl) (Nat.le_of_ble_eq_true rfl) (fun _ => ⟨rfl, rfl⟩) (hx_set (L2 := [.inr (10, [.ref tp, .ref (i + 1), .ref (i + 2), .ref (i + 11), .int 0, .int 0, .int 0, .int 0, .int 0]), .inl (0, (25, .inl (fun _ => 0))), .inl (3, (8, .inr (.inr (.inr (.inr (frl (eadr 3008 (i + 2)) 8)))))), .inr (1, [.int 0, .int 0, .int 0, .int 0, .int 0, .int 0, .int 0, .int 0]), .inr (1, [.int 0, .int 0, .int 0, .int 0, .int 0, .int 0, .int 0, .int 0]), .inr (1, [.int 0, .int 0, .int 0, .int 0, .int 0, .int 0, .int 0, .int 0]), .inr (1, [.int 0, .int 0, .int 0, .int 0, .int 0, .int 0, .int 0, .int 0]), .inr (1, [.int 0, .int 0, .int 0, .int 0, .int 0, .int 0, .int 0, .int 0]), .inr (1, [.int 0, .int 0, .int 0, .int 0, .int 0, .int 0, .int 0, .int 0]), .inr (1, [.int 0, .int 0, .int 0, .int 0, .int 0, .int 0, .int 0, .int 0]), .inr (1, [.int 0, .int 0, .int 0, .int 0, .int 0, .int 0, .int 0, .int 0]), .inl (0, (10, .inl (fun _ => 0)))]) 0 rfl rfl (Nat.le_of_ble_eq_true rfl)) ?_
  refine V_iconst (pc := 61) (v := 0) dX10_init_61 (by decide) ?_
  refine V_istore_n (pc := 62) (i := 2) (ls2 := [some (.ref i), some (.ref tp), some (.int 0)]) dX10_init_62 rfl (by decide) rfl rfl ?_
  refine V_iload_n (pc := 63) (i := 2) dX10_init_63 rfl rfl ?_
  refine V_bipush (pc := 64) (v := 9) dX10_init_64 (by decide) ?_
  refine V_icmp_gt (pc := 66) (tgt := 82) dX10_init_66 (by decide) (fun h => absurd h (by decide)) (fun _ => ?_)
  refine V_aload_n (pc := 69) (i := 0) dX10_init_69 rfl rfl ?_
  refine V_getf (pc := 70) lD_X10_26 dX10_init_70 (by omega) (hx_get 0 rfl rfl) rfl ?_
  refine V_iload_n (pc := 73) (i := 2) dX10_init_73 rfl rfl ?_
  refine V_iconst (pc := 74) (v := (-1)) dX10_init_74 (by decide) ?_
  refine V_iastK (pc := 75) 0 (by decide) dX10_init_75 (by omega) (hx_get 11 rfl rfl) (vp_in_iff.mpr (by decide)) (hx_set (L2 := [.inr (10, [.ref tp, .ref (i + 1), .ref (i + 2), .ref (i + 11), .int 0, .int 0, .int 0, .int 0, .int 0]), .inl (0, (25, .inl (fun _ => 0))), .inl (3, (8, .inr (.inr (.inr (.inr (frl (eadr 3008 (i + 2)) 8)))))), .inr (1, [.int 0, .int 0, .int 0, .int 0, .int 0, .int 0, .int 0, .int 0]), .inr (1, [.int 0, .int 0, .int 0, .int 0, .int 0, .int 0, .int 0, .int 0]), .inr (1, [.int 0, .int 0, .int 0, .int 0, .int 0, .int 0, .int 0, .int 0]), .inr (1, [.int 0, .int 0, .int 0, .int 0, .int 0, .int 0, .int 0, .int 0]), .inr (1, [.int 0, .int 0, .int 0, .int 0, .int 0, .int 0, .int 0, .int 0]), .inr (1, [.int 0, .int 0, .int 0, .int 0, .int 0, .int 0, .int 0, .int 0]), .inr (1, [.int 0, .int 0, .int 0, .int 0, .int 0, .int 0, .int 0, .int 0]), .inr (1, [.int 0, .int 0, .int 0, .int 0, .int 0, .int 0, .int 0, .int 0]), .inl (0, (10, .inl (fil 0 (-1) (fun _ => 0) 1)))]) 11 rfl rfl (Nat.le_of_ble_eq_true rfl)) ?_
  refine V_iinc (pc := 76) (i := 2) (v := 1) (ls2 := [some (.ref i), some (.ref tp), some (.int 1)]) dX10_init_76 rfl (by decide) (by decide) rfl rfl ?_
  refine V_goto (pc := 79) (tgt := 63) dX10_init_79 (by decide) ?_
  refine V_iload_n (pc := 63) (i := 2) dX10_init_63 rfl rfl ?_
  refine V_bipush (pc := 64) (v := 9) dX10_init_64 (by decide) ?_
  refine V_icmp_gt (pc := 66) (tgt := 82) dX10_init_66 (by decide) (fun h => absurd h (by decide)) (fun _ => ?_)
  refine V_aload_n (pc := 69) (i := 0) dX10_init_69 rfl rfl ?_
  refine V_getf (pc := 70) lD_X10_26 dX10_init_70 (by omega) (hx_get 0 rfl rfl) rfl ?_
  refine V_iload_n (pc := 73) (i := 2) dX10_init_73 rfl rfl ?_
  refine V_iconst (pc := 74) (v := (-1)) dX10_init_74 (by decide) ?_
  refine V_iastK (pc := 75) 1 (by decide) dX10_init_75 (by omega) (hx_get 11 rfl rfl) (vp_in_iff.mpr (by decide)) (hx_set (L2 := [.inr (10, [.ref tp, .ref (i + 1), .ref (i + 2), .ref (i + 11), .int 0, .int 0, .int 0, .int 0, .int 0]), .inl (0, (25, .inl (fun _ => 0))), .inl (3, (8, .inr (.inr (.inr (.inr (frl (eadr 3008 (i + 2)) 8)))))), .inr (1, [.int 0, .int 0, .int 0, .int 0, .int 0, .int 0, .int 0, .int 0]), .inr (1, [.int 0, .int 0, .int 0, .int 0, .int 0, .int 0, .int 0, .int 0]), .inr (1, [.int 0, .int 0, .int 0, .int 0, .int 0, .int 0, .int 0, .int 0]), .inr (1, [.int 0, .int 0, .int 0, .int 0, .int 0, .int 0, .int 0, .int 0]), .inr (1, [.int 0, .int 0, .int 0, .int 0, .int 0, .int 0, .int 0, .int 0]), .inr (1, [.int 0, .int 0, .int 0, .int 0, .int 0, .int 0, .int 0, .int 0]), .inr (1, [.int 0, .int 0, .int 0, .int 0, .int 0, .int 0, .int 0, .int 0]), .inr (1, [.int 0, .int 0, .int 0, .int 0, .int 0, .int 0, .int 0, .int 0]), .inl (0, (10, .inl (fil 0 (-1) (fun _ => 0) 2)))]) 11 rfl rfl (Nat.le_of_ble_eq_true rfl)) ?_
  refine V_iinc (pc := 76) (i := 2) (v := 2) (ls2 := [some (.ref i), some (.ref tp), some (.int 2)]) dX10_init_76 rfl (by decide) (by decide) rfl rfl ?_
  refine V_goto (pc := 79) (tgt := 63) dX10_init_79 (by decide) ?_
  refine V_iload_n (pc := 63) (i := 2) dX10_init_63 rfl rfl ?_
  refine V_bipush (pc := 64) (v := 9) dX10_init_64 (by decide) ?_
  refine V_icmp_gt (pc := 66) (tgt := 82) dX10_init_66 (by decide) (fun h => absurd h (by decide)) (fun _ => ?_)
  refine V_aload_n (pc := 69) (i := 0) dX10_init_69 rfl rfl ?_
  refine V_getf (pc := 70) lD_X10_26 dX10_init_70 (by omega) (hx_get 0 rfl rfl) rfl ?_
  refine V_iload_n (pc := 73) (i := 2) dX10_init_73 rfl rfl ?_
  refine V_iconst (pc := 74) (v := (-1)) dX10_init_74 (by decide) ?_
  refine V_iastK (pc := 75) 2 (by decide) dX10_init_75 (by omega) (hx_get 11 rfl rfl) (vp_in_iff.mpr (by decide)) (hx_set (L2 := [.inr (10, [.ref tp, .ref (i + 1), .ref (i + 2), .ref (i + 11), .int 0, .int 0, .int 0, .int 0, .int 0]), .inl (0, (25, .inl (fun _ => 0))), .inl (3, (8, .inr (.inr (.inr (.inr (frl (eadr 3008 (i + 2)) 8)))))), .inr (1, [.int 0, .int 0, .int 0, .int 0, .int 0, .int 0, .int 0, .int 0]), .inr (1, [.int 0, .int 0, .int 0, .int 0, .int 0, .int 0, .int 0, .int 0]), .inr (1, [.int 0, .int 0, .int 0, .int 0, .int 0, .int 0, .int 0, .int 0]), .inr (1, [.int 0, .int 0, .int 0, .int 0, .int 0, .int 0, .int 0, .int 0]), .inr (1, [.int 0, .int 0, .int 0, .int 0, .int 0, .int 0, .int 0, .int 0]), .inr (1, [.int 0, .int 0, .int 0, .int 0, .int 0, .int 0, .int 0, .int 0]), .inr (1, [.int 0, .int 0, .int 0, .int 0, .int 0, .int 0, .int 0, .int 0]), .inr (1, [.int 0, .int 0, .int 0, .int 0, .int 0, .int 0, .int 0, .int 0]), .inl (0, (10, .inl (fil 0 (-1) (fun _ => 0) 3)))]) 11 rfl rfl (Nat.le_of_ble_eq_true rfl)) ?_
  refine V_iinc (pc := 76) (i := 2) (v := 3) (ls2 := [some (.ref i), some (.ref tp), some (.int 3)]) dX10_init_76 rfl (by decide) (by decide) rfl rfl ?_
  refine V_goto (pc := 79) (tgt := 63) dX10_init_79 (by decide) ?_
  refine V_iload_n (pc := 63) (i := 2) dX10_init_63 rfl rfl ?_
  refine V_bipush (pc := 64) (v := 9) dX10_init_64 (by decide) ?_
  refine V_icmp_gt (pc := 66) (tgt := 82) dX10_init_66 (by decide) (fun h => absurd h (by decide)) (fun _ => ?_)
  refine V_aload_n (pc := 69) (i := 0) dX10_init_69 rfl rfl ?_
  refine V_getf (pc := 70) lD_X10_26 dX10_init_70 (by omega) (hx_get 0 rfl rfl) rfl ?_
  refine V_iload_n (pc := 73) (i := 2) dX10_init_73 rfl rfl ?_
  refine V_iconst (pc := 74) (v := (-1)) dX10_init_74 (by decide) ?_
  refine V_iastK (pc := 75) 3 (by decide) dX10_init_75 (by omega) (hx_get 11 rfl rfl) (vp_in_iff.mpr (by decide)) (hx_set (L2 := [.inr (10, [.ref tp, .ref (i + 1), .ref (i + 2), .ref (i + 11), .int 0, .int 0, .int 0, .int 0, .int 0]), .inl (0, (25, .inl (fun _ => 0))), .inl (3, (8, .inr (.inr (.inr (.inr (frl (eadr 3008 (i + 2)) 8)))))), .inr (1, [.int 0, .int 0, .int 0, .int 0, .int 0, .int 0, .int 0, .int 0]), .inr (1, [.int 0, .int 0, .int 0, .int 0, .int 0, .int 0, .int 0, .int 0]), .inr (1, [.int 0, .int 0, .int 0, .int 0, .int 0, .int 0, .int 0, .int 0]), .inr (1, [.int 0, .int 0, .int 0, .int 0, .int 0, .int 0, .int 0, .int 0]), .inr (1, [.int 0, .int 0, .int 0, .int 0, .int 0, .int 0, .int 0, .int 0]), .inr (1, [.int 0, .int 0, .int 0, .int 0, .int 0, .int 0, .int 0, .int 0]), .inr (1, [.int 0, .int 0, .int 0, .int 0, .int 0, .int 0, .int 0, .int 0]), .inr (1, [.int 0, .int 0, .int 0, .int 0, .int 0, .int 0, .int 0, .int 0]), .inl (0, (10, .inl (fil 0 (-1) (fun _ => 0) 4)))]) 11 rfl rfl (Nat.le_of_ble_eq_true rfl)) ?_
  refine V_iinc (pc := 76) (i := 2) (v := 4) (ls2 := [some (.ref i), some (.ref tp), some (.int 4)]) dX10_init_76 rfl (by decide) (by decide) rfl rfl ?_
  refine V_goto (pc := 79) (tgt := 63) dX10_init_79 (by decide) ?_
  refine V_iload_n (pc := 63) (i := 2) dX10_init_63 rfl rfl ?_
  refine V_bipush (pc := 64) (v := 9) dX10_init_64 (by decide) ?_
  refine V_icmp_gt (pc := 66) (tgt := 82) dX10_init_66 (by decide) (fun h => absurd h (by decide)) (fun _ => ?_)
  refine V_aload_n (pc := 69) (i := 0) dX10_init_69 rfl rfl ?_
  refine V_getf (pc := 70) lD_X10_26 dX10_init_70 (by omega) (hx_get 0 rfl rfl) rfl ?_
  refine V_iload_n (pc := 73) (i := 2) dX10_init_73 rfl rfl ?_
  refine V_iconst (pc := 74) (v := (-1)) dX10_init_74 (by decide) ?_
  refine V_iastK (pc := 75) 4 (by decide) dX10_init_75 (by omega) (hx_get 11 rfl rfl) (vp_in_iff.mpr (by decide)) (hx_set (L2 := [.inr (10, [.ref tp, .ref (i + 1), .ref (i + 2), .ref (i + 11), .int 0, .int 0, .int 0, .int 0, .int 0]), .inl (0, (25, .inl (fun _ => 0))), .inl (3, (8, .inr (.inr (.inr (.inr (frl (eadr 3008 (i + 2)) 8)))))), .inr (1, [.int 0, .int 0, .int 0, .int 0, .int 0, .int 0, .int 0, .int 0]), .inr (1, [.int 0, .int 0, .int 0, .int 0, .int 0, .int 0, .int 0, .int 0]), .inr (1, [.int 0, .int 0, .int 0, .int 0, .int 0, .int 0, .int 0, .int 0]), .inr (1, [.int 0, .int 0, .int 0, .int 0, .int 0, .int 0, .int 0, .int 0]), .inr (1, [.int 0, .int 0, .int 0, .int 0, .int 0, .int 0, .int 0, .int 0]), .inr (1, [.int 0, .int 0, .int 0, .int 0, .int 0, .int 0, .int 0, .int 0]), .inr (1, [.int 0, .int 0, .int 0, .int 0, .int 0, .int 0, .int 0, .int 0]), .inr (1, [.int 0, .int 0, .int 0, .int 0, .int 0, .int 0, .int 0, .int 0]), .inl (0, (10, .inl (fil 0 (-1) (fun _ => 0) 5)))]) 11 rfl rfl (Nat.le_of_ble_eq_true rfl)) ?_
  refine V_iinc (pc := 76) (i := 2) (v := 5) (ls2 := [some (.ref i), some (.ref tp), some (.int 5)]) dX10_init_76 rfl (by decide) (by decide) rfl rfl ?_
  refine V_goto (pc := 79) (tgt := 63) dX10_init_79 (by decide) ?_
  refine V_iload_n (pc := 63) (i := 2) dX10_init_63 rfl rfl ?_
  refine V_bipush (pc := 64) (v := 9) dX10_init_64 (by decide) ?_
  refine V_icmp_gt (pc := 66) (tgt := 82) dX10_init_66 (by decide) (fun h => absurd h (by decide)) (fun _ => ?_)
  refine V_aload_n (pc := 69) (i := 0) dX10_init_69 rfl rfl ?_
  refine V_getf (pc := 70) lD_X10_26 dX10_init_70 (by omega) (hx_get 0 rfl rfl) rfl ?_
  refine V_iload_n (pc := 73) (i := 2) dX10_init_73 rfl rfl ?_
  refine V_iconst (pc := 74) (v := (-1)) dX10_init_74 (by decide) ?_
  refine V_iastK (pc := 75) 5 (by decide) dX10_init_75 (by omega) (hx_get 11 rfl rfl) (vp_in_iff.mpr (by decide)) (hx_set (L2 := [.inr (10, [.ref tp, .ref (i + 1), .ref (i + 2), .ref (i + 11), .int 0, .int 0, .int 0, .int 0, .int 0]), .inl (0, (25, .inl (fun _ => 0))), .inl (3, (8, .inr (.inr (.inr (.inr (frl (eadr 3008 (i + 2)) 8)))))), .inr (1, [.int 0, .int 0, .int 0, .int 0, .int 0, .int 0, .int 0, .int 0]), .inr (1, [.int 0, .int 0, .int 0, .int 0, .int 0, .int 0, .int 0, .int 0]), .inr (1, [.int 0, .int 0, .int 0, .int 0, .int 0, .int 0, .int 0, .int 0]), .inr (1, [.int 0, .int 0, .int 0, .int 0, .int 0, .int 0, .int 0, .int 0]), .inr (1, [.int 0, .int 0, .int 0, .int 0, .int 0, .int 0, .int 0, .int 0]), .inr (1, [.int 0, .int 0, .int 0, .int 0, .int 0, .int 0, .int 0, .int 0]), .inr (1, [.int 0, .int 0, .int 0, .int 0, .int 0, .int 0, .int 0, .int 0]), .inr (1, [.int 0, .int 0, .int 0, .int 0, .int 0, .int 0, .int 0, .int 0]), .inl (0, (10, .inl (fil 0 (-1) (fun _ => 0) 6)))]) 11 rfl rfl (Nat.le_of_ble_eq_true rfl)) ?_
  refine V_iinc (pc := 76) (i := 2) (v := 6) (ls2 := [some (.ref i), some (.ref tp), some (.int 6)]) dX10_init_76 rfl (by decide) (by decide) rfl rfl ?_
  refine V_goto (pc := 79) (tgt := 63) dX10_init_79 (by decide) ?_
  refine V_iload_n (pc := 63) (i := 2) dX10_init_63 rfl rfl ?_
  refine V_bipush (pc := 64) (v := 9) dX10_init_64 (by decide) ?_
  refine V_icmp_gt (pc := 66) (tgt := 82) dX10_init_66 (by decide) (fun h => absurd h (by decide)) (fun _ => ?_)
  refine V_aload_n (pc := 69) (i := 0) dX10_init_69 rfl rfl ?_
  refine V_getf (pc := 70) lD_X10_26 dX10_init_70 (by omega) (hx_get 0 rfl rfl) rfl ?_
  refine V_iload_n (pc := 73) (i := 2) dX10_init_73 rfl rfl ?_
  refine V_iconst (pc := 74) (v := (-1)) dX10_init_74 (by decide) ?_
  refine V_iastK (pc := 75) 6 (by decide) dX10_init_75 (by omega) (hx_get 11 rfl rfl) (vp_in_iff.mpr (by decide)) (hx_set (L2 := [.inr (10, [.ref tp, .ref (i + 1), .ref (i + 2), .ref (i + 11), .int 0, .int 0, .int 0, .int 0, .int 0]), .inl (0, (25, .inl (fun _ => 0))), .inl (3, (8, .inr (.inr (.inr (.inr (frl (eadr 3008 (i + 2)) 8)))))), .inr (1, [.int 0, .int 0, .int 0, .int 0, .int 0, .int 0, .int 0, .int 0]), .inr (1, [.int 0, .int 0, .int 0, .int 0, .int 0, .int 0, .int 0, .int 0]), .inr (1, [.int 0, .int 0, .int 0, .int 0, .int 0, .int 0, .int 0, .int 0]), .inr (1, [.int 0, .int 0, .int 0, .int 0, .int 0, .int 0, .int 0, .int 0]), .inr (1, [.int 0, .int 0, .int 0, .int 0, .int 0, .int 0, .int 0, .int 0]), .inr (1, [.int 0, .int 0, .int 0, .int 0, .int 0, .int 0, .int 0, .int 0]), .inr (1, [.int 0, .int 0, .int 0, .int 0, .int 0, .int 0, .int 0, .int 0]), .inr (1, [.int 0, .int 0, .int 0, .int 0, .int 0, .int 0, .int 0, .int 0]), .inl (0, (10, .inl (fil 0 (-1) (fun _ => 0) 7)))]) 11 rfl rfl (Nat.le_of_ble_eq_true rfl)) ?_
  refine V_iinc (pc := 76) (i := 2) (v := 7) (ls2 := [some (.ref i), some (.ref tp), some (.int 7)]) dX10_init_76 rfl (by decide) (by decide) rfl rfl ?_
  refine V_goto (pc := 79) (tgt := 63) dX10_init_79 (by decide) ?_
  refine V_iload_n (pc := 63) (i := 2) dX10_init_63 rfl rfl ?_
  refine V_bipush (pc := 64) (v := 9) dX10_init_64 (by decide) ?_
  refine V_icmp_gt (pc := 66) (tgt := 82) dX10_init_66 (by decide) (fun h => absurd h (by decide)) (fun _ => ?_)
  refine V_aload_n (pc := 69) (i := 0) dX10_init_69 rfl rfl ?_
  refine V_getf (pc := 70) lD_X10_26 dX10_init_70 (by omega) (hx_get 0 rfl rfl) rfl ?_
  refine V_iload_n (pc := 73) (i := 2) dX10_init_73 rfl rfl ?_
  refine V_iconst (pc := 74) (v := (-1)) dX10_init_74 (by decide) ?_
  refine V_iastK (pc := 75) 7 (by decide) dX10_init_75 (by omega) (hx_get 11 rfl rfl) (vp_in_iff.mpr (by decide)) (hx_set (L2 := [.inr (10, [.ref tp, .ref (i + 1), .ref (i + 2), .ref (i + 11), .int 0, .int 0, .int 0, .int 0, .int 0]), .inl (0, (25, .inl (fun _ => 0))), .inl (3, (8, .inr (.inr (.inr (.inr (frl (eadr 3008 (i + 2)) 8)))))), .inr (1, [.int 0, .int 0, .int 0, .int 0, .int 0, .int 0, .int 0, .int 0]), .inr (1, [.int 0, .int 0, .int 0, .int 0, .int 0, .int 0, .int 0, .int 0]), .inr (1, [.int 0, .int 0, .int 0, .int 0, .int 0, .int 0, .int 0, .int 0]), .inr (1, [.int 0, .int 0, .int 0, .int 0, .int 0, .int 0, .int 0, .int 0]), .inr (1, [.int 0, .int 0, .int 0, .int 0, .int 0, .int 0, .int 0, .int 0]), .inr (1, [.int 0, .int 0, .int 0, .int 0, .int 0, .int 0, .int 0, .int 0]), .inr (1, [.int 0, .int 0, .int 0, .int 0, .int 0, .int 0, .int 0, .int 0]), .inr (1, [.int 0, .int 0, .int 0, .int 0, .int 0, .int 0, .int 0, .int 0]), .inl (0, (10, .inl (fil 0 (-1) (fun _ => 0) 8)))]) 11 rfl rfl (Nat.le_of_ble_eq_true rfl)) ?_
  refine V_iinc (pc := 76) (i := 2) (v := 8) (ls2 := [some (.ref i), some (.ref tp), some (.int 8)]) dX10_init_76 rfl (by decide) (by decide) rfl rfl ?_
  refine V_goto (pc := 79) (tgt := 63) dX10_init_79 (by decide) ?_
  refine V_iload_n (pc := 63) (i := 2) dX10_init_63 rfl rfl ?_
  refine V_bipush (pc := 64) (v := 9) dX10_init_64 (by decide) ?_
  refine V_icmp_gt (pc := 66) (tgt := 82) dX10_init_66 (by decide) (fun h => absurd h (by decide)) (fun _ => ?_)
  refine V_aload_n (pc := 69) (i := 0) dX10_init_69 rfl rfl ?_
  refine V_getf (pc := 70) lD_X10_26 dX10_init_70 (by omega) (hx_get 0 rfl rfl) rfl ?_
  refine V_iload_n (pc := 73) (i := 2) dX10_init_73 rfl rfl ?_
  refine V_iconst (pc := 74) (v := (-1)) dX10_init_74 (by decide) ?_
  refine V_iastK (pc := 75) 8 (by decide) dX10_init_75 (by omega) (hx_get 11 rfl rfl) (vp_in_iff.mpr (by decide)) (hx_set (L2 := [.inr (10, [.ref tp, .ref (i + 1), .ref (i + 2), .ref (i + 11), .int 0, .int 0, .int 0, .int 0, .int 0]), .inl (0, (25, .inl (fun _ => 0))), .inl (3, (8, .inr (.inr (.inr (.inr (frl (eadr 3008 (i + 2)) 8)))))), .inr (1, [.int 0, .int 0, .int 0, .int 0, .int 0, .int 0, .int 0, .int 0]), .inr (1, [.int 0, .int 0, .int 0, .int 0, .int 0, .int 0, .int 0, .int 0]), .inr (1, [.int 0, .int 0, .int 0, .int 0, .int 0, .int 0, .int 0, .int 0]), .inr (1, [.int 0, .int 0, .int 0, .int 0, .int 0, .int 0, .int 0, .int 0]), .inr (1, [.int 0, .int 0, .int 0, .int 0, .int 0, .int 0, .int 0, .int 0]), .inr (1, [.int 0, .int 0, .int 0, .int 0, .int 0, .int 0, .int 0, .int 0]), .inr (1, [.int 0, .int 0, .int 0, .int 0, .int 0, .int 0, .int 0, .int 0]), .inr (1, [.int 0, .int 0, .int 0, .int 0, .int 0, .int 0, .int 0, .int 0]), .inl (0, (10, .inl (fil 0 (-1) (fun _ => 0) 9)))]) 11 rfl rfl (Nat.le_of_ble_eq_true rfl)) ?_
  refine V_iinc (pc := 76) (i := 2) (v := 9) (ls2 := [some (.ref i), some (.ref tp), some (.int 9)]) dX10_init_76 rfl (by decide) (by decide) rfl rfl ?_
  refine V_goto (pc := 79) (tgt := 63) dX10_init_79 (by decide) ?_
  refine V_iload_n (pc := 63) (i := 2) dX10_init_63 rfl rfl ?_
  refine V_bipush (pc := 64) (v := 9) dX10_init_64 (by decide) ?_
  refine V_icmp_gt (pc := 66) (tgt := 82) dX10_init_66 (by decide) (fun h => absurd h (by decide)) (fun _ => ?_)
  refine V_aload_n (pc := 69) (i := 0) dX10_init_69 rfl rfl ?_
  refine V_getf (pc := 70) lD_X10_26 dX10_init_70 (by omega) (hx_get 0 rfl rfl) rfl ?_
  refine V_iload_n (pc := 73) (i := 2) dX10_init_73 rfl rfl ?_
  refine V_iconst (pc := 74) (v := (-1)) dX10_init_74 (by decide) ?_
  refine V_iastK (pc := 75) 9 (by decide) dX10_init_75 (by omega) (hx_get 11 rfl rfl) (vp_in_iff.mpr (by decide)) (hx_set (L2 := [.inr (10, [.ref tp, .ref (i + 1), .ref (i + 2), .ref (i + 11), .int 0, .int 0, .int 0, .int 0, .int 0]), .inl (0, (25, .inl (fun _ => 0))), .inl (3, (8, .inr (.inr (.inr (.inr (frl (eadr 3008 (i + 2)) 8)))))), .inr (1, [.int 0, .int 0, .int 0, .int 0, .int 0, .int 0, .int 0, .int 0]), .inr (1, [.int 0, .int 0, .int 0, .int 0, .int 0, .int 0, .int 0, .int 0]), .inr (1, [.int 0, .int 0, .int 0, .int 0, .int 0, .int 0, .int 0, .int 0]), .inr (1, [.int 0, .int 0, .int 0, .int 0, .int 0, .int 0, .int 0, .int 0]), .inr (1, [.int 0, .int 0, .int 0, .int 0, .int 0, .int 0, .int 0, .int 0]), .inr (1, [.int 0, .int 0, .int 0, .int 0, .int 0, .int 0, .int 0, .int 0]), .inr (1, [.int 0, .int 0, .int 0, .int 0, .int 0, .int 0, .int 0, .int 0]), .inr (1, [.int 0, .int 0, .int 0, .int 0, .int 0, .int 0, .int 0, .int 0]), .inl (0, (10, .inl (fil 0 (-1) (fun _ => 0) 10)))]) 11 rfl rfl (Nat.le_of_ble_eq_true rfl)) ?_
  refine V_iinc (pc := 76) (i := 2) (v := 10) (ls2 := [some (.ref i), some (.ref tp), some (.int 10)]) dX10_init_76 rfl (by decide) (by decide) rfl rfl ?_
  refine V_goto (pc := 79) (tgt := 63) dX10_init_79 (by decide) ?_
  refine V_iload_n (pc := 63) (i := 2) dX10_init_63 rfl rfl ?_
  refine V_bipush (pc := 64) (v := 9) dX10_init_64 (by decide) ?_
  refine V_icmp_gt (pc := 66) (tgt := 82) dX10_init_66 (by decide) (fun _ => ?_) (fun h => absurd h (by decide))
  refine V_aload_n (pc := 82) (i := 0) dX10_init_82 rfl rfl ?_
  refine V_iconst (pc := 83) (v := 1) dX10_init_83 (by decide) ?_
  refine V_putf (pc := 84) lH_X10_29 dX10_init_84 (by omega) (hx_get 0 rfl rfl) (Nat.le_of_ble_eq_true rfl) (fun _ => ⟨rfl, rfl⟩) (hx_set (L2 := [.inr (10, [.ref tp, .ref (i + 1), .ref (i + 2), .ref (i + 11), .int 0, .int 0, .int 0, .int 0, .int 1]), .inl (0, (25, .inl (fun _ => 0))), .inl (3, (8, .inr (.inr (.inr (.inr (frl (eadr 3008 (i + 2)) 8)))))), .inr (1, [.int 0, .int 0, .int 0, .int 0, .int 0, .int 0, .int 0, .int 0]), .inr (1, [.int 0, .int 0, .int 0, .int 0, .int 0, .int 0, .int 0, .int 0]), .inr (1, [.int 0, .int 0, .int 0, .int 0, .int 0, .int 0, .int 0, .int 0]), .inr (1, [.int 0, .int 0, .int 0, .int 0, .int 0, .int 0, .int 0, .int 0]), .inr (1, [.int 0, .int 0, .int 0, .int 0, .int 0, .int 0, .int 0, .int 0]), .inr (1, [.int 0, .int 0, .int 0, .int 0, .int 0, .int 0, .int 0, .int 0]), .inr (1, [.int 0, .int 0, .int 0, .int 0, .int 0, .int 0, .int 0, .int 0]), .inr (1, [.int 0, .int 0, .int 0, .int 0, .int 0, .int 0, .int 0, .int 0]), .inl (0, (10, .inl (fil 0 (-1) (fun _ => 0) 10)))]) 0 rfl rfl (Nat.le_of_ble_eq_true rfl)) ?_
  exact V_vret (pc := 87) dX10_init_87 rfl ⟨rfl, rfl, rfl⟩
