theorem lH_X12_7 : vFP RX12 7 12 0 (tyX12 0) true := ⟨RX12, TX12, 17, tyX12, rfl, by decide, wd_894, wsin_12, tyX12_ok, nmX12, rfl, tyX12_ok 0 (by decide), rfl⟩
theorem lH_X12_13 : vFP RX12 13 12 1 (tyX12 1) true := ⟨RX12, TX12, 17, tyX12, rfl, by decide, wd_895, wsin_12, tyX12_ok, nmX12, rfl, tyX12_ok 1 (by decide), rfl⟩
theorem lH_X12_16 : vFP RX12 16 12 2 (tyX12 2) true := ⟨RX12, TX12, 17, tyX12, rfl, by decide, wd_896, wsin_12, tyX12_ok, nmX12, rfl, tyX12_ok 2 (by decide), rfl⟩
theorem lH_X12_19 : vFP RX12 19 12 3 (tyX12 3) true := ⟨RX12, TX12, 17, tyX12, rfl, by decide, wd_897, wsin_12, tyX12_ok, nmX12, rfl, tyX12_ok 3 (by decide), rfl⟩
theorem lH_X12_22 : vFP RX12 22 12 5 (tyX12 5) true := ⟨RX12, TX12, 17, tyX12, rfl, by decide, wd_899, wsin_12, tyX12_ok, nmX12, rfl, tyX12_ok 5 (by decide), rfl⟩
theorem lH_X12_25 : vFP RX12 25 12 6 (tyX12 6) true := ⟨RX12, TX12, 17, tyX12, rfl, by decide, wd_900, wsin_12, tyX12_ok, nmX12, rfl, tyX12_ok 6 (by decide), rfl⟩
theorem lH_X12_28 : vFP RX12 28 12 8 (tyX12 8) true := ⟨RX12, TX12, 17, tyX12, rfl, by decide, wd_902, wsin_12, tyX12_ok, nmX12, rfl, tyX12_ok 8 (by decide), rfl⟩
theorem lH_X12_31 : vFP RX12 31 12 9 (tyX12 9) true := ⟨RX12, TX12, 17, tyX12, rfl, by decide, wd_903, wsin_12, tyX12_ok, nmX12, rfl, tyX12_ok 9 (by decide), rfl⟩
theorem lH_X12_34 : vFP RX12 34 12 10 (tyX12 10) true := ⟨RX12, TX12, 17, tyX12, rfl, by decide, wd_904, wsin_12, tyX12_ok, nmX12, rfl, tyX12_ok 10 (by decide), rfl⟩
theorem lH_X12_37 : vFP RX12 37 12 11 (tyX12 11) true := ⟨RX12, TX12, 17, tyX12, rfl, by decide, wd_905, wsin_12, tyX12_ok, nmX12, rfl, tyX12_ok 11 (by decide), rfl⟩
theorem lD_X12_7 : vFL RX12 7 12 0 := ⟨RX12, TX12, 17, rfl, by decide, wd_894, wsin_12⟩
def L_X12 (i : Nat) : List AC := [.inr (12, [.ref (i + 1), .ref (i + 2), .ref (i + 3), .ref (i + 4), .int 0, .ref (i + 5), .ref (i + 6), .int 0, .ref (i + 7), .ref (i + 8), .ref (i + 9), .ref (i + 10), .int 0, .int 0, .int 0, .int 0, .int 0]), .inl (0, (96, .inl (fil 86 (-1) (upd (fun _ => 0) 2 1) 10))), .inl (0, (96, .inl (fun _ => 0))), .inl (0, (96, .inl (fun _ => 0))), .inl (0, (96, .inl (fun _ => 0))), .inl (0, (8, .inl (fun _ => 0))), .inl (0, (120, .inl (fun _ => 0))), .inl (0, (4, .inl (fil 0 (-1) (fun _ => 0) 4))), .inl (0, (4, .inl (fun _ => 0))), .inl (0, (160, .inl (fun _ => 0))), .inl (0, (8, .inl (fun _ => 0)))]
set_option maxRecDepth 8000 in
theorem ct_X12 {hp0 : Nat → AC} {n0 i : Nat} {Pr : List AC} (hi : n0 + Pr.length = i) (h9 : i + 11 < 1000) : Ct yX12_init cX12_init 2 none 1 10 688 [.ref i] (i + 1) (hx hp0 n0 (Pr ++ [.inr (12, [.null, .null, .null, .null, .int 0, .null, .null, .int 0, .null, .null, .null, .null, .int 0, .int 0, .int 0, .int 0, .int 0])])) (QN (i + 11) (hx hp0 n0 (Pr ++ L_X12 i))) := by
  rw [← hx_split hi, ← hx_split hi]
  generalize hx hp0 n0 Pr = hq
  clear hi
  refine Ct.ofV (by decide +kernel) (Nat.le_of_ble_eq_true rfl) fun E => ?_
  refine V_aload_n (pc := 0) (i := 0) dX12_init_0 rfl rfl ?_
  refine V_obj (pc := 1) wd_893 dX12_init_1 (by decide) (Nat.le_of_ble_eq_true rfl) ?_
  refine V_aload_n (pc := 4) (i := 0) dX12_init_4 rfl rfl ?_
  refine V_bipush (pc := 5) (v := 96) dX12_init_5 (by decide) ?_
  refine V_newa (pc := 7) (kc := 9) (ks := 592) (t := 0) (N := 96) (ty := .int) rfl (Or.inl ⟨rfl, rfl⟩) wd_192 dX12_init_7 (by decide) (by decide) (by decide) (by omega) (hx_push (L2 := [.inr (12, [.null, .null, .null, .null, .int 0, .null, .null, .int 0, .null, .null, .null, .null, .int 0, .int 0, .int 0, .int 0, .int 0]), .inl (0, (96, .inl (fun _ => 0)))]) rfl rfl) ?_
  refine V_putF (pc := 9) rfl rfl lH_X12_7 dX12_init_9 (by omega) (hx_get 0 rfl rfl) (Nat.le_of_ble_eq_true rfl) (fun _ => ⟨rfl, rfl⟩) (hx_set (L2 := [.inr (12, [.ref (i + 1), .null, .null, .null, .int 0, .null, .null, .int 0, .null, .null, .null, .null, .int 0, .int 0, .int 0, .int 0, .int 0]), .inl (0, (96, .inl (fun _ => 0)))]) 0 rfl rfl (Nat.le_of_ble_eq_true rfl)) ?_
  refine V_aload_n (pc := 12) (i := 0) dX12_init_12 rfl rfl ?_
  refine V_bipush (pc := 13) (v := 96) dX12_init_13 (by decide) ?_
  refine V_newa (pc := 15) (kc := 8) (ks := 496) (t := 0) (N := 96) (ty := .int) rfl (Or.inl ⟨rfl, rfl⟩) wd_192 dX12_init_15 (by decide) (by decide) (by decide) (by omega) (hx_push (L2 := [.inr (12, [.ref (i + 1), .null, .null, .null, .int 0, .null, .null, .int 0, .null, .null, .null, .null, .int 0, .int 0, .int 0, .int 0, .int 0]), .inl (0, (96, .inl (fun _ => 0))), .inl (0, (96, .inl (fun _ => 0)))]) rfl rfl) ?_
  refine V_putF (pc := 17) rfl rfl lH_X12_13 dX12_init_17 (by omega) (hx_get 0 rfl rfl) (Nat.le_of_ble_eq_true rfl) (fun _ => ⟨rfl, rfl⟩) (hx_set (L2 := [.inr (12, [.ref (i + 1), .ref (i + 2), .null, .null, .int 0, .null, .null, .int 0, .null, .null, .null, .null, .int 0, .int 0, .int 0, .int 0, .int 0]), .inl (0, (96, .inl (fun _ => 0))), .inl (0, (96, .inl (fun _ => 0)))]) 0 rfl rfl (Nat.le_of_ble_eq_true rfl)) ?_
  refine V_aload_n (pc := 20) (i := 0) dX12_init_20 rfl rfl ?_
  refine V_bipush (pc := 21) (v := 96) dX12_init_21 (by decide) ?_
  refine V_newa (pc := 23) (kc := 7) (ks := 400) (t := 0) (N := 96) (ty := .int) rfl (Or.inl ⟨rfl, rfl⟩) wd_192 dX12_init_23 (by decide) (by decide) (by decide) (by omega) (hx_push (L2 := [.inr (12, [.ref (i + 1), .ref (i + 2), .null, .null, .int 0, .null, .null, .int 0, .null, .null, .null, .null, .int 0, .int 0, .int 0, .int 0, .int 0]), .inl (0, (96, .inl (fun _ => 0))), .inl (0, (96, .inl (fun _ => 0))), .inl (0, (96, .inl (fun _ => 0)))]) rfl rfl) ?_
  refine V_putF (pc := 25) rfl rfl lH_X12_16 dX12_init_25 (by omega) (hx_get 0 rfl rfl) (Nat.le_of_ble_eq_true rfl) (fun _ => ⟨rfl, rfl⟩) (hx_set (L2 := [.inr (12, [.ref (i + 1), .ref (i + 2), .ref (i + 3), .null, .int 0, .null, .null, .int 0, .null, .null, .null, .null, .int 0, .int 0, .int 0, .int 0, .int 0]), .inl (0, (96, .inl (fun _ => 0))), .inl (0, (96, .inl (fun _ => 0))), .inl (0, (96, .inl (fun _ => 0)))]) 0 rfl rfl (Nat.le_of_ble_eq_true rfl)) ?_
  refine V_aload_n (pc := 28) (i := 0) dX12_init_28 rfl rfl ?_
  refine V_bipush (pc := 29) (v := 96) dX12_init_29 (by decide) ?_
  refine V_newa (pc := 31) (kc := 6) (ks := 304) (t := 0) (N := 96) (ty := .int) rfl (Or.inl ⟨rfl, rfl⟩) wd_192 dX12_init_31 (by decide) (by decide) (by decide) (by omega) (hx_push (L2 := [.inr (12, [.ref (i + 1), .ref (i + 2), .ref (i + 3), .null, .int 0, .null, .null, .int 0, .null, .null, .null, .null, .int 0, .int 0, .int 0, .int 0, .int 0]), .inl (0, (96, .inl (fun _ => 0))), .inl (0, (96, .inl (fun _ => 0))), .inl (0, (96, .inl (fun _ => 0))), .inl (0, (96, .inl (fun _ => 0)))]) rfl rfl) ?_
  refine V_putF (pc := 33) rfl rfl lH_X12_19 dX12_init_33 (by omega) (hx_get 0 rfl rfl) (Nat.le_of_ble_eq_true rfl) (fun _ => ⟨rfl, rfl⟩) (hx_set (L2 := [.inr (12, [.ref (i + 1), .ref (i + 2), .ref (i + 3), .ref (i + 4), .int 0, .null, .null, .int 0, .null, .null, .null, .null, .int 0, .int 0, .int 0, .int 0, .int 0]), .inl (0, (96, .inl (fun _ => 0))), .inl (0, (96, .inl (fun _ => 0))), .inl (0, (96, .inl (fun _ => 0))), .inl (0, (96, .inl (fun _ => 0)))]) 0 rfl rfl (Nat.le_of_ble_eq_true rfl)) ?_
  refine V_aload_n (pc := 36) (i := 0) dX12_init_36 rfl rfl ?_
  refine V_bipush (pc := 37) (v := 8) dX12_init_37 (by decide) ?_
  refine V_newa (pc := 39) (kc := 5) (ks := 296) (t := 0) (N := 8) (ty := .int) rfl (Or.inl ⟨rfl, rfl⟩) wd_192 dX12_init_39 (by decide) (by decide) (by decide) (by omega) (hx_push (L2 := [.inr (12, [.ref (i + 1), .ref (i + 2), .ref (i + 3), .ref (i + 4), .int 0, .null, .null, .int 0, .null, .null, .null, .null, .int 0, .int 0, .int 0, .int 0, .int 0]), .inl (0, (96, .inl (fun _ => 0))), .inl (0, (96, .inl (fun _ => 0))), .inl (0, (96, .inl (fun _ => 0))), .inl (0, (96, .inl (fun _ => 0))), .inl (0, (8, .inl (fun _ => 0)))]) rfl rfl) ?_
  refine V_putF (pc := 41) rfl rfl lH_X12_22 dX12_init_41 (by omega) (hx_get 0 rfl rfl) (Nat.le_of_ble_eq_true rfl) (fun _ => ⟨rfl, rfl⟩) (hx_set (L2 := [.inr (12, [.ref (i + 1), .ref (i + 2), .ref (i + 3), .ref (i + 4), .int 0, .ref (i + 5), .null, .int 0, .null, .null, .null, .null, .int 0, .int 0, .int 0, .int 0, .int 0]), .inl (0, (96, .inl (fun _ => 0))), .inl (0, (96, .inl (fun _ => 0))), .inl (0, (96, .inl (fun _ => 0))), .inl (0, (96, .inl (fun _ => 0))), .inl (0, (8, .inl (fun _ => 0)))]) 0 rfl rfl (Nat.le_of_ble_eq_true rfl)) ?_
  refine V_aload_n (pc := 44) (i := 0) dX12_init_44 rfl rfl ?_
  refine V_bipush (pc := 45) (v := 120) dX12_init_45 (by decide) ?_
  refine V_newa (pc := 47) (kc := 4) (ks := 176) (t := 0) (N := 120) (ty := .int) rfl (Or.inl ⟨rfl, rfl⟩) wd_192 dX12_init_47 (by decide) (by decide) (by decide) (by omega) (hx_push (L2 := [.inr (12, [.ref (i + 1), .ref (i + 2), .ref (i + 3), .ref (i + 4), .int 0, .ref (i + 5), .null, .int 0, .null, .null, .null, .null, .int 0, .int 0, .int 0, .int 0, .int 0]), .inl (0, (96, .inl (fun _ => 0))), .inl (0, (96, .inl (fun _ => 0))), .inl (0, (96, .inl (fun _ => 0))), .inl (0, (96, .inl (fun _ => 0))), .inl (0, (8, .inl (fun _ => 0))), .inl (0, (120, .inl (fun _ => 0)))]) rfl rfl) ?_
  refine V_putF (pc := 49) rfl rfl lH_X12_25 dX12_init_49 (by omega) (hx_get 0 rfl rfl) (Nat.le_of_ble_eq_true rfl) (fun _ => ⟨rfl, rfl⟩) (hx_set (L2 := [.inr (12, [.ref (i + 1), .ref (i + 2), .ref (i + 3), .ref (i + 4), .int 0, .ref (i + 5), .ref (i + 6), .int 0, .null, .null, .null, .null, .int 0, .int 0, .int 0, .int 0, .int 0]), .inl (0, (96, .inl (fun _ => 0))), .inl (0, (96, .inl (fun _ => 0))), .inl (0, (96, .inl (fun _ => 0))), .inl (0, (96, .inl (fun _ => 0))), .inl (0, (8, .inl (fun _ => 0))), .inl (0, (120, .inl (fun _ => 0)))]) 0 rfl rfl (Nat.le_of_ble_eq_true rfl)) ?_
  refine V_aload_n (pc := 52) (i := 0) dX12_init_52 rfl rfl ?_
  refine V_iconst (pc := 53) (v := 4) dX12_init_53 (by decide) ?_
  refine V_newa (pc := 54) (kc := 3) (ks := 172) (t := 0) (N := 4) (ty := .int) rfl (Or.inl ⟨rfl, rfl⟩) wd_192 dX12_init_54 (by decide) (by decide) (by decide) (by omega) (hx_push (L2 := [.inr (12, [.ref (i + 1), .ref (i + 2), .ref (i + 3), .ref (i + 4), .int 0, .ref (i + 5), .ref (i + 6), .int 0, .null, .null, .null, .null, .int 0, .int 0, .int 0, .int 0, .int 0]), .inl (0, (96, .inl (fun _ => 0))), .inl (0, (96, .inl (fun _ => 0))), .inl (0, (96, .inl (fun _ => 0))), .inl (0, (96, .inl (fun _ => 0))), .inl (0, (8, .inl (fun _ => 0))), .inl (0, (120, .inl (fun _ => 0))), .inl (0, (4, .inl (fun _ => 0)))]) rfl rfl) ?_
  refine V_dup (pc := 56) dX12_init_56 rfl ?_
  refine V_iconst (pc := 57) (v := 0) dX12_init_57 (by decide) ?_
  refine V_iconst (pc := 58) (v := (-1)) dX12_init_58 (by decide) ?_
  refine V_iastK (pc := 59) 0 (by decide) dX12_init_59 (by omega) (hx_get 7 rfl rfl) (vp_in_iff.mpr (by decide)) (hx_set (L2 := [.inr (12, [.ref (i + 1), .ref (i + 2), .ref (i + 3), .ref (i + 4), .int 0, .ref (i + 5), .ref (i + 6), .int 0, .null, .null, .null, .null, .int 0, .int 0, .int 0, .int 0, .int 0]), .inl (0, (96, .inl (fun _ => 0))), .inl (0, (96, .inl (fun _ => 0))), .inl (0, (96, .inl (fun _ => 0))), .inl (0, (96, .inl (fun _ => 0))), .inl (0, (8, .inl (fun _ => 0))), .inl (0, (120, .inl (fun _ => 0))), .inl (0, (4, .inl (fil 0 (-1) (fun _ => 0) 1)))]) 7 rfl rfl (Nat.le_of_ble_eq_true rfl)) ?_
  refine V_dup (pc := 60) dX12_init_60 rfl ?_
  refine V_iconst (pc := 61) (v := 1) dX12_init_61 (by decide) ?_
  refine V_iconst (pc := 62) (v := (-1)) dX12_init_62 (by decide) ?_
  refine V_iastK (pc := 63) 1 (by decide) dX12_init_63 (by omega) (hx_get 7 rfl rfl) (vp_in_iff.mpr (by decide)) (hx_set (L2 := [.inr (12, [.ref (i + 1), .ref (i + 2), .ref (i + 3), .ref (i + 4), .int 0, .ref (i + 5), .ref (i + 6), .int 0, .null, .null, .null, .null, .int 0, .int 0, .int 0, .int 0, .int 0]), .inl (0, (96, .inl (fun _ => 0))), .inl (0, (96, .inl (fun _ => 0))), .inl (0, (96, .inl (fun _ => 0))), .inl (0, (96, .inl (fun _ => 0))), .inl (0, (8, .inl (fun _ => 0))), .inl (0, (120, .inl (fun _ => 0))), .inl (0, (4, .inl (fil 0 (-1) (fun _ => 0) 2)))]) 7 rfl rfl (Nat.le_of_ble_eq_true rfl)) ?_
  refine V_dup (pc := 64) dX12_init_64 rfl ?_
  refine V_iconst (pc := 65) (v := 2) dX12_init_65 (by decide) ?_
  refine V_iconst (pc := 66) (v := (-1)) dX12_init_66 (by decide) ?_
  refine V_iastK (pc := 67) 2 (by decide) dX12_init_67 (by omega) (hx_get 7 rfl rfl) (vp_in_iff.mpr (by decide)) (hx_set (L2 := [.inr (12, [.ref (i + 1), .ref (i + 2), .ref (i + 3), .ref (i + 4), .int 0, .ref (i + 5), .ref (i + 6), .int 0, .null, .null, .null, .null, .int 0, .int 0, .int 0, .int 0, .int 0]), .inl (0, (96, .inl (fun _ => 0))), .inl (0, (96, .inl (fun _ => 0))), .inl (0, (96, .inl (fun _ => 0))), .inl (0, (96, .inl (fun _ => 0))), .inl (0, (8, .inl (fun _ => 0))), .inl (0, (120, .inl (fun _ => 0))), .inl (0, (4, .inl (fil 0 (-1) (fun _ => 0) 3)))]) 7 rfl rfl (Nat.le_of_ble_eq_true rfl)) ?_
  refine V_dup (pc := 68) dX12_init_68 rfl ?_
  refine V_iconst (pc := 69) (v := 3) dX12_init_69 (by decide) ?_
  refine V_iconst (pc := 70) (v := (-1)) dX12_init_70 (by decide) ?_
  refine V_iastK (pc := 71) 3 (by decide) dX12_init_71 (by omega) (hx_get 7 rfl rfl) (vp_in_iff.mpr (by decide)) (hx_set (L2 := [.inr (12, [.ref (i + 1), .ref (i + 2), .ref (i + 3), .ref (i + 4), .int 0, .ref (i + 5), .ref (i + 6), .int 0, .null, .null, .null, .null, .int 0, .int 0, .int 0, .int 0, .int 0]), .inl (0, (96, .inl (fun _ => 0))), .inl (0, (96, .inl (fun _ => 0))), .inl (0, (96, .inl (fun _ => 0))), .inl (0, (96, .inl (fun _ => 0))), .inl (0, (8, .inl (fun _ => 0))), .inl (0, (120, .inl (fun _ => 0))), .inl (0, (4, .inl (fil 0 (-1) (fun _ => 0) 4)))]) 7 rfl rfl (Nat.le_of_ble_eq_true rfl)) ?_
  refine V_putF (pc := 72) rfl rfl lH_X12_28 dX12_init_72 (by omega) (hx_get 0 rfl rfl) (Nat.le_of_ble_eq_true rfl) (fun _ => ⟨rfl, rfl⟩) (hx_set (L2 := [.inr (12, [.ref (i + 1), .ref (i + 2), .ref (i + 3), .ref (i + 4), .int 0, .ref (i + 5), .ref (i + 6), .int 0, .ref (i + 7), .null, .null, .null, .int 0, .int 0, .int 0, .int 0, .int 0]), .inl (0, (96, .inl (fun _ => 0))), .inl (0, (96, .inl (fun _ => 0))), .inl (0, (96, .inl (fun _ => 0))), .inl (0, (96, .inl (fun _ => 0))), .inl (0, (8, .inl (fun _ => 0))), .inl (0, (120, .inl (fun _ => 0))), .inl (0, (4, .inl (fil 0 (-1) (fun _ => 0) 4)))]) 0 rfl rfl (Nat.le_of_ble_eq_true rfl)) ?_
  refine V_aload_n (pc := 75) (i := 0) dX12_init_75 rfl rfl ?_
  refine V_iconst (pc := 76) (v := 4) dX12_init_76 (by decide) ?_
  refine V_newa (pc := 77) (kc := 2) (ks := 168) (t := 0) (N := 4) (ty := .int) rfl (Or.inl ⟨rfl, rfl⟩) wd_192 dX12_init_77 (by decide) (by decide) (by decide) (by omega) (hx_push (L2 := [.inr (12, [.ref (i + 1), .ref (i + 2), .ref (i + 3), .ref (i + 4), .int 0, .ref (i + 5), .ref (i + 6), .int 0, .ref (i + 7), .null, .null, .null, .int 0, .int 0, .int 0, .int 0, .int 0]), .inl (0, (96, .inl (fun _ => 0))), .inl (0, (96, .inl (fun _ => 0))), .inl (0, (96, .inl (fun _ => 0))), .inl (0, (96, .inl (fun _ => 0))), .inl (0, (8, .inl (fun _ => 0))), .inl (0, (120, .inl (fun _ => 0))), .inl (0, (4, .inl (fil 0 (-1) (fun _ => 0) 4))), .inl (0, (4, .inl (fun _ => 0)))]) rfl rfl) ?_
  refine V_putF (pc := 79) rfl rfl lH_X12_31 dX12_init_79 (by omega) (hx_get 0 rfl rfl) (Nat.le_of_ble_eq_true rfl) (fun _ => ⟨rfl, rfl⟩) (hx_set (L2 := [.inr (12, [.ref (i + 1), .ref (i + 2), .ref (i + 3), .ref (i + 4), .int 0, .ref (i + 5), .ref (i + 6), .int 0, .ref (i + 7), .ref (i + 8), .null, .null, .int 0, .int 0, .int 0, .int 0, .int 0]), .inl (0, (96, .inl (fun _ => 0))), .inl (0, (96, .inl (fun _ => 0))), .inl (0, (96, .inl (fun _ => 0))), .inl (0, (96, .inl (fun _ => 0))), .inl (0, (8, .inl (fun _ => 0))), .inl (0, (120, .inl (fun _ => 0))), .inl (0, (4, .inl (fil 0 (-1) (fun _ => 0) 4))), .inl (0, (4, .inl (fun _ => 0)))]) 0 rfl rfl (Nat.le_of_ble_eq_true rfl)) ?_
  refine V_aload_n (pc := 82) (i := 0) dX12_init_82 rfl rfl ?_
  refine V_sipush (pc := 83) (v := 160) dX12_init_83 (by decide) ?_
  refine V_newa (pc := 86) (kc := 1) (ks := 8) (t := 0) (N := 160) (ty := .int) rfl (Or.inl ⟨rfl, rfl⟩) wd_192 dX12_init_86 (by decide) (by decide) (by decide) (by omega) (hx_push (L2 := [.inr (12, [.ref (i + 1), .ref (i + 2), .ref (i + 3), .ref (i + 4), .int 0, .ref (i + 5), .ref (i + 6), .int 0, .ref (i + 7), .ref (i + 8), .null, .null, .int 0, .int 0, .int 0, .int 0, .int 0]), .inl (0, (96, .inl (fun _ => 0))), .inl (0, (96, .inl (fun _ => 0))), .inl (0, (96, .inl (fun _ => 0))), .inl (0, (96, .inl (fun _ => 0))), .inl (0, (8, .inl (fun _ => 0))), .inl (0, (120, .inl (fun _ => 0))), .inl (0, (4, .inl (fil 0 (-1) (fun _ => 0) 4))), .inl (0, (4, .inl (fun _ => 0))), .inl (0, (160, .inl (fun _ => 0)))]) rfl rfl) ?_
  refine V_putF (pc := 88) rfl rfl lH_X12_34 dX12_init_88 (by omega) (hx_get 0 rfl rfl) (Nat.le_of_ble_eq_true rfl) (fun _ => ⟨rfl, rfl⟩) (hx_set (L2 := [.inr (12, [.ref (i + 1), .ref (i + 2), .ref (i + 3), .ref (i + 4), .int 0, .ref (i + 5), .ref (i + 6), .int 0, .ref (i + 7), .ref (i + 8), .ref (i + 9), .null, .int 0, .int 0, .int 0, .int 0, .int 0]), .inl (0, (96, .inl (fun _ => 0))), .inl (0, (96, .inl (fun _ => 0))), .inl (0, (96, .inl (fun _ => 0))), .inl (0, (96, .inl (fun _ => 0))), .inl (0, (8, .inl (fun _ => 0))), .inl (0, (120, .inl (fun _ => 0))), .inl (0, (4, .inl (fil 0 (-1) (fun _ => 0) 4))), .inl (0, (4, .inl (fun _ => 0))), .inl (0, (160, .inl (fun _ => 0)))]) 0 rfl rfl (Nat.le_of_ble_eq_true rfl)) ?_
  refine V_aload_n (pc := 91) (i := 0) dX12_init_91 rfl rfl ?_
  refine V_bipush (pc := 92) (v := 8) dX12_init_92 (by decide) ?_
  refine V_newa (pc := 94) (kc := 0) (ks := 0) (t := 0) (N := 8) (ty := .int) rfl (Or.inl ⟨rfl, rfl⟩) wd_192 dX12_init_94 (by decide) (by decide) (by decide) (by omega) (hx_push (L2 := [.inr (12, [.ref (i + 1), .ref (i + 2), .ref (i + 3), .ref (i + 4), .int 0, .ref (i + 5), .ref (i + 6), .int 0, .ref (i + 7), .ref (i + 8), .ref (i + 9), .null, .int 0, .int 0, .int 0, .int 0, .int 0]), .inl (0, (96, .inl (fun _ => 0))), .inl (0, (96, .inl (fun _ => 0))), .inl (0, (96, .inl (fun _ => 0))), .inl (0, (96, .inl (fun _ => 0))), .inl (0, (8, .inl (fun _ => 0))), .inl (0, (120, .inl (fun _ => 0))), .inl (0, (4, .inl (fil 0 (-1) (fun _ => 0) 4))), .inl (0, (4, .inl (fun _ => 0))), .inl (0, (160, .inl (fun _ => 0))), .inl (0, (8, .inl (fun _ => 0)))]) rfl rfl) ?_
  refine V_putF (pc := 96) rfl rfl lH_X12_37 dX12_init_96 (by omega) (hx_get 0 rfl rfl) (Nat.le_of_ble_eq_true rfl) (fun _ => ⟨rfl, rfl⟩) (hx_set (L2 := [.inr (12, [.ref (i + 1), .ref (i + 2), .ref (i + 3), .ref (i + 4), .int 0, .ref (i + 5), .ref (i + 6), .int 0, .ref (i + 7), .ref (i + 8), .ref (i + 9), .ref (i + 10), .int 0, .int 0, .int 0, .int 0, .int 0]), .inl (0, (96, .inl (fun _ => 0))), .inl (0, (96, .inl (fun _ => 0))), .inl (0, (96, .inl (fun _ => 0))), .inl (0, (96, .inl (fun _ => 0))), .inl (0, (8, .inl (fun _ => 0))), .inl (0, (120, .inl (fun _ => 0))), .inl (0, (4, .inl (fil 0 (-1) (fun _ => 0) 4))), .inl (0, (4, .inl (fun _ => 0))), .inl (0, (160, .inl (fun _ => 0))), .inl (0, (8, .inl (fun _ => 0)))]) 0 rfl rfl (Nat.le_of_ble_eq_true rfl)) ?_
  refine V_aload_n (pc := 99) (i := 0) dX12_init_99 rfl rfl ?_
  refine V_getf (pc := 100) lD_X12_7 dX12_init_100 (by omega) (hx_get 0 rfl rfl) rfl ?_
  refine V_iconst (pc := 103) (v := 2) dX12_init_103 (by decide) ?_
  refine V_iconst (pc := 104) (v := 1) dX12_init_104 (by decide) ?_
  refine V_iastK (pc := 105) 2 (by decide) dX12_init_105 (by omega) (hx_get 1 rfl rfl) (vp_in_iff.mpr (by decide)) (hx_set (L2 := [.inr (12, [.ref (i + 1), .ref (i + 2), .ref (i + 3), .ref (i + 4), .int 0, .ref (i + 5), .ref (i + 6), .int 0, .ref (i + 7), .ref (i + 8), .ref (i + 9), .ref (i + 10), .int 0, .int 0, .int 0, .int 0, .int 0]), .inl (0, (96, .inl (upd (fun _ => 0) 2 1))), .inl (0, (96, .inl (fun _ => 0))), .inl (0, (96, .inl (fun _ => 0))), .inl (0, (96, .inl (fun _ => 0))), .inl (0, (8, .inl (fun _ => 0))), .inl (0, (120, .inl (fun _ => 0))), .inl (0, (4, .inl (fil 0 (-1) (fun _ => 0) 4))), .inl (0, (4, .inl (fun _ => 0))), .inl (0, (160, .inl (fun _ => 0))), .inl (0, (8, .inl (fun _ => 0)))]) 1 rfl rfl (Nat.le_of_ble_eq_true rfl)) ?_
  refine V_iconst (pc := 106) (v := 0) dX12_init_106 (by decide) ?_
  refine V_istore_n (pc := 107) (i := 1) (ls2 := [some (.ref i), some (.int 0)]) dX12_init_107 rfl (by decide) rfl rfl ?_
  refine V_iload_n (pc := 108) (i := 1) dX12_init_108 rfl rfl ?_
  refine V_bipush (pc := 109) (v := 10) dX12_init_109 (by decide) ?_
  refine V_icmp_ge (pc := 111) (tgt := 130) dX12_init_111 (by decide) (fun h => absurd h (by decide)) (fun _ => ?_)
  refine V_aload_n (pc := 114) (i := 0) dX12_init_114 rfl rfl ?_
  refine V_getf (pc := 115) lD_X12_7 dX12_init_115 (by omega) (hx_get 0 rfl rfl) rfl ?_
  refine V_bipush (pc := 118) (v := 86) dX12_init_118 (by decide) ?_
  refine V_iload_n (pc := 120) (i := 1) dX12_init_120 rfl rfl ?_
  refine V_iadd (pc := 121) dX12_init_121 ?_
  rw [show (86 : Int32) + 0 = 86 from by decide]
  refine V_iconst (pc := 122) (v := (-1)) dX12_init_122 (by decide) ?_
  refine V_iastK (pc := 123) 86 (by decide) dX12_init_123 (by omega) (hx_get 1 rfl rfl) (vp_in_iff.mpr (by decide)) (hx_set (L2 := [.inr (12, [.ref (i + 1), .ref (i + 2), .ref (i + 3), .ref (i + 4), .int 0, .ref (i + 5), .ref (i + 6), .int 0, .ref (i + 7), .ref (i + 8), .ref (i + 9), .ref (i + 10), .int 0, .int 0, .int 0, .int 0, .int 0]), .inl (0, (96, .inl (fil 86 (-1) (upd (fun _ => 0) 2 1) 1))), .inl (0, (96, .inl (fun _ => 0))), .inl (0, (96, .inl (fun _ => 0))), .inl (0, (96, .inl (fun _ => 0))), .inl (0, (8, .inl (fun _ => 0))), .inl (0, (120, .inl (fun _ => 0))), .inl (0, (4, .inl (fil 0 (-1) (fun _ => 0) 4))), .inl (0, (4, .inl (fun _ => 0))), .inl (0, (160, .inl (fun _ => 0))), .inl (0, (8, .inl (fun _ => 0)))]) 1 rfl rfl (Nat.le_of_ble_eq_true rfl)) ?_
  refine V_iinc (pc := 124) (i := 1) (v := 1) (ls2 := [some (.ref i), some (.int 1)]) dX12_init_124 rfl (by decide) (by decide) rfl rfl ?_
  refine V_goto (pc := 127) (tgt := 108) dX12_init_127 (by decide) ?_
  refine V_iload_n (pc := 108) (i := 1) dX12_init_108 rfl rfl ?_
  refine V_bipush (pc := 109) (v := 10) dX12_init_109 (by decide) ?_
  refine V_icmp_ge (pc := 111) (tgt := 130) dX12_init_111 (by decide) (fun h => absurd h (by decide)) (fun _ => ?_)
  refine V_aload_n (pc := 114) (i := 0) dX12_init_114 rfl rfl ?_
  refine V_getf (pc := 115) lD_X12_7 dX12_init_115 (by omega) (hx_get 0 rfl rfl) rfl ?_
  refine V_bipush (pc := 118) (v := 86) dX12_init_118 (by decide) ?_
  refine V_iload_n (pc := 120) (i := 1) dX12_init_120 rfl rfl ?_
  refine V_iadd (pc := 121) dX12_init_121 ?_
  rw [show (86 : Int32) + 1 = 87 from by decide]
  refine V_iconst (pc := 122) (v := (-1)) dX12_init_122 (by decide) ?_
  refine V_iastK (pc := 123) 87 (by decide) dX12_init_123 (by omega) (hx_get 1 rfl rfl) (vp_in_iff.mpr (by decide)) (hx_set (L2 := [.inr (12, [.ref (i + 1), .ref (i + 2), .ref (i + 3), .ref (i + 4), .int 0, .ref (i + 5), .ref (i + 6), .int 0, .ref (i + 7), .ref (i + 8), .ref (i + 9), .ref (i + 10), .int 0, .int 0, .int 0, .int 0, .int 0]), .inl (0, (96, .inl (fil 86 (-1) (upd (fun _ => 0) 2 1) 2))), .inl (0, (96, .inl (fun _ => 0))), .inl (0, (96, .inl (fun _ => 0))), .inl (0, (96, .inl (fun _ => 0))), .inl (0, (8, .inl (fun _ => 0))), .inl (0, (120, .inl (fun _ => 0))), .inl (0, (4, .inl (fil 0 (-1) (fun _ => 0) 4))), .inl (0, (4, .inl (fun _ => 0))), .inl (0, (160, .inl (fun _ => 0))), .inl (0, (8, .inl (fun _ => 0)))]) 1 rfl rfl (Nat.le_of_ble_eq_true rfl)) ?_
  refine V_iinc (pc := 124) (i := 1) (v := 2) (ls2 := [some (.ref i), some (.int 2)]) dX12_init_124 rfl (by decide) (by decide) rfl rfl ?_
  refine V_goto (pc := 127) (tgt := 108) dX12_init_127 (by decide) ?_
  refine V_iload_n (pc := 108) (i := 1) dX12_init_108 rfl rfl ?_
  refine V_bipush (pc := 109) (v := 10) dX12_init_109 (by decide) ?_
  refine V_icmp_ge (pc := 111) (tgt := 130) dX12_init_111 (by decide) (fun h => absurd h (by decide)) (fun _ => ?_)
  refine V_aload_n (pc := 114) (i := 0) dX12_init_114 rfl rfl ?_
  refine V_getf (pc := 115) lD_X12_7 dX12_init_115 (by omega) (hx_get 0 rfl rfl) rfl ?_
  refine V_bipush (pc := 118) (v := 86) dX12_init_118 (by decide) ?_
  refine V_iload_n (pc := 120) (i := 1) dX12_init_120 rfl rfl ?_
  refine V_iadd (pc := 121) dX12_init_121 ?_
  rw [show (86 : Int32) + 2 = 88 from by decide]
  refine V_iconst (pc := 122) (v := (-1)) dX12_init_122 (by decide) ?_
  refine V_iastK (pc := 123) 88 (by decide) dX12_init_123 (by omega) (hx_get 1 rfl rfl) (vp_in_iff.mpr (by decide)) (hx_set (L2 := [.inr (12, [.ref (i + 1), .ref (i + 2), .ref (i + 3), .ref (i + 4), .int 0, .ref (i + 5), .ref (i + 6), .int 0, .ref (i + 7), .ref (i + 8), .ref (i + 9), .ref (i + 10), .int 0, .int 0, .int 0, .int 0, .int 0]), .inl (0, (96, .inl (fil 86 (-1) (upd (fun _ => 0) 2 1) 3))), .inl (0, (96, .inl (fun _ => 0))), .inl (0, (96, .inl (fun _ => 0))), .inl (0, (96, .inl (fun _ => 0))), .inl (0, (8, .inl (fun _ => 0))), .inl (0, (120, .inl (fun _ => 0))), .inl (0, (4, .inl (fil 0 (-1) (fun _ => 0) 4))), .inl (0, (4, .inl (fun _ => 0))), .inl (0, (160, .inl (fun _ => 0))), .inl (0, (8, .inl (fun _ => 0)))]) 1 rfl rfl (Nat.le_of_ble_eq_true rfl)) ?_
  refine V_iinc (pc := 124) (i := 1) (v := 3) (ls2 := [some (.ref i), some (.int 3)]) dX12_init_124 rfl (by decide) (by decide) rfl rfl ?_
  refine V_goto (pc := 127) (tgt := 108) dX12_init_127 (by decide) ?_
  refine V_iload_n (pc := 108) (i := 1) dX12_init_108 rfl rfl ?_
  refine V_bipush (pc := 109) (v := 10) dX12_init_109 (by decide) ?_
  refine V_icmp_ge (pc := 111) (tgt := 130) dX12_init_111 (by decide) (fun h => absurd h (by decide)) (fun _ => ?_)
  refine V_aload_n (pc := 114) (i := 0) dX12_init_114 rfl rfl ?_
  refine V_getf (pc := 115) lD_X12_7 dX12_init_115 (by omega) (hx_get 0 rfl rfl) rfl ?_
  refine V_bipush (pc := 118) (v := 86) dX12_init_118 (by decide) ?_
  refine V_iload_n (pc := 120) (i := 1) dX12_init_120 rfl rfl ?_
  refine V_iadd (pc := 121) dX12_init_121 ?_
  rw [show (86 : Int32) + 3 = 89 from by decide]
  refine V_iconst (pc := 122) (v := (-1)) dX12_init_122 (by decide) ?_
  refine V_iastK (pc := 123) 89 (by decide) dX12_init_123 (by omega) (hx_get 1 rfl rfl) (vp_in_iff.mpr (by decide)) (hx_set (L2 := [.inr (12, [.ref (i + 1), .ref (i + 2), .ref (i + 3), .ref (i + 4), .int 0, .ref (i + 5), .ref (i + 6), .int 0, .ref (i + 7), .ref (i + 8), .ref (i + 9), .ref (i + 10), .int 0, .int 0, .int 0, .int 0, .int 0]), .inl (0, (96, .inl (fil 86 (-1) (upd (fun _ => 0) 2 1) 4))), .inl (0, (96, .inl (fun _ => 0))), .inl (0, (96, .inl (fun _ => 0))), .inl (0, (96, .inl (fun _ => 0))), .inl (0, (8, .inl (fun _ => 0))), .inl (0, (120, .inl (fun _ => 0))), .inl (0, (4, .inl (fil 0 (-1) (fun _ => 0) 4))), .inl (0, (4, .inl (fun _ => 0))), .inl (0, (160, .inl (fun _ => 0))), .inl (0, (8, .inl (fun _ => 0)))]) 1 rfl rfl (Nat.le_of_ble_eq_true rfl)) ?_
  refine V_iinc (pc := 124) (i := 1) (v := 4) (ls2 := [some (.ref i), some (.int 4)]) dX12_init_124 rfl (by decide) (by decide) rfl rfl ?_
  refine V_goto (pc := 127) (tgt := 108) dX12_init_127 (by decide) ?_
  refine V_iload_n (pc := 108) (i := 1) dX12_init_108 rfl rfl ?_
  refine V_bipush (pc := 109) (v := 10) dX12_init_109 (by decide) ?_
  refine V_icmp_ge (pc := 111) (tgt := 130) dX12_init_111 (by decide) (fun h => absurd h (by decide)) (fun _ => ?_)
  refine V_aload_n (pc := 114) (i := 0) dX12_init_114 rfl rfl ?_
  refine V_getf (pc := 115) lD_X12_7 dX12_init_115 (by omega) (hx_get 0 rfl rfl) rfl ?_
  refine V_bipush (pc := 118) (v := 86) dX12_init_118 (by decide) ?_
  refine V_iload_n (pc := 120) (i := 1) dX12_init_120 rfl rfl ?_
  refine V_iadd (pc := 121) dX12_init_121 ?_
  rw [show (86 : Int32) + 4 = 90 from by decide]
  refine V_iconst (pc := 122) (v := (-1)) dX12_init_122 (by decide) ?_
  refine V_iastK (pc := 123) 90 (by decide) dX12_init_123 (by omega) (hx_get 1 rfl rfl) (vp_in_iff.mpr (by decide)) (hx_set (L2 := [.inr (12, [.ref (i + 1), .ref (i + 2), .ref (i + 3), .ref (i + 4), .int 0, .ref (i + 5), .ref (i + 6), .int 0, .ref (i + 7), .ref (i + 8), .ref (i + 9), .ref (i + 10), .int 0, .int 0, .int 0, .int 0, .int 0]), .inl (0, (96, .inl (fil 86 (-1) (upd (fun _ => 0) 2 1) 5))), .inl (0, (96, .inl (fun _ => 0))), .inl (0, (96, .inl (fun _ => 0))), .inl (0, (96, .inl (fun _ => 0))), .inl (0, (8, .inl (fun _ => 0))), .inl (0, (120, .inl (fun _ => 0))), .inl (0, (4, .inl (fil 0 (-1) (fun _ => 0) 4))), .inl (0, (4, .inl (fun _ => 0))), .inl (0, (160, .inl (fun _ => 0))), .inl (0, (8, .inl (fun _ => 0)))]) 1 rfl rfl (Nat.le_of_ble_eq_true rfl)) ?_
  refine V_iinc (pc := 124) (i := 1) (v := 5) (ls2 := [some (.ref i), some (.int 5)]) dX12_init_124 rfl (by decide) (by decide) rfl rfl ?_
  refine V_goto (pc := 127) (tgt := 108) dX12_init_127 (by decide) ?_
  refine V_iload_n (pc := 108) (i := 1) dX12_init_108 rfl rfl ?_
  refine V_bipush (pc := 109) (v := 10) dX12_init_109 (by decide) ?_
  refine V_icmp_ge (pc := 111) (tgt := 130) dX12_init_111 (by decide) (fun h => absurd h (by decide)) (fun _ => ?_)
  refine V_aload_n (pc := 114) (i := 0) dX12_init_114 rfl rfl ?_
  refine V_getf (pc := 115) lD_X12_7 dX12_init_115 (by omega) (hx_get 0 rfl rfl) rfl ?_
  refine V_bipush (pc := 118) (v := 86) dX12_init_118 (by decide) ?_
  refine V_iload_n (pc := 120) (i := 1) dX12_init_120 rfl rfl ?_
  refine V_iadd (pc := 121) dX12_init_121 ?_
  rw [show (86 : Int32) + 5 = 91 from by decide]
  refine V_iconst (pc := 122) (v := (-1)) dX12_init_122 (by decide) ?_
  refine V_iastK (pc := 123) 91 (by decide) dX12_init_123 (by omega) (hx_get 1 rfl rfl) (vp_in_iff.mpr (by decide)) (hx_set (L2 := [.inr (12, [.ref (i + 1), .ref (i + 2), .ref (i + 3), .ref (i + 4), .int 0, .ref (i + 5), .ref (i + 6), .int 0, .ref (i + 7), .ref (i + 8), .ref (i + 9), .ref (i + 10), .int 0, .int 0, .int 0, .int 0, .int 0]), .inl (0, (96, .inl (fil 86 (-1) (upd (fun _ => 0) 2 1) 6))), .inl (0, (96, .inl (fun _ => 0))), .inl (0, (96, .inl (fun _ => 0))), .inl (0, (96, .inl (fun _ => 0))), .inl (0, (8, .inl (fun _ => 0))), .inl (0, (120, .inl (fun _ => 0))), .inl (0, (4, .inl (fil 0 (-1) (fun _ => 0) 4))), .inl (0, (4, .inl (fun _ => 0))), .inl (0, (160, .inl (fun _ => 0))), .inl (0, (8, .inl (fun _ => 0)))]) 1 rfl rfl (Nat.le_of_ble_eq_true rfl)) ?_
  refine V_iinc (pc := 124) (i := 1) (v := 6) (ls2 := [some (.ref i), some (.int 6)]) dX12_init_124 rfl (by decide) (by decide) rfl rfl ?_
  refine V_goto (pc := 127) (tgt := 108) dX12_init_127 (by decide) ?_
  refine V_iload_n (pc := 108) (i := 1) dX12_init_108 rfl rfl ?_
  refine V_bipush (pc := 109) (v := 10) dX12_init_109 (by decide) ?_
  refine V_icmp_ge (pc := 111) (tgt := 130) dX12_init_111 (by decide) (fun h => absurd h (by decide)) (fun _ => ?_)
  refine V_aload_n (pc := 114) (i := 0) dX12_init_114 rfl rfl ?_
  refine V_getf (pc := 115) lD_X12_7 dX12_init_115 (by omega) (hx_get 0 rfl rfl) rfl ?_
  refine V_bipush (pc := 118) (v := 86) dX12_init_118 (by decide) ?_
  refine V_iload_n (pc := 120) (i := 1) dX12_init_120 rfl rfl ?_
  refine V_iadd (pc := 121) dX12_init_121 ?_
  rw [show (86 : Int32) + 6 = 92 from by decide]
  refine V_iconst (pc := 122) (v := (-1)) dX12_init_122 (by decide) ?_
  refine V_iastK (pc := 123) 92 (by decide) dX12_init_123 (by omega) (hx_get 1 rfl rfl) (vp_in_iff.mpr (by decide)) (hx_set (L2 := [.inr (12, [.ref (i + 1), .ref (i + 2), .ref (i + 3), .ref (i + 4), .int 0, .ref (i + 5), .ref (i + 6), .int 0, .ref (i + 7), .ref (i + 8), .ref (i + 9), .ref (i + 10), .int 0, .int 0, .int 0, .int 0, .int 0]), .inl (0, (96, .inl (fil 86 (-1) (upd (fun _ => 0) 2 1) 7))), .inl (0, (96, .inl (fun _ => 0))), .inl (0, (96, .inl (fun _ => 0))), .inl (0, (96, .inl (fun _ => 0))), .inl (0, (8, .inl (fun _ => 0))), .inl (0, (120, .inl (fun _ => 0))), .inl (0, (4, .inl (fil 0 (-1) (fun _ => 0) 4))), .inl (0, (4, .inl (fun _ => 0))), .inl (0, (160, .inl (fun _ => 0))), .inl (0, (8, .inl (fun _ => 0)))]) 1 rfl rfl (Nat.le_of_ble_eq_true rfl)) ?_
  refine V_iinc (pc := 124) (i := 1) (v := 7) (ls2 := [some (.ref i), some (.int 7)]) dX12_init_124 rfl (by decide) (by decide) rfl rfl ?_
  refine V_goto (pc := 127) (tgt := 108) dX12_init_127 (by decide) ?_
  refine V_iload_n (pc := 108) (i := 1) dX12_init_108 rfl rfl ?_
  refine V_bipush (pc := 109) (v := 10) dX12_init_109 (by decide) ?_
  refine V_icmp_ge (pc := 111) (tgt := 130) dX12_init_111 (by decide) (fun h => absurd h (by decide)) (fun _ => ?_)
  refine V_aload_n (pc := 114) (i := 0) dX12_init_114 rfl rfl ?_
  refine V_getf (pc := 115) lD_X12_7 dX12_init_115 (by omega) (hx_get 0 rfl rfl) rfl ?_
  refine V_bipush (pc := 118) (v := 86) dX12_init_118 (by decide) ?_
  refine V_iload_n (pc := 120) (i := 1) dX12_init_120 rfl rfl ?_
  refine V_iadd (pc := 121) dX12_init_121 ?_
  rw [show (86 : Int32) + 7 = 93 from by decide]
  refine V_iconst (pc := 122) (v := (-1)) dX12_init_122 (by decide) ?_
  refine V_iastK (pc := 123) 93 (by decide) dX12_init_123 (by omega) (hx_get 1 rfl rfl) (vp_in_iff.mpr (by decide)) (hx_set (L2 := [.inr (12, [.ref (i + 1), .ref (i + 2), .ref (i + 3), .ref (i + 4), .int 0, .ref (i + 5), .ref (i + 6), .int 0, .ref (i + 7), .ref (i + 8), .ref (i + 9), .ref (i + 10), .int 0, .int 0, .int 0, .int 0, .int 0]), .inl (0, (96, .inl (fil 86 (-1) (upd (fun _ => 0) 2 1) 8))), .inl (0, (96, .inl (fun _ => 0))), .inl (0, (96, .inl (fun _ => 0))), .inl (0, (96, .inl (fun _ => 0))), .inl (0, (8, .inl (fun _ => 0))), .inl (0, (120, .inl (fun _ => 0))), .inl (0, (4, .inl (fil 0 (-1) (fun _ => 0) 4))), .inl (0, (4, .inl (fun _ => 0))), .inl (0, (160, .inl (fun _ => 0))), .inl (0, (8, .inl (fun _ => 0)))]) 1 rfl rfl (Nat.le_of_ble_eq_true rfl)) ?_
  refine V_iinc (pc := 124) (i := 1) (v := 8) (ls2 := [some (.ref i), some (.int 8)]) dX12_init_124 rfl (by decide) (by decide) rfl rfl ?_
  refine V_goto (pc := 127) (tgt := 108) dX12_init_127 (by decide) ?_
  refine V_iload_n (pc := 108) (i := 1) dX12_init_108 rfl rfl ?_
  refine V_bipush (pc := 109) (v := 10) dX12_init_109 (by decide) ?_
  refine V_icmp_ge (pc := 111) (tgt := 130) dX12_init_111 (by decide) (fun h => absurd h (by decide)) (fun _ => ?_)
  refine V_aload_n (pc := 114) (i := 0) dX12_init_114 rfl rfl ?_
  refine V_getf (pc := 115) lD_X12_7 dX12_init_115 (by omega) (hx_get 0 rfl rfl) rfl ?_
  refine V_bipush (pc := 118) (v := 86) dX12_init_118 (by decide) ?_
  refine V_iload_n (pc := 120) (i := 1) dX12_init_120 rfl rfl ?_
  refine V_iadd (pc := 121) dX12_init_121 ?_
  rw [show (86 : Int32) + 8 = 94 from by decide]
  refine V_iconst (pc := 122) (v := (-1)) dX12_init_122 (by decide) ?_
  refine V_iastK (pc := 123) 94 (by decide) dX12_init_123 (by omega) (hx_get 1 rfl rfl) (vp_in_iff.mpr (by decide)) (hx_set (L2 := [.inr (12, [.ref (i + 1), .ref (i + 2), .ref (i + 3), .ref (i + 4), .int 0, .ref (i + 5), .ref (i + 6), .int 0, .ref (i + 7), .ref (i + 8), .ref (i + 9), .ref (i + 10), .int 0, .int 0, .int 0, .int 0, .int 0]), .inl (0, (96, .inl (fil 86 (-1) (upd (fun _ => 0) 2 1) 9))), .inl (0, (96, .inl (fun _ => 0))), .inl (0, (96, .inl (fun _ => 0))), .inl (0, (96, .inl (fun _ => 0))), .inl (0, (8, .inl (fun _ => 0))), .inl (0, (120, .inl (fun _ => 0))), .inl (0, (4, .inl (fil 0 (-1) (fun _ => 0) 4))), .inl (0, (4, .inl (fun _ => 0))), .inl (0, (160, .inl (fun _ => 0))), .inl (0, (8, .inl (fun _ => 0)))]) 1 rfl rfl (Nat.le_of_ble_eq_true rfl)) ?_
  refine V_iinc (pc := 124) (i := 1) (v := 9) (ls2 := [some (.ref i), some (.int 9)]) dX12_init_124 rfl (by decide) (by decide) rfl rfl ?_
  refine V_goto (pc := 127) (tgt := 108) dX12_init_127 (by decide) ?_
  refine V_iload_n (pc := 108) (i := 1) dX12_init_108 rfl rfl ?_
  refine V_bipush (pc := 109) (v := 10) dX12_init_109 (by decide) ?_
  refine V_icmp_ge (pc := 111) (tgt := 130) dX12_init_111 (by decide) (fun h => absurd h (by decide)) (fun _ => ?_)
  refine V_aload_n (pc := 114) (i := 0) dX12_init_114 rfl rfl ?_
  refine V_getf (pc := 115) lD_X12_7 dX12_init_115 (by omega) (hx_get 0 rfl rfl) rfl ?_
  refine V_bipush (pc := 118) (v := 86) dX12_init_118 (by decide) ?_
  refine V_iload_n (pc := 120) (i := 1) dX12_init_120 rfl rfl ?_
  refine V_iadd (pc := 121) dX12_init_121 ?_
  rw [show (86 : Int32) + 9 = 95 from by decide]
  refine V_iconst (pc := 122) (v := (-1)) dX12_init_122 (by decide) ?_
  refine V_iastK (pc := 123) 95 (by decide) dX12_init_123 (by omega) (hx_get 1 rfl rfl) (vp_in_iff.mpr (by decide)) (hx_set (L2 := [.inr (12, [.ref (i + 1), .ref (i + 2), .ref (i + 3), .ref (i + 4), .int 0, .ref (i + 5), .ref (i + 6), .int 0, .ref (i + 7), .ref (i + 8), .ref (i + 9), .ref (i + 10), .int 0, .int 0, .int 0, .int 0, .int 0]), .inl (0, (96, .inl (fil 86 (-1) (upd (fun _ => 0) 2 1) 10))), .inl (0, (96, .inl (fun _ => 0))), .inl (0, (96, .inl (fun _ => 0))), .inl (0, (96, .inl (fun _ => 0))), .inl (0, (8, .inl (fun _ => 0))), .inl (0, (120, .inl (fun _ => 0))), .inl (0, (4, .inl (fil 0 (-1) (fun _ => 0) 4))), .inl (0, (4, .inl (fun _ => 0))), .inl (0, (160, .inl (fun _ => 0))), .inl (0, (8, .inl (fun _ => 0)))]) 1 rfl rfl (Nat.le_of_ble_eq_true rfl)) ?_
  refine V_iinc (pc := 124) (i := 1) (v := 10) (ls2 := [some (.ref i), some (.int 10)]) dX12_init_124 rfl (by decide) (by decide) rfl rfl ?_
  refine V_goto (pc := 127) (tgt := 108) dX12_init_127 (by decide) ?_
  refine V_iload_n (pc := 108) (i := 1) dX12_init_108 rfl rfl ?_
  refine V_bipush (pc := 109) (v := 10) dX12_init_109 (by decide) ?_
  refine V_icmp_ge (pc := 111) (tgt := 130) dX12_init_111 (by decide) (fun _ => ?_) (fun h => absurd h (by decide))
  exact V_vret (pc := 130) dX12_init_130 rfl ⟨rfl, rfl, rfl⟩
