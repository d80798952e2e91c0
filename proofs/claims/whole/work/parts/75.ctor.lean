/-! THE CONSTRUCTORS -/
theorem ct_X4 {i n : Nat} {hp : Nat → AC} : Ct yX4_init cX4_init 1 none 1 0 0 [.ref i] n hp (QN n hp) := by
  refine Ct.ofV (by decide +kernel) (Nat.le_of_ble_eq_true rfl) fun E => ?_
  exact V_aload_n (pc := 0) (i := 0) dX4_init_0 rfl rfl (V_obj (pc := 1) wd_96 dX4_init_1 (by decide) (Nat.le_of_ble_eq_true rfl) (V_vret (pc := 4) dX4_init_4 rfl ⟨rfl, rfl, rfl⟩))
theorem lI_X9_1 : vLI RX9 1 yX4_init cX4_init 1 0 := ⟨Or.inr (List.mem_of_getElem? (i := 2) rfl), wd_94, wd_63, wd_95, rfl, ⟨by decide +kernel, by decide +kernel, by rfl⟩, by decide⟩
theorem ct_X9 {i n : Nat} {hp : Nat → AC} : Ct yX9_init cX9_init 1 none 2 0 0 [.ref i] n hp (QN n hp) := by
  refine Ct.ofV (by decide +kernel) (Nat.le_of_ble_eq_true rfl) fun E => ?_
  exact V_aload_n (pc := 0) (i := 0) dX9_init_0 rfl rfl (V_callI (pc := 1) (kc := 0) (ks := 0) (kc2 := 0) (ks2 := 0) (d2 := 1) (args := []) (st := []) lI_X9_1 dX9_init_1 (by decide) (Nat.le_of_ble_eq_true rfl) ct_X4 (fun r n2 hp2 hq => by
    obtain ⟨rfl, rfl, rfl⟩ := hq
    exact V_vret (pc := 4) dX9_init_4 rfl ⟨rfl, rfl, rfl⟩))
theorem lI_X6_1 : vLI RX6 1 yX4_init cX4_init 1 0 := ⟨Or.inr (List.mem_of_getElem? (i := 4) rfl), wd_94, wd_63, wd_95, rfl, ⟨by decide +kernel, by decide +kernel, by rfl⟩, by decide⟩
theorem ct_X6 {i n : Nat} {hp : Nat → AC} : Ct yX6_init cX6_init 1 none 2 0 0 [.ref i] n hp (QN n hp) := by
  refine Ct.ofV (by decide +kernel) (Nat.le_of_ble_eq_true rfl) fun E => ?_
  exact V_aload_n (pc := 0) (i := 0) dX6_init_0 rfl rfl (V_callI (pc := 1) (kc := 0) (ks := 0) (kc2 := 0) (ks2 := 0) (d2 := 1) (args := []) (st := []) lI_X6_1 dX6_init_1 (by decide) (Nat.le_of_ble_eq_true rfl) ct_X4 (fun r n2 hp2 hq => by
    obtain ⟨rfl, rfl, rfl⟩ := hq
    exact V_vret (pc := 4) dX6_init_4 rfl ⟨rfl, rfl, rfl⟩))
theorem lI_X2_1 : vLI RX2 1 yX4_init cX4_init 1 0 := ⟨Or.inr (List.mem_of_getElem? (i := 10) rfl), wd_94, wd_63, wd_95, rfl, ⟨by decide +kernel, by decide +kernel, by rfl⟩, by decide⟩
theorem ct_X2 {i n : Nat} {hp : Nat → AC} : Ct yX2_init cX2_init 1 none 2 0 0 [.ref i] n hp (QN n hp) := by
  refine Ct.ofV (by decide +kernel) (Nat.le_of_ble_eq_true rfl) fun E => ?_
  exact V_aload_n (pc := 0) (i := 0) dX2_init_0 rfl rfl (V_callI (pc := 1) (kc := 0) (ks := 0) (kc2 := 0) (ks2 := 0) (d2 := 1) (args := []) (st := []) lI_X2_1 dX2_init_1 (by decide) (Nat.le_of_ble_eq_true rfl) ct_X4 (fun r n2 hp2 hq => by
    obtain ⟨rfl, rfl, rfl⟩ := hq
    exact V_vret (pc := 4) dX2_init_4 rfl ⟨rfl, rfl, rfl⟩))
theorem lI_X5_1 : vLI RX5 1 yX6_init cX6_init 1 0 := ⟨Or.inr (List.mem_of_getElem? (i := 6) rfl), wd_108, wd_65, wd_109, rfl, ⟨by decide +kernel, by decide +kernel, by rfl⟩, by decide⟩
theorem ct_X5 {i n : Nat} {hp : Nat → AC} : Ct yX5_init cX5_init 1 none 3 0 0 [.ref i] n hp (QN n hp) := by
  refine Ct.ofV (by decide +kernel) (Nat.le_of_ble_eq_true rfl) fun E => ?_
  exact V_aload_n (pc := 0) (i := 0) dX5_init_0 rfl rfl (V_callI (pc := 1) (kc := 0) (ks := 0) (kc2 := 0) (ks2 := 0) (d2 := 2) (args := []) (st := []) lI_X5_1 dX5_init_1 (by decide) (Nat.le_of_ble_eq_true rfl) ct_X6 (fun r n2 hp2 hq => by
    obtain ⟨rfl, rfl, rfl⟩ := hq
    exact V_vret (pc := 4) dX5_init_4 rfl ⟨rfl, rfl, rfl⟩))
theorem lI_X0_1 : vLI RX0 1 yX9_init cX9_init 1 0 := ⟨Or.inr (List.mem_of_getElem? (i := 12) rfl), wd_101, wd_64, wd_102, rfl, ⟨by decide +kernel, by decide +kernel, by rfl⟩, by decide⟩
theorem ct_X0 {i n : Nat} {hp : Nat → AC} : Ct yX0_init cX0_init 1 none 3 0 0 [.ref i] n hp (QN n hp) := by
  refine Ct.ofV (by decide +kernel) (Nat.le_of_ble_eq_true rfl) fun E => ?_
  exact V_aload_n (pc := 0) (i := 0) dX0_init_0 rfl rfl (V_callI (pc := 1) (kc := 0) (ks := 0) (kc2 := 0) (ks2 := 0) (d2 := 2) (args := []) (st := []) lI_X0_1 dX0_init_1 (by decide) (Nat.le_of_ble_eq_true rfl) ct_X9 (fun r n2 hp2 hq => by
    obtain ⟨rfl, rfl, rfl⟩ := hq
    exact V_vret (pc := 4) dX0_init_4 rfl ⟨rfl, rfl, rfl⟩))
theorem lI_X3_1 : vLI RX3 1 yX5_init cX5_init 1 0 := ⟨Or.inr (List.mem_of_getElem? (i := 8) rfl), wd_115, wd_66, wd_116, rfl, ⟨by decide +kernel, by decide +kernel, by rfl⟩, by decide⟩
theorem ct_X3 {i n : Nat} {hp : Nat → AC} : Ct yX3_init cX3_init 1 none 4 0 0 [.ref i] n hp (QN n hp) := by
  refine Ct.ofV (by decide +kernel) (Nat.le_of_ble_eq_true rfl) fun E => ?_
  exact V_aload_n (pc := 0) (i := 0) dX3_init_0 rfl rfl (V_callI (pc := 1) (kc := 0) (ks := 0) (kc2 := 0) (ks2 := 0) (d2 := 3) (args := []) (st := []) lI_X3_1 dX3_init_1 (by decide) (Nat.le_of_ble_eq_true rfl) ct_X5 (fun r n2 hp2 hq => by
    obtain ⟨rfl, rfl, rfl⟩ := hq
    exact V_vret (pc := 4) dX3_init_4 rfl ⟨rfl, rfl, rfl⟩))
theorem ct_X1 {i n : Nat} {hp : Nat → AC} : Ct yX1_init cX1_init 1 none 1 0 0 [.ref i] n hp (QN n hp) := by
  refine Ct.ofV (by decide +kernel) (Nat.le_of_ble_eq_true rfl) fun E => ?_
  exact V_aload_n (pc := 0) (i := 0) dX1_init_0 rfl rfl (V_obj (pc := 1) wd_152 dX1_init_1 (by decide) (Nat.le_of_ble_eq_true rfl) (V_vret (pc := 4) dX1_init_4 rfl ⟨rfl, rfl, rfl⟩))
theorem lH_X8_9 : vFP RX8 9 8 0 (tyX8 0) true := ⟨RX8, TX8, 3, tyX8, rfl, by decide, wd_266, wsin_8, tyX8_ok, nmX8, rfl, tyX8_ok 0 (by decide), rfl⟩
def L_X8 (i : Nat) : List AC := [.inr (8, [.ref (i + 1), .int 0, .int 0]), .inl (0, (40, .inl (fun _ => 0)))]
set_option maxRecDepth 8000 in
theorem ct_X8 {hp0 : Nat → AC} {n0 i : Nat} {Pr : List AC} (hi : n0 + Pr.length = i) (h9 : i + 2 < 1000) : Ct yX8_init cX8_init 1 none 1 1 40 [.ref i] (i + 1) (hx hp0 n0 (Pr ++ [.inr (8, [.null, .int 0, .int 0])])) (QN (i + 2) (hx hp0 n0 (Pr ++ L_X8 i))) := by
  rw [← hx_split hi, ← hx_split hi]
  generalize hx hp0 n0 Pr = hq
  clear hi
  refine Ct.ofV (by decide +kernel) (Nat.le_of_ble_eq_true rfl) fun E => ?_
  refine V_aload_n (pc := 0) (i := 0) dX8_init_0 rfl rfl ?_
  refine V_obj (pc := 1) wd_265 dX8_init_1 (by decide) (Nat.le_of_ble_eq_true rfl) ?_
  refine V_aload_n (pc := 4) (i := 0) dX8_init_4 rfl rfl ?_
  refine V_bipush (pc := 5) (v := 40) dX8_init_5 (by decide) ?_
  refine V_newa (pc := 7) (kc := 0) (ks := 0) (t := 0) (N := 40) (ty := .int) rfl (Or.inl ⟨rfl, rfl⟩) wd_192 dX8_init_7 (by decide) (by decide) (by decide) (by omega) (hx_push (L2 := [.inr (8, [.null, .int 0, .int 0]), .inl (0, (40, .inl (fun _ => 0)))]) rfl rfl) ?_
  refine V_putF (pc := 9) rfl rfl lH_X8_9 dX8_init_9 (by omega) (hx_get 0 rfl rfl) (Nat.le_of_ble_eq_true rfl) (fun _ => ⟨rfl, rfl⟩) (hx_set (L2 := [.inr (8, [.ref (i + 1), .int 0, .int 0]), .inl (0, (40, .inl (fun _ => 0)))]) 0 rfl rfl (Nat.le_of_ble_eq_true rfl)) ?_
  exact V_vret (pc := 12) dX8_init_12 rfl ⟨rfl, rfl, rfl⟩
theorem lH_X7_9 : vFP RX7 9 7 0 (tyX7 0) true := ⟨RX7, TX7, 6, tyX7, rfl, by decide, wd_238, wsin_7, tyX7_ok, nmX7, rfl, tyX7_ok 0 (by decide), rfl⟩
def L_X7 (i : Nat) : List AC := [.inr (7, [.ref (i + 1), .int 0, .int 0, .int 0, .int 0, .int 0]), .inl (1, (120, .inl (fun _ => 0)))]
set_option maxRecDepth 8000 in
theorem ct_X7 {hp0 : Nat → AC} {n0 i : Nat} {Pr : List AC} (hi : n0 + Pr.length = i) (h9 : i + 2 < 1000) : Ct yX7_init cX7_init 1 none 1 1 120 [.ref i] (i + 1) (hx hp0 n0 (Pr ++ [.inr (7, [.null, .int 0, .int 0, .int 0, .int 0, .int 0])])) (QN (i + 2) (hx hp0 n0 (Pr ++ L_X7 i))) := by
  rw [← hx_split hi, ← hx_split hi]
  generalize hx hp0 n0 Pr = hq
  clear hi
  refine Ct.ofV (by decide +kernel) (Nat.le_of_ble_eq_true rfl) fun E => ?_
  refine V_aload_n (pc := 0) (i := 0) dX7_init_0 rfl rfl ?_
  refine V_obj (pc := 1) wd_237 dX7_init_1 (by decide) (Nat.le_of_ble_eq_true rfl) ?_
  refine V_aload_n (pc := 4) (i := 0) dX7_init_4 rfl rfl ?_
  refine V_bipush (pc := 5) (v := 120) dX7_init_5 (by decide) ?_
  refine V_newa (pc := 7) (kc := 0) (ks := 0) (t := 1) (N := 120) (ty := .byte) rfl (Or.inr ⟨rfl, rfl⟩) wd_258 dX7_init_7 (by decide) (by decide) (by decide) (by omega) (hx_push (L2 := [.inr (7, [.null, .int 0, .int 0, .int 0, .int 0, .int 0]), .inl (1, (120, .inl (fun _ => 0)))]) rfl rfl) ?_
  refine V_putF (pc := 9) rfl rfl lH_X7_9 dX7_init_9 (by omega) (hx_get 0 rfl rfl) (Nat.le_of_ble_eq_true rfl) (fun _ => ⟨rfl, rfl⟩) (hx_set (L2 := [.inr (7, [.ref (i + 1), .int 0, .int 0, .int 0, .int 0, .int 0]), .inl (1, (120, .inl (fun _ => 0)))]) 0 rfl rfl (Nat.le_of_ble_eq_true rfl)) ?_
  exact V_vret (pc := 12) dX7_init_12 rfl ⟨rfl, rfl, rfl⟩
