/-! THE LAW: a call of both, and what it leaves -/
theorem okBk {α : Type} {o : Option (α × Mem)} {P : α × Mem → Prop} (h : okk o P) : okk (bnd2 o (fun x S2 => some (x, S2))) P := by
  obtain ⟨a, rfl, h2⟩ := h
  exact ⟨_, rfl, h2⟩
theorem mp_pe (S : Mem) : PE (mp S) S := ⟨rfl, rfl, rfl, rfl, rfl, rfl, rfl, rfl, rfl⟩
theorem comb {S S2 S3 : Mem} {H : Nat} {r : Mem → Int32 × Mem} {x y : Int32} (hc : OKC S H (r (mp S)) (x, S2)) (hm : OKM S2 (r (mp S2)) (y, S3)) : x = y ∧ INV S3 (mp S3) H := by
  obtain ⟨h1, h2, h3⟩ := hc
  obtain ⟨g1, g2, g3⟩ := hm
  rw [mp_e h3] at g1 g2
  refine ⟨h1.trans g1.symm, ?_⟩
  have h5 : INV S2 (mp S3) H := (h2.pe g2).pe (mp_pe S3)
  exact h5.same (fun a ha _ _ => g3 a ha) (congrFun (g3 45 (by decide)) 1)
theorem combL {S S2 S3 : Mem} {H : Nat} {r : Mem → Int64 × Mem} {x y : Int64} (hc : OKCL S H (r (mp S)) (x, S2)) (hm : OKML S2 (r (mp S2)) (y, S3)) : x = y ∧ INV S3 (mp S3) H := by
  obtain ⟨h1, h2, h3⟩ := hc
  obtain ⟨g1, g2, g3⟩ := hm
  rw [mp_e h3] at g1 g2
  refine ⟨h1.trans g1.symm, ?_⟩
  have h5 : INV S2 (mp S3) H := (h2.pe g2).pe (mp_pe S3)
  exact h5.same (fun a ha _ _ => g3 a ha) (congrFun (g3 45 (by decide)) 1)
theorem fx {S S2 : Mem} {H : Nat} (hI : INV S (mp S) H) (he : ∀ a, 57 ≤ a → S2 a = S a) : ∃ n h, n ≤ 8 ∧ S2 58 0 = nI n ∧ WF n (S2 58) ∧ SP n (S2 58) ∧ S2 58 1 = nI h ∧ h ≤ H ∧ SH S S2 ∧ TP S S2 := by
  obtain ⟨⟨n, h1, h2, ⟨h, h3, h4⟩, h5⟩, -, -, -, hT, hS⟩ := hI
  have e : S2 58 = mp S 58 := he 58 (by decide)
  have e57 : S2 57 = mp S 57 := he 57 (by decide)
  have e63 : S2 63 = mp S 63 := he 63 (by decide)
  have e64 : S2 64 = mp S 64 := he 64 (by decide)
  have e65 : S2 65 = mp S 65 := he 65 (by decide)
  have e66 : S2 66 = mp S 66 := he 66 (by decide)
  refine ⟨n, h, h1.1, by rw [e]; exact h1.2.1, by rw [e]; exact h1, by rw [e]; exact h2, by rw [e]; exact h4, h3, ?_, ?_⟩
  · unfold SH at hS ⊢
    rw [e64, e65, e66]
    exact hS
  · unfold TP at hT ⊢
    rw [e57, e63]
    exact hT
def lwL (i : Nat) : List (Option Value) := [some (.ref 1012), some (.ref 0), some (.ref 57), some (.int (nI i))]
theorem nI_addL (i j : Nat) : nI i + nI j = nI (i + j) := by
  show Int32.ofNat i + Int32.ofNat j = Int32.ofNat (i + j)
  rw [Int32.ofNat_add]
theorem in_x {E : vEnv} {i : Nat} (hi : i + 6 ≤ eL E) (hE : eL E ≤ 3072) : ∀ j : Nat, j < 6 → vp_in (nI i + nI j) (eL E) := by
  intro j hj
  rw [nI_addL, vp_in_iff, nI_toInt (by omega)]
  omega
theorem lcmp_eq {x y : Int64} (h : x = y) : lg_cmp x y = 0 := by
  subst h
  unfold lg_cmp
  simp
theorem lV_L_13 : vLV RL 13 11 yX11_wood cX11_wood 4 (some .int) 2 := ⟨⟨TX11, _, rfl⟩, wd_301, wd_302, wd_303, wd_62, wd_304, ⟨by decide +kernel, by decide +kernel, by rfl⟩, by decide⟩
theorem lV_L_17 : vLV RL 17 12 yX12_wood cX12_wood 3 (some .int) 2 := ⟨⟨TX12, _, rfl⟩, wd_946, wd_947, wd_948, wd_74, wd_949, ⟨by decide +kernel, by decide +kernel, by rfl⟩, by decide⟩
theorem lV_L_18 : vLV RL 18 11 yX11_cell cX11_cell 3 (some .int) 2 := ⟨⟨TX11, _, rfl⟩, wd_313, wd_314, wd_315, wd_62, wd_316, ⟨by decide +kernel, by decide +kernel, by rfl⟩, by decide⟩
theorem lV_L_21 : vLV RL 21 12 yX12_cell cX12_cell 6 (some .int) 2 := ⟨⟨TX12, _, rfl⟩, wd_966, wd_967, wd_968, wd_74, wd_969, ⟨by decide +kernel, by decide +kernel, by rfl⟩, by decide⟩
theorem lV_L_22 : vLV RL 22 11 yX11_wind cX11_wind 3 (some .int) 1 := ⟨⟨TX11, _, rfl⟩, wd_329, wd_330, wd_331, wd_62, wd_332, ⟨by decide +kernel, by decide +kernel, by rfl⟩, by decide⟩
theorem lV_L_26 : vLV RL 26 12 yX12_wind cX12_wind 2 (some .int) 1 := ⟨⟨TX12, _, rfl⟩, wd_975, wd_976, wd_977, wd_74, wd_978, ⟨by decide +kernel, by decide +kernel, by rfl⟩, by decide⟩
theorem lV_L_27 : vLV RL 27 11 yX11_fire cX11_fire 4 (some .int) 3 := ⟨⟨TX11, _, rfl⟩, wd_333, wd_334, wd_335, wd_62, wd_336, ⟨by decide +kernel, by decide +kernel, by rfl⟩, by decide⟩
theorem lV_L_31 : vLV RL 31 12 yX12_fire cX12_fire 4 (some .int) 3 := ⟨⟨TX12, _, rfl⟩, wd_980, wd_981, wd_982, wd_74, wd_983, ⟨by decide +kernel, by decide +kernel, by rfl⟩, by decide⟩
theorem lV_L_32 : vLV RL 32 11 yX11_of cX11_of 4 (some .int) 2 := ⟨⟨TX11, _, rfl⟩, wd_345, wd_346, wd_347, wd_62, wd_348, ⟨by decide +kernel, by decide +kernel, by rfl⟩, by decide⟩
theorem lV_L_35 : vLV RL 35 12 yX12_of cX12_of 3 (some .int) 2 := ⟨⟨TX12, _, rfl⟩, wd_993, wd_994, wd_995, wd_74, wd_996, ⟨by decide +kernel, by decide +kernel, by rfl⟩, by decide⟩
theorem lV_L_36 : vLV RL 36 11 yX11_change cX11_change 5 (some .int) 3 := ⟨⟨TX11, _, rfl⟩, wd_416, wd_417, wd_418, wd_62, wd_419, ⟨by decide +kernel, by decide +kernel, by rfl⟩, by decide⟩
theorem lV_L_39 : vLV RL 39 12 yX12_change cX12_change 5 (some .int) 3 := ⟨⟨TX12, _, rfl⟩, wd_1013, wd_1014, wd_1015, wd_74, wd_1016, ⟨by decide +kernel, by decide +kernel, by rfl⟩, by decide⟩
theorem lV_L_40 : vLV RL 40 11 yX11_go cX11_go 2 (some .int) 1 := ⟨⟨TX11, _, rfl⟩, wd_427, wd_428, wd_429, wd_62, wd_430, ⟨by decide +kernel, by decide +kernel, by rfl⟩, by decide⟩
theorem lV_L_43 : vLV RL 43 12 yX12_go cX12_go 2 (some .int) 1 := ⟨⟨TX12, _, rfl⟩, wd_1020, wd_1021, wd_1022, wd_74, wd_1023, ⟨by decide +kernel, by decide +kernel, by rfl⟩, by decide⟩
theorem lV_L_44 : vLV RL 44 11 yX11_now cX11_now 2 (some .int) 1 := ⟨⟨TX11, _, rfl⟩, wd_524, wd_525, wd_526, wd_62, wd_527, ⟨by decide +kernel, by decide +kernel, by rfl⟩, by decide⟩
theorem lV_L_47 : vLV RL 47 12 yX12_now cX12_now 2 (some .int) 1 := ⟨⟨TX12, _, rfl⟩, wd_1072, wd_1073, wd_1074, wd_74, wd_1075, ⟨by decide +kernel, by decide +kernel, by rfl⟩, by decide⟩
theorem lV_L_48 : vLV RL 48 11 yX11_ahead cX11_ahead 4 (some .int) 3 := ⟨⟨TX11, _, rfl⟩, wd_544, wd_545, wd_546, wd_62, wd_547, ⟨by decide +kernel, by decide +kernel, by rfl⟩, by decide⟩
theorem lV_L_51 : vLV RL 51 12 yX12_ahead cX12_ahead 4 (some .int) 3 := ⟨⟨TX12, _, rfl⟩, wd_1088, wd_1089, wd_1090, wd_74, wd_1091, ⟨by decide +kernel, by decide +kernel, by rfl⟩, by decide⟩
theorem lV_L_52 : vLV RL 52 11 yX11_grown cX11_grown 3 (some .int) 2 := ⟨⟨TX11, _, rfl⟩, wd_559, wd_560, wd_561, wd_62, wd_562, ⟨by decide +kernel, by decide +kernel, by rfl⟩, by decide⟩
theorem lV_L_55 : vLV RL 55 12 yX12_grown cX12_grown 3 (some .int) 2 := ⟨⟨TX12, _, rfl⟩, wd_1100, wd_1101, wd_1102, wd_74, wd_1103, ⟨by decide +kernel, by decide +kernel, by rfl⟩, by decide⟩
theorem lV_L_56 : vLV RL 56 11 yX11_when cX11_when 4 (some .int) 2 := ⟨⟨TX11, _, rfl⟩, wd_563, wd_564, wd_565, wd_62, wd_566, ⟨by decide +kernel, by decide +kernel, by rfl⟩, by decide⟩
theorem lV_L_59 : vLV RL 59 12 yX12_when cX12_when 4 (some .int) 2 := ⟨⟨TX12, _, rfl⟩, wd_1104, wd_1105, wd_1106, wd_74, wd_1107, ⟨by decide +kernel, by decide +kernel, by rfl⟩, by decide⟩
theorem lV_L_60 : vLV RL 60 11 yX11_stuck cX11_stuck 3 (some .int) 1 := ⟨⟨TX11, _, rfl⟩, wd_568, wd_569, wd_570, wd_62, wd_571, ⟨by decide +kernel, by decide +kernel, by rfl⟩, by decide⟩
theorem lV_L_63 : vLV RL 63 12 yX12_stuck cX12_stuck 2 (some .int) 1 := ⟨⟨TX12, _, rfl⟩, wd_1109, wd_1110, wd_1111, wd_74, wd_1112, ⟨by decide +kernel, by decide +kernel, by rfl⟩, by decide⟩
theorem lV_L_64 : vLV RL 64 11 yX11_crosses cX11_crosses 2 (some .int) 0 := ⟨⟨TX11, _, rfl⟩, wd_572, wd_573, wd_574, wd_62, wd_575, ⟨by decide +kernel, by decide +kernel, by rfl⟩, by decide⟩
theorem lV_L_68 : vLV RL 68 12 yX12_crosses cX12_crosses 1 (some .int) 0 := ⟨⟨TX12, _, rfl⟩, wd_1117, wd_1118, wd_1119, wd_74, wd_1120, ⟨by decide +kernel, by decide +kernel, by rfl⟩, by decide⟩
theorem lV_L_69 : vLV RL 69 11 yX11_windFor cX11_windFor 6 (some .int) 1 := ⟨⟨TX11, _, rfl⟩, wd_576, wd_577, wd_578, wd_62, wd_579, ⟨by decide +kernel, by decide +kernel, by rfl⟩, by decide⟩
theorem lV_L_72 : vLV RL 72 12 yX12_windFor cX12_windFor 7 (some .int) 1 := ⟨⟨TX12, _, rfl⟩, wd_1121, wd_1122, wd_1123, wd_74, wd_1124, ⟨by decide +kernel, by decide +kernel, by rfl⟩, by decide⟩
theorem lV_L_73 : vLV RL 73 11 yX11_homeFor cX11_homeFor 7 (some .int) 3 := ⟨⟨TX11, _, rfl⟩, wd_580, wd_581, wd_582, wd_62, wd_583, ⟨by decide +kernel, by decide +kernel, by rfl⟩, by decide⟩
theorem lV_L_76 : vLV RL 76 12 yX12_homeFor cX12_homeFor 9 (some .int) 3 := ⟨⟨TX12, _, rfl⟩, wd_1133, wd_1134, wd_1135, wd_74, wd_1136, ⟨by decide +kernel, by decide +kernel, by rfl⟩, by decide⟩
theorem lV_L_77 : vLV RL 77 11 yX11_build cX11_build 6 (some .int) 2 := ⟨⟨TX11, _, rfl⟩, wd_588, wd_589, wd_590, wd_62, wd_591, ⟨by decide +kernel, by decide +kernel, by rfl⟩, by decide⟩
theorem lV_L_80 : vLV RL 80 12 yX12_build cX12_build 9 (some .int) 2 := ⟨⟨TX12, _, rfl⟩, wd_1141, wd_1142, wd_1143, wd_74, wd_1144, ⟨by decide +kernel, by decide +kernel, by rfl⟩, by decide⟩
theorem lV_L_81 : vLV RL 81 11 yX11_kindFor cX11_kindFor 7 (some .int) 2 := ⟨⟨TX11, _, rfl⟩, wd_592, wd_593, wd_594, wd_62, wd_595, ⟨by decide +kernel, by decide +kernel, by rfl⟩, by decide⟩
theorem lV_L_84 : vLV RL 84 12 yX12_kindFor cX12_kindFor 8 (some .int) 2 := ⟨⟨TX12, _, rfl⟩, wd_1145, wd_1146, wd_1147, wd_74, wd_1148, ⟨by decide +kernel, by decide +kernel, by rfl⟩, by decide⟩
theorem lV_L_85 : vLV RL 85 11 yX11_logsFor cX11_logsFor 6 (some .int) 4 := ⟨⟨TX11, _, rfl⟩, wd_596, wd_597, wd_598, wd_62, wd_599, ⟨by decide +kernel, by decide +kernel, by rfl⟩, by decide⟩
theorem lV_L_89 : vLV RL 89 12 yX12_logsFor cX12_logsFor 8 (some .int) 4 := ⟨⟨TX12, _, rfl⟩, wd_1149, wd_1150, wd_1151, wd_74, wd_1152, ⟨by decide +kernel, by decide +kernel, by rfl⟩, by decide⟩
theorem lV_L_90 : vLV RL 90 11 yX11_quench cX11_quench 5 (some .int) 1 := ⟨⟨TX11, _, rfl⟩, wd_600, wd_601, wd_602, wd_62, wd_603, ⟨by decide +kernel, by decide +kernel, by rfl⟩, by decide⟩
theorem lV_L_93 : vLV RL 93 12 yX12_quench cX12_quench 6 (some .int) 1 := ⟨⟨TX12, _, rfl⟩, wd_1157, wd_1158, wd_1159, wd_74, wd_1160, ⟨by decide +kernel, by decide +kernel, by rfl⟩, by decide⟩
theorem lV_L_94 : vLV RL 94 11 yX11_fits cX11_fits 3 (some .int) 2 := ⟨⟨TX11, _, rfl⟩, wd_614, wd_615, wd_616, wd_62, wd_617, ⟨by decide +kernel, by decide +kernel, by rfl⟩, by decide⟩
theorem lV_L_97 : vLV RL 97 12 yX12_fits cX12_fits 3 (some .int) 2 := ⟨⟨TX12, _, rfl⟩, wd_1165, wd_1166, wd_1167, wd_74, wd_1168, ⟨by decide +kernel, by decide +kernel, by rfl⟩, by decide⟩
theorem lV_L_98 : vLV RL 98 11 yX11_kinds cX11_kinds 3 (some .int) 2 := ⟨⟨TX11, _, rfl⟩, wd_630, wd_631, wd_632, wd_62, wd_633, ⟨by decide +kernel, by decide +kernel, by rfl⟩, by decide⟩
theorem lV_L_101 : vLV RL 101 12 yX12_kinds cX12_kinds 3 (some .int) 2 := ⟨⟨TX12, _, rfl⟩, wd_1185, wd_1186, wd_1187, wd_74, wd_1188, ⟨by decide +kernel, by decide +kernel, by rfl⟩, by decide⟩
theorem lV_L_102 : vLV RL 102 11 yX11_winds cX11_winds 3 (some .int) 1 := ⟨⟨TX11, _, rfl⟩, wd_634, wd_635, wd_636, wd_62, wd_637, ⟨by decide +kernel, by decide +kernel, by rfl⟩, by decide⟩
theorem lV_L_105 : vLV RL 105 12 yX12_winds cX12_winds 3 (some .int) 1 := ⟨⟨TX12, _, rfl⟩, wd_1189, wd_1190, wd_1191, wd_74, wd_1192, ⟨by decide +kernel, by decide +kernel, by rfl⟩, by decide⟩
theorem lV_L_106 : vLV RL 106 11 yX11_odds cX11_odds 9 (some .long) 3 := ⟨⟨TX11, _, rfl⟩, wd_643, wd_644, wd_645, wd_62, wd_646, ⟨by decide +kernel, by decide +kernel, by rfl⟩, by decide⟩
theorem lV_L_110 : vLV RL 110 12 yX12_odds cX12_odds 7 (some .long) 3 := ⟨⟨TX12, _, rfl⟩, wd_1198, wd_1199, wd_1200, wd_74, wd_1201, ⟨by decide +kernel, by decide +kernel, by rfl⟩, by decide⟩
theorem lV_L_111 : vLV RL 111 11 yX11_seed cX11_seed 3 (some .int) 1 := ⟨⟨TX11, _, rfl⟩, wd_649, wd_650, wd_651, wd_62, wd_652, ⟨by decide +kernel, by decide +kernel, by rfl⟩, by decide⟩
theorem lV_L_114 : vLV RL 114 12 yX12_seed cX12_seed 2 (some .int) 1 := ⟨⟨TX12, _, rfl⟩, wd_1204, wd_1205, wd_1206, wd_74, wd_1207, ⟨by decide +kernel, by decide +kernel, by rfl⟩, by decide⟩
theorem lV_L_115 : vLV RL 115 11 yX11_feed cX11_feed 4 (some .int) 2 := ⟨⟨TX11, _, rfl⟩, wd_653, wd_654, wd_655, wd_62, wd_656, ⟨by decide +kernel, by decide +kernel, by rfl⟩, by decide⟩
theorem lV_L_118 : vLV RL 118 12 yX12_feed cX12_feed 4 (some .int) 2 := ⟨⟨TX12, _, rfl⟩, wd_1208, wd_1209, wd_1210, wd_74, wd_1211, ⟨by decide +kernel, by decide +kernel, by rfl⟩, by decide⟩
theorem lV_L_119 : vLV RL 119 11 yX11_wipe cX11_wipe 2 (some .int) 0 := ⟨⟨TX11, _, rfl⟩, wd_661, wd_662, wd_663, wd_62, wd_664, ⟨by decide +kernel, by decide +kernel, by rfl⟩, by decide⟩
theorem lV_L_122 : vLV RL 122 12 yX12_wipe cX12_wipe 2 (some .int) 0 := ⟨⟨TX12, _, rfl⟩, wd_1212, wd_1213, wd_1214, wd_74, wd_1215, ⟨by decide +kernel, by decide +kernel, by rfl⟩, by decide⟩
theorem lV_L_123 : vLV RL 123 11 yX11_text cX11_text 2 (some .int) 0 := ⟨⟨TX11, _, rfl⟩, wd_665, wd_666, wd_667, wd_62, wd_668, ⟨by decide +kernel, by decide +kernel, by rfl⟩, by decide⟩
theorem lV_L_126 : vLV RL 126 12 yX12_text cX12_text 3 (some .int) 0 := ⟨⟨TX12, _, rfl⟩, wd_1216, wd_1217, wd_1218, wd_74, wd_1219, ⟨by decide +kernel, by decide +kernel, by rfl⟩, by decide⟩
theorem lV_L_127 : vLV RL 127 11 yX11_hold cX11_hold 3 (some .int) 2 := ⟨⟨TX11, _, rfl⟩, wd_794, wd_795, wd_796, wd_62, wd_797, ⟨by decide +kernel, by decide +kernel, by rfl⟩, by decide⟩
theorem lV_L_130 : vLV RL 130 12 yX12_hold cX12_hold 3 (some .int) 2 := ⟨⟨TX12, _, rfl⟩, wd_1282, wd_1283, wd_1284, wd_74, wd_1285, ⟨by decide +kernel, by decide +kernel, by rfl⟩, by decide⟩
theorem lV_L_131 : vLV RL 131 11 yX11_as cX11_as 4 (some .int) 2 := ⟨⟨TX11, _, rfl⟩, wd_798, wd_799, wd_800, wd_62, wd_801, ⟨by decide +kernel, by decide +kernel, by rfl⟩, by decide⟩
theorem lV_L_134 : vLV RL 134 12 yX12_as cX12_as 4 (some .int) 2 := ⟨⟨TX12, _, rfl⟩, wd_1286, wd_1287, wd_1288, wd_74, wd_1289, ⟨by decide +kernel, by decide +kernel, by rfl⟩, by decide⟩
theorem lV_L_135 : vLV RL 135 11 yX11_sheet cX11_sheet 4 (some .int) 3 := ⟨⟨TX11, _, rfl⟩, wd_831, wd_832, wd_833, wd_62, wd_834, ⟨by decide +kernel, by decide +kernel, by rfl⟩, by decide⟩
theorem lV_L_138 : vLV RL 138 12 yX12_sheet cX12_sheet 5 (some .int) 3 := ⟨⟨TX12, _, rfl⟩, wd_1294, wd_1295, wd_1296, wd_74, wd_1297, ⟨by decide +kernel, by decide +kernel, by rfl⟩, by decide⟩
theorem lV_L_139 : vLV RL 139 11 yX11_write cX11_write 4 (some .int) 3 := ⟨⟨TX11, _, rfl⟩, wd_839, wd_840, wd_841, wd_62, wd_842, ⟨by decide +kernel, by decide +kernel, by rfl⟩, by decide⟩
theorem lV_L_142 : vLV RL 142 12 yX12_write cX12_write 4 (some .int) 3 := ⟨⟨TX12, _, rfl⟩, wd_1299, wd_1300, wd_1301, wd_74, wd_1302, ⟨by decide +kernel, by decide +kernel, by rfl⟩, by decide⟩
theorem lV_L_143 : vLV RL 143 11 yX11_copy cX11_copy 6 (some .int) 5 := ⟨⟨TX11, _, rfl⟩, wd_847, wd_848, wd_849, wd_62, wd_850, ⟨by decide +kernel, by decide +kernel, by rfl⟩, by decide⟩
theorem lV_L_147 : vLV RL 147 12 yX12_copy cX12_copy 10 (some .int) 5 := ⟨⟨TX12, _, rfl⟩, wd_1303, wd_1304, wd_1305, wd_74, wd_1306, ⟨by decide +kernel, by decide +kernel, by rfl⟩, by decide⟩
theorem lV_L_148 : vLV RL 148 11 yX11_load cX11_load 3 (some .int) 1 := ⟨⟨TX11, _, rfl⟩, wd_856, wd_857, wd_858, wd_62, wd_859, ⟨by decide +kernel, by decide +kernel, by rfl⟩, by decide⟩
theorem lV_L_151 : vLV RL 151 12 yX12_load cX12_load 3 (some .int) 1 := ⟨⟨TX12, _, rfl⟩, wd_1307, wd_1308, wd_1309, wd_74, wd_1310, ⟨by decide +kernel, by decide +kernel, by rfl⟩, by decide⟩
theorem lV_L_152 : vLV RL 152 11 yX11_judge cX11_judge 3 (some .int) 1 := ⟨⟨TX11, _, rfl⟩, wd_860, wd_861, wd_862, wd_62, wd_863, ⟨by decide +kernel, by decide +kernel, by rfl⟩, by decide⟩
theorem lV_L_155 : vLV RL 155 12 yX12_judge cX12_judge 3 (some .int) 1 := ⟨⟨TX12, _, rfl⟩, wd_1312, wd_1313, wd_1314, wd_74, wd_1315, ⟨by decide +kernel, by decide +kernel, by rfl⟩, by decide⟩
theorem lV_L_156 : vLV RL 156 11 yX11_image cX11_image 1 (some .int) 0 := ⟨⟨TX11, _, rfl⟩, wd_864, wd_865, wd_866, wd_62, wd_867, ⟨by decide +kernel, by decide +kernel, by rfl⟩, by decide⟩
theorem lV_L_159 : vLV RL 159 12 yX12_image cX12_image 1 (some .int) 0 := ⟨⟨TX12, _, rfl⟩, wd_1316, wd_1317, wd_1318, wd_74, wd_1319, ⟨by decide +kernel, by decide +kernel, by rfl⟩, by decide⟩
theorem lV_L_160 : vLV RL 160 11 yX11_undo cX11_undo 1 (some .int) 0 := ⟨⟨TX11, _, rfl⟩, wd_868, wd_869, wd_870, wd_62, wd_871, ⟨by decide +kernel, by decide +kernel, by rfl⟩, by decide⟩
theorem lV_L_163 : vLV RL 163 12 yX12_undo cX12_undo 1 (some .int) 0 := ⟨⟨TX12, _, rfl⟩, wd_1320, wd_1321, wd_1322, wd_74, wd_1323, ⟨by decide +kernel, by decide +kernel, by rfl⟩, by decide⟩
theorem lV_L_164 : vLV RL 164 11 yX11_tear cX11_tear 2 (some .int) 0 := ⟨⟨TX11, _, rfl⟩, wd_872, wd_873, wd_874, wd_62, wd_875, ⟨by decide +kernel, by decide +kernel, by rfl⟩, by decide⟩
theorem lV_L_167 : vLV RL 167 12 yX12_tear cX12_tear 2 (some .int) 0 := ⟨⟨TX12, _, rfl⟩, wd_1324, wd_1325, wd_1326, wd_74, wd_1327, ⟨by decide +kernel, by decide +kernel, by rfl⟩, by decide⟩
theorem lV_L_168 : vLV RL 168 11 yX11_count cX11_count 2 (some .int) 1 := ⟨⟨TX11, _, rfl⟩, wd_876, wd_877, wd_878, wd_62, wd_879, ⟨by decide +kernel, by decide +kernel, by rfl⟩, by decide⟩
theorem lV_L_171 : vLV RL 171 12 yX12_count cX12_count 4 (some .int) 1 := ⟨⟨TX12, _, rfl⟩, wd_1328, wd_1329, wd_1330, wd_74, wd_1331, ⟨by decide +kernel, by decide +kernel, by rfl⟩, by decide⟩
theorem lV_L_172 : vLV RL 172 11 yX11_status cX11_status 4 (some .int) 1 := ⟨⟨TX11, _, rfl⟩, wd_884, wd_885, wd_886, wd_62, wd_887, ⟨by decide +kernel, by decide +kernel, by rfl⟩, by decide⟩
theorem lV_L_175 : vLV RL 175 12 yX12_status cX12_status 2 (some .int) 1 := ⟨⟨TX12, _, rfl⟩, wd_1332, wd_1333, wd_1334, wd_74, wd_1335, ⟨by decide +kernel, by decide +kernel, by rfl⟩, by decide⟩
