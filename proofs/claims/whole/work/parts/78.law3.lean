theorem L_c26 {E : vEnv} {nm : String} {Qa : Option Value → Nat → (Nat → AC) → Prop} {S : Mem} {H i : Nat} (hI : INV S (mp S) H) (hH : H ≤ 40000) (hi : i + 6 ≤ eL E) (hE : eL E ≤ 3072) (kk : ∀ S2, INV S2 (mp S2) (H + 60) → V E RL nm cL_law 4 (some .boolean) 11 0 0 Qa 68 (hpS S2) 1372 (lwL i) []) : V E RL nm cL_law 4 (some .boolean) 11 0 0 Qa 68 (hpS S) 1013 (lwL i) [] := by
  refine V_aload_n (pc := 1013) (i := 1) dL_law_1013 rfl rfl ?_
  refine k_X11_text (pc := 1014) lV_L_123 dL_law_1014 (by decide) (Nat.le_of_ble_eq_true rfl) rfl (okBk (c_text hI)) (fun x S2 hc => ?_)
  obtain ⟨n, h, zn, z0, zw, zs, z1, zh, zS, zT⟩ := fx hI (okS hc).2.2
  refine V_aload_n (pc := 1017) (i := 2) dL_law_1017 rfl rfl ?_
  refine k_X12_text (pc := 1018) lV_L_126 dL_law_1018 (by decide) (Nat.le_of_ble_eq_true rfl) rfl (okBk (m_text zT zw)) (fun y S3 hm => ?_)
  obtain ⟨he, hI3⟩ := comb (okS hc) (okS hm)
  exact V_icmp_eq (pc := 1021) (tgt := 1372) dL_law_1021 (by decide) (fun _ => kk S3 (hI3.mono (by omega))) (fun h => absurd he h)
theorem L_c27 {E : vEnv} {nm : String} {Qa : Option Value → Nat → (Nat → AC) → Prop} {S : Mem} {H i : Nat} (hI : INV S (mp S) H) (hH : H ≤ 40000) (hi : i + 6 ≤ eL E) (hE : eL E ≤ 3072) (kk : ∀ S2, INV S2 (mp S2) (H + 60) → V E RL nm cL_law 4 (some .boolean) 11 0 0 Qa 68 (hpS S2) 1372 (lwL i) []) : V E RL nm cL_law 4 (some .boolean) 11 0 0 Qa 68 (hpS S) 1026 (lwL i) [] := by
  have hx := in_x hi hE
  refine V_aload_n (pc := 1026) (i := 1) dL_law_1026 rfl rfl ?_
  refine V_aload_n (pc := 1027) (i := 0) dL_law_1027 rfl rfl ?_
  refine V_iload_n (pc := 1028) (i := 3) dL_law_1028 rfl rfl ?_
  refine V_iconst (pc := 1029) (v := 1) dL_law_1029 (by decide) ?_
  refine V_iadd (pc := 1030) dL_law_1030 ?_
  refine V_sld (pc := 1031) (hx 1 (by decide)) dL_law_1031 ?_
  refine V_aload_n (pc := 1032) (i := 0) dL_law_1032 rfl rfl ?_
  refine V_iload_n (pc := 1033) (i := 3) dL_law_1033 rfl rfl ?_
  refine V_iconst (pc := 1034) (v := 2) dL_law_1034 (by decide) ?_
  refine V_iadd (pc := 1035) dL_law_1035 ?_
  refine V_sld (pc := 1036) (hx 2 (by decide)) dL_law_1036 ?_
  refine k_X11_hold (pc := 1037) lV_L_127 dL_law_1037 (by decide) (Nat.le_of_ble_eq_true rfl) rfl (okBk (c_hold hI)) (fun x S2 hc => ?_)
  obtain ⟨n, h, zn, z0, zw, zs, z1, zh, zS, zT⟩ := fx hI (okS hc).2.2
  refine V_aload_n (pc := 1040) (i := 2) dL_law_1040 rfl rfl ?_
  refine V_aload_n (pc := 1041) (i := 0) dL_law_1041 rfl rfl ?_
  refine V_iload_n (pc := 1042) (i := 3) dL_law_1042 rfl rfl ?_
  refine V_iconst (pc := 1043) (v := 1) dL_law_1043 (by decide) ?_
  refine V_iadd (pc := 1044) dL_law_1044 ?_
  refine V_sld (pc := 1045) (hx 1 (by decide)) dL_law_1045 ?_
  refine V_aload_n (pc := 1046) (i := 0) dL_law_1046 rfl rfl ?_
  refine V_iload_n (pc := 1047) (i := 3) dL_law_1047 rfl rfl ?_
  refine V_iconst (pc := 1048) (v := 2) dL_law_1048 (by decide) ?_
  refine V_iadd (pc := 1049) dL_law_1049 ?_
  refine V_sld (pc := 1050) (hx 2 (by decide)) dL_law_1050 ?_
  refine k_X12_hold (pc := 1051) lV_L_130 dL_law_1051 (by decide) (Nat.le_of_ble_eq_true rfl) rfl (okBk (m_hold z0 zn)) (fun y S3 hm => ?_)
  obtain ⟨he, hI3⟩ := comb (okS hc) (okS hm)
  exact V_icmp_eq (pc := 1054) (tgt := 1372) dL_law_1054 (by decide) (fun _ => kk S3 (hI3.mono (by omega))) (fun h => absurd he h)
theorem L_c28 {E : vEnv} {nm : String} {Qa : Option Value → Nat → (Nat → AC) → Prop} {S : Mem} {H i : Nat} (hI : INV S (mp S) H) (hH : H ≤ 40000) (hi : i + 6 ≤ eL E) (hE : eL E ≤ 3072) (kk : ∀ S2, INV S2 (mp S2) (H + 60) → V E RL nm cL_law 4 (some .boolean) 11 0 0 Qa 68 (hpS S2) 1372 (lwL i) []) : V E RL nm cL_law 4 (some .boolean) 11 0 0 Qa 68 (hpS S) 1059 (lwL i) [] := by
  have hx := in_x hi hE
  refine V_aload_n (pc := 1059) (i := 1) dL_law_1059 rfl rfl ?_
  refine V_aload_n (pc := 1060) (i := 0) dL_law_1060 rfl rfl ?_
  refine V_iload_n (pc := 1061) (i := 3) dL_law_1061 rfl rfl ?_
  refine V_iconst (pc := 1062) (v := 1) dL_law_1062 (by decide) ?_
  refine V_iadd (pc := 1063) dL_law_1063 ?_
  refine V_sld (pc := 1064) (hx 1 (by decide)) dL_law_1064 ?_
  refine V_aload_n (pc := 1065) (i := 0) dL_law_1065 rfl rfl ?_
  refine V_iload_n (pc := 1066) (i := 3) dL_law_1066 rfl rfl ?_
  refine V_iconst (pc := 1067) (v := 2) dL_law_1067 (by decide) ?_
  refine V_iadd (pc := 1068) dL_law_1068 ?_
  refine V_sld (pc := 1069) (hx 2 (by decide)) dL_law_1069 ?_
  refine k_X11_as (pc := 1070) lV_L_131 dL_law_1070 (by decide) (Nat.le_of_ble_eq_true rfl) rfl (okBk (c_as hI)) (fun x S2 hc => ?_)
  obtain ⟨n, h, zn, z0, zw, zs, z1, zh, zS, zT⟩ := fx hI (okS hc).2.2
  refine V_aload_n (pc := 1073) (i := 2) dL_law_1073 rfl rfl ?_
  refine V_aload_n (pc := 1074) (i := 0) dL_law_1074 rfl rfl ?_
  refine V_iload_n (pc := 1075) (i := 3) dL_law_1075 rfl rfl ?_
  refine V_iconst (pc := 1076) (v := 1) dL_law_1076 (by decide) ?_
  refine V_iadd (pc := 1077) dL_law_1077 ?_
  refine V_sld (pc := 1078) (hx 1 (by decide)) dL_law_1078 ?_
  refine V_aload_n (pc := 1079) (i := 0) dL_law_1079 rfl rfl ?_
  refine V_iload_n (pc := 1080) (i := 3) dL_law_1080 rfl rfl ?_
  refine V_iconst (pc := 1081) (v := 2) dL_law_1081 (by decide) ?_
  refine V_iadd (pc := 1082) dL_law_1082 ?_
  refine V_sld (pc := 1083) (hx 2 (by decide)) dL_law_1083 ?_
  refine k_X12_as (pc := 1084) lV_L_134 dL_law_1084 (by decide) (Nat.le_of_ble_eq_true rfl) rfl (okBk (m_as zn zs)) (fun y S3 hm => ?_)
  obtain ⟨he, hI3⟩ := comb (okS hc) (okS hm)
  exact V_icmp_eq (pc := 1087) (tgt := 1372) dL_law_1087 (by decide) (fun _ => kk S3 (hI3.mono (by omega))) (fun h => absurd he h)
theorem L_c29 {E : vEnv} {nm : String} {Qa : Option Value → Nat → (Nat → AC) → Prop} {S : Mem} {H i : Nat} (hI : INV S (mp S) H) (hH : H ≤ 40000) (hi : i + 6 ≤ eL E) (hE : eL E ≤ 3072) (kk : ∀ S2, INV S2 (mp S2) (H + 60) → V E RL nm cL_law 4 (some .boolean) 11 0 0 Qa 68 (hpS S2) 1372 (lwL i) []) : V E RL nm cL_law 4 (some .boolean) 11 0 0 Qa 68 (hpS S) 1092 (lwL i) [] := by
  have hx := in_x hi hE
  refine V_aload_n (pc := 1092) (i := 1) dL_law_1092 rfl rfl ?_
  refine V_aload_n (pc := 1093) (i := 0) dL_law_1093 rfl rfl ?_
  refine V_iload_n (pc := 1094) (i := 3) dL_law_1094 rfl rfl ?_
  refine V_iconst (pc := 1095) (v := 1) dL_law_1095 (by decide) ?_
  refine V_iadd (pc := 1096) dL_law_1096 ?_
  refine V_sld (pc := 1097) (hx 1 (by decide)) dL_law_1097 ?_
  refine V_aload_n (pc := 1098) (i := 0) dL_law_1098 rfl rfl ?_
  refine V_iload_n (pc := 1099) (i := 3) dL_law_1099 rfl rfl ?_
  refine V_iconst (pc := 1100) (v := 2) dL_law_1100 (by decide) ?_
  refine V_iadd (pc := 1101) dL_law_1101 ?_
  refine V_sld (pc := 1102) (hx 2 (by decide)) dL_law_1102 ?_
  refine V_aload_n (pc := 1103) (i := 0) dL_law_1103 rfl rfl ?_
  refine V_iload_n (pc := 1104) (i := 3) dL_law_1104 rfl rfl ?_
  refine V_iconst (pc := 1105) (v := 3) dL_law_1105 (by decide) ?_
  refine V_iadd (pc := 1106) dL_law_1106 ?_
  refine V_sld (pc := 1107) (hx 3 (by decide)) dL_law_1107 ?_
  refine k_X11_sheet (pc := 1108) lV_L_135 dL_law_1108 (by decide) (Nat.le_of_ble_eq_true rfl) rfl (okBk (c_sheet hI)) (fun x S2 hc => ?_)
  obtain ⟨n, h, zn, z0, zw, zs, z1, zh, zS, zT⟩ := fx hI (okS hc).2.2
  refine V_aload_n (pc := 1111) (i := 2) dL_law_1111 rfl rfl ?_
  refine V_aload_n (pc := 1112) (i := 0) dL_law_1112 rfl rfl ?_
  refine V_iload_n (pc := 1113) (i := 3) dL_law_1113 rfl rfl ?_
  refine V_iconst (pc := 1114) (v := 1) dL_law_1114 (by decide) ?_
  refine V_iadd (pc := 1115) dL_law_1115 ?_
  refine V_sld (pc := 1116) (hx 1 (by decide)) dL_law_1116 ?_
  refine V_aload_n (pc := 1117) (i := 0) dL_law_1117 rfl rfl ?_
  refine V_iload_n (pc := 1118) (i := 3) dL_law_1118 rfl rfl ?_
  refine V_iconst (pc := 1119) (v := 2) dL_law_1119 (by decide) ?_
  refine V_iadd (pc := 1120) dL_law_1120 ?_
  refine V_sld (pc := 1121) (hx 2 (by decide)) dL_law_1121 ?_
  refine V_aload_n (pc := 1122) (i := 0) dL_law_1122 rfl rfl ?_
  refine V_iload_n (pc := 1123) (i := 3) dL_law_1123 rfl rfl ?_
  refine V_iconst (pc := 1124) (v := 3) dL_law_1124 (by decide) ?_
  refine V_iadd (pc := 1125) dL_law_1125 ?_
  refine V_sld (pc := 1126) (hx 3 (by decide)) dL_law_1126 ?_
  refine k_X12_sheet (pc := 1127) lV_L_138 dL_law_1127 (by decide) (Nat.le_of_ble_eq_true rfl) rfl (okBk (m_sheet)) (fun y S3 hm => ?_)
  obtain ⟨he, hI3⟩ := comb (okS hc) (okS hm)
  exact V_icmp_eq (pc := 1130) (tgt := 1372) dL_law_1130 (by decide) (fun _ => kk S3 (hI3.mono (by omega))) (fun h => absurd he h)
theorem L_c30 {E : vEnv} {nm : String} {Qa : Option Value → Nat → (Nat → AC) → Prop} {S : Mem} {H i : Nat} (hI : INV S (mp S) H) (hH : H ≤ 40000) (hi : i + 6 ≤ eL E) (hE : eL E ≤ 3072) (kk : ∀ S2, INV S2 (mp S2) (H + 60) → V E RL nm cL_law 4 (some .boolean) 11 0 0 Qa 68 (hpS S2) 1372 (lwL i) []) : V E RL nm cL_law 4 (some .boolean) 11 0 0 Qa 68 (hpS S) 1135 (lwL i) [] := by
  have hx := in_x hi hE
  refine V_aload_n (pc := 1135) (i := 1) dL_law_1135 rfl rfl ?_
  refine V_aload_n (pc := 1136) (i := 0) dL_law_1136 rfl rfl ?_
  refine V_iload_n (pc := 1137) (i := 3) dL_law_1137 rfl rfl ?_
  refine V_iconst (pc := 1138) (v := 1) dL_law_1138 (by decide) ?_
  refine V_iadd (pc := 1139) dL_law_1139 ?_
  refine V_sld (pc := 1140) (hx 1 (by decide)) dL_law_1140 ?_
  refine V_aload_n (pc := 1141) (i := 0) dL_law_1141 rfl rfl ?_
  refine V_iload_n (pc := 1142) (i := 3) dL_law_1142 rfl rfl ?_
  refine V_iconst (pc := 1143) (v := 2) dL_law_1143 (by decide) ?_
  refine V_iadd (pc := 1144) dL_law_1144 ?_
  refine V_sld (pc := 1145) (hx 2 (by decide)) dL_law_1145 ?_
  refine V_aload_n (pc := 1146) (i := 0) dL_law_1146 rfl rfl ?_
  refine V_iload_n (pc := 1147) (i := 3) dL_law_1147 rfl rfl ?_
  refine V_iconst (pc := 1148) (v := 3) dL_law_1148 (by decide) ?_
  refine V_iadd (pc := 1149) dL_law_1149 ?_
  refine V_sld (pc := 1150) (hx 3 (by decide)) dL_law_1150 ?_
  refine k_X11_write (pc := 1151) lV_L_139 dL_law_1151 (by decide) (Nat.le_of_ble_eq_true rfl) rfl (okBk (c_write hI)) (fun x S2 hc => ?_)
  obtain ⟨n, h, zn, z0, zw, zs, z1, zh, zS, zT⟩ := fx hI (okS hc).2.2
  refine V_aload_n (pc := 1154) (i := 2) dL_law_1154 rfl rfl ?_
  refine V_aload_n (pc := 1155) (i := 0) dL_law_1155 rfl rfl ?_
  refine V_iload_n (pc := 1156) (i := 3) dL_law_1156 rfl rfl ?_
  refine V_iconst (pc := 1157) (v := 1) dL_law_1157 (by decide) ?_
  refine V_iadd (pc := 1158) dL_law_1158 ?_
  refine V_sld (pc := 1159) (hx 1 (by decide)) dL_law_1159 ?_
  refine V_aload_n (pc := 1160) (i := 0) dL_law_1160 rfl rfl ?_
  refine V_iload_n (pc := 1161) (i := 3) dL_law_1161 rfl rfl ?_
  refine V_iconst (pc := 1162) (v := 2) dL_law_1162 (by decide) ?_
  refine V_iadd (pc := 1163) dL_law_1163 ?_
  refine V_sld (pc := 1164) (hx 2 (by decide)) dL_law_1164 ?_
  refine V_aload_n (pc := 1165) (i := 0) dL_law_1165 rfl rfl ?_
  refine V_iload_n (pc := 1166) (i := 3) dL_law_1166 rfl rfl ?_
  refine V_iconst (pc := 1167) (v := 3) dL_law_1167 (by decide) ?_
  refine V_iadd (pc := 1168) dL_law_1168 ?_
  refine V_sld (pc := 1169) (hx 3 (by decide)) dL_law_1169 ?_
  refine k_X12_write (pc := 1170) lV_L_142 dL_law_1170 (by decide) (Nat.le_of_ble_eq_true rfl) rfl (okBk (m_write zS)) (fun y S3 hm => ?_)
  obtain ⟨he, hI3⟩ := comb (okS hc) (okS hm)
  exact V_icmp_eq (pc := 1173) (tgt := 1372) dL_law_1173 (by decide) (fun _ => kk S3 (hI3.mono (by omega))) (fun h => absurd he h)
theorem L_c31 {E : vEnv} {nm : String} {Qa : Option Value → Nat → (Nat → AC) → Prop} {S : Mem} {H i : Nat} (hI : INV S (mp S) H) (hH : H ≤ 40000) (hi : i + 6 ≤ eL E) (hE : eL E ≤ 3072) (kk : ∀ S2, INV S2 (mp S2) (H + 60) → V E RL nm cL_law 4 (some .boolean) 11 0 0 Qa 68 (hpS S2) 1372 (lwL i) []) : V E RL nm cL_law 4 (some .boolean) 11 0 0 Qa 68 (hpS S) 1178 (lwL i) [] := by
  have hx := in_x hi hE
  refine V_aload_n (pc := 1178) (i := 1) dL_law_1178 rfl rfl ?_
  refine V_aload_n (pc := 1179) (i := 0) dL_law_1179 rfl rfl ?_
  refine V_iload_n (pc := 1180) (i := 3) dL_law_1180 rfl rfl ?_
  refine V_iconst (pc := 1181) (v := 1) dL_law_1181 (by decide) ?_
  refine V_iadd (pc := 1182) dL_law_1182 ?_
  refine V_sld (pc := 1183) (hx 1 (by decide)) dL_law_1183 ?_
  refine V_aload_n (pc := 1184) (i := 0) dL_law_1184 rfl rfl ?_
  refine V_iload_n (pc := 1185) (i := 3) dL_law_1185 rfl rfl ?_
  refine V_iconst (pc := 1186) (v := 2) dL_law_1186 (by decide) ?_
  refine V_iadd (pc := 1187) dL_law_1187 ?_
  refine V_sld (pc := 1188) (hx 2 (by decide)) dL_law_1188 ?_
  refine V_aload_n (pc := 1189) (i := 0) dL_law_1189 rfl rfl ?_
  refine V_iload_n (pc := 1190) (i := 3) dL_law_1190 rfl rfl ?_
  refine V_iconst (pc := 1191) (v := 3) dL_law_1191 (by decide) ?_
  refine V_iadd (pc := 1192) dL_law_1192 ?_
  refine V_sld (pc := 1193) (hx 3 (by decide)) dL_law_1193 ?_
  refine V_aload_n (pc := 1194) (i := 0) dL_law_1194 rfl rfl ?_
  refine V_iload_n (pc := 1195) (i := 3) dL_law_1195 rfl rfl ?_
  refine V_iconst (pc := 1196) (v := 4) dL_law_1196 (by decide) ?_
  refine V_iadd (pc := 1197) dL_law_1197 ?_
  refine V_sld (pc := 1198) (hx 4 (by decide)) dL_law_1198 ?_
  refine V_aload_n (pc := 1199) (i := 0) dL_law_1199 rfl rfl ?_
  refine V_iload_n (pc := 1200) (i := 3) dL_law_1200 rfl rfl ?_
  refine V_iconst (pc := 1201) (v := 5) dL_law_1201 (by decide) ?_
  refine V_iadd (pc := 1202) dL_law_1202 ?_
  refine V_sld (pc := 1203) (hx 5 (by decide)) dL_law_1203 ?_
  refine k_X11_copy (pc := 1204) lV_L_143 dL_law_1204 (by decide) (Nat.le_of_ble_eq_true rfl) rfl (okBk (c_copy hI)) (fun x S2 hc => ?_)
  obtain ⟨n, h, zn, z0, zw, zs, z1, zh, zS, zT⟩ := fx hI (okS hc).2.2
  refine V_aload_n (pc := 1207) (i := 2) dL_law_1207 rfl rfl ?_
  refine V_aload_n (pc := 1208) (i := 0) dL_law_1208 rfl rfl ?_
  refine V_iload_n (pc := 1209) (i := 3) dL_law_1209 rfl rfl ?_
  refine V_iconst (pc := 1210) (v := 1) dL_law_1210 (by decide) ?_
  refine V_iadd (pc := 1211) dL_law_1211 ?_
  refine V_sld (pc := 1212) (hx 1 (by decide)) dL_law_1212 ?_
  refine V_aload_n (pc := 1213) (i := 0) dL_law_1213 rfl rfl ?_
  refine V_iload_n (pc := 1214) (i := 3) dL_law_1214 rfl rfl ?_
  refine V_iconst (pc := 1215) (v := 2) dL_law_1215 (by decide) ?_
  refine V_iadd (pc := 1216) dL_law_1216 ?_
  refine V_sld (pc := 1217) (hx 2 (by decide)) dL_law_1217 ?_
  refine V_aload_n (pc := 1218) (i := 0) dL_law_1218 rfl rfl ?_
  refine V_iload_n (pc := 1219) (i := 3) dL_law_1219 rfl rfl ?_
  refine V_iconst (pc := 1220) (v := 3) dL_law_1220 (by decide) ?_
  refine V_iadd (pc := 1221) dL_law_1221 ?_
  refine V_sld (pc := 1222) (hx 3 (by decide)) dL_law_1222 ?_
  refine V_aload_n (pc := 1223) (i := 0) dL_law_1223 rfl rfl ?_
  refine V_iload_n (pc := 1224) (i := 3) dL_law_1224 rfl rfl ?_
  refine V_iconst (pc := 1225) (v := 4) dL_law_1225 (by decide) ?_
  refine V_iadd (pc := 1226) dL_law_1226 ?_
  refine V_sld (pc := 1227) (hx 4 (by decide)) dL_law_1227 ?_
  refine V_aload_n (pc := 1228) (i := 0) dL_law_1228 rfl rfl ?_
  refine V_iload_n (pc := 1229) (i := 3) dL_law_1229 rfl rfl ?_
  refine V_iconst (pc := 1230) (v := 5) dL_law_1230 (by decide) ?_
  refine V_iadd (pc := 1231) dL_law_1231 ?_
  refine V_sld (pc := 1232) (hx 5 (by decide)) dL_law_1232 ?_
  refine k_X12_copy (pc := 1233) lV_L_147 dL_law_1233 (by decide) (Nat.le_of_ble_eq_true rfl) rfl (okBk (m_copy zS)) (fun y S3 hm => ?_)
  obtain ⟨he, hI3⟩ := comb (okS hc) (okS hm)
  exact V_icmp_eq (pc := 1236) (tgt := 1372) dL_law_1236 (by decide) (fun _ => kk S3 (hI3.mono (by omega))) (fun h => absurd he h)
theorem L_c32 {E : vEnv} {nm : String} {Qa : Option Value → Nat → (Nat → AC) → Prop} {S : Mem} {H i : Nat} (hI : INV S (mp S) H) (hH : H ≤ 40000) (hi : i + 6 ≤ eL E) (hE : eL E ≤ 3072) (kk : ∀ S2, INV S2 (mp S2) (H + 60) → V E RL nm cL_law 4 (some .boolean) 11 0 0 Qa 68 (hpS S2) 1372 (lwL i) []) : V E RL nm cL_law 4 (some .boolean) 11 0 0 Qa 68 (hpS S) 1241 (lwL i) [] := by
  have hx := in_x hi hE
  refine V_aload_n (pc := 1241) (i := 1) dL_law_1241 rfl rfl ?_
  refine V_aload_n (pc := 1242) (i := 0) dL_law_1242 rfl rfl ?_
  refine V_iload_n (pc := 1243) (i := 3) dL_law_1243 rfl rfl ?_
  refine V_iconst (pc := 1244) (v := 1) dL_law_1244 (by decide) ?_
  refine V_iadd (pc := 1245) dL_law_1245 ?_
  refine V_sld (pc := 1246) (hx 1 (by decide)) dL_law_1246 ?_
  refine k_X11_load (pc := 1247) lV_L_148 dL_law_1247 (by decide) (Nat.le_of_ble_eq_true rfl) rfl (okBk (c_load hI)) (fun x S2 hc => ?_)
  obtain ⟨n, h, zn, z0, zw, zs, z1, zh, zS, zT⟩ := fx hI (okS hc).2.2
  refine V_aload_n (pc := 1250) (i := 2) dL_law_1250 rfl rfl ?_
  refine V_aload_n (pc := 1251) (i := 0) dL_law_1251 rfl rfl ?_
  refine V_iload_n (pc := 1252) (i := 3) dL_law_1252 rfl rfl ?_
  refine V_iconst (pc := 1253) (v := 1) dL_law_1253 (by decide) ?_
  refine V_iadd (pc := 1254) dL_law_1254 ?_
  refine V_sld (pc := 1255) (hx 1 (by decide)) dL_law_1255 ?_
  refine k_X12_load (pc := 1256) lV_L_151 dL_law_1256 (by decide) (Nat.le_of_ble_eq_true rfl) rfl (okBk (m_load zw zS)) (fun y S3 hm => ?_)
  obtain ⟨he, hI3⟩ := comb (okS hc) (okS hm)
  exact V_icmp_eq (pc := 1259) (tgt := 1372) dL_law_1259 (by decide) (fun _ => kk S3 (hI3.mono (by omega))) (fun h => absurd he h)
theorem L_c33 {E : vEnv} {nm : String} {Qa : Option Value → Nat → (Nat → AC) → Prop} {S : Mem} {H i : Nat} (hI : INV S (mp S) H) (hH : H ≤ 40000) (hi : i + 6 ≤ eL E) (hE : eL E ≤ 3072) (kk : ∀ S2, INV S2 (mp S2) (H + 60) → V E RL nm cL_law 4 (some .boolean) 11 0 0 Qa 68 (hpS S2) 1372 (lwL i) []) : V E RL nm cL_law 4 (some .boolean) 11 0 0 Qa 68 (hpS S) 1264 (lwL i) [] := by
  have hx := in_x hi hE
  refine V_aload_n (pc := 1264) (i := 1) dL_law_1264 rfl rfl ?_
  refine V_aload_n (pc := 1265) (i := 0) dL_law_1265 rfl rfl ?_
  refine V_iload_n (pc := 1266) (i := 3) dL_law_1266 rfl rfl ?_
  refine V_iconst (pc := 1267) (v := 1) dL_law_1267 (by decide) ?_
  refine V_iadd (pc := 1268) dL_law_1268 ?_
  refine V_sld (pc := 1269) (hx 1 (by decide)) dL_law_1269 ?_
  refine k_X11_judge (pc := 1270) lV_L_152 dL_law_1270 (by decide) (Nat.le_of_ble_eq_true rfl) rfl (okBk (c_judge hI)) (fun x S2 hc => ?_)
  obtain ⟨n, h, zn, z0, zw, zs, z1, zh, zS, zT⟩ := fx hI (okS hc).2.2
  refine V_aload_n (pc := 1273) (i := 2) dL_law_1273 rfl rfl ?_
  refine V_aload_n (pc := 1274) (i := 0) dL_law_1274 rfl rfl ?_
  refine V_iload_n (pc := 1275) (i := 3) dL_law_1275 rfl rfl ?_
  refine V_iconst (pc := 1276) (v := 1) dL_law_1276 (by decide) ?_
  refine V_iadd (pc := 1277) dL_law_1277 ?_
  refine V_sld (pc := 1278) (hx 1 (by decide)) dL_law_1278 ?_
  refine k_X12_judge (pc := 1279) lV_L_155 dL_law_1279 (by decide) (Nat.le_of_ble_eq_true rfl) rfl (okBk (m_judge zS)) (fun y S3 hm => ?_)
  obtain ⟨he, hI3⟩ := comb (okS hc) (okS hm)
  exact V_icmp_eq (pc := 1282) (tgt := 1372) dL_law_1282 (by decide) (fun _ => kk S3 (hI3.mono (by omega))) (fun h => absurd he h)
theorem L_c34 {E : vEnv} {nm : String} {Qa : Option Value → Nat → (Nat → AC) → Prop} {S : Mem} {H i : Nat} (hI : INV S (mp S) H) (hH : H ≤ 40000) (hi : i + 6 ≤ eL E) (hE : eL E ≤ 3072) (kk : ∀ S2, INV S2 (mp S2) (H + 60) → V E RL nm cL_law 4 (some .boolean) 11 0 0 Qa 68 (hpS S2) 1372 (lwL i) []) : V E RL nm cL_law 4 (some .boolean) 11 0 0 Qa 68 (hpS S) 1287 (lwL i) [] := by
  refine V_aload_n (pc := 1287) (i := 1) dL_law_1287 rfl rfl ?_
  refine k_X11_image (pc := 1288) lV_L_156 dL_law_1288 (by decide) (Nat.le_of_ble_eq_true rfl) rfl (okBk (c_image hI)) (fun x S2 hc => ?_)
  obtain ⟨n, h, zn, z0, zw, zs, z1, zh, zS, zT⟩ := fx hI (okS hc).2.2
  refine V_aload_n (pc := 1291) (i := 2) dL_law_1291 rfl rfl ?_
  refine k_X12_image (pc := 1292) lV_L_159 dL_law_1292 (by decide) (Nat.le_of_ble_eq_true rfl) rfl (okBk (m_image)) (fun y S3 hm => ?_)
  obtain ⟨he, hI3⟩ := comb (okS hc) (okS hm)
  exact V_icmp_eq (pc := 1295) (tgt := 1372) dL_law_1295 (by decide) (fun _ => kk S3 (hI3.mono (by omega))) (fun h => absurd he h)
theorem L_c35 {E : vEnv} {nm : String} {Qa : Option Value → Nat → (Nat → AC) → Prop} {S : Mem} {H i : Nat} (hI : INV S (mp S) H) (hH : H ≤ 40000) (hi : i + 6 ≤ eL E) (hE : eL E ≤ 3072) (kk : ∀ S2, INV S2 (mp S2) (H + 60) → V E RL nm cL_law 4 (some .boolean) 11 0 0 Qa 68 (hpS S2) 1372 (lwL i) []) : V E RL nm cL_law 4 (some .boolean) 11 0 0 Qa 68 (hpS S) 1300 (lwL i) [] := by
  refine V_aload_n (pc := 1300) (i := 1) dL_law_1300 rfl rfl ?_
  refine k_X11_undo (pc := 1301) lV_L_160 dL_law_1301 (by decide) (Nat.le_of_ble_eq_true rfl) rfl (okBk (c_undo hI)) (fun x S2 hc => ?_)
  obtain ⟨n, h, zn, z0, zw, zs, z1, zh, zS, zT⟩ := fx hI (okS hc).2.2
  refine V_aload_n (pc := 1304) (i := 2) dL_law_1304 rfl rfl ?_
  refine k_X12_undo (pc := 1305) lV_L_163 dL_law_1305 (by decide) (Nat.le_of_ble_eq_true rfl) rfl (okBk (m_undo)) (fun y S3 hm => ?_)
  obtain ⟨he, hI3⟩ := comb (okS hc) (okS hm)
  exact V_icmp_eq (pc := 1308) (tgt := 1372) dL_law_1308 (by decide) (fun _ => kk S3 (hI3.mono (by omega))) (fun h => absurd he h)
theorem L_c36 {E : vEnv} {nm : String} {Qa : Option Value → Nat → (Nat → AC) → Prop} {S : Mem} {H i : Nat} (hI : INV S (mp S) H) (hH : H ≤ 40000) (hi : i + 6 ≤ eL E) (hE : eL E ≤ 3072) (kk : ∀ S2, INV S2 (mp S2) (H + 60) → V E RL nm cL_law 4 (some .boolean) 11 0 0 Qa 68 (hpS S2) 1372 (lwL i) []) : V E RL nm cL_law 4 (some .boolean) 11 0 0 Qa 68 (hpS S) 1313 (lwL i) [] := by
  refine V_aload_n (pc := 1313) (i := 1) dL_law_1313 rfl rfl ?_
  refine k_X11_tear (pc := 1314) lV_L_164 dL_law_1314 (by decide) (Nat.le_of_ble_eq_true rfl) rfl (okBk (c_tear hI)) (fun x S2 hc => ?_)
  obtain ⟨n, h, zn, z0, zw, zs, z1, zh, zS, zT⟩ := fx hI (okS hc).2.2
  refine V_aload_n (pc := 1317) (i := 2) dL_law_1317 rfl rfl ?_
  refine k_X12_tear (pc := 1318) lV_L_167 dL_law_1318 (by decide) (Nat.le_of_ble_eq_true rfl) rfl (okBk (m_tear)) (fun y S3 hm => ?_)
  obtain ⟨he, hI3⟩ := comb (okS hc) (okS hm)
  exact V_icmp_eq (pc := 1321) (tgt := 1372) dL_law_1321 (by decide) (fun _ => kk S3 (hI3.mono (by omega))) (fun h => absurd he h)
theorem L_c37 {E : vEnv} {nm : String} {Qa : Option Value → Nat → (Nat → AC) → Prop} {S : Mem} {H i : Nat} (hI : INV S (mp S) H) (hH : H ≤ 40000) (hi : i + 6 ≤ eL E) (hE : eL E ≤ 3072) (kk : ∀ S2, INV S2 (mp S2) (H + 60) → V E RL nm cL_law 4 (some .boolean) 11 0 0 Qa 68 (hpS S2) 1372 (lwL i) []) : V E RL nm cL_law 4 (some .boolean) 11 0 0 Qa 68 (hpS S) 1326 (lwL i) [] := by
  have hx := in_x hi hE
  refine V_aload_n (pc := 1326) (i := 1) dL_law_1326 rfl rfl ?_
  refine V_aload_n (pc := 1327) (i := 0) dL_law_1327 rfl rfl ?_
  refine V_iload_n (pc := 1328) (i := 3) dL_law_1328 rfl rfl ?_
  refine V_iconst (pc := 1329) (v := 1) dL_law_1329 (by decide) ?_
  refine V_iadd (pc := 1330) dL_law_1330 ?_
  refine V_sld (pc := 1331) (hx 1 (by decide)) dL_law_1331 ?_
  refine k_X11_count (pc := 1332) lV_L_168 dL_law_1332 (by decide) (Nat.le_of_ble_eq_true rfl) rfl (okBk (c_count hI)) (fun x S2 hc => ?_)
  obtain ⟨n, h, zn, z0, zw, zs, z1, zh, zS, zT⟩ := fx hI (okS hc).2.2
  refine V_aload_n (pc := 1335) (i := 2) dL_law_1335 rfl rfl ?_
  refine V_aload_n (pc := 1336) (i := 0) dL_law_1336 rfl rfl ?_
  refine V_iload_n (pc := 1337) (i := 3) dL_law_1337 rfl rfl ?_
  refine V_iconst (pc := 1338) (v := 1) dL_law_1338 (by decide) ?_
  refine V_iadd (pc := 1339) dL_law_1339 ?_
  refine V_sld (pc := 1340) (hx 1 (by decide)) dL_law_1340 ?_
  refine k_X12_count (pc := 1341) lV_L_171 dL_law_1341 (by decide) (Nat.le_of_ble_eq_true rfl) rfl (okBk (m_count z0 zn zs)) (fun y S3 hm => ?_)
  obtain ⟨he, hI3⟩ := comb (okS hc) (okS hm)
  exact V_icmp_eq (pc := 1344) (tgt := 1372) dL_law_1344 (by decide) (fun _ => kk S3 (hI3.mono (by omega))) (fun h => absurd he h)
theorem L_c38 {E : vEnv} {nm : String} {Qa : Option Value → Nat → (Nat → AC) → Prop} {S : Mem} {H i : Nat} (hI : INV S (mp S) H) (hH : H ≤ 40000) (hi : i + 6 ≤ eL E) (hE : eL E ≤ 3072) (kk : ∀ S2, INV S2 (mp S2) (H + 60) → V E RL nm cL_law 4 (some .boolean) 11 0 0 Qa 68 (hpS S2) 1372 (lwL i) []) : V E RL nm cL_law 4 (some .boolean) 11 0 0 Qa 68 (hpS S) 1349 (lwL i) [] := by
  have hx := in_x hi hE
  refine V_aload_n (pc := 1349) (i := 1) dL_law_1349 rfl rfl ?_
  refine V_aload_n (pc := 1350) (i := 0) dL_law_1350 rfl rfl ?_
  refine V_iload_n (pc := 1351) (i := 3) dL_law_1351 rfl rfl ?_
  refine V_iconst (pc := 1352) (v := 1) dL_law_1352 (by decide) ?_
  refine V_iadd (pc := 1353) dL_law_1353 ?_
  refine V_sld (pc := 1354) (hx 1 (by decide)) dL_law_1354 ?_
  refine k_X11_status (pc := 1355) lV_L_172 dL_law_1355 (by decide) (Nat.le_of_ble_eq_true rfl) rfl (okBk (c_status hI)) (fun x S2 hc => ?_)
  obtain ⟨n, h, zn, z0, zw, zs, z1, zh, zS, zT⟩ := fx hI (okS hc).2.2
  refine V_aload_n (pc := 1358) (i := 2) dL_law_1358 rfl rfl ?_
  refine V_aload_n (pc := 1359) (i := 0) dL_law_1359 rfl rfl ?_
  refine V_iload_n (pc := 1360) (i := 3) dL_law_1360 rfl rfl ?_
  refine V_iconst (pc := 1361) (v := 1) dL_law_1361 (by decide) ?_
  refine V_iadd (pc := 1362) dL_law_1362 ?_
  refine V_sld (pc := 1363) (hx 1 (by decide)) dL_law_1363 ?_
  refine k_X12_status (pc := 1364) lV_L_175 dL_law_1364 (by decide) (Nat.le_of_ble_eq_true rfl) rfl (okBk (m_status)) (fun y S3 hm => ?_)
  obtain ⟨he, hI3⟩ := comb (okS hc) (okS hm)
  exact V_icmp_eq (pc := 1367) (tgt := 1372) dL_law_1367 (by decide) (fun _ => kk S3 (hI3.mono (by omega))) (fun h => absurd he h)
