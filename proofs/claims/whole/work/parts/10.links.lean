theorem wd_175 : (Jvm.Cond.lays "SmokeHome$Fire" "SmokeHome$Fire" "kind" "I") ∈ tb := zl_mem 175 (by decide +kernel) (by rfl)
theorem wd_177 : (Jvm.Cond.lays "SmokeHome$Fire" "SmokeHome$Fire" "chimney" "I") ∈ tb := zl_mem 177 (by decide +kernel) (by rfl)
theorem wd_179 : (Jvm.Cond.lays "SmokeHome$Fire" "SmokeHome$Fire" "home" "I") ∈ tb := zl_mem 179 (by decide +kernel) (by rfl)
theorem wd_181 : (Jvm.Cond.lays "SmokeHome$Fire" "SmokeHome$Fire" "logs" "I") ∈ tb := zl_mem 181 (by decide +kernel) (by rfl)
theorem wd_183 : (Jvm.Cond.lays "SmokeHome$Fire" "SmokeHome$Fire" "at" "I") ∈ tb := zl_mem 183 (by decide +kernel) (by rfl)
theorem wd_185 : (Jvm.Cond.lays "SmokeHome$Fire" "SmokeHome$Fire" "much" "I") ∈ tb := zl_mem 185 (by decide +kernel) (by rfl)
theorem wd_187 : (Jvm.Cond.lays "SmokeHome$Fire" "SmokeHome$Fire" "waited" "I") ∈ tb := zl_mem 187 (by decide +kernel) (by rfl)
theorem wd_189 : (Jvm.Cond.lays "SmokeHome$Fire" "SmokeHome$Fire" "began" "I") ∈ tb := zl_mem 189 (by decide +kernel) (by rfl)
theorem wd_213 : (Jvm.Cond.laysFinal "SmokeHome$Town" "SmokeHome$Town" "types" "[LSmokeHome$Kind;") ∈ tb := zl_mem 213 (by decide +kernel) (by rfl)
theorem wd_215 : (Jvm.Cond.laysFinal "SmokeHome$Town" "SmokeHome$Town" "woods" "[I") ∈ tb := zl_mem 215 (by decide +kernel) (by rfl)
theorem wd_217 : (Jvm.Cond.laysFinal "SmokeHome$Town" "SmokeHome$Town" "fires" "[LSmokeHome$Fire;") ∈ tb := zl_mem 217 (by decide +kernel) (by rfl)
theorem wd_219 : (Jvm.Cond.laysFinal "SmokeHome$Town" "SmokeHome$Town" "spots" "[I") ∈ tb := zl_mem 219 (by decide +kernel) (by rfl)
theorem wd_221 : (Jvm.Cond.lays "SmokeHome$Town" "SmokeHome$Town" "lit" "I") ∈ tb := zl_mem 221 (by decide +kernel) (by rfl)
theorem wd_223 : (Jvm.Cond.lays "SmokeHome$Town" "SmokeHome$Town" "blows" "I") ∈ tb := zl_mem 223 (by decide +kernel) (by rfl)
theorem wd_225 : (Jvm.Cond.lays "SmokeHome$Town" "SmokeHome$Town" "crossed" "I") ∈ tb := zl_mem 225 (by decide +kernel) (by rfl)
theorem wd_227 : (Jvm.Cond.lays "SmokeHome$Town" "SmokeHome$Town" "hour" "I") ∈ tb := zl_mem 227 (by decide +kernel) (by rfl)
theorem wd_229 : (Jvm.Cond.lays "SmokeHome$Town" "SmokeHome$Town" "z" "I") ∈ tb := zl_mem 229 (by decide +kernel) (by rfl)
theorem wd_245 : (Jvm.Cond.laysFinal "SmokeHome$Reader" "SmokeHome$Reader" "tape" "[B") ∈ tb := zl_mem 245 (by decide +kernel) (by rfl)
theorem wd_247 : (Jvm.Cond.lays "SmokeHome$Reader" "SmokeHome$Reader" "size" "I") ∈ tb := zl_mem 247 (by decide +kernel) (by rfl)
theorem wd_249 : (Jvm.Cond.lays "SmokeHome$Reader" "SmokeHome$Reader" "token" "I") ∈ tb := zl_mem 249 (by decide +kernel) (by rfl)
theorem wd_251 : (Jvm.Cond.lays "SmokeHome$Reader" "SmokeHome$Reader" "start" "I") ∈ tb := zl_mem 251 (by decide +kernel) (by rfl)
theorem wd_253 : (Jvm.Cond.lays "SmokeHome$Reader" "SmokeHome$Reader" "next" "I") ∈ tb := zl_mem 253 (by decide +kernel) (by rfl)
theorem wd_255 : (Jvm.Cond.lays "SmokeHome$Reader" "SmokeHome$Reader" "number" "I") ∈ tb := zl_mem 255 (by decide +kernel) (by rfl)
theorem wd_272 : (Jvm.Cond.laysFinal "SmokeHome$Sheet" "SmokeHome$Sheet" "numbers" "[I") ∈ tb := zl_mem 272 (by decide +kernel) (by rfl)
theorem wd_274 : (Jvm.Cond.lays "SmokeHome$Sheet" "SmokeHome$Sheet" "bits" "I") ∈ tb := zl_mem 274 (by decide +kernel) (by rfl)
theorem wd_276 : (Jvm.Cond.lays "SmokeHome$Sheet" "SmokeHome$Sheet" "size" "I") ∈ tb := zl_mem 276 (by decide +kernel) (by rfl)
theorem wd_286 : (Jvm.Cond.laysFinal "SmokeHome" "SmokeHome" "town" "LSmokeHome$Town;") ∈ tb := zl_mem 286 (by decide +kernel) (by rfl)
theorem wd_288 : (Jvm.Cond.laysFinal "SmokeHome" "SmokeHome" "trial" "LSmokeHome$Town;") ∈ tb := zl_mem 288 (by decide +kernel) (by rfl)
theorem wd_290 : (Jvm.Cond.laysFinal "SmokeHome" "SmokeHome" "kept" "LSmokeHome$Town;") ∈ tb := zl_mem 290 (by decide +kernel) (by rfl)
theorem wd_292 : (Jvm.Cond.laysFinal "SmokeHome" "SmokeHome" "reader" "LSmokeHome$Reader;") ∈ tb := zl_mem 292 (by decide +kernel) (by rfl)
theorem wd_294 : (Jvm.Cond.laysFinal "SmokeHome" "SmokeHome" "sheets" "[LSmokeHome$Sheet;") ∈ tb := zl_mem 294 (by decide +kernel) (by rfl)
theorem wd_296 : (Jvm.Cond.laysFinal "SmokeHome" "SmokeHome" "findings" "[I") ∈ tb := zl_mem 296 (by decide +kernel) (by rfl)
theorem wd_298 : (Jvm.Cond.lays "SmokeHome" "SmokeHome" "isKept" "Z") ∈ tb := zl_mem 298 (by decide +kernel) (by rfl)
theorem wd_911 : (Jvm.Cond.laysFinal "SmokeHomeModel" "SmokeHomeModel" "s" "[I") ∈ tb := zl_mem 911 (by decide +kernel) (by rfl)
theorem wd_913 : (Jvm.Cond.laysFinal "SmokeHomeModel" "SmokeHomeModel" "kept" "[I") ∈ tb := zl_mem 913 (by decide +kernel) (by rfl)
theorem wd_915 : (Jvm.Cond.laysFinal "SmokeHomeModel" "SmokeHomeModel" "before" "[I") ∈ tb := zl_mem 915 (by decide +kernel) (by rfl)
theorem wd_917 : (Jvm.Cond.laysFinal "SmokeHomeModel" "SmokeHomeModel" "aside" "[I") ∈ tb := zl_mem 917 (by decide +kernel) (by rfl)
theorem wd_919 : (Jvm.Cond.lays "SmokeHomeModel" "SmokeHomeModel" "isKept" "Z") ∈ tb := zl_mem 919 (by decide +kernel) (by rfl)
theorem wd_921 : (Jvm.Cond.laysFinal "SmokeHomeModel" "SmokeHomeModel" "findings" "[I") ∈ tb := zl_mem 921 (by decide +kernel) (by rfl)
theorem wd_923 : (Jvm.Cond.laysFinal "SmokeHomeModel" "SmokeHomeModel" "tape" "[I") ∈ tb := zl_mem 923 (by decide +kernel) (by rfl)
theorem wd_925 : (Jvm.Cond.lays "SmokeHomeModel" "SmokeHomeModel" "taped" "I") ∈ tb := zl_mem 925 (by decide +kernel) (by rfl)
theorem wd_927 : (Jvm.Cond.laysFinal "SmokeHomeModel" "SmokeHomeModel" "bitsOf" "[I") ∈ tb := zl_mem 927 (by decide +kernel) (by rfl)
theorem wd_929 : (Jvm.Cond.laysFinal "SmokeHomeModel" "SmokeHomeModel" "sizes" "[I") ∈ tb := zl_mem 929 (by decide +kernel) (by rfl)
theorem wd_931 : (Jvm.Cond.laysFinal "SmokeHomeModel" "SmokeHomeModel" "numbers" "[I") ∈ tb := zl_mem 931 (by decide +kernel) (by rfl)
theorem wd_933 : (Jvm.Cond.laysFinal "SmokeHomeModel" "SmokeHomeModel" "began" "[I") ∈ tb := zl_mem 933 (by decide +kernel) (by rfl)
theorem wd_935 : (Jvm.Cond.lays "SmokeHomeModel" "SmokeHomeModel" "token" "I") ∈ tb := zl_mem 935 (by decide +kernel) (by rfl)
theorem wd_937 : (Jvm.Cond.lays "SmokeHomeModel" "SmokeHomeModel" "from" "I") ∈ tb := zl_mem 937 (by decide +kernel) (by rfl)
theorem wd_939 : (Jvm.Cond.lays "SmokeHomeModel" "SmokeHomeModel" "to" "I") ∈ tb := zl_mem 939 (by decide +kernel) (by rfl)
theorem wd_941 : (Jvm.Cond.lays "SmokeHomeModel" "SmokeHomeModel" "value" "I") ∈ tb := zl_mem 941 (by decide +kernel) (by rfl)
theorem wd_943 : (Jvm.Cond.lays "SmokeHomeModel" "SmokeHomeModel" "faultAt" "I") ∈ tb := zl_mem 943 (by decide +kernel) (by rfl)
theorem bp_7 : (Int8.ofInt 7).toInt32 = 7 := by decide
theorem bp_30 : (Int8.ofInt 30).toInt32 = 30 := by decide
theorem ic_1 : Int32.ofInt 1 = 1 := by decide
theorem ic_0 : Int32.ofInt 0 = 0 := by decide
theorem bp_96 : (Int8.ofInt 96).toInt32 = 96 := by decide
theorem ic_2 : Int32.ofInt 2 = 2 := by decide
theorem bp_10 : (Int8.ofInt 10).toInt32 = 10 := by decide
theorem ic_3 : Int32.ofInt 3 = 3 := by decide
theorem ic_5 : Int32.ofInt 5 = 5 := by decide
theorem sp_999 : (Int16.ofInt 999).toInt32 = 999 := by decide
theorem ic_4 : Int32.ofInt 4 = 4 := by decide
theorem bp_20 : (Int8.ofInt 20).toInt32 = 20 := by decide
theorem bp_6 : (Int8.ofInt 6).toInt32 = 6 := by decide
theorem sp_9999 : (Int16.ofInt 9999).toInt32 = 9999 := by decide
theorem ic_m1 : Int32.ofInt (-1) = (-1) := by decide
theorem lc_0 : Int64.ofNat ((0 : Fin 2) : Nat) = 0 := by decide
theorem bp_86 : (Int8.ofInt 86).toInt32 = 86 := by decide
theorem bp_25 : (Int8.ofInt 25).toInt32 = 25 := by decide
theorem sp_10000 : (Int16.ofInt 10000).toInt32 = 10000 := by decide
theorem bp_24 : (Int8.ofInt 24).toInt32 = 24 := by decide
theorem bp_50 : (Int8.ofInt 50).toInt32 = 50 := by decide
theorem bp_40 : (Int8.ofInt 40).toInt32 = 40 := by decide
theorem bp_100 : (Int8.ofInt 100).toInt32 = 100 := by decide
theorem bp_8 : (Int8.ofInt 8).toInt32 = 8 := by decide
theorem sp_12345 : (Int16.ofInt 12345).toInt32 = 12345 := by decide
theorem sp_255 : (Int16.ofInt 255).toInt32 = 255 := by decide
theorem bp_120 : (Int8.ofInt 120).toInt32 = 120 := by decide
theorem lc_1 : Int64.ofNat ((1 : Fin 2) : Nat) = 1 := by decide
theorem bp_57 : (Int8.ofInt 57).toInt32 = 57 := by decide
theorem bp_48 : (Int8.ofInt 48).toInt32 = 48 := by decide
theorem bp_122 : (Int8.ofInt 122).toInt32 = 122 := by decide
theorem bp_97 : (Int8.ofInt 97).toInt32 = 97 := by decide
theorem bp_32 : (Int8.ofInt 32).toInt32 = 32 := by decide
theorem bp_59 : (Int8.ofInt 59).toInt32 = 59 := by decide
theorem bp_115 : (Int8.ofInt 115).toInt32 = 115 := by decide
theorem bp_103 : (Int8.ofInt 103).toInt32 = 103 := by decide
theorem bp_111 : (Int8.ofInt 111).toInt32 = 111 := by decide
theorem bp_108 : (Int8.ofInt 108).toInt32 = 108 := by decide
theorem bp_101 : (Int8.ofInt 101).toInt32 = 101 := by decide
theorem bp_109 : (Int8.ofInt 109).toInt32 = 109 := by decide
theorem bp_104 : (Int8.ofInt 104).toInt32 = 104 := by decide
theorem bp_116 : (Int8.ofInt 116).toInt32 = 116 := by decide
theorem bp_98 : (Int8.ofInt 98).toInt32 = 98 := by decide
theorem bp_110 : (Int8.ofInt 110).toInt32 = 110 := by decide
theorem bp_105 : (Int8.ofInt 105).toInt32 = 105 := by decide
theorem bp_114 : (Int8.ofInt 114).toInt32 = 114 := by decide
theorem bp_102 : (Int8.ofInt 102).toInt32 = 102 := by decide
theorem bp_106 : (Int8.ofInt 106).toInt32 = 106 := by decide
theorem bp_112 : (Int8.ofInt 112).toInt32 = 112 := by decide
theorem bp_118 : (Int8.ofInt 118).toInt32 = 118 := by decide
theorem bp_119 : (Int8.ofInt 119).toInt32 = 119 := by decide
theorem sp_200 : (Int16.ofInt 200).toInt32 = 200 := by decide
theorem bp_16 : (Int8.ofInt 16).toInt32 = 16 := by decide
theorem bp_63 : (Int8.ofInt 63).toInt32 = 63 := by decide
theorem bp_9 : (Int8.ofInt 9).toInt32 = 9 := by decide
theorem bp_60 : (Int8.ofInt 60).toInt32 = 60 := by decide
theorem bp_26 : (Int8.ofInt 26).toInt32 = 26 := by decide
theorem wsin_0 : ∀ w ∈ u_ws RX0 TX0 0, w ∈ tb := by
  intro w hw
  obtain ⟨k, hk, rfl⟩ := List.mem_map.mp hw
  have hk := List.mem_range.mp hk
  match k, hk with
  | n + 0, h => exact absurd h (by omega)

theorem wsin_1 : ∀ w ∈ u_ws RX1 TX1 8, w ∈ tb := by
  intro w hw
  obtain ⟨k, hk, rfl⟩ := List.mem_map.mp hw
  have hk := List.mem_range.mp hk
  match k, hk with
  | 0, _ => exact wd_175
  | 1, _ => exact wd_177
  | 2, _ => exact wd_179
  | 3, _ => exact wd_181
  | 4, _ => exact wd_183
  | 5, _ => exact wd_185
  | 6, _ => exact wd_187
  | 7, _ => exact wd_189
  | n + 8, h => exact absurd h (by omega)

theorem wsin_2 : ∀ w ∈ u_ws RX2 TX2 0, w ∈ tb := by
  intro w hw
  obtain ⟨k, hk, rfl⟩ := List.mem_map.mp hw
  have hk := List.mem_range.mp hk
  match k, hk with
  | n + 0, h => exact absurd h (by omega)

theorem wsin_3 : ∀ w ∈ u_ws RX3 TX3 0, w ∈ tb := by
  intro w hw
  obtain ⟨k, hk, rfl⟩ := List.mem_map.mp hw
  have hk := List.mem_range.mp hk
  match k, hk with
  | n + 0, h => exact absurd h (by omega)

theorem wsin_4 : ∀ w ∈ u_ws RX4 TX4 0, w ∈ tb := by
  intro w hw
  obtain ⟨k, hk, rfl⟩ := List.mem_map.mp hw
  have hk := List.mem_range.mp hk
  match k, hk with
  | n + 0, h => exact absurd h (by omega)

theorem wsin_5 : ∀ w ∈ u_ws RX5 TX5 0, w ∈ tb := by
  intro w hw
  obtain ⟨k, hk, rfl⟩ := List.mem_map.mp hw
  have hk := List.mem_range.mp hk
  match k, hk with
  | n + 0, h => exact absurd h (by omega)

theorem wsin_6 : ∀ w ∈ u_ws RX6 TX6 0, w ∈ tb := by
  intro w hw
  obtain ⟨k, hk, rfl⟩ := List.mem_map.mp hw
  have hk := List.mem_range.mp hk
  match k, hk with
  | n + 0, h => exact absurd h (by omega)

theorem wsin_7 : ∀ w ∈ u_ws RX7 TX7 6, w ∈ tb := by
  intro w hw
  obtain ⟨k, hk, rfl⟩ := List.mem_map.mp hw
  have hk := List.mem_range.mp hk
  match k, hk with
  | 0, _ => exact wd_245
  | 1, _ => exact wd_247
  | 2, _ => exact wd_249
  | 3, _ => exact wd_251
  | 4, _ => exact wd_253
  | 5, _ => exact wd_255
  | n + 6, h => exact absurd h (by omega)

theorem wsin_8 : ∀ w ∈ u_ws RX8 TX8 3, w ∈ tb := by
  intro w hw
  obtain ⟨k, hk, rfl⟩ := List.mem_map.mp hw
  have hk := List.mem_range.mp hk
  match k, hk with
  | 0, _ => exact wd_272
  | 1, _ => exact wd_274
  | 2, _ => exact wd_276
  | n + 3, h => exact absurd h (by omega)

theorem wsin_9 : ∀ w ∈ u_ws RX9 TX9 0, w ∈ tb := by
  intro w hw
  obtain ⟨k, hk, rfl⟩ := List.mem_map.mp hw
  have hk := List.mem_range.mp hk
  match k, hk with
  | n + 0, h => exact absurd h (by omega)

theorem wsin_10 : ∀ w ∈ u_ws RX10 TX10 9, w ∈ tb := by
  intro w hw
  obtain ⟨k, hk, rfl⟩ := List.mem_map.mp hw
  have hk := List.mem_range.mp hk
  match k, hk with
  | 0, _ => exact wd_213
  | 1, _ => exact wd_215
  | 2, _ => exact wd_217
  | 3, _ => exact wd_219
  | 4, _ => exact wd_221
  | 5, _ => exact wd_223
  | 6, _ => exact wd_225
  | 7, _ => exact wd_227
  | 8, _ => exact wd_229
  | n + 9, h => exact absurd h (by omega)

theorem wsin_11 : ∀ w ∈ u_ws RX11 TX11 7, w ∈ tb := by
  intro w hw
  obtain ⟨k, hk, rfl⟩ := List.mem_map.mp hw
  have hk := List.mem_range.mp hk
  match k, hk with
  | 0, _ => exact wd_286
  | 1, _ => exact wd_288
  | 2, _ => exact wd_290
  | 3, _ => exact wd_292
  | 4, _ => exact wd_294
  | 5, _ => exact wd_296
  | 6, _ => exact wd_298
  | n + 7, h => exact absurd h (by omega)

theorem wsin_12 : ∀ w ∈ u_ws RX12 TX12 17, w ∈ tb := by
  intro w hw
  obtain ⟨k, hk, rfl⟩ := List.mem_map.mp hw
  have hk := List.mem_range.mp hk
  match k, hk with
  | 0, _ => exact wd_911
  | 1, _ => exact wd_913
  | 2, _ => exact wd_915
  | 3, _ => exact wd_917
  | 4, _ => exact wd_919
  | 5, _ => exact wd_921
  | 6, _ => exact wd_923
  | 7, _ => exact wd_925
  | 8, _ => exact wd_927
  | 9, _ => exact wd_929
  | 10, _ => exact wd_931
  | 11, _ => exact wd_933
  | 12, _ => exact wd_935
  | 13, _ => exact wd_937
  | 14, _ => exact wd_939
  | 15, _ => exact wd_941
  | 16, _ => exact wd_943
  | n + 17, h => exact absurd h (by omega)

theorem lF_RX12_22 : vFL RX12 22 12 5 := ⟨RX12, TX12, 17, rfl, by decide, wd_899, wsin_12⟩
theorem lF_RX12_7 : vFL RX12 7 12 0 := ⟨RX12, TX12, 17, rfl, by decide, wd_894, wsin_12⟩
theorem lV_RX12_62 : vLV RX12 62 12 yX12_its cX12_its 3 (some .int) 2 := ⟨⟨TX12, _, rfl⟩, wd_971, wd_973, wd_21, wd_74, wd_974, ⟨by decide +kernel, by decide +kernel, by rfl⟩, by decide⟩
theorem lV_RX12_82 : vLV RX12 82 12 yX12_burns cX12_burns 2 (some .int) 1 := ⟨⟨TX12, _, rfl⟩, wd_1002, wd_1004, wd_24, wd_74, wd_1005, ⟨by decide +kernel, by decide +kernel, by rfl⟩, by decide⟩
theorem lS_RX12_94 : vLS RX12 94 yX12_least cX12_least 2 (some .int) 2 := ⟨wd_1039, wd_1040, wd_74, wd_1041, ⟨by decide +kernel, by decide +kernel, by rfl⟩, by decide⟩
theorem lS_RX12_67 : vLS RX12 67 yX12_at cX12_at 2 (some .int) 2 := ⟨wd_990, wd_991, wd_74, wd_992, ⟨by decide +kernel, by decide +kernel, by rfl⟩, by decide⟩
theorem lF_RX12_37 : vFL RX12 37 12 11 := ⟨RX12, TX12, 17, rfl, by decide, wd_905, wsin_12⟩
theorem lV_RX12_97 : vLV RX12 97 12 yX12_wayFrom cX12_wayFrom 10 (some .int) 2 := ⟨⟨TX12, _, rfl⟩, wd_1046, wd_1048, wd_30, wd_74, wd_1049, ⟨by decide +kernel, by decide +kernel, by rfl⟩, by decide⟩
theorem lS_RX12_100 : vLS RX12 100 yX12_otherWay cX12_otherWay 1 (some .int) 1 := ⟨wd_1050, wd_1051, wd_74, wd_1052, ⟨by decide +kernel, by decide +kernel, by rfl⟩, by decide⟩
theorem lS_RX12_106 : vLS RX12 106 yX12_on cX12_on 2 (some .int) 2 := ⟨wd_1057, wd_1058, wd_74, wd_1059, ⟨by decide +kernel, by decide +kernel, by rfl⟩, by decide⟩
theorem lV_RX12_103 : vLV RX12 103 12 yX12_bears cX12_bears 2 (some .boolean) 1 := ⟨⟨TX12, _, rfl⟩, wd_1053, wd_1055, wd_31, wd_74, wd_1056, ⟨by decide +kernel, by decide +kernel, by rfl⟩, by decide⟩
theorem lV_RX12_85 : vLV RX12 85 12 yX12_steps cX12_steps 2 (some .int) 1 := ⟨⟨TX12, _, rfl⟩, wd_1006, wd_1008, wd_25, wd_74, wd_1009, ⟨by decide +kernel, by decide +kernel, by rfl⟩, by decide⟩
theorem lV_RX12_110 : vLV RX12 110 12 yX12_burnsOn cX12_burnsOn 3 none 1 := ⟨⟨TX12, _, rfl⟩, wd_1035, wd_1037, wd_28, wd_74, wd_1038, ⟨by decide +kernel, by decide +kernel, by rfl⟩, by decide⟩
theorem lV_RX12_114 : vLV RX12 114 12 yX12_goesHome cX12_goesHome 4 none 1 := ⟨⟨TX12, _, rfl⟩, wd_1042, wd_1044, wd_29, wd_74, wd_1045, ⟨by decide +kernel, by decide +kernel, by rfl⟩, by decide⟩
theorem lV_RX12_117 : vLV RX12 117 12 yX12_cross cX12_cross 6 none 2 := ⟨⟨TX12, _, rfl⟩, wd_1060, wd_1062, wd_32, wd_74, wd_1063, ⟨by decide +kernel, by decide +kernel, by rfl⟩, by decide⟩
theorem lV_RX12_121 : vLV RX12 121 12 yX12_settles cX12_settles 3 none 1 := ⟨⟨TX12, _, rfl⟩, wd_1064, wd_1066, wd_33, wd_74, wd_1067, ⟨by decide +kernel, by decide +kernel, by rfl⟩, by decide⟩
theorem lV_RX12_124 : vLV RX12 124 12 yX12_hour cX12_hour 3 none 0 := ⟨⟨TX12, _, rfl⟩, wd_1031, wd_1033, wd_27, wd_74, wd_1034, ⟨by decide +kernel, by decide +kernel, by rfl⟩, by decide⟩
theorem lF_RX12_19 : vFL RX12 19 12 3 := ⟨RX12, TX12, 17, rfl, by decide, wd_897, wsin_12⟩
theorem lS_RX12_146 : vLS RX12 146 yX12_copyRow cX12_copyRow 3 none 2 := ⟨wd_1097, wd_1098, wd_74, wd_1099, ⟨by decide +kernel, by decide +kernel, by rfl⟩, by decide⟩
theorem lV_RX12_130 : vLV RX12 130 12 yX12_goes cX12_goes 3 none 1 := ⟨⟨TX12, _, rfl⟩, wd_1027, wd_1029, wd_26, wd_74, wd_1030, ⟨by decide +kernel, by decide +kernel, by rfl⟩, by decide⟩
theorem lV_RX12_77 : vLV RX12 77 12 yX12_isFire cX12_isFire 2 (some .boolean) 1 := ⟨⟨TX12, _, rfl⟩, wd_997, wd_999, wd_23, wd_74, wd_1000, ⟨by decide +kernel, by decide +kernel, by rfl⟩, by decide⟩
theorem lV_RX12_42 : vLV RX12 42 12 yX12_finds cX12_finds 2 (some .int) 1 := ⟨⟨TX12, _, rfl⟩, wd_962, wd_964, wd_20, wd_74, wd_965, ⟨by decide +kernel, by decide +kernel, by rfl⟩, by decide⟩
theorem lS_RX12_52 : vLS RX12 52 yX12_isIn cX12_isIn 6 (some .boolean) 3 := ⟨wd_954, wd_955, wd_74, wd_956, ⟨by decide +kernel, by decide +kernel, by rfl⟩, by decide⟩
theorem lV_RX12_152 : vLV RX12 152 12 yX12_thenAt cX12_thenAt 4 (some .int) 2 := ⟨⟨TX12, _, rfl⟩, wd_1093, wd_1095, wd_38, wd_74, wd_1096, ⟨by decide +kernel, by decide +kernel, by rfl⟩, by decide⟩
theorem lS_RX12_269 : vLS RX12 269 yX12_isUnder cX12_isUnder 2 (some .boolean) 2 := ⟨wd_1290, wd_1291, wd_74, wd_1292, ⟨by decide +kernel, by decide +kernel, by rfl⟩, by decide⟩
theorem lV_RX12_166 : vLV RX12 166 12 yX12_isAsked cX12_isAsked 3 (some .boolean) 2 := ⟨⟨TX12, _, rfl⟩, wd_1137, wd_1139, wd_41, wd_74, wd_1140, ⟨by decide +kernel, by decide +kernel, by rfl⟩, by decide⟩
theorem lF_RX12_196 : vFL RX12 196 12 7 := ⟨RX12, TX12, 17, rfl, by decide, wd_901, wsin_12⟩
theorem lF_RX12_25 : vFL RX12 25 12 6 := ⟨RX12, TX12, 17, rfl, by decide, wd_900, wsin_12⟩
theorem lS_RX12_46 : vLS RX12 46 yX12_isCell cX12_isCell 1 (some .boolean) 1 := ⟨wd_950, wd_951, wd_74, wd_952, ⟨by decide +kernel, by decide +kernel, by rfl⟩, by decide⟩
theorem lV_RX12_56 : vLV RX12 56 12 yX12_becomes cX12_becomes 4 (some .int) 2 := ⟨⟨TX12, _, rfl⟩, wd_957, wd_959, wd_19, wd_74, wd_960, ⟨by decide +kernel, by decide +kernel, by rfl⟩, by decide⟩
theorem lS_RX12_91 : vLS RX12 91 yX12_greatestOf cX12_greatestOf 1 (some .int) 1 := ⟨wd_1017, wd_1018, wd_74, wd_1019, ⟨by decide +kernel, by decide +kernel, by rfl⟩, by decide⟩
theorem lS_RX12_273 : vLS RX12 273 yX12_isSheet cX12_isSheet 1 (some .boolean) 1 := ⟨wd_1177, wd_1178, wd_74, wd_1179, ⟨by decide +kernel, by decide +kernel, by rfl⟩, by decide⟩
theorem lF_RX12_28 : vFL RX12 28 12 8 := ⟨RX12, TX12, 17, rfl, by decide, wd_902, wsin_12⟩
theorem lF_RX12_31 : vFL RX12 31 12 9 := ⟨RX12, TX12, 17, rfl, by decide, wd_903, wsin_12⟩
theorem lF_RX12_34 : vFL RX12 34 12 10 := ⟨RX12, TX12, 17, rfl, by decide, wd_904, wsin_12⟩
theorem lV_RX12_178 : vLV RX12 178 12 yX12_wants cX12_wants 2 (some .int) 1 := ⟨⟨TX12, _, rfl⟩, wd_1173, wd_1175, wd_44, wd_74, wd_1176, ⟨by decide +kernel, by decide +kernel, by rfl⟩, by decide⟩
theorem lV_RX12_181 : vLV RX12 181 12 yX12_isTold cX12_isTold 6 (some .boolean) 2 := ⟨⟨TX12, _, rfl⟩, wd_1181, wd_1183, wd_45, wd_74, wd_1184, ⟨by decide +kernel, by decide +kernel, by rfl⟩, by decide⟩
theorem lV_RX12_133 : vLV RX12 133 12 yX12_woodAll cX12_woodAll 3 (some .int) 0 := ⟨⟨TX12, _, rfl⟩, wd_1068, wd_1070, wd_34, wd_74, wd_1071, ⟨by decide +kernel, by decide +kernel, by rfl⟩, by decide⟩
theorem lV_RX12_137 : vLV RX12 137 12 yX12_sumOf cX12_sumOf 4 (some .int) 1 := ⟨⟨TX12, _, rfl⟩, wd_1076, wd_1078, wd_35, wd_74, wd_1079, ⟨by decide +kernel, by decide +kernel, by rfl⟩, by decide⟩
theorem lV_RX12_155 : vLV RX12 155 12 yX12_whenMore cX12_whenMore 4 (some .int) 1 := ⟨⟨TX12, _, rfl⟩, wd_1113, wd_1115, wd_39, wd_74, wd_1116, ⟨by decide +kernel, by decide +kernel, by rfl⟩, by decide⟩
theorem lF_RX12_203 : vFL RX12 203 12 13 := ⟨RX12, TX12, 17, rfl, by decide, wd_907, wsin_12⟩
theorem lF_RX12_221 : vFL RX12 221 12 16 := ⟨RX12, TX12, 17, rfl, by decide, wd_910, wsin_12⟩
theorem lG_RX12_221 : vFP RX12 221 12 16 .int false := ⟨RX12, TX12, 17, tyX12, rfl, by decide, wd_910, wsin_12, tyX12_ok, nmX12, rfl, tyX12_ok 16 (by decide), rfl⟩
theorem lG_RX12_196 : vFP RX12 196 12 7 .int false := ⟨RX12, TX12, 17, tyX12, rfl, by decide, wd_901, wsin_12, tyX12_ok, nmX12, rfl, tyX12_ok 7 (by decide), rfl⟩
theorem lV_RX12_73 : vLV RX12 73 12 yX12_comes cX12_comes 5 none 3 := ⟨⟨TX12, _, rfl⟩, wd_986, wd_988, wd_22, wd_74, wd_989, ⟨by decide +kernel, by decide +kernel, by rfl⟩, by decide⟩
theorem lV_RX12_206 : vLV RX12 206 12 yX12_byteAt cX12_byteAt 2 (some .int) 1 := ⟨⟨TX12, _, rfl⟩, wd_1224, wd_1226, wd_48, wd_74, wd_1227, ⟨by decide +kernel, by decide +kernel, by rfl⟩, by decide⟩
theorem lF_RX12_215 : vFL RX12 215 12 12 := ⟨RX12, TX12, 17, rfl, by decide, wd_906, wsin_12⟩
theorem lF_RX12_200 : vFL RX12 200 12 14 := ⟨RX12, TX12, 17, rfl, by decide, wd_908, wsin_12⟩
theorem lV_RX12_224 : vLV RX12 224 12 yX12_isWord cX12_isWord 2 (some .boolean) 1 := ⟨⟨TX12, _, rfl⟩, wd_1246, wd_1248, wd_52, wd_74, wd_1249, ⟨by decide +kernel, by decide +kernel, by rfl⟩, by decide⟩
theorem lV_RX12_227 : vLV RX12 227 12 yX12_has3 cX12_has3 5 (some .boolean) 4 := ⟨⟨TX12, _, rfl⟩, wd_1250, wd_1252, wd_53, wd_74, wd_1253, ⟨by decide +kernel, by decide +kernel, by rfl⟩, by decide⟩
theorem lG_RX12_203 : vFP RX12 203 12 13 .int false := ⟨RX12, TX12, 17, tyX12, rfl, by decide, wd_907, wsin_12, tyX12_ok, nmX12, rfl, tyX12_ok 13 (by decide), rfl⟩
theorem lG_RX12_200 : vFP RX12 200 12 14 .int false := ⟨RX12, TX12, 17, tyX12, rfl, by decide, wd_908, wsin_12, tyX12_ok, nmX12, rfl, tyX12_ok 14 (by decide), rfl⟩
theorem lS_RX12_209 : vLS RX12 209 yX12_isLetter cX12_isLetter 1 (some .boolean) 1 := ⟨wd_1228, wd_1229, wd_74, wd_1230, ⟨by decide +kernel, by decide +kernel, by rfl⟩, by decide⟩
theorem lS_RX12_212 : vLS RX12 212 yX12_isDigit cX12_isDigit 1 (some .boolean) 1 := ⟨wd_1231, wd_1232, wd_74, wd_1233, ⟨by decide +kernel, by decide +kernel, by rfl⟩, by decide⟩
theorem lG_RX12_215 : vFP RX12 215 12 12 .int false := ⟨RX12, TX12, 17, tyX12, rfl, by decide, wd_906, wsin_12, tyX12_ok, nmX12, rfl, tyX12_ok 12 (by decide), rfl⟩
theorem lF_RX12_218 : vFL RX12 218 12 15 := ⟨RX12, TX12, 17, rfl, by decide, wd_909, wsin_12⟩
theorem lG_RX12_218 : vFP RX12 218 12 15 .int false := ⟨RX12, TX12, 17, tyX12, rfl, by decide, wd_909, wsin_12, tyX12_ok, nmX12, rfl, tyX12_ok 15 (by decide), rfl⟩
theorem lV_RX12_231 : vLV RX12 231 12 yX12_fails cX12_fails 1 (some .boolean) 0 := ⟨⟨TX12, _, rfl⟩, wd_1266, wd_1268, wd_57, wd_74, wd_1269, ⟨by decide +kernel, by decide +kernel, by rfl⟩, by decide⟩
theorem lV_RX12_246 : vLV RX12 246 12 yX12_nextToken cX12_nextToken 2 none 0 := ⟨⟨TX12, _, rfl⟩, wd_1220, wd_1222, wd_47, wd_74, wd_1223, ⟨by decide +kernel, by decide +kernel, by rfl⟩, by decide⟩
theorem lV_RX12_249 : vLV RX12 249 12 yX12_isNumber cX12_isNumber 3 (some .boolean) 2 := ⟨⟨TX12, _, rfl⟩, wd_1274, wd_1276, wd_59, wd_74, wd_1277, ⟨by decide +kernel, by decide +kernel, by rfl⟩, by decide⟩
theorem lV_RX12_252 : vLV RX12 252 12 yX12_perhaps cX12_perhaps 4 (some .boolean) 3 := ⟨⟨TX12, _, rfl⟩, wd_1270, wd_1272, wd_58, wd_74, wd_1273, ⟨by decide +kernel, by decide +kernel, by rfl⟩, by decide⟩
theorem lV_RX12_235 : vLV RX12 235 12 yX12_isFour cX12_isFour 5 (some .boolean) 4 := ⟨⟨TX12, _, rfl⟩, wd_1242, wd_1244, wd_51, wd_74, wd_1245, ⟨by decide +kernel, by decide +kernel, by rfl⟩, by decide⟩
theorem lV_RX12_184 : vLV RX12 184 12 yX12_couldBe cX12_couldBe 8 (some .int) 3 := ⟨⟨TX12, _, rfl⟩, wd_1169, wd_1171, wd_43, wd_74, wd_1172, ⟨by decide +kernel, by decide +kernel, by rfl⟩, by decide⟩
theorem lS_RX12_163 : vLS RX12 163 yX12_greatest cX12_greatest 2 (some .int) 2 := ⟨wd_1130, wd_1131, wd_74, wd_1132, ⟨by decide +kernel, by decide +kernel, by rfl⟩, by decide⟩
theorem lF_RX12_13 : vFL RX12 13 12 1 := ⟨RX12, TX12, 17, rfl, by decide, wd_895, wsin_12⟩
theorem lF_RX12_279 : vFL RX12 279 12 4 := ⟨RX12, TX12, 17, rfl, by decide, wd_898, wsin_12⟩
theorem lG_RX12_279 : vFP RX12 279 12 4 .boolean false := ⟨RX12, TX12, 17, tyX12, rfl, by decide, wd_898, wsin_12, tyX12_ok, nmX12, rfl, tyX12_ok 4 (by decide), rfl⟩
theorem lV_RX12_238 : vLV RX12 238 12 yX12_isFive cX12_isFive 6 (some .boolean) 5 := ⟨⟨TX12, _, rfl⟩, wd_1254, wd_1256, wd_54, wd_74, wd_1257, ⟨by decide +kernel, by decide +kernel, by rfl⟩, by decide⟩
theorem lV_RX12_242 : vLV RX12 242 12 yX12_isSix cX12_isSix 7 (some .boolean) 6 := ⟨⟨TX12, _, rfl⟩, wd_1258, wd_1260, wd_55, wd_74, wd_1261, ⟨by decide +kernel, by decide +kernel, by rfl⟩, by decide⟩
theorem lV_RX12_256 : vLV RX12 256 12 yX12_kindHere cX12_kindHere 1 (some .int) 0 := ⟨⟨TX12, _, rfl⟩, wd_1238, wd_1240, wd_50, wd_74, wd_1241, ⟨by decide +kernel, by decide +kernel, by rfl⟩, by decide⟩
theorem lV_RX12_262 : vLV RX12 262 12 yX12_woodHere cX12_woodHere 1 (some .boolean) 0 := ⟨⟨TX12, _, rfl⟩, wd_1278, wd_1280, wd_60, wd_74, wd_1281, ⟨by decide +kernel, by decide +kernel, by rfl⟩, by decide⟩
theorem lV_RX12_259 : vLV RX12 259 12 yX12_fireHere cX12_fireHere 3 (some .boolean) 1 := ⟨⟨TX12, _, rfl⟩, wd_1262, wd_1264, wd_56, wd_74, wd_1265, ⟨by decide +kernel, by decide +kernel, by rfl⟩, by decide⟩
theorem lV_RX12_160 : vLV RX12 160 12 yX12_woodThen cX12_woodThen 3 (some .int) 1 := ⟨⟨TX12, _, rfl⟩, wd_1126, wd_1128, wd_40, wd_74, wd_1129, ⟨by decide +kernel, by decide +kernel, by rfl⟩, by decide⟩
theorem lV_RX12_170 : vLV RX12 170 12 yX12_orNone cX12_orNone 2 (some .int) 1 := ⟨⟨TX12, _, rfl⟩, wd_1153, wd_1155, wd_42, wd_74, wd_1156, ⟨by decide +kernel, by decide +kernel, by rfl⟩, by decide⟩
theorem lV_RX12_143 : vLV RX12 143 12 yX12_smoking cX12_smoking 3 (some .int) 0 := ⟨⟨TX12, _, rfl⟩, wd_1084, wd_1086, wd_37, wd_74, wd_1087, ⟨by decide +kernel, by decide +kernel, by rfl⟩, by decide⟩
theorem lV_RX12_140 : vLV RX12 140 12 yX12_wooded cX12_wooded 3 (some .int) 0 := ⟨⟨TX12, _, rfl⟩, wd_1080, wd_1082, wd_36, wd_74, wd_1083, ⟨by decide +kernel, by decide +kernel, by rfl⟩, by decide⟩
theorem lS_RX12_88 : vLS RX12 88 yX12_far cX12_far 4 (some .int) 2 := ⟨wd_1010, wd_1011, wd_74, wd_1012, ⟨by decide +kernel, by decide +kernel, by rfl⟩, by decide⟩
theorem lS_RX12_175 : vLS RX12 175 yX12_many cX12_many 3 (some .int) 1 := ⟨wd_1162, wd_1163, wd_74, wd_1164, ⟨by decide +kernel, by decide +kernel, by rfl⟩, by decide⟩
theorem lF_RX12_16 : vFL RX12 16 12 2 := ⟨RX12, TX12, 17, rfl, by decide, wd_896, wsin_12⟩
theorem lV_RX12_265 : vLV RX12 265 12 yX12_itemHere cX12_itemHere 2 (some .boolean) 0 := ⟨⟨TX12, _, rfl⟩, wd_1234, wd_1236, wd_49, wd_74, wd_1237, ⟨by decide +kernel, by decide +kernel, by rfl⟩, by decide⟩
theorem lV_RX12_189 : vLV RX12 189 12 yX12_draw cX12_draw 1 (some .int) 0 := ⟨⟨TX12, _, rfl⟩, wd_1193, wd_1195, wd_46, wd_74, wd_1196, ⟨by decide +kernel, by decide +kernel, by rfl⟩, by decide⟩
theorem lP_RX9_7_9 : vLP RX9 7 9 yX4_burns cX4_burns 2 (some .int) 1 := ⟨⟨RX9, TX9, _, rfl⟩, wd_367, wd_360, wd_104, wd_358, wd_63, wd_379, by decide +kernel, by rfl, by decide⟩
theorem lP_RX0_7_0 : vLP RX0 7 0 yX9_burns cX9_burns 2 (some .int) 1 := ⟨⟨RX0, TX0, _, rfl⟩, wd_364, wd_1337, wd_139, wd_365, wd_64, wd_366, by decide +kernel, by rfl, by decide⟩
theorem lP_RX9_15_9 : vLP RX9 15 9 yX4_isUnder cX4_isUnder 2 (some .boolean) 1 := ⟨⟨RX9, TX9, _, rfl⟩, wd_812, wd_805, wd_104, wd_803, wd_63, wd_830, by decide +kernel, by rfl, by decide⟩
theorem lP_RX0_15_0 : vLP RX0 15 0 yX9_isUnder cX9_isUnder 2 (some .boolean) 1 := ⟨⟨RX0, TX0, _, rfl⟩, wd_809, wd_1341, wd_139, wd_810, wd_64, wd_811, by decide +kernel, by rfl, by decide⟩
theorem lP_RX9_11_9 : vLP RX9 11 9 yX4_steps cX4_steps 3 (some .int) 2 := ⟨⟨RX9, TX9, _, rfl⟩, wd_390, wd_383, wd_104, wd_381, wd_63, wd_404, by decide +kernel, by rfl, by decide⟩
theorem lP_RX0_11_0 : vLP RX0 11 0 yX9_steps cX9_steps 3 (some .int) 2 := ⟨⟨RX0, TX0, _, rfl⟩, wd_387, wd_1339, wd_139, wd_388, wd_64, wd_389, by decide +kernel, by rfl, by decide⟩
theorem lF_RX10_39 : vFL RX10 39 10 4 := ⟨RX10, TX10, 9, rfl, by decide, wd_202, wsin_10⟩
theorem lF_RX10_21 : vFL RX10 21 10 2 := ⟨RX10, TX10, 9, rfl, by decide, wd_198, wsin_10⟩
theorem lF_RX10_64 : vFL RX10 64 1 3 := ⟨RX1, TX1, 8, rfl, by decide, wd_162, wsin_1⟩
theorem lF_RX10_70 : vFL RX10 70 1 5 := ⟨RX1, TX1, 8, rfl, by decide, wd_168, wsin_1⟩
theorem lF_RX10_15 : vFL RX10 15 10 1 := ⟨RX10, TX10, 9, rfl, by decide, wd_195, wsin_10⟩
theorem lF_RX1_9 : vFL RX1 9 1 0 := ⟨RX1, TX1, 8, rfl, by decide, wd_153, wsin_1⟩
theorem lG_RX1_9 : vFP RX1 9 1 0 .int false := ⟨RX1, TX1, 8, tyX1, rfl, by decide, wd_153, wsin_1, tyX1_ok, nmX1, rfl, tyX1_ok 0 (by decide), rfl⟩
theorem lF_RX1_15 : vFL RX1 15 1 1 := ⟨RX1, TX1, 8, rfl, by decide, wd_155, wsin_1⟩
theorem lG_RX1_15 : vFP RX1 15 1 1 .int false := ⟨RX1, TX1, 8, tyX1, rfl, by decide, wd_155, wsin_1, tyX1_ok, nmX1, rfl, tyX1_ok 1 (by decide), rfl⟩
theorem lF_RX1_18 : vFL RX1 18 1 2 := ⟨RX1, TX1, 8, rfl, by decide, wd_158, wsin_1⟩
theorem lG_RX1_18 : vFP RX1 18 1 2 .int false := ⟨RX1, TX1, 8, tyX1, rfl, by decide, wd_158, wsin_1, tyX1_ok, nmX1, rfl, tyX1_ok 2 (by decide), rfl⟩
theorem lF_RX1_21 : vFL RX1 21 1 3 := ⟨RX1, TX1, 8, rfl, by decide, wd_161, wsin_1⟩
theorem lG_RX1_21 : vFP RX1 21 1 3 .int false := ⟨RX1, TX1, 8, tyX1, rfl, by decide, wd_161, wsin_1, tyX1_ok, nmX1, rfl, tyX1_ok 3 (by decide), rfl⟩
theorem lF_RX1_24 : vFL RX1 24 1 4 := ⟨RX1, TX1, 8, rfl, by decide, wd_164, wsin_1⟩
theorem lG_RX1_24 : vFP RX1 24 1 4 .int false := ⟨RX1, TX1, 8, tyX1, rfl, by decide, wd_164, wsin_1, tyX1_ok, nmX1, rfl, tyX1_ok 4 (by decide), rfl⟩
theorem lF_RX1_27 : vFL RX1 27 1 5 := ⟨RX1, TX1, 8, rfl, by decide, wd_167, wsin_1⟩
theorem lG_RX1_27 : vFP RX1 27 1 5 .int false := ⟨RX1, TX1, 8, tyX1, rfl, by decide, wd_167, wsin_1, tyX1_ok, nmX1, rfl, tyX1_ok 5 (by decide), rfl⟩
theorem lF_RX1_30 : vFL RX1 30 1 6 := ⟨RX1, TX1, 8, rfl, by decide, wd_170, wsin_1⟩
theorem lG_RX1_30 : vFP RX1 30 1 6 .int false := ⟨RX1, TX1, 8, tyX1, rfl, by decide, wd_170, wsin_1, tyX1_ok, nmX1, rfl, tyX1_ok 6 (by decide), rfl⟩
theorem lF_RX10_26 : vFL RX10 26 10 3 := ⟨RX10, TX10, 9, rfl, by decide, wd_200, wsin_10⟩
theorem lV_RX10_42 : vLV RX10 42 1 yX1_become cX1_become 2 none 1 := ⟨⟨TX1, _, rfl⟩, wd_555, wd_556, wd_557, wd_71, wd_558, ⟨by decide +kernel, by decide +kernel, by rfl⟩, by decide⟩
theorem lG_RX10_39 : vFP RX10 39 10 4 .int false := ⟨RX10, TX10, 9, tyX10, rfl, by decide, wd_202, wsin_10, tyX10_ok, nmX10, rfl, tyX10_ok 4 (by decide), rfl⟩
theorem lF_RX10_46 : vFL RX10 46 10 5 := ⟨RX10, TX10, 9, rfl, by decide, wd_204, wsin_10⟩
theorem lG_RX10_46 : vFP RX10 46 10 5 .int false := ⟨RX10, TX10, 9, tyX10, rfl, by decide, wd_204, wsin_10, tyX10_ok, nmX10, rfl, tyX10_ok 5 (by decide), rfl⟩
theorem lF_RX10_49 : vFL RX10 49 10 6 := ⟨RX10, TX10, 9, rfl, by decide, wd_207, wsin_10⟩
theorem lG_RX10_49 : vFP RX10 49 10 6 .int false := ⟨RX10, TX10, 9, tyX10, rfl, by decide, wd_207, wsin_10, tyX10_ok, nmX10, rfl, tyX10_ok 6 (by decide), rfl⟩
theorem lF_RX10_52 : vFL RX10 52 10 7 := ⟨RX10, TX10, 9, rfl, by decide, wd_209, wsin_10⟩
theorem lG_RX10_52 : vFP RX10 52 10 7 .int false := ⟨RX10, TX10, 9, tyX10, rfl, by decide, wd_209, wsin_10, tyX10_ok, nmX10, rfl, tyX10_ok 7 (by decide), rfl⟩
theorem lF_RX10_29 : vFL RX10 29 10 8 := ⟨RX10, TX10, 9, rfl, by decide, wd_211, wsin_10⟩
theorem lG_RX10_29 : vFP RX10 29 10 8 .int false := ⟨RX10, TX10, 9, tyX10, rfl, by decide, wd_211, wsin_10, tyX10_ok, nmX10, rfl, tyX10_ok 8 (by decide), rfl⟩
theorem lF_RX10_67 : vFL RX10 67 1 4 := ⟨RX1, TX1, 8, rfl, by decide, wd_165, wsin_1⟩
theorem lF_RX10_61 : vFL RX10 61 1 2 := ⟨RX1, TX1, 8, rfl, by decide, wd_159, wsin_1⟩
theorem lS_RX10_93 : vLS RX10 93 yJ9_min_7cf53 cJ9_min_7cf53 2 (some .int) 2 := ⟨wd_498, wd_451, wd_75, wd_452, ⟨by decide +kernel, by decide +kernel, by rfl⟩, by decide⟩
theorem lG_RX10_70 : vFP RX10 70 1 5 .int false := ⟨RX1, TX1, 8, tyX1, rfl, by decide, wd_168, wsin_1, tyX1_ok, nmX1, rfl, tyX1_ok 5 (by decide), rfl⟩
theorem lF_RX10_58 : vFL RX10 58 1 1 := ⟨RX1, TX1, 8, rfl, by decide, wd_156, wsin_1⟩
theorem lG_RX10_67 : vFP RX10 67 1 4 .int false := ⟨RX1, TX1, 8, tyX1, rfl, by decide, wd_165, wsin_1, tyX1_ok, nmX1, rfl, tyX1_ok 4 (by decide), rfl⟩
theorem lF_RX10_9 : vFL RX10 9 10 0 := ⟨RX10, TX10, 9, rfl, by decide, wd_193, wsin_10⟩
theorem lF_RX10_55 : vFL RX10 55 1 0 := ⟨RX1, TX1, 8, rfl, by decide, wd_154, wsin_1⟩
theorem lS_RX1_39 : vLS RX1 39 yJ9_min_7cf53 cJ9_min_7cf53 2 (some .int) 2 := ⟨wd_450, wd_451, wd_75, wd_452, ⟨by decide +kernel, by decide +kernel, by rfl⟩, by decide⟩
theorem lP_RX6_7_6 : vLP RX6 7 6 yX4_burns cX4_burns 2 (some .int) 1 := ⟨⟨RX6, TX6, _, rfl⟩, wd_375, wd_360, wd_111, wd_358, wd_63, wd_379, by decide +kernel, by rfl, by decide⟩
theorem lP_RX5_7_5 : vLP RX5 7 5 yX6_burns cX6_burns 2 (some .int) 1 := ⟨⟨RX5, TX5, _, rfl⟩, wd_372, wd_1338, wd_118, wd_373, wd_65, wd_374, by decide +kernel, by rfl, by decide⟩
theorem lV_RX10_99 : vLV RX10 99 10 yX10_kindOf cX10_kindOf 2 (some (.object "SmokeHome$Kind")) 1 := ⟨⟨TX10, _, rfl⟩, wd_444, wd_354, wd_355, wd_70, wd_356, ⟨by decide +kernel, by decide +kernel, by rfl⟩, by decide⟩
theorem lV_RX10_109 : vLV RX10 109 1 yX1_burn cX1_burn 3 none 1 := ⟨⟨TX1, _, rfl⟩, wd_446, wd_447, wd_448, wd_71, wd_449, ⟨by decide +kernel, by decide +kernel, by rfl⟩, by decide⟩
theorem lF_RX1_43 : vFL RX1 43 1 7 := ⟨RX1, TX1, 8, rfl, by decide, wd_173, wsin_1⟩
theorem lV_RX10_141 : vLV RX10 141 1 yX1_crossesWith cX1_crossesWith 2 (some .boolean) 1 := ⟨⟨TX1, _, rfl⟩, wd_507, wd_508, wd_509, wd_71, wd_510, ⟨by decide +kernel, by decide +kernel, by rfl⟩, by decide⟩
theorem lV_RX10_145 : vLV RX10 145 1 yX1_exchangeWith cX1_exchangeWith 4 none 1 := ⟨⟨TX1, _, rfl⟩, wd_511, wd_512, wd_513, wd_71, wd_514, ⟨by decide +kernel, by decide +kernel, by rfl⟩, by decide⟩
theorem lG_RX10_55 : vFP RX10 55 1 0 .int false := ⟨RX1, TX1, 8, tyX1, rfl, by decide, wd_154, wsin_1, tyX1_ok, nmX1, rfl, tyX1_ok 0 (by decide), rfl⟩
theorem lG_RX10_58 : vFP RX10 58 1 1 .int false := ⟨RX1, TX1, 8, tyX1, rfl, by decide, wd_156, wsin_1, tyX1_ok, nmX1, rfl, tyX1_ok 1 (by decide), rfl⟩
theorem lG_RX10_61 : vFP RX10 61 1 2 .int false := ⟨RX1, TX1, 8, tyX1, rfl, by decide, wd_159, wsin_1, tyX1_ok, nmX1, rfl, tyX1_ok 2 (by decide), rfl⟩
theorem lG_RX10_64 : vFP RX10 64 1 3 .int false := ⟨RX1, TX1, 8, tyX1, rfl, by decide, wd_162, wsin_1, tyX1_ok, nmX1, rfl, tyX1_ok 3 (by decide), rfl⟩
theorem lF_RX10_73 : vFL RX10 73 1 6 := ⟨RX1, TX1, 8, rfl, by decide, wd_171, wsin_1⟩
theorem lG_RX10_73 : vFP RX10 73 1 6 .int false := ⟨RX1, TX1, 8, tyX1, rfl, by decide, wd_171, wsin_1, tyX1_ok, nmX1, rfl, tyX1_ok 6 (by decide), rfl⟩
theorem lV_RX10_127 : vLV RX10 127 1 yX1_nextWay cX1_nextWay 4 (some .int) 1 := ⟨⟨TX1, _, rfl⟩, wd_475, wd_476, wd_477, wd_71, wd_478, ⟨by decide +kernel, by decide +kernel, by rfl⟩, by decide⟩
theorem lV_RX10_131 : vLV RX10 131 10 yX10_blowsAgainst cX10_blowsAgainst 2 (some .boolean) 1 := ⟨⟨TX10, _, rfl⟩, wd_479, wd_481, wd_5, wd_70, wd_482, ⟨by decide +kernel, by decide +kernel, by rfl⟩, by decide⟩
theorem lV_RX10_138 : vLV RX10 138 1 yX1_step cX1_step 2 none 1 := ⟨⟨TX1, _, rfl⟩, wd_499, wd_500, wd_501, wd_71, wd_502, ⟨by decide +kernel, by decide +kernel, by rfl⟩, by decide⟩
theorem lP_RX3_7_3 : vLP RX3 7 3 yX5_steps cX5_steps 3 (some .int) 2 := ⟨⟨RX3, TX3, _, rfl⟩, wd_395, wd_1340, wd_125, wd_396, wd_66, wd_397, by decide +kernel, by rfl, by decide⟩
theorem lP_RX6_11_6 : vLP RX6 11 6 yX4_steps cX4_steps 3 (some .int) 2 := ⟨⟨RX6, TX6, _, rfl⟩, wd_402, wd_383, wd_111, wd_381, wd_63, wd_404, by decide +kernel, by rfl, by decide⟩
theorem lF_RX10_113 : vFL RX10 113 1 7 := ⟨RX1, TX1, 8, rfl, by decide, wd_174, wsin_1⟩
theorem lG_RX10_113 : vFP RX10 113 1 7 .int false := ⟨RX1, TX1, 8, tyX1, rfl, by decide, wd_174, wsin_1, tyX1_ok, nmX1, rfl, tyX1_ok 7 (by decide), rfl⟩
theorem lV_RX10_119 : vLV RX10 119 10 yX10_moveSmoke cX10_moveSmoke 6 none 2 := ⟨⟨TX10, _, rfl⟩, wd_458, wd_460, wd_4, wd_70, wd_461, ⟨by decide +kernel, by decide +kernel, by rfl⟩, by decide⟩
theorem lV_RX10_80 : vLV RX10 80 10 yX10_burnFires cX10_burnFires 3 none 0 := ⟨⟨TX10, _, rfl⟩, wd_440, wd_442, wd_2, wd_70, wd_443, ⟨by decide +kernel, by decide +kernel, by rfl⟩, by decide⟩
theorem lV_RX10_83 : vLV RX10 83 10 yX10_moveSmokes cX10_moveSmokes 3 none 0 := ⟨⟨TX10, _, rfl⟩, wd_453, wd_455, wd_3, wd_70, wd_456, ⟨by decide +kernel, by decide +kernel, by rfl⟩, by decide⟩
theorem lV_RX10_86 : vLV RX10 86 10 yX10_crossSmokes cX10_crossSmokes 3 none 0 := ⟨⟨TX10, _, rfl⟩, wd_503, wd_505, wd_6, wd_70, wd_506, ⟨by decide +kernel, by decide +kernel, by rfl⟩, by decide⟩
theorem lV_RX10_89 : vLV RX10 89 10 yX10_bringHome cX10_bringHome 3 none 0 := ⟨⟨TX10, _, rfl⟩, wd_516, wd_518, wd_7, wd_70, wd_519, ⟨by decide +kernel, by decide +kernel, by rfl⟩, by decide⟩
theorem lV_RX10_77 : vLV RX10 77 10 yX10_passHour cX10_passHour 1 none 0 := ⟨⟨TX10, _, rfl⟩, wd_436, wd_437, wd_438, wd_70, wd_439, ⟨by decide +kernel, by decide +kernel, by rfl⟩, by decide⟩
theorem lF_RX11_59 : vFL RX11 59 11 5 := ⟨RX11, TX11, 7, rfl, by decide, wd_284, wsin_11⟩
theorem lF_RX11_33 : vFL RX11 33 11 0 := ⟨RX11, TX11, 7, rfl, by decide, wd_279, wsin_11⟩
theorem lF_RX11_180 : vFL RX11 180 10 4 := ⟨RX10, TX10, 9, rfl, by decide, wd_203, wsin_10⟩
theorem lS_RX11_67 : vLS RX11 67 yX11_outside cX11_outside 2 (some .boolean) 2 := ⟨wd_305, wd_306, wd_62, wd_307, ⟨by decide +kernel, by decide +kernel, by rfl⟩, by decide⟩
theorem lV_RX11_99 : vLV RX11 99 11 yX11_noFire cX11_noFire 2 (some .boolean) 1 := ⟨⟨TX11, _, rfl⟩, wd_349, wd_351, wd_1, wd_62, wd_352, ⟨by decide +kernel, by decide +kernel, by rfl⟩, by decide⟩
theorem lV_RX11_71 : vLV RX11 71 11 yX11_finding cX11_finding 2 (some .int) 1 := ⟨⟨TX11, _, rfl⟩, wd_308, wd_310, wd_0, wd_62, wd_311, ⟨by decide +kernel, by decide +kernel, by rfl⟩, by decide⟩
theorem lF_RX11_39 : vFL RX11 39 11 1 := ⟨RX11, TX11, 7, rfl, by decide, wd_280, wsin_11⟩
theorem lV_RX11_163 : vLV RX11 163 10 yX10_become cX10_become 3 none 1 := ⟨⟨TX10, _, rfl⟩, wd_548, wd_549, wd_550, wd_70, wd_551, ⟨by decide +kernel, by decide +kernel, by rfl⟩, by decide⟩
theorem lV_RX11_141 : vLV RX11 141 10 yX10_passHours cX10_passHours 3 none 1 := ⟨⟨TX10, _, rfl⟩, wd_432, wd_433, wd_434, wd_70, wd_435, ⟨by decide +kernel, by decide +kernel, by rfl⟩, by decide⟩
theorem lF_RX11_103 : vFL RX11 103 10 2 := ⟨RX10, TX10, 9, rfl, by decide, wd_199, wsin_10⟩
theorem lV_RX11_130 : vLV RX11 130 1 yX1_value cX1_value 2 (some .int) 1 := ⟨⟨TX1, _, rfl⟩, wd_412, wd_413, wd_414, wd_71, wd_415, ⟨by decide +kernel, by decide +kernel, by rfl⟩, by decide⟩
theorem lP_RX2_7_2 : vLP RX2 7 2 yX4_isUnder cX4_isUnder 2 (some .boolean) 1 := ⟨⟨RX2, TX2, _, rfl⟩, wd_816, wd_805, wd_132, wd_803, wd_63, wd_830, by decide +kernel, by rfl, by decide⟩
theorem lP_RX6_15_6 : vLP RX6 15 6 yX4_isUnder cX4_isUnder 2 (some .boolean) 1 := ⟨⟨RX6, TX6, _, rfl⟩, wd_826, wd_805, wd_111, wd_803, wd_63, wd_830, by decide +kernel, by rfl, by decide⟩
theorem lP_RX5_11_5 : vLP RX5 11 5 yX6_isUnder cX6_isUnder 2 (some .boolean) 1 := ⟨⟨RX5, TX5, _, rfl⟩, wd_823, wd_1343, wd_118, wd_824, wd_65, wd_825, by decide +kernel, by rfl, by decide⟩
theorem lP_RX3_11_3 : vLP RX3 11 3 yX5_isUnder cX5_isUnder 2 (some .boolean) 1 := ⟨⟨RX3, TX3, _, rfl⟩, wd_820, wd_1342, wd_125, wd_821, wd_66, wd_822, by decide +kernel, by rfl, by decide⟩
theorem lF_RX11_230 : vFL RX11 230 10 3 := ⟨RX10, TX10, 9, rfl, by decide, wd_201, wsin_10⟩
theorem lV_RX11_107 : vLV RX11 107 10 yX10_kindOf cX10_kindOf 2 (some (.object "SmokeHome$Kind")) 1 := ⟨⟨TX10, _, rfl⟩, wd_353, wd_354, wd_355, wd_70, wd_356, ⟨by decide +kernel, by decide +kernel, by rfl⟩, by decide⟩
theorem lV_RX11_136 : vLV RX11 136 1 yX1_put cX1_put 3 none 2 := ⟨⟨TX1, _, rfl⟩, wd_423, wd_424, wd_425, wd_71, wd_426, ⟨by decide +kernel, by decide +kernel, by rfl⟩, by decide⟩
theorem lV_RX11_170 : vLV RX11 170 11 yX11_tryWith cX11_tryWith 4 none 3 := ⟨⟨TX11, _, rfl⟩, wd_584, wd_586, wd_8, wd_62, wd_587, ⟨by decide +kernel, by decide +kernel, by rfl⟩, by decide⟩
theorem lF_RX11_174 : vFL RX11 174 1 4 := ⟨RX1, TX1, 8, rfl, by decide, wd_166, wsin_1⟩
theorem lG_RX11_174 : vFP RX11 174 1 4 .int false := ⟨RX1, TX1, 8, tyX1, rfl, by decide, wd_166, wsin_1, tyX1_ok, nmX1, rfl, tyX1_ok 4 (by decide), rfl⟩
theorem lF_RX11_117 : vFL RX11 117 1 6 := ⟨RX1, TX1, 8, rfl, by decide, wd_172, wsin_1⟩
theorem lV_RX11_84 : vLV RX11 84 10 yX10_firesAtHomeIn cX10_firesAtHomeIn 4 (some .int) 1 := ⟨⟨TX10, _, rfl⟩, wd_325, wd_326, wd_327, wd_70, wd_328, ⟨by decide +kernel, by decide +kernel, by rfl⟩, by decide⟩
theorem lV_RX11_81 : vLV RX11 81 10 yX10_firesSmokingAt cX10_firesSmokingAt 4 (some .int) 1 := ⟨⟨TX10, _, rfl⟩, wd_321, wd_322, wd_323, wd_70, wd_324, ⟨by decide +kernel, by decide +kernel, by rfl⟩, by decide⟩
theorem lV_RX11_78 : vLV RX11 78 10 yX10_firesBuiltAt cX10_firesBuiltAt 4 (some .int) 1 := ⟨⟨TX10, _, rfl⟩, wd_317, wd_318, wd_319, wd_70, wd_320, ⟨by decide +kernel, by decide +kernel, by rfl⟩, by decide⟩
theorem lF_RX11_75 : vFL RX11 75 10 1 := ⟨RX10, TX10, 9, rfl, by decide, wd_196, wsin_10⟩
theorem lS_RX11_133 : vLS RX11 133 yX11_mostOf cX11_mostOf 1 (some .int) 1 := ⟨wd_420, wd_421, wd_62, wd_422, ⟨by decide +kernel, by decide +kernel, by rfl⟩, by decide⟩
theorem lF_RX8_19 : vFL RX8 19 8 2 := ⟨RX8, TX8, 3, rfl, by decide, wd_270, wsin_8⟩
theorem lF_RX8_15 : vFL RX8 15 8 1 := ⟨RX8, TX8, 3, rfl, by decide, wd_268, wsin_8⟩
theorem lF_RX11_54 : vFL RX11 54 11 4 := ⟨RX11, TX11, 7, rfl, by decide, wd_283, wsin_11⟩
theorem lV_RX11_198 : vLV RX11 198 8 yX8_isMissing cX8_isMissing 1 (some .boolean) 0 := ⟨⟨TX8, _, rfl⟩, wd_622, wd_623, wd_624, wd_73, wd_625, ⟨by decide +kernel, by decide +kernel, by rfl⟩, by decide⟩
theorem lF_RX11_240 : vFL RX11 240 8 1 := ⟨RX8, TX8, 3, rfl, by decide, wd_269, wsin_8⟩
theorem lV_RX11_243 : vLV RX11 243 8 yX8_has cX8_has 3 (some .boolean) 2 := ⟨⟨TX8, _, rfl⟩, wd_851, wd_852, wd_853, wd_73, wd_854, ⟨by decide +kernel, by decide +kernel, by rfl⟩, by decide⟩
theorem lF_RX11_246 : vFL RX11 246 8 0 := ⟨RX8, TX8, 3, rfl, by decide, wd_267, wsin_8⟩
theorem lV_RX11_255 : vLV RX11 255 10 yX10_spotsThatHold cX10_spotsThatHold 3 (some .int) 0 := ⟨⟨TX10, _, rfl⟩, wd_880, wd_881, wd_882, wd_70, wd_883, ⟨by decide +kernel, by decide +kernel, by rfl⟩, by decide⟩
theorem lF_RX11_220 : vFL RX11 220 10 8 := ⟨RX10, TX10, 9, rfl, by decide, wd_212, wsin_10⟩
theorem lF_RX11_48 : vFL RX11 48 11 3 := ⟨RX11, TX11, 7, rfl, by decide, wd_282, wsin_11⟩
theorem lF_RX11_223 : vFL RX11 223 7 1 := ⟨RX7, TX7, 6, rfl, by decide, wd_240, wsin_7⟩
theorem lV_RX11_145 : vLV RX11 145 10 yX10_allWood cX10_allWood 3 (some .int) 0 := ⟨⟨TX10, _, rfl⟩, wd_520, wd_521, wd_522, wd_70, wd_523, ⟨by decide +kernel, by decide +kernel, by rfl⟩, by decide⟩
theorem lF_RX11_151 : vFL RX11 151 10 6 := ⟨RX10, TX10, 9, rfl, by decide, wd_208, wsin_10⟩
theorem lV_RX11_148 : vLV RX11 148 10 yX10_allSmoke cX10_allSmoke 3 (some .int) 0 := ⟨⟨TX10, _, rfl⟩, wd_528, wd_529, wd_530, wd_70, wd_531, ⟨by decide +kernel, by decide +kernel, by rfl⟩, by decide⟩
theorem lF_RX11_111 : vFL RX11 111 10 7 := ⟨RX10, TX10, 9, rfl, by decide, wd_210, wsin_10⟩
theorem lV_RX11_167 : vLV RX11 167 10 yX10_passHour cX10_passHour 1 none 0 := ⟨⟨TX10, _, rfl⟩, wd_567, wd_437, wd_438, wd_70, wd_439, ⟨by decide +kernel, by decide +kernel, by rfl⟩, by decide⟩
theorem lF_RX7_9 : vFL RX7 9 7 0 := ⟨RX7, TX7, 6, rfl, by decide, wd_238, wsin_7⟩
theorem lF_RX7_15 : vFL RX7 15 7 1 := ⟨RX7, TX7, 6, rfl, by decide, wd_239, wsin_7⟩
theorem lG_RX7_15 : vFP RX7 15 7 1 .int false := ⟨RX7, TX7, 6, tyX7, rfl, by decide, wd_239, wsin_7, tyX7_ok, nmX7, rfl, tyX7_ok 1 (by decide), rfl⟩
theorem lV_RX11_224 : vLV RX11 224 7 yX7_put cX7_put 2 none 1 := ⟨⟨TX7, _, rfl⟩, wd_657, wd_658, wd_659, wd_72, wd_660, ⟨by decide +kernel, by decide +kernel, by rfl⟩, by decide⟩
theorem lV_RX11_91 : vLV RX11 91 10 yX10_isFull cX10_isFull 1 (some .boolean) 0 := ⟨⟨TX10, _, rfl⟩, wd_337, wd_338, wd_339, wd_70, wd_340, ⟨by decide +kernel, by decide +kernel, by rfl⟩, by decide⟩
theorem lV_RX11_95 : vLV RX11 95 10 yX10_light cX10_light 6 (some .int) 4 := ⟨⟨TX10, _, rfl⟩, wd_341, wd_342, wd_343, wd_70, wd_344, ⟨by decide +kernel, by decide +kernel, by rfl⟩, by decide⟩
theorem lF_RX8_9 : vFL RX8 9 8 0 := ⟨RX8, TX8, 3, rfl, by decide, wd_266, wsin_8⟩
theorem lV_RX11_201 : vLV RX11 201 8 yX8_allows cX8_allows 3 (some .boolean) 2 := ⟨⟨TX8, _, rfl⟩, wd_626, wd_627, wd_628, wd_73, wd_629, ⟨by decide +kernel, by decide +kernel, by rfl⟩, by decide⟩
theorem lF_RX11_204 : vFL RX11 204 8 2 := ⟨RX8, TX8, 3, rfl, by decide, wd_271, wsin_8⟩
theorem lV_RX11_194 : vLV RX11 194 11 yX11_followers cX11_followers 8 (some .int) 3 := ⟨⟨TX11, _, rfl⟩, wd_618, wd_620, wd_10, wd_62, wd_621, ⟨by decide +kernel, by decide +kernel, by rfl⟩, by decide⟩
theorem lF_RX11_42 : vFL RX11 42 11 2 := ⟨RX11, TX11, 7, rfl, by decide, wd_281, wsin_11⟩
theorem lF_RX11_63 : vFL RX11 63 11 6 := ⟨RX11, TX11, 7, rfl, by decide, wd_285, wsin_11⟩
theorem lG_RX11_63 : vFP RX11 63 11 6 .boolean false := ⟨RX11, TX11, 7, tyX11, rfl, by decide, wd_285, wsin_11, tyX11_ok, nmX11, rfl, tyX11_ok 6 (by decide), rfl⟩
theorem lF_RX11_177 : vFL RX11 177 1 3 := ⟨RX1, TX1, 8, rfl, by decide, wd_163, wsin_1⟩
theorem lG_RX11_177 : vFP RX11 177 1 3 .int false := ⟨RX1, TX1, 8, tyX1, rfl, by decide, wd_163, wsin_1, tyX1_ok, nmX1, rfl, tyX1_ok 3 (by decide), rfl⟩
theorem lF_RX11_191 : vFL RX11 191 1 5 := ⟨RX1, TX1, 8, rfl, by decide, wd_169, wsin_1⟩
theorem lG_RX11_191 : vFP RX11 191 1 5 .int false := ⟨RX1, TX1, 8, tyX1, rfl, by decide, wd_169, wsin_1, tyX1_ok, nmX1, rfl, tyX1_ok 5 (by decide), rfl⟩
theorem lV_RX11_160 : vLV RX11 160 10 yX10_firesSmoking cX10_firesSmoking 3 (some .int) 0 := ⟨⟨TX10, _, rfl⟩, wd_540, wd_541, wd_542, wd_70, wd_543, ⟨by decide +kernel, by decide +kernel, by rfl⟩, by decide⟩
theorem lV_RX11_157 : vLV RX11 157 10 yX10_cellsWithWood cX10_cellsWithWood 3 (some .int) 0 := ⟨⟨TX10, _, rfl⟩, wd_536, wd_537, wd_538, wd_70, wd_539, ⟨by decide +kernel, by decide +kernel, by rfl⟩, by decide⟩
theorem lV_RX11_154 : vLV RX11 154 10 yX10_allLogs cX10_allLogs 3 (some .int) 0 := ⟨⟨TX10, _, rfl⟩, wd_532, wd_533, wd_534, wd_70, wd_535, ⟨by decide +kernel, by decide +kernel, by rfl⟩, by decide⟩
theorem lF_RX11_210 : vFL RX11 210 1 1 := ⟨RX1, TX1, 8, rfl, by decide, wd_157, wsin_1⟩
theorem lF_RX11_213 : vFL RX11 213 1 2 := ⟨RX1, TX1, 8, rfl, by decide, wd_160, wsin_1⟩
theorem lS_RX1_33 : vLS RX1 33 yJ9_abs_0f7a4 cJ9_abs_0f7a4 1 (some .int) 1 := ⟨wd_409, wd_410, wd_75, wd_411, ⟨by decide +kernel, by decide +kernel, by rfl⟩, by decide⟩
theorem lV_RX11_126 : vLV RX11 126 1 yX1_stepsFromHome cX1_stepsFromHome 1 (some .int) 0 := ⟨⟨TX1, _, rfl⟩, wd_405, wd_406, wd_407, wd_71, wd_408, ⟨by decide +kernel, by decide +kernel, by rfl⟩, by decide⟩
theorem lS_RX11_183 : vLS RX11 183 yJ6_bitCount_0f7a4 cJ6_bitCount_0f7a4 1 (some .int) 1 := ⟨wd_604, wd_605, wd_77, wd_606, ⟨by decide +kernel, by decide +kernel, by rfl⟩, by decide⟩
theorem lV_RX11_188 : vLV RX11 188 11 yX11_noneCrossWithout cX11_noneCrossWithout 4 (some .boolean) 2 := ⟨⟨TX11, _, rfl⟩, wd_610, wd_612, wd_9, wd_62, wd_613, ⟨by decide +kernel, by decide +kernel, by rfl⟩, by decide⟩
theorem lG_RX11_220 : vFP RX11 220 10 8 .int false := ⟨RX10, TX10, 9, tyX10, rfl, by decide, wd_212, wsin_10, tyX10_ok, nmX10, rfl, tyX10_ok 8 (by decide), rfl⟩
theorem lG_RX8_15 : vFP RX8 15 8 1 .int false := ⟨RX8, TX8, 3, tyX8, rfl, by decide, wd_268, wsin_8, tyX8_ok, nmX8, rfl, tyX8_ok 1 (by decide), rfl⟩
theorem lG_RX8_19 : vFP RX8 19 8 2 .int false := ⟨RX8, TX8, 3, tyX8, rfl, by decide, wd_270, wsin_8, tyX8_ok, nmX8, rfl, tyX8_ok 2 (by decide), rfl⟩
theorem lV_RX11_236 : vLV RX11 236 8 yX8_begin cX8_begin 4 none 2 := ⟨⟨TX8, _, rfl⟩, wd_835, wd_836, wd_837, wd_73, wd_838, ⟨by decide +kernel, by decide +kernel, by rfl⟩, by decide⟩
theorem lF_RX7_29 : vFL RX7 29 7 2 := ⟨RX7, TX7, 6, rfl, by decide, wd_241, wsin_7⟩
theorem lF_RX7_19 : vFL RX7 19 7 4 := ⟨RX7, TX7, 6, rfl, by decide, wd_243, wsin_7⟩
theorem lF_RX7_32 : vFL RX7 32 7 3 := ⟨RX7, TX7, 6, rfl, by decide, wd_242, wsin_7⟩
theorem lF_RX7_73 : vFL RX7 73 10 0 := ⟨RX10, TX10, 9, rfl, by decide, wd_194, wsin_10⟩
theorem lV_RX7_37 : vLV RX7 37 7 yX7_isWord cX7_isWord 3 (some .boolean) 1 := ⟨⟨TX7, _, rfl⟩, wd_686, wd_688, wd_13, wd_72, wd_689, ⟨by decide +kernel, by decide +kernel, by rfl⟩, by decide⟩
theorem lG_RX7_32 : vFP RX7 32 7 3 .int false := ⟨RX7, TX7, 6, tyX7, rfl, by decide, wd_242, wsin_7, tyX7_ok, nmX7, rfl, tyX7_ok 3 (by decide), rfl⟩
theorem lF_RX7_94 : vFL RX7 94 7 5 := ⟨RX7, TX7, 6, rfl, by decide, wd_244, wsin_7⟩
theorem lG_RX7_94 : vFP RX7 94 7 5 .int false := ⟨RX7, TX7, 6, tyX7, rfl, by decide, wd_244, wsin_7, tyX7_ok, nmX7, rfl, tyX7_ok 5 (by decide), rfl⟩
theorem lG_RX7_29 : vFP RX7 29 7 2 .int false := ⟨RX7, TX7, 6, tyX7, rfl, by decide, wd_241, wsin_7, tyX7_ok, nmX7, rfl, tyX7_ok 2 (by decide), rfl⟩
theorem lS_RX7_107 : vLS RX7 107 yX7_tokenOf cX7_tokenOf 1 (some .int) 1 := ⟨wd_677, wd_678, wd_72, wd_679, ⟨by decide +kernel, by decide +kernel, by rfl⟩, by decide⟩
theorem lG_RX7_19 : vFP RX7 19 7 4 .int false := ⟨RX7, TX7, 6, tyX7, rfl, by decide, wd_243, wsin_7, tyX7_ok, nmX7, rfl, tyX7_ok 4 (by decide), rfl⟩
theorem lS_RX7_110 : vLS RX7 110 yJ9_min_7cf53 cJ9_min_7cf53 2 (some .int) 2 := ⟨wd_680, wd_451, wd_75, wd_452, ⟨by decide +kernel, by decide +kernel, by rfl⟩, by decide⟩
theorem lV_RX7_22 : vLV RX7 22 7 yX7_takeToken cX7_takeToken 1 none 0 := ⟨⟨TX7, _, rfl⟩, wd_673, wd_675, wd_11, wd_72, wd_676, ⟨by decide +kernel, by decide +kernel, by rfl⟩, by decide⟩
theorem lV_RX7_83 : vLV RX7 83 7 yX7_takeNumber cX7_takeNumber 3 (some .int) 1 := ⟨⟨TX7, _, rfl⟩, wd_742, wd_744, wd_15, wd_72, wd_745, ⟨by decide +kernel, by decide +kernel, by rfl⟩, by decide⟩
theorem lF_RX7_87 : vFL RX7 87 10 5 := ⟨RX10, TX10, 9, rfl, by decide, wd_206, wsin_10⟩
theorem lG_RX7_87 : vFP RX7 87 10 5 .int false := ⟨RX10, TX10, 9, tyX10, rfl, by decide, wd_206, wsin_10, tyX10_ok, nmX10, rfl, tyX10_ok 5 (by decide), rfl⟩
theorem lF_RX7_90 : vFL RX7 90 10 1 := ⟨RX10, TX10, 9, rfl, by decide, wd_197, wsin_10⟩
theorem lV_RX7_49 : vLV RX7 49 7 yX7_kindTold cX7_kindTold 3 (some .int) 1 := ⟨⟨TX7, _, rfl⟩, wd_751, wd_753, wd_17, wd_72, wd_754, ⟨by decide +kernel, by decide +kernel, by rfl⟩, by decide⟩
theorem lV_RX7_53 : vLV RX7 53 10 yX10_isFull cX10_isFull 1 (some .boolean) 0 := ⟨⟨TX10, _, rfl⟩, wd_785, wd_338, wd_339, wd_70, wd_340, ⟨by decide +kernel, by decide +kernel, by rfl⟩, by decide⟩
theorem lV_RX7_61 : vLV RX7 61 7 yX7_takePart cX7_takePart 4 (some .int) 3 := ⟨⟨TX7, _, rfl⟩, wd_787, wd_789, wd_18, wd_72, wd_790, ⟨by decide +kernel, by decide +kernel, by rfl⟩, by decide⟩
theorem lV_RX7_69 : vLV RX7 69 10 yX10_light cX10_light 6 (some .int) 4 := ⟨⟨TX10, _, rfl⟩, wd_793, wd_342, wd_343, wd_70, wd_344, ⟨by decide +kernel, by decide +kernel, by rfl⟩, by decide⟩
theorem lV_RX7_46 : vLV RX7 46 7 yX7_readWood cX7_readWood 4 (some .boolean) 1 := ⟨⟨TX7, _, rfl⟩, wd_747, wd_749, wd_16, wd_72, wd_750, ⟨by decide +kernel, by decide +kernel, by rfl⟩, by decide⟩
theorem lV_RX7_41 : vLV RX7 41 7 yX7_readWind cX7_readWind 3 (some .boolean) 1 := ⟨⟨TX7, _, rfl⟩, wd_738, wd_740, wd_14, wd_72, wd_741, ⟨by decide +kernel, by decide +kernel, by rfl⟩, by decide⟩
theorem lV_RX7_25 : vLV RX7 25 7 yX7_readItem cX7_readItem 6 (some .boolean) 1 := ⟨⟨TX7, _, rfl⟩, wd_681, wd_683, wd_12, wd_72, wd_684, ⟨by decide +kernel, by decide +kernel, by rfl⟩, by decide⟩
theorem lV_RX11_226 : vLV RX11 226 7 yX7_readInto cX7_readInto 3 (some .int) 1 := ⟨⟨TX7, _, rfl⟩, wd_669, wd_670, wd_671, wd_72, wd_672, ⟨by decide +kernel, by decide +kernel, by rfl⟩, by decide⟩
theorem lG_RX11_223 : vFP RX11 223 7 1 .int false := ⟨RX7, TX7, 6, tyX7, rfl, by decide, wd_240, wsin_7, tyX7_ok, nmX7, rfl, tyX7_ok 1 (by decide), rfl⟩
theorem lF_RX11_87 : vFL RX11 87 10 5 := ⟨RX10, TX10, 9, rfl, by decide, wd_205, wsin_10⟩
theorem lG_RX11_87 : vFP RX11 87 10 5 .int false := ⟨RX10, TX10, 9, tyX10, rfl, by decide, wd_205, wsin_10, tyX10_ok, nmX10, rfl, tyX10_ok 5 (by decide), rfl⟩
theorem lV_RX11_207 : vLV RX11 207 10 yX10_draw cX10_draw 1 (some .int) 0 := ⟨⟨TX10, _, rfl⟩, wd_638, wd_639, wd_640, wd_70, wd_641, ⟨by decide +kernel, by decide +kernel, by rfl⟩, by decide⟩
theorem lV_RX11_239 : vLV RX11 239 8 yX8_put cX8_put 3 none 2 := ⟨⟨TX8, _, rfl⟩, wd_843, wd_844, wd_845, wd_73, wd_846, ⟨by decide +kernel, by decide +kernel, by rfl⟩, by decide⟩
theorem lV_RX10_103 : vLV RX10 103 4 yX4_burns cX4_burns 2 (some .int) 1 := ⟨⟨TX4, _, rfl⟩, wd_445, wd_358, wd_359, wd_63, wd_379, ⟨by decide +kernel, by decide +kernel, by rfl⟩, by decide⟩
theorem lU_RX10_103_9 : vLU RX10 103 9 yX4_burns yX9_burns cX9_burns 2 (some .int) 1 := ⟨⟨RX9, TX9, _, rfl, wd_378⟩, wd_445, wd_360, wd_365, wd_64, wd_366, ⟨wd_358, _, _, _, wd_379⟩, ⟨by decide +kernel, by decide +kernel, by rfl⟩, by decide⟩
theorem lU_RX10_103_6 : vLU RX10 103 6 yX4_burns yX6_burns cX6_burns 2 (some .int) 1 := ⟨⟨RX6, TX6, _, rfl, wd_377⟩, wd_445, wd_360, wd_373, wd_65, wd_374, ⟨wd_358, _, _, _, wd_379⟩, ⟨by decide +kernel, by decide +kernel, by rfl⟩, by decide⟩
theorem lU_RX10_103_5 : vLU RX10 103 5 yX4_burns yX5_burns cX5_burns 2 (some .int) 1 := ⟨⟨RX5, TX5, _, rfl, wd_376⟩, wd_445, wd_360, wd_370, wd_66, wd_371, ⟨wd_358, _, _, _, wd_379⟩, ⟨by decide +kernel, by decide +kernel, by rfl⟩, by decide⟩
theorem lU_RX10_103_3 : vLU RX10 103 3 yX4_burns yX5_burns cX5_burns 2 (some .int) 1 := ⟨⟨RX3, TX3, _, rfl, wd_369⟩, wd_445, wd_360, wd_370, wd_66, wd_371, ⟨wd_358, _, _, _, wd_379⟩, ⟨by decide +kernel, by decide +kernel, by rfl⟩, by decide⟩
theorem lU_RX10_103_2 : vLU RX10 103 2 yX4_burns yX4_burns cX4_burns 2 (some .int) 1 := ⟨⟨RX2, TX2, _, rfl, wd_368⟩, wd_445, wd_360, wd_358, wd_63, wd_379, ⟨wd_358, _, _, _, wd_379⟩, ⟨by decide +kernel, by decide +kernel, by rfl⟩, by decide⟩
theorem lU_RX10_103_0 : vLU RX10 103 0 yX4_burns yX0_burns cX0_burns 2 (some .int) 1 := ⟨⟨RX0, TX0, _, rfl, wd_361⟩, wd_445, wd_360, wd_362, wd_69, wd_363, ⟨wd_358, _, _, _, wd_379⟩, ⟨by decide +kernel, by decide +kernel, by rfl⟩, by decide⟩
theorem lV_RX10_123 : vLV RX10 123 4 yX4_goesSidewaysFirst cX4_goesSidewaysFirst 1 (some .boolean) 0 := ⟨⟨TX4, _, rfl⟩, wd_462, wd_463, wd_464, wd_63, wd_474, ⟨by decide +kernel, by decide +kernel, by rfl⟩, by decide⟩
theorem lU_RX10_123_9 : vLU RX10 123 9 yX4_goesSidewaysFirst yX4_goesSidewaysFirst cX4_goesSidewaysFirst 1 (some .boolean) 0 := ⟨⟨RX9, TX9, _, rfl, wd_473⟩, wd_462, wd_465, wd_463, wd_63, wd_474, ⟨wd_463, _, _, _, wd_474⟩, ⟨by decide +kernel, by decide +kernel, by rfl⟩, by decide⟩
theorem lU_RX10_123_6 : vLU RX10 123 6 yX4_goesSidewaysFirst yX4_goesSidewaysFirst cX4_goesSidewaysFirst 1 (some .boolean) 0 := ⟨⟨RX6, TX6, _, rfl, wd_472⟩, wd_462, wd_465, wd_463, wd_63, wd_474, ⟨wd_463, _, _, _, wd_474⟩, ⟨by decide +kernel, by decide +kernel, by rfl⟩, by decide⟩
theorem lU_RX10_123_5 : vLU RX10 123 5 yX4_goesSidewaysFirst yX5_goesSidewaysFirst cX5_goesSidewaysFirst 1 (some .boolean) 0 := ⟨⟨RX5, TX5, _, rfl, wd_471⟩, wd_462, wd_465, wd_469, wd_66, wd_470, ⟨wd_463, _, _, _, wd_474⟩, ⟨by decide +kernel, by decide +kernel, by rfl⟩, by decide⟩
theorem lU_RX10_123_3 : vLU RX10 123 3 yX4_goesSidewaysFirst yX5_goesSidewaysFirst cX5_goesSidewaysFirst 1 (some .boolean) 0 := ⟨⟨RX3, TX3, _, rfl, wd_468⟩, wd_462, wd_465, wd_469, wd_66, wd_470, ⟨wd_463, _, _, _, wd_474⟩, ⟨by decide +kernel, by decide +kernel, by rfl⟩, by decide⟩
theorem lU_RX10_123_2 : vLU RX10 123 2 yX4_goesSidewaysFirst yX4_goesSidewaysFirst cX4_goesSidewaysFirst 1 (some .boolean) 0 := ⟨⟨RX2, TX2, _, rfl, wd_467⟩, wd_462, wd_465, wd_463, wd_63, wd_474, ⟨wd_463, _, _, _, wd_474⟩, ⟨by decide +kernel, by decide +kernel, by rfl⟩, by decide⟩
theorem lU_RX10_123_0 : vLU RX10 123 0 yX4_goesSidewaysFirst yX4_goesSidewaysFirst cX4_goesSidewaysFirst 1 (some .boolean) 0 := ⟨⟨RX0, TX0, _, rfl, wd_466⟩, wd_462, wd_465, wd_463, wd_63, wd_474, ⟨wd_463, _, _, _, wd_474⟩, ⟨by decide +kernel, by decide +kernel, by rfl⟩, by decide⟩
theorem lV_RX10_135 : vLV RX10 135 4 yX4_bears cX4_bears 2 (some .boolean) 1 := ⟨⟨TX4, _, rfl⟩, wd_483, wd_484, wd_485, wd_63, wd_497, ⟨by decide +kernel, by decide +kernel, by rfl⟩, by decide⟩
theorem lU_RX10_135_9 : vLU RX10 135 9 yX4_bears yX4_bears cX4_bears 2 (some .boolean) 1 := ⟨⟨RX9, TX9, _, rfl, wd_496⟩, wd_483, wd_486, wd_484, wd_63, wd_497, ⟨wd_484, _, _, _, wd_497⟩, ⟨by decide +kernel, by decide +kernel, by rfl⟩, by decide⟩
theorem lU_RX10_135_6 : vLU RX10 135 6 yX4_bears yX4_bears cX4_bears 2 (some .boolean) 1 := ⟨⟨RX6, TX6, _, rfl, wd_495⟩, wd_483, wd_486, wd_484, wd_63, wd_497, ⟨wd_484, _, _, _, wd_497⟩, ⟨by decide +kernel, by decide +kernel, by rfl⟩, by decide⟩
theorem lU_RX10_135_5 : vLU RX10 135 5 yX4_bears yX4_bears cX4_bears 2 (some .boolean) 1 := ⟨⟨RX5, TX5, _, rfl, wd_494⟩, wd_483, wd_486, wd_484, wd_63, wd_497, ⟨wd_484, _, _, _, wd_497⟩, ⟨by decide +kernel, by decide +kernel, by rfl⟩, by decide⟩
theorem lU_RX10_135_3 : vLU RX10 135 3 yX4_bears yX3_bears cX3_bears 2 (some .boolean) 1 := ⟨⟨RX3, TX3, _, rfl, wd_491⟩, wd_483, wd_486, wd_492, wd_67, wd_493, ⟨wd_484, _, _, _, wd_497⟩, ⟨by decide +kernel, by decide +kernel, by rfl⟩, by decide⟩
theorem lU_RX10_135_2 : vLU RX10 135 2 yX4_bears yX2_bears cX2_bears 2 (some .boolean) 1 := ⟨⟨RX2, TX2, _, rfl, wd_488⟩, wd_483, wd_486, wd_489, wd_68, wd_490, ⟨wd_484, _, _, _, wd_497⟩, ⟨by decide +kernel, by decide +kernel, by rfl⟩, by decide⟩
theorem lU_RX10_135_0 : vLU RX10 135 0 yX4_bears yX4_bears cX4_bears 2 (some .boolean) 1 := ⟨⟨RX0, TX0, _, rfl, wd_487⟩, wd_483, wd_486, wd_484, wd_63, wd_497, ⟨wd_484, _, _, _, wd_497⟩, ⟨by decide +kernel, by decide +kernel, by rfl⟩, by decide⟩
theorem lV_RX10_116 : vLV RX10 116 4 yX4_steps cX4_steps 3 (some .int) 2 := ⟨⟨TX4, _, rfl⟩, wd_457, wd_381, wd_382, wd_63, wd_404, ⟨by decide +kernel, by decide +kernel, by rfl⟩, by decide⟩
theorem lU_RX10_116_9 : vLU RX10 116 9 yX4_steps yX9_steps cX9_steps 3 (some .int) 2 := ⟨⟨RX9, TX9, _, rfl, wd_403⟩, wd_457, wd_383, wd_388, wd_64, wd_389, ⟨wd_381, _, _, _, wd_404⟩, ⟨by decide +kernel, by decide +kernel, by rfl⟩, by decide⟩
theorem lU_RX10_116_6 : vLU RX10 116 6 yX4_steps yX6_steps cX6_steps 3 (some .int) 2 := ⟨⟨RX6, TX6, _, rfl, wd_399⟩, wd_457, wd_383, wd_400, wd_65, wd_401, ⟨wd_381, _, _, _, wd_404⟩, ⟨by decide +kernel, by decide +kernel, by rfl⟩, by decide⟩
theorem lU_RX10_116_5 : vLU RX10 116 5 yX4_steps yX5_steps cX5_steps 3 (some .int) 2 := ⟨⟨RX5, TX5, _, rfl, wd_398⟩, wd_457, wd_383, wd_396, wd_66, wd_397, ⟨wd_381, _, _, _, wd_404⟩, ⟨by decide +kernel, by decide +kernel, by rfl⟩, by decide⟩
theorem lU_RX10_116_3 : vLU RX10 116 3 yX4_steps yX3_steps cX3_steps 3 (some .int) 2 := ⟨⟨RX3, TX3, _, rfl, wd_392⟩, wd_457, wd_383, wd_393, wd_67, wd_394, ⟨wd_381, _, _, _, wd_404⟩, ⟨by decide +kernel, by decide +kernel, by rfl⟩, by decide⟩
theorem lU_RX10_116_2 : vLU RX10 116 2 yX4_steps yX4_steps cX4_steps 3 (some .int) 2 := ⟨⟨RX2, TX2, _, rfl, wd_391⟩, wd_457, wd_383, wd_381, wd_63, wd_404, ⟨wd_381, _, _, _, wd_404⟩, ⟨by decide +kernel, by decide +kernel, by rfl⟩, by decide⟩
theorem lU_RX10_116_0 : vLU RX10 116 0 yX4_steps yX0_steps cX0_steps 3 (some .int) 2 := ⟨⟨RX0, TX0, _, rfl, wd_384⟩, wd_457, wd_383, wd_385, wd_69, wd_386, ⟨wd_381, _, _, _, wd_404⟩, ⟨by decide +kernel, by decide +kernel, by rfl⟩, by decide⟩
theorem lV_RX11_233 : vLV RX11 233 4 yX4_isUnder cX4_isUnder 2 (some .boolean) 1 := ⟨⟨TX4, _, rfl⟩, wd_802, wd_803, wd_804, wd_63, wd_830, ⟨by decide +kernel, by decide +kernel, by rfl⟩, by decide⟩
theorem lU_RX11_233_9 : vLU RX11 233 9 yX4_isUnder yX9_isUnder cX9_isUnder 2 (some .boolean) 1 := ⟨⟨RX9, TX9, _, rfl, wd_829⟩, wd_802, wd_805, wd_810, wd_64, wd_811, ⟨wd_803, _, _, _, wd_830⟩, ⟨by decide +kernel, by decide +kernel, by rfl⟩, by decide⟩
theorem lU_RX11_233_6 : vLU RX11 233 6 yX4_isUnder yX6_isUnder cX6_isUnder 2 (some .boolean) 1 := ⟨⟨RX6, TX6, _, rfl, wd_828⟩, wd_802, wd_805, wd_824, wd_65, wd_825, ⟨wd_803, _, _, _, wd_830⟩, ⟨by decide +kernel, by decide +kernel, by rfl⟩, by decide⟩
theorem lU_RX11_233_5 : vLU RX11 233 5 yX4_isUnder yX5_isUnder cX5_isUnder 2 (some .boolean) 1 := ⟨⟨RX5, TX5, _, rfl, wd_827⟩, wd_802, wd_805, wd_821, wd_66, wd_822, ⟨wd_803, _, _, _, wd_830⟩, ⟨by decide +kernel, by decide +kernel, by rfl⟩, by decide⟩
theorem lU_RX11_233_3 : vLU RX11 233 3 yX4_isUnder yX3_isUnder cX3_isUnder 2 (some .boolean) 1 := ⟨⟨RX3, TX3, _, rfl, wd_817⟩, wd_802, wd_805, wd_818, wd_67, wd_819, ⟨wd_803, _, _, _, wd_830⟩, ⟨by decide +kernel, by decide +kernel, by rfl⟩, by decide⟩
theorem lU_RX11_233_2 : vLU RX11 233 2 yX4_isUnder yX2_isUnder cX2_isUnder 2 (some .boolean) 1 := ⟨⟨RX2, TX2, _, rfl, wd_813⟩, wd_802, wd_805, wd_814, wd_68, wd_815, ⟨wd_803, _, _, _, wd_830⟩, ⟨by decide +kernel, by decide +kernel, by rfl⟩, by decide⟩
theorem lU_RX11_233_0 : vLU RX11 233 0 yX4_isUnder yX0_isUnder cX0_isUnder 2 (some .boolean) 1 := ⟨⟨RX0, TX0, _, rfl, wd_806⟩, wd_802, wd_805, wd_807, wd_69, wd_808, ⟨wd_803, _, _, _, wd_830⟩, ⟨by decide +kernel, by decide +kernel, by rfl⟩, by decide⟩
theorem lV_RX11_114 : vLV RX11 114 4 yX4_burns cX4_burns 2 (some .int) 1 := ⟨⟨TX4, _, rfl⟩, wd_357, wd_358, wd_359, wd_63, wd_379, ⟨by decide +kernel, by decide +kernel, by rfl⟩, by decide⟩
theorem lU_RX11_114_9 : vLU RX11 114 9 yX4_burns yX9_burns cX9_burns 2 (some .int) 1 := ⟨⟨RX9, TX9, _, rfl, wd_378⟩, wd_357, wd_360, wd_365, wd_64, wd_366, ⟨wd_358, _, _, _, wd_379⟩, ⟨by decide +kernel, by decide +kernel, by rfl⟩, by decide⟩
theorem lU_RX11_114_6 : vLU RX11 114 6 yX4_burns yX6_burns cX6_burns 2 (some .int) 1 := ⟨⟨RX6, TX6, _, rfl, wd_377⟩, wd_357, wd_360, wd_373, wd_65, wd_374, ⟨wd_358, _, _, _, wd_379⟩, ⟨by decide +kernel, by decide +kernel, by rfl⟩, by decide⟩
theorem lU_RX11_114_5 : vLU RX11 114 5 yX4_burns yX5_burns cX5_burns 2 (some .int) 1 := ⟨⟨RX5, TX5, _, rfl, wd_376⟩, wd_357, wd_360, wd_370, wd_66, wd_371, ⟨wd_358, _, _, _, wd_379⟩, ⟨by decide +kernel, by decide +kernel, by rfl⟩, by decide⟩
theorem lU_RX11_114_3 : vLU RX11 114 3 yX4_burns yX5_burns cX5_burns 2 (some .int) 1 := ⟨⟨RX3, TX3, _, rfl, wd_369⟩, wd_357, wd_360, wd_370, wd_66, wd_371, ⟨wd_358, _, _, _, wd_379⟩, ⟨by decide +kernel, by decide +kernel, by rfl⟩, by decide⟩
theorem lU_RX11_114_2 : vLU RX11 114 2 yX4_burns yX4_burns cX4_burns 2 (some .int) 1 := ⟨⟨RX2, TX2, _, rfl, wd_368⟩, wd_357, wd_360, wd_358, wd_63, wd_379, ⟨wd_358, _, _, _, wd_379⟩, ⟨by decide +kernel, by decide +kernel, by rfl⟩, by decide⟩
theorem lU_RX11_114_0 : vLU RX11 114 0 yX4_burns yX0_burns cX0_burns 2 (some .int) 1 := ⟨⟨RX0, TX0, _, rfl, wd_361⟩, wd_357, wd_360, wd_362, wd_69, wd_363, ⟨wd_358, _, _, _, wd_379⟩, ⟨by decide +kernel, by decide +kernel, by rfl⟩, by decide⟩
theorem lV_RX11_122 : vLV RX11 122 4 yX4_steps cX4_steps 3 (some .int) 2 := ⟨⟨TX4, _, rfl⟩, wd_380, wd_381, wd_382, wd_63, wd_404, ⟨by decide +kernel, by decide +kernel, by rfl⟩, by decide⟩
theorem lU_RX11_122_9 : vLU RX11 122 9 yX4_steps yX9_steps cX9_steps 3 (some .int) 2 := ⟨⟨RX9, TX9, _, rfl, wd_403⟩, wd_380, wd_383, wd_388, wd_64, wd_389, ⟨wd_381, _, _, _, wd_404⟩, ⟨by decide +kernel, by decide +kernel, by rfl⟩, by decide⟩
theorem lU_RX11_122_6 : vLU RX11 122 6 yX4_steps yX6_steps cX6_steps 3 (some .int) 2 := ⟨⟨RX6, TX6, _, rfl, wd_399⟩, wd_380, wd_383, wd_400, wd_65, wd_401, ⟨wd_381, _, _, _, wd_404⟩, ⟨by decide +kernel, by decide +kernel, by rfl⟩, by decide⟩
theorem lU_RX11_122_5 : vLU RX11 122 5 yX4_steps yX5_steps cX5_steps 3 (some .int) 2 := ⟨⟨RX5, TX5, _, rfl, wd_398⟩, wd_380, wd_383, wd_396, wd_66, wd_397, ⟨wd_381, _, _, _, wd_404⟩, ⟨by decide +kernel, by decide +kernel, by rfl⟩, by decide⟩
theorem lU_RX11_122_3 : vLU RX11 122 3 yX4_steps yX3_steps cX3_steps 3 (some .int) 2 := ⟨⟨RX3, TX3, _, rfl, wd_392⟩, wd_380, wd_383, wd_393, wd_67, wd_394, ⟨wd_381, _, _, _, wd_404⟩, ⟨by decide +kernel, by decide +kernel, by rfl⟩, by decide⟩
theorem lU_RX11_122_2 : vLU RX11 122 2 yX4_steps yX4_steps cX4_steps 3 (some .int) 2 := ⟨⟨RX2, TX2, _, rfl, wd_391⟩, wd_380, wd_383, wd_381, wd_63, wd_404, ⟨wd_381, _, _, _, wd_404⟩, ⟨by decide +kernel, by decide +kernel, by rfl⟩, by decide⟩
theorem lU_RX11_122_0 : vLU RX11 122 0 yX4_steps yX0_steps cX0_steps 3 (some .int) 2 := ⟨⟨RX0, TX0, _, rfl, wd_384⟩, wd_380, wd_383, wd_385, wd_69, wd_386, ⟨wd_381, _, _, _, wd_404⟩, ⟨by decide +kernel, by decide +kernel, by rfl⟩, by decide⟩
theorem lV_RX7_77 : vLV RX7 77 4 yX4_word cX4_word 1 (some (.object "java/lang/String")) 0 := ⟨⟨TX4, _, rfl⟩, wd_755, wd_756, wd_757, wd_63, wd_783, ⟨by decide +kernel, by decide +kernel, by rfl⟩, by decide⟩
theorem lU_RX7_77_9 : vLU RX7 77 9 yX4_word yX9_word cX9_word 1 (some (.object "java/lang/String")) 0 := ⟨⟨RX9, TX9, _, rfl, wd_779⟩, wd_755, wd_758, wd_780, wd_64, wd_781, ⟨wd_756, _, _, _, wd_783⟩, ⟨by decide +kernel, by decide +kernel, by rfl⟩, by decide⟩
theorem lU_RX7_77_6 : vLU RX7 77 6 yX4_word yX6_word cX6_word 1 (some (.object "java/lang/String")) 0 := ⟨⟨RX6, TX6, _, rfl, wd_775⟩, wd_755, wd_758, wd_776, wd_65, wd_777, ⟨wd_756, _, _, _, wd_783⟩, ⟨by decide +kernel, by decide +kernel, by rfl⟩, by decide⟩
theorem lU_RX7_77_5 : vLU RX7 77 5 yX4_word yX5_word cX5_word 1 (some (.object "java/lang/String")) 0 := ⟨⟨RX5, TX5, _, rfl, wd_771⟩, wd_755, wd_758, wd_772, wd_66, wd_773, ⟨wd_756, _, _, _, wd_783⟩, ⟨by decide +kernel, by decide +kernel, by rfl⟩, by decide⟩
theorem lU_RX7_77_3 : vLU RX7 77 3 yX4_word yX3_word cX3_word 1 (some (.object "java/lang/String")) 0 := ⟨⟨RX3, TX3, _, rfl, wd_767⟩, wd_755, wd_758, wd_768, wd_67, wd_769, ⟨wd_756, _, _, _, wd_783⟩, ⟨by decide +kernel, by decide +kernel, by rfl⟩, by decide⟩
theorem lU_RX7_77_2 : vLU RX7 77 2 yX4_word yX2_word cX2_word 1 (some (.object "java/lang/String")) 0 := ⟨⟨RX2, TX2, _, rfl, wd_763⟩, wd_755, wd_758, wd_764, wd_68, wd_765, ⟨wd_756, _, _, _, wd_783⟩, ⟨by decide +kernel, by decide +kernel, by rfl⟩, by decide⟩
theorem lU_RX7_77_0 : vLU RX7 77 0 yX4_word yX0_word cX0_word 1 (some (.object "java/lang/String")) 0 := ⟨⟨RX0, TX0, _, rfl, wd_759⟩, wd_755, wd_758, wd_760, wd_69, wd_761, ⟨wd_756, _, _, _, wd_783⟩, ⟨by decide +kernel, by decide +kernel, by rfl⟩, by decide⟩
