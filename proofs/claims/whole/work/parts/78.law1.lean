theorem L_c0 {E : vEnv} {nm : String} {Qa : Option Value → Nat → (Nat → AC) → Prop} {S : Mem} {H i : Nat} (hI : INV S (mp S) H) (hH : H ≤ 40000) (hi : i + 6 ≤ eL E) (hE : eL E ≤ 3072) (kk : ∀ S2, INV S2 (mp S2) (H + 60) → V E RL nm cL_law 4 (some .boolean) 11 0 0 Qa 68 (hpS S2) 1372 (lwL i) []) : V E RL nm cL_law 4 (some .boolean) 11 0 0 Qa 68 (hpS S) 204 (lwL i) [] := by
  have hx := in_x hi hE
  refine V_aload_n (pc := 204) (i := 1) dL_law_204 rfl rfl ?_
  refine V_aload_n (pc := 205) (i := 0) dL_law_205 rfl rfl ?_
  refine V_iload_n (pc := 206) (i := 3) dL_law_206 rfl rfl ?_
  refine V_iconst (pc := 207) (v := 1) dL_law_207 (by decide) ?_
  refine V_iadd (pc := 208) dL_law_208 ?_
  refine V_sld (pc := 209) (hx 1 (by decide)) dL_law_209 ?_
  refine V_aload_n (pc := 210) (i := 0) dL_law_210 rfl rfl ?_
  refine V_iload_n (pc := 211) (i := 3) dL_law_211 rfl rfl ?_
  refine V_iconst (pc := 212) (v := 2) dL_law_212 (by decide) ?_
  refine V_iadd (pc := 213) dL_law_213 ?_
  refine V_sld (pc := 214) (hx 2 (by decide)) dL_law_214 ?_
  refine k_X11_wood (pc := 215) lV_L_13 dL_law_215 (by decide) (Nat.le_of_ble_eq_true rfl) rfl (okBk (c_wood hI)) (fun x S2 hc => ?_)
  obtain ⟨n, h, zn, z0, zw, zs, z1, zh, zS, zT⟩ := fx hI (okS hc).2.2
  refine V_aload_n (pc := 218) (i := 2) dL_law_218 rfl rfl ?_
  refine V_aload_n (pc := 219) (i := 0) dL_law_219 rfl rfl ?_
  refine V_iload_n (pc := 220) (i := 3) dL_law_220 rfl rfl ?_
  refine V_iconst (pc := 221) (v := 1) dL_law_221 (by decide) ?_
  refine V_iadd (pc := 222) dL_law_222 ?_
  refine V_sld (pc := 223) (hx 1 (by decide)) dL_law_223 ?_
  refine V_aload_n (pc := 224) (i := 0) dL_law_224 rfl rfl ?_
  refine V_iload_n (pc := 225) (i := 3) dL_law_225 rfl rfl ?_
  refine V_iconst (pc := 226) (v := 2) dL_law_226 (by decide) ?_
  refine V_iadd (pc := 227) dL_law_227 ?_
  refine V_sld (pc := 228) (hx 2 (by decide)) dL_law_228 ?_
  refine k_X12_wood (pc := 229) lV_L_17 dL_law_229 (by decide) (Nat.le_of_ble_eq_true rfl) rfl (okBk (m_wood)) (fun y S3 hm => ?_)
  obtain ⟨he, hI3⟩ := comb (okS hc) (okS hm)
  exact V_icmp_eq (pc := 232) (tgt := 1372) dL_law_232 (by decide) (fun _ => kk S3 (hI3.mono (by omega))) (fun h => absurd he h)
theorem L_c1 {E : vEnv} {nm : String} {Qa : Option Value → Nat → (Nat → AC) → Prop} {S : Mem} {H i : Nat} (hI : INV S (mp S) H) (hH : H ≤ 40000) (hi : i + 6 ≤ eL E) (hE : eL E ≤ 3072) (kk : ∀ S2, INV S2 (mp S2) (H + 60) → V E RL nm cL_law 4 (some .boolean) 11 0 0 Qa 68 (hpS S2) 1372 (lwL i) []) : V E RL nm cL_law 4 (some .boolean) 11 0 0 Qa 68 (hpS S) 237 (lwL i) [] := by
  have hx := in_x hi hE
  refine V_aload_n (pc := 237) (i := 1) dL_law_237 rfl rfl ?_
  refine V_aload_n (pc := 238) (i := 0) dL_law_238 rfl rfl ?_
  refine V_iload_n (pc := 239) (i := 3) dL_law_239 rfl rfl ?_
  refine V_iconst (pc := 240) (v := 1) dL_law_240 (by decide) ?_
  refine V_iadd (pc := 241) dL_law_241 ?_
  refine V_sld (pc := 242) (hx 1 (by decide)) dL_law_242 ?_
  refine V_aload_n (pc := 243) (i := 0) dL_law_243 rfl rfl ?_
  refine V_iload_n (pc := 244) (i := 3) dL_law_244 rfl rfl ?_
  refine V_iconst (pc := 245) (v := 2) dL_law_245 (by decide) ?_
  refine V_iadd (pc := 246) dL_law_246 ?_
  refine V_sld (pc := 247) (hx 2 (by decide)) dL_law_247 ?_
  refine k_X11_cell (pc := 248) lV_L_18 dL_law_248 (by decide) (Nat.le_of_ble_eq_true rfl) rfl (okBk (c_cell hI)) (fun x S2 hc => ?_)
  obtain ⟨n, h, zn, z0, zw, zs, z1, zh, zS, zT⟩ := fx hI (okS hc).2.2
  refine V_aload_n (pc := 251) (i := 2) dL_law_251 rfl rfl ?_
  refine V_aload_n (pc := 252) (i := 0) dL_law_252 rfl rfl ?_
  refine V_iload_n (pc := 253) (i := 3) dL_law_253 rfl rfl ?_
  refine V_iconst (pc := 254) (v := 1) dL_law_254 (by decide) ?_
  refine V_iadd (pc := 255) dL_law_255 ?_
  refine V_sld (pc := 256) (hx 1 (by decide)) dL_law_256 ?_
  refine V_aload_n (pc := 257) (i := 0) dL_law_257 rfl rfl ?_
  refine V_iload_n (pc := 258) (i := 3) dL_law_258 rfl rfl ?_
  refine V_iconst (pc := 259) (v := 2) dL_law_259 (by decide) ?_
  refine V_iadd (pc := 260) dL_law_260 ?_
  refine V_sld (pc := 261) (hx 2 (by decide)) dL_law_261 ?_
  refine k_X12_cell (pc := 262) lV_L_21 dL_law_262 (by decide) (Nat.le_of_ble_eq_true rfl) rfl (okBk (m_cell z0 zn)) (fun y S3 hm => ?_)
  obtain ⟨he, hI3⟩ := comb (okS hc) (okS hm)
  exact V_icmp_eq (pc := 265) (tgt := 1372) dL_law_265 (by decide) (fun _ => kk S3 (hI3.mono (by omega))) (fun h => absurd he h)
theorem L_c2 {E : vEnv} {nm : String} {Qa : Option Value → Nat → (Nat → AC) → Prop} {S : Mem} {H i : Nat} (hI : INV S (mp S) H) (hH : H ≤ 40000) (hi : i + 6 ≤ eL E) (hE : eL E ≤ 3072) (kk : ∀ S2, INV S2 (mp S2) (H + 60) → V E RL nm cL_law 4 (some .boolean) 11 0 0 Qa 68 (hpS S2) 1372 (lwL i) []) : V E RL nm cL_law 4 (some .boolean) 11 0 0 Qa 68 (hpS S) 270 (lwL i) [] := by
  have hx := in_x hi hE
  refine V_aload_n (pc := 270) (i := 1) dL_law_270 rfl rfl ?_
  refine V_aload_n (pc := 271) (i := 0) dL_law_271 rfl rfl ?_
  refine V_iload_n (pc := 272) (i := 3) dL_law_272 rfl rfl ?_
  refine V_iconst (pc := 273) (v := 1) dL_law_273 (by decide) ?_
  refine V_iadd (pc := 274) dL_law_274 ?_
  refine V_sld (pc := 275) (hx 1 (by decide)) dL_law_275 ?_
  refine k_X11_wind (pc := 276) lV_L_22 dL_law_276 (by decide) (Nat.le_of_ble_eq_true rfl) rfl (okBk (c_wind hI)) (fun x S2 hc => ?_)
  obtain ⟨n, h, zn, z0, zw, zs, z1, zh, zS, zT⟩ := fx hI (okS hc).2.2
  refine V_aload_n (pc := 279) (i := 2) dL_law_279 rfl rfl ?_
  refine V_aload_n (pc := 280) (i := 0) dL_law_280 rfl rfl ?_
  refine V_iload_n (pc := 281) (i := 3) dL_law_281 rfl rfl ?_
  refine V_iconst (pc := 282) (v := 1) dL_law_282 (by decide) ?_
  refine V_iadd (pc := 283) dL_law_283 ?_
  refine V_sld (pc := 284) (hx 1 (by decide)) dL_law_284 ?_
  refine k_X12_wind (pc := 285) lV_L_26 dL_law_285 (by decide) (Nat.le_of_ble_eq_true rfl) rfl (okBk (m_wind)) (fun y S3 hm => ?_)
  obtain ⟨he, hI3⟩ := comb (okS hc) (okS hm)
  exact V_icmp_eq (pc := 288) (tgt := 1372) dL_law_288 (by decide) (fun _ => kk S3 (hI3.mono (by omega))) (fun h => absurd he h)
theorem L_c3 {E : vEnv} {nm : String} {Qa : Option Value → Nat → (Nat → AC) → Prop} {S : Mem} {H i : Nat} (hI : INV S (mp S) H) (hH : H ≤ 40000) (hi : i + 6 ≤ eL E) (hE : eL E ≤ 3072) (kk : ∀ S2, INV S2 (mp S2) (H + 60) → V E RL nm cL_law 4 (some .boolean) 11 0 0 Qa 68 (hpS S2) 1372 (lwL i) []) : V E RL nm cL_law 4 (some .boolean) 11 0 0 Qa 68 (hpS S) 293 (lwL i) [] := by
  have hx := in_x hi hE
  refine V_aload_n (pc := 293) (i := 1) dL_law_293 rfl rfl ?_
  refine V_aload_n (pc := 294) (i := 0) dL_law_294 rfl rfl ?_
  refine V_iload_n (pc := 295) (i := 3) dL_law_295 rfl rfl ?_
  refine V_iconst (pc := 296) (v := 1) dL_law_296 (by decide) ?_
  refine V_iadd (pc := 297) dL_law_297 ?_
  refine V_sld (pc := 298) (hx 1 (by decide)) dL_law_298 ?_
  refine V_aload_n (pc := 299) (i := 0) dL_law_299 rfl rfl ?_
  refine V_iload_n (pc := 300) (i := 3) dL_law_300 rfl rfl ?_
  refine V_iconst (pc := 301) (v := 2) dL_law_301 (by decide) ?_
  refine V_iadd (pc := 302) dL_law_302 ?_
  refine V_sld (pc := 303) (hx 2 (by decide)) dL_law_303 ?_
  refine V_aload_n (pc := 304) (i := 0) dL_law_304 rfl rfl ?_
  refine V_iload_n (pc := 305) (i := 3) dL_law_305 rfl rfl ?_
  refine V_iconst (pc := 306) (v := 3) dL_law_306 (by decide) ?_
  refine V_iadd (pc := 307) dL_law_307 ?_
  refine V_sld (pc := 308) (hx 3 (by decide)) dL_law_308 ?_
  refine k_X11_fire (pc := 309) lV_L_27 dL_law_309 (by decide) (Nat.le_of_ble_eq_true rfl) rfl (okBk (c_fire hI)) (fun x S2 hc => ?_)
  obtain ⟨n, h, zn, z0, zw, zs, z1, zh, zS, zT⟩ := fx hI (okS hc).2.2
  refine V_aload_n (pc := 312) (i := 2) dL_law_312 rfl rfl ?_
  refine V_aload_n (pc := 313) (i := 0) dL_law_313 rfl rfl ?_
  refine V_iload_n (pc := 314) (i := 3) dL_law_314 rfl rfl ?_
  refine V_iconst (pc := 315) (v := 1) dL_law_315 (by decide) ?_
  refine V_iadd (pc := 316) dL_law_316 ?_
  refine V_sld (pc := 317) (hx 1 (by decide)) dL_law_317 ?_
  refine V_aload_n (pc := 318) (i := 0) dL_law_318 rfl rfl ?_
  refine V_iload_n (pc := 319) (i := 3) dL_law_319 rfl rfl ?_
  refine V_iconst (pc := 320) (v := 2) dL_law_320 (by decide) ?_
  refine V_iadd (pc := 321) dL_law_321 ?_
  refine V_sld (pc := 322) (hx 2 (by decide)) dL_law_322 ?_
  refine V_aload_n (pc := 323) (i := 0) dL_law_323 rfl rfl ?_
  refine V_iload_n (pc := 324) (i := 3) dL_law_324 rfl rfl ?_
  refine V_iconst (pc := 325) (v := 3) dL_law_325 (by decide) ?_
  refine V_iadd (pc := 326) dL_law_326 ?_
  refine V_sld (pc := 327) (hx 3 (by decide)) dL_law_327 ?_
  refine k_X12_fire (pc := 328) lV_L_31 dL_law_328 (by decide) (Nat.le_of_ble_eq_true rfl) rfl (okBk (m_fire z0 zn)) (fun y S3 hm => ?_)
  obtain ⟨he, hI3⟩ := comb (okS hc) (okS hm)
  exact V_icmp_eq (pc := 331) (tgt := 1372) dL_law_331 (by decide) (fun _ => kk S3 (hI3.mono (by omega))) (fun h => absurd he h)
theorem L_c4 {E : vEnv} {nm : String} {Qa : Option Value → Nat → (Nat → AC) → Prop} {S : Mem} {H i : Nat} (hI : INV S (mp S) H) (hH : H ≤ 40000) (hi : i + 6 ≤ eL E) (hE : eL E ≤ 3072) (kk : ∀ S2, INV S2 (mp S2) (H + 60) → V E RL nm cL_law 4 (some .boolean) 11 0 0 Qa 68 (hpS S2) 1372 (lwL i) []) : V E RL nm cL_law 4 (some .boolean) 11 0 0 Qa 68 (hpS S) 336 (lwL i) [] := by
  have hx := in_x hi hE
  refine V_aload_n (pc := 336) (i := 1) dL_law_336 rfl rfl ?_
  refine V_aload_n (pc := 337) (i := 0) dL_law_337 rfl rfl ?_
  refine V_iload_n (pc := 338) (i := 3) dL_law_338 rfl rfl ?_
  refine V_iconst (pc := 339) (v := 1) dL_law_339 (by decide) ?_
  refine V_iadd (pc := 340) dL_law_340 ?_
  refine V_sld (pc := 341) (hx 1 (by decide)) dL_law_341 ?_
  refine V_aload_n (pc := 342) (i := 0) dL_law_342 rfl rfl ?_
  refine V_iload_n (pc := 343) (i := 3) dL_law_343 rfl rfl ?_
  refine V_iconst (pc := 344) (v := 2) dL_law_344 (by decide) ?_
  refine V_iadd (pc := 345) dL_law_345 ?_
  refine V_sld (pc := 346) (hx 2 (by decide)) dL_law_346 ?_
  refine k_X11_of (pc := 347) lV_L_32 dL_law_347 (by decide) (Nat.le_of_ble_eq_true rfl) rfl (okBk (c_of hI)) (fun x S2 hc => ?_)
  obtain ⟨n, h, zn, z0, zw, zs, z1, zh, zS, zT⟩ := fx hI (okS hc).2.2
  refine V_aload_n (pc := 350) (i := 2) dL_law_350 rfl rfl ?_
  refine V_aload_n (pc := 351) (i := 0) dL_law_351 rfl rfl ?_
  refine V_iload_n (pc := 352) (i := 3) dL_law_352 rfl rfl ?_
  refine V_iconst (pc := 353) (v := 1) dL_law_353 (by decide) ?_
  refine V_iadd (pc := 354) dL_law_354 ?_
  refine V_sld (pc := 355) (hx 1 (by decide)) dL_law_355 ?_
  refine V_aload_n (pc := 356) (i := 0) dL_law_356 rfl rfl ?_
  refine V_iload_n (pc := 357) (i := 3) dL_law_357 rfl rfl ?_
  refine V_iconst (pc := 358) (v := 2) dL_law_358 (by decide) ?_
  refine V_iadd (pc := 359) dL_law_359 ?_
  refine V_sld (pc := 360) (hx 2 (by decide)) dL_law_360 ?_
  refine k_X12_of (pc := 361) lV_L_35 dL_law_361 (by decide) (Nat.le_of_ble_eq_true rfl) rfl (okBk (m_of z0 zn)) (fun y S3 hm => ?_)
  obtain ⟨he, hI3⟩ := comb (okS hc) (okS hm)
  exact V_icmp_eq (pc := 364) (tgt := 1372) dL_law_364 (by decide) (fun _ => kk S3 (hI3.mono (by omega))) (fun h => absurd he h)
theorem L_c5 {E : vEnv} {nm : String} {Qa : Option Value → Nat → (Nat → AC) → Prop} {S : Mem} {H i : Nat} (hI : INV S (mp S) H) (hH : H ≤ 40000) (hi : i + 6 ≤ eL E) (hE : eL E ≤ 3072) (kk : ∀ S2, INV S2 (mp S2) (H + 60) → V E RL nm cL_law 4 (some .boolean) 11 0 0 Qa 68 (hpS S2) 1372 (lwL i) []) : V E RL nm cL_law 4 (some .boolean) 11 0 0 Qa 68 (hpS S) 369 (lwL i) [] := by
  have hx := in_x hi hE
  refine V_aload_n (pc := 369) (i := 1) dL_law_369 rfl rfl ?_
  refine V_aload_n (pc := 370) (i := 0) dL_law_370 rfl rfl ?_
  refine V_iload_n (pc := 371) (i := 3) dL_law_371 rfl rfl ?_
  refine V_iconst (pc := 372) (v := 1) dL_law_372 (by decide) ?_
  refine V_iadd (pc := 373) dL_law_373 ?_
  refine V_sld (pc := 374) (hx 1 (by decide)) dL_law_374 ?_
  refine V_aload_n (pc := 375) (i := 0) dL_law_375 rfl rfl ?_
  refine V_iload_n (pc := 376) (i := 3) dL_law_376 rfl rfl ?_
  refine V_iconst (pc := 377) (v := 2) dL_law_377 (by decide) ?_
  refine V_iadd (pc := 378) dL_law_378 ?_
  refine V_sld (pc := 379) (hx 2 (by decide)) dL_law_379 ?_
  refine V_aload_n (pc := 380) (i := 0) dL_law_380 rfl rfl ?_
  refine V_iload_n (pc := 381) (i := 3) dL_law_381 rfl rfl ?_
  refine V_iconst (pc := 382) (v := 3) dL_law_382 (by decide) ?_
  refine V_iadd (pc := 383) dL_law_383 ?_
  refine V_sld (pc := 384) (hx 3 (by decide)) dL_law_384 ?_
  refine k_X11_change (pc := 385) lV_L_36 dL_law_385 (by decide) (Nat.le_of_ble_eq_true rfl) rfl (okBk (c_change hI)) (fun x S2 hc => ?_)
  obtain ⟨n, h, zn, z0, zw, zs, z1, zh, zS, zT⟩ := fx hI (okS hc).2.2
  refine V_aload_n (pc := 388) (i := 2) dL_law_388 rfl rfl ?_
  refine V_aload_n (pc := 389) (i := 0) dL_law_389 rfl rfl ?_
  refine V_iload_n (pc := 390) (i := 3) dL_law_390 rfl rfl ?_
  refine V_iconst (pc := 391) (v := 1) dL_law_391 (by decide) ?_
  refine V_iadd (pc := 392) dL_law_392 ?_
  refine V_sld (pc := 393) (hx 1 (by decide)) dL_law_393 ?_
  refine V_aload_n (pc := 394) (i := 0) dL_law_394 rfl rfl ?_
  refine V_iload_n (pc := 395) (i := 3) dL_law_395 rfl rfl ?_
  refine V_iconst (pc := 396) (v := 2) dL_law_396 (by decide) ?_
  refine V_iadd (pc := 397) dL_law_397 ?_
  refine V_sld (pc := 398) (hx 2 (by decide)) dL_law_398 ?_
  refine V_aload_n (pc := 399) (i := 0) dL_law_399 rfl rfl ?_
  refine V_iload_n (pc := 400) (i := 3) dL_law_400 rfl rfl ?_
  refine V_iconst (pc := 401) (v := 3) dL_law_401 (by decide) ?_
  refine V_iadd (pc := 402) dL_law_402 ?_
  refine V_sld (pc := 403) (hx 3 (by decide)) dL_law_403 ?_
  refine k_X12_change (pc := 404) lV_L_39 dL_law_404 (by decide) (Nat.le_of_ble_eq_true rfl) rfl (okBk (m_change z0 zn)) (fun y S3 hm => ?_)
  obtain ⟨he, hI3⟩ := comb (okS hc) (okS hm)
  exact V_icmp_eq (pc := 407) (tgt := 1372) dL_law_407 (by decide) (fun _ => kk S3 (hI3.mono (by omega))) (fun h => absurd he h)
theorem L_c6 {E : vEnv} {nm : String} {Qa : Option Value → Nat → (Nat → AC) → Prop} {S : Mem} {H i : Nat} (hI : INV S (mp S) H) (hH : H ≤ 40000) (hi : i + 6 ≤ eL E) (hE : eL E ≤ 3072) (kk : ∀ S2, INV S2 (mp S2) (H + 60) → V E RL nm cL_law 4 (some .boolean) 11 0 0 Qa 68 (hpS S2) 1372 (lwL i) []) : V E RL nm cL_law 4 (some .boolean) 11 0 0 Qa 68 (hpS S) 412 (lwL i) [] := by
  have hx := in_x hi hE
  refine V_aload_n (pc := 412) (i := 1) dL_law_412 rfl rfl ?_
  refine V_aload_n (pc := 413) (i := 0) dL_law_413 rfl rfl ?_
  refine V_iload_n (pc := 414) (i := 3) dL_law_414 rfl rfl ?_
  refine V_iconst (pc := 415) (v := 1) dL_law_415 (by decide) ?_
  refine V_iadd (pc := 416) dL_law_416 ?_
  refine V_sld (pc := 417) (hx 1 (by decide)) dL_law_417 ?_
  refine k_X11_go (pc := 418) lV_L_40 dL_law_418 (by decide) (Nat.le_of_ble_eq_true rfl) rfl (okBk (c_go hI hH)) (fun x S2 hc => ?_)
  obtain ⟨n, h, zn, z0, zw, zs, z1, zh, zS, zT⟩ := fx hI (okS hc).2.2
  refine V_aload_n (pc := 421) (i := 2) dL_law_421 rfl rfl ?_
  refine V_aload_n (pc := 422) (i := 0) dL_law_422 rfl rfl ?_
  refine V_iload_n (pc := 423) (i := 3) dL_law_423 rfl rfl ?_
  refine V_iconst (pc := 424) (v := 1) dL_law_424 (by decide) ?_
  refine V_iadd (pc := 425) dL_law_425 ?_
  refine V_sld (pc := 426) (hx 1 (by decide)) dL_law_426 ?_
  refine k_X12_go (pc := 427) lV_L_43 dL_law_427 (by decide) (Nat.le_of_ble_eq_true rfl) rfl (okBk (m_go zw z1 (Nat.le_trans zh hH))) (fun y S3 hm => ?_)
  obtain ⟨he, hI3⟩ := comb (okS hc) (okS hm)
  exact V_icmp_eq (pc := 430) (tgt := 1372) dL_law_430 (by decide) (fun _ => kk S3 (hI3)) (fun h => absurd he h)
theorem L_c7 {E : vEnv} {nm : String} {Qa : Option Value → Nat → (Nat → AC) → Prop} {S : Mem} {H i : Nat} (hI : INV S (mp S) H) (hH : H ≤ 40000) (hi : i + 6 ≤ eL E) (hE : eL E ≤ 3072) (kk : ∀ S2, INV S2 (mp S2) (H + 60) → V E RL nm cL_law 4 (some .boolean) 11 0 0 Qa 68 (hpS S2) 1372 (lwL i) []) : V E RL nm cL_law 4 (some .boolean) 11 0 0 Qa 68 (hpS S) 435 (lwL i) [] := by
  have hx := in_x hi hE
  refine V_aload_n (pc := 435) (i := 1) dL_law_435 rfl rfl ?_
  refine V_aload_n (pc := 436) (i := 0) dL_law_436 rfl rfl ?_
  refine V_iload_n (pc := 437) (i := 3) dL_law_437 rfl rfl ?_
  refine V_iconst (pc := 438) (v := 1) dL_law_438 (by decide) ?_
  refine V_iadd (pc := 439) dL_law_439 ?_
  refine V_sld (pc := 440) (hx 1 (by decide)) dL_law_440 ?_
  refine k_X11_now (pc := 441) lV_L_44 dL_law_441 (by decide) (Nat.le_of_ble_eq_true rfl) rfl (okBk (c_now hI)) (fun x S2 hc => ?_)
  obtain ⟨n, h, zn, z0, zw, zs, z1, zh, zS, zT⟩ := fx hI (okS hc).2.2
  refine V_aload_n (pc := 444) (i := 2) dL_law_444 rfl rfl ?_
  refine V_aload_n (pc := 445) (i := 0) dL_law_445 rfl rfl ?_
  refine V_iload_n (pc := 446) (i := 3) dL_law_446 rfl rfl ?_
  refine V_iconst (pc := 447) (v := 1) dL_law_447 (by decide) ?_
  refine V_iadd (pc := 448) dL_law_448 ?_
  refine V_sld (pc := 449) (hx 1 (by decide)) dL_law_449 ?_
  refine k_X12_now (pc := 450) lV_L_47 dL_law_450 (by decide) (Nat.le_of_ble_eq_true rfl) rfl (okBk (m_now z0 zn)) (fun y S3 hm => ?_)
  obtain ⟨he, hI3⟩ := comb (okS hc) (okS hm)
  exact V_icmp_eq (pc := 453) (tgt := 1372) dL_law_453 (by decide) (fun _ => kk S3 (hI3.mono (by omega))) (fun h => absurd he h)
theorem L_c8 {E : vEnv} {nm : String} {Qa : Option Value → Nat → (Nat → AC) → Prop} {S : Mem} {H i : Nat} (hI : INV S (mp S) H) (hH : H ≤ 40000) (hi : i + 6 ≤ eL E) (hE : eL E ≤ 3072) (kk : ∀ S2, INV S2 (mp S2) (H + 60) → V E RL nm cL_law 4 (some .boolean) 11 0 0 Qa 68 (hpS S2) 1372 (lwL i) []) : V E RL nm cL_law 4 (some .boolean) 11 0 0 Qa 68 (hpS S) 458 (lwL i) [] := by
  have hx := in_x hi hE
  refine V_aload_n (pc := 458) (i := 1) dL_law_458 rfl rfl ?_
  refine V_aload_n (pc := 459) (i := 0) dL_law_459 rfl rfl ?_
  refine V_iload_n (pc := 460) (i := 3) dL_law_460 rfl rfl ?_
  refine V_iconst (pc := 461) (v := 1) dL_law_461 (by decide) ?_
  refine V_iadd (pc := 462) dL_law_462 ?_
  refine V_sld (pc := 463) (hx 1 (by decide)) dL_law_463 ?_
  refine V_aload_n (pc := 464) (i := 0) dL_law_464 rfl rfl ?_
  refine V_iload_n (pc := 465) (i := 3) dL_law_465 rfl rfl ?_
  refine V_iconst (pc := 466) (v := 2) dL_law_466 (by decide) ?_
  refine V_iadd (pc := 467) dL_law_467 ?_
  refine V_sld (pc := 468) (hx 2 (by decide)) dL_law_468 ?_
  refine V_aload_n (pc := 469) (i := 0) dL_law_469 rfl rfl ?_
  refine V_iload_n (pc := 470) (i := 3) dL_law_470 rfl rfl ?_
  refine V_iconst (pc := 471) (v := 3) dL_law_471 (by decide) ?_
  refine V_iadd (pc := 472) dL_law_472 ?_
  refine V_sld (pc := 473) (hx 3 (by decide)) dL_law_473 ?_
  refine k_X11_ahead (pc := 474) lV_L_48 dL_law_474 (by decide) (Nat.le_of_ble_eq_true rfl) rfl (okBk (c_ahead hI hH)) (fun x S2 hc => ?_)
  obtain ⟨n, h, zn, z0, zw, zs, z1, zh, zS, zT⟩ := fx hI (okS hc).2.2
  refine V_aload_n (pc := 477) (i := 2) dL_law_477 rfl rfl ?_
  refine V_aload_n (pc := 478) (i := 0) dL_law_478 rfl rfl ?_
  refine V_iload_n (pc := 479) (i := 3) dL_law_479 rfl rfl ?_
  refine V_iconst (pc := 480) (v := 1) dL_law_480 (by decide) ?_
  refine V_iadd (pc := 481) dL_law_481 ?_
  refine V_sld (pc := 482) (hx 1 (by decide)) dL_law_482 ?_
  refine V_aload_n (pc := 483) (i := 0) dL_law_483 rfl rfl ?_
  refine V_iload_n (pc := 484) (i := 3) dL_law_484 rfl rfl ?_
  refine V_iconst (pc := 485) (v := 2) dL_law_485 (by decide) ?_
  refine V_iadd (pc := 486) dL_law_486 ?_
  refine V_sld (pc := 487) (hx 2 (by decide)) dL_law_487 ?_
  refine V_aload_n (pc := 488) (i := 0) dL_law_488 rfl rfl ?_
  refine V_iload_n (pc := 489) (i := 3) dL_law_489 rfl rfl ?_
  refine V_iconst (pc := 490) (v := 3) dL_law_490 (by decide) ?_
  refine V_iadd (pc := 491) dL_law_491 ?_
  refine V_sld (pc := 492) (hx 3 (by decide)) dL_law_492 ?_
  refine k_X12_ahead (pc := 493) lV_L_51 dL_law_493 (by decide) (Nat.le_of_ble_eq_true rfl) rfl (okBk (m_ahead zw)) (fun y S3 hm => ?_)
  obtain ⟨he, hI3⟩ := comb (okS hc) (okS hm)
  exact V_icmp_eq (pc := 496) (tgt := 1372) dL_law_496 (by decide) (fun _ => kk S3 (hI3.mono (by omega))) (fun h => absurd he h)
theorem L_c9 {E : vEnv} {nm : String} {Qa : Option Value → Nat → (Nat → AC) → Prop} {S : Mem} {H i : Nat} (hI : INV S (mp S) H) (hH : H ≤ 40000) (hi : i + 6 ≤ eL E) (hE : eL E ≤ 3072) (kk : ∀ S2, INV S2 (mp S2) (H + 60) → V E RL nm cL_law 4 (some .boolean) 11 0 0 Qa 68 (hpS S2) 1372 (lwL i) []) : V E RL nm cL_law 4 (some .boolean) 11 0 0 Qa 68 (hpS S) 501 (lwL i) [] := by
  have hx := in_x hi hE
  refine V_aload_n (pc := 501) (i := 1) dL_law_501 rfl rfl ?_
  refine V_aload_n (pc := 502) (i := 0) dL_law_502 rfl rfl ?_
  refine V_iload_n (pc := 503) (i := 3) dL_law_503 rfl rfl ?_
  refine V_iconst (pc := 504) (v := 1) dL_law_504 (by decide) ?_
  refine V_iadd (pc := 505) dL_law_505 ?_
  refine V_sld (pc := 506) (hx 1 (by decide)) dL_law_506 ?_
  refine V_aload_n (pc := 507) (i := 0) dL_law_507 rfl rfl ?_
  refine V_iload_n (pc := 508) (i := 3) dL_law_508 rfl rfl ?_
  refine V_iconst (pc := 509) (v := 2) dL_law_509 (by decide) ?_
  refine V_iadd (pc := 510) dL_law_510 ?_
  refine V_sld (pc := 511) (hx 2 (by decide)) dL_law_511 ?_
  refine k_X11_grown (pc := 512) lV_L_52 dL_law_512 (by decide) (Nat.le_of_ble_eq_true rfl) rfl (okBk (c_grown hI hH)) (fun x S2 hc => ?_)
  obtain ⟨n, h, zn, z0, zw, zs, z1, zh, zS, zT⟩ := fx hI (okS hc).2.2
  refine V_aload_n (pc := 515) (i := 2) dL_law_515 rfl rfl ?_
  refine V_aload_n (pc := 516) (i := 0) dL_law_516 rfl rfl ?_
  refine V_iload_n (pc := 517) (i := 3) dL_law_517 rfl rfl ?_
  refine V_iconst (pc := 518) (v := 1) dL_law_518 (by decide) ?_
  refine V_iadd (pc := 519) dL_law_519 ?_
  refine V_sld (pc := 520) (hx 1 (by decide)) dL_law_520 ?_
  refine V_aload_n (pc := 521) (i := 0) dL_law_521 rfl rfl ?_
  refine V_iload_n (pc := 522) (i := 3) dL_law_522 rfl rfl ?_
  refine V_iconst (pc := 523) (v := 2) dL_law_523 (by decide) ?_
  refine V_iadd (pc := 524) dL_law_524 ?_
  refine V_sld (pc := 525) (hx 2 (by decide)) dL_law_525 ?_
  refine k_X12_grown (pc := 526) lV_L_55 dL_law_526 (by decide) (Nat.le_of_ble_eq_true rfl) rfl (okBk (m_grown zw)) (fun y S3 hm => ?_)
  obtain ⟨he, hI3⟩ := comb (okS hc) (okS hm)
  exact V_icmp_eq (pc := 529) (tgt := 1372) dL_law_529 (by decide) (fun _ => kk S3 (hI3.mono (by omega))) (fun h => absurd he h)
theorem L_c10 {E : vEnv} {nm : String} {Qa : Option Value → Nat → (Nat → AC) → Prop} {S : Mem} {H i : Nat} (hI : INV S (mp S) H) (hH : H ≤ 40000) (hi : i + 6 ≤ eL E) (hE : eL E ≤ 3072) (kk : ∀ S2, INV S2 (mp S2) (H + 60) → V E RL nm cL_law 4 (some .boolean) 11 0 0 Qa 68 (hpS S2) 1372 (lwL i) []) : V E RL nm cL_law 4 (some .boolean) 11 0 0 Qa 68 (hpS S) 534 (lwL i) [] := by
  have hx := in_x hi hE
  refine V_aload_n (pc := 534) (i := 1) dL_law_534 rfl rfl ?_
  refine V_aload_n (pc := 535) (i := 0) dL_law_535 rfl rfl ?_
  refine V_iload_n (pc := 536) (i := 3) dL_law_536 rfl rfl ?_
  refine V_iconst (pc := 537) (v := 1) dL_law_537 (by decide) ?_
  refine V_iadd (pc := 538) dL_law_538 ?_
  refine V_sld (pc := 539) (hx 1 (by decide)) dL_law_539 ?_
  refine V_aload_n (pc := 540) (i := 0) dL_law_540 rfl rfl ?_
  refine V_iload_n (pc := 541) (i := 3) dL_law_541 rfl rfl ?_
  refine V_iconst (pc := 542) (v := 2) dL_law_542 (by decide) ?_
  refine V_iadd (pc := 543) dL_law_543 ?_
  refine V_sld (pc := 544) (hx 2 (by decide)) dL_law_544 ?_
  refine k_X11_when (pc := 545) lV_L_56 dL_law_545 (by decide) (Nat.le_of_ble_eq_true rfl) rfl (okBk (c_when hI hH)) (fun x S2 hc => ?_)
  obtain ⟨n, h, zn, z0, zw, zs, z1, zh, zS, zT⟩ := fx hI (okS hc).2.2
  refine V_aload_n (pc := 548) (i := 2) dL_law_548 rfl rfl ?_
  refine V_aload_n (pc := 549) (i := 0) dL_law_549 rfl rfl ?_
  refine V_iload_n (pc := 550) (i := 3) dL_law_550 rfl rfl ?_
  refine V_iconst (pc := 551) (v := 1) dL_law_551 (by decide) ?_
  refine V_iadd (pc := 552) dL_law_552 ?_
  refine V_sld (pc := 553) (hx 1 (by decide)) dL_law_553 ?_
  refine V_aload_n (pc := 554) (i := 0) dL_law_554 rfl rfl ?_
  refine V_iload_n (pc := 555) (i := 3) dL_law_555 rfl rfl ?_
  refine V_iconst (pc := 556) (v := 2) dL_law_556 (by decide) ?_
  refine V_iadd (pc := 557) dL_law_557 ?_
  refine V_sld (pc := 558) (hx 2 (by decide)) dL_law_558 ?_
  refine k_X12_when (pc := 559) lV_L_59 dL_law_559 (by decide) (Nat.le_of_ble_eq_true rfl) rfl (okBk (m_when zw)) (fun y S3 hm => ?_)
  obtain ⟨he, hI3⟩ := comb (okS hc) (okS hm)
  exact V_icmp_eq (pc := 562) (tgt := 1372) dL_law_562 (by decide) (fun _ => kk S3 (hI3.mono (by omega))) (fun h => absurd he h)
theorem L_c11 {E : vEnv} {nm : String} {Qa : Option Value → Nat → (Nat → AC) → Prop} {S : Mem} {H i : Nat} (hI : INV S (mp S) H) (hH : H ≤ 40000) (hi : i + 6 ≤ eL E) (hE : eL E ≤ 3072) (kk : ∀ S2, INV S2 (mp S2) (H + 60) → V E RL nm cL_law 4 (some .boolean) 11 0 0 Qa 68 (hpS S2) 1372 (lwL i) []) : V E RL nm cL_law 4 (some .boolean) 11 0 0 Qa 68 (hpS S) 567 (lwL i) [] := by
  have hx := in_x hi hE
  refine V_aload_n (pc := 567) (i := 1) dL_law_567 rfl rfl ?_
  refine V_aload_n (pc := 568) (i := 0) dL_law_568 rfl rfl ?_
  refine V_iload_n (pc := 569) (i := 3) dL_law_569 rfl rfl ?_
  refine V_iconst (pc := 570) (v := 1) dL_law_570 (by decide) ?_
  refine V_iadd (pc := 571) dL_law_571 ?_
  refine V_sld (pc := 572) (hx 1 (by decide)) dL_law_572 ?_
  refine k_X11_stuck (pc := 573) lV_L_60 dL_law_573 (by decide) (Nat.le_of_ble_eq_true rfl) rfl (okBk (c_stuck hI hH)) (fun x S2 hc => ?_)
  obtain ⟨n, h, zn, z0, zw, zs, z1, zh, zS, zT⟩ := fx hI (okS hc).2.2
  refine V_aload_n (pc := 576) (i := 2) dL_law_576 rfl rfl ?_
  refine V_aload_n (pc := 577) (i := 0) dL_law_577 rfl rfl ?_
  refine V_iload_n (pc := 578) (i := 3) dL_law_578 rfl rfl ?_
  refine V_iconst (pc := 579) (v := 1) dL_law_579 (by decide) ?_
  refine V_iadd (pc := 580) dL_law_580 ?_
  refine V_sld (pc := 581) (hx 1 (by decide)) dL_law_581 ?_
  refine k_X12_stuck (pc := 582) lV_L_63 dL_law_582 (by decide) (Nat.le_of_ble_eq_true rfl) rfl (okBk (m_stuck zw)) (fun y S3 hm => ?_)
  obtain ⟨he, hI3⟩ := comb (okS hc) (okS hm)
  exact V_icmp_eq (pc := 585) (tgt := 1372) dL_law_585 (by decide) (fun _ => kk S3 (hI3.mono (by omega))) (fun h => absurd he h)
theorem L_c12 {E : vEnv} {nm : String} {Qa : Option Value → Nat → (Nat → AC) → Prop} {S : Mem} {H i : Nat} (hI : INV S (mp S) H) (hH : H ≤ 40000) (hi : i + 6 ≤ eL E) (hE : eL E ≤ 3072) (kk : ∀ S2, INV S2 (mp S2) (H + 60) → V E RL nm cL_law 4 (some .boolean) 11 0 0 Qa 68 (hpS S2) 1372 (lwL i) []) : V E RL nm cL_law 4 (some .boolean) 11 0 0 Qa 68 (hpS S) 590 (lwL i) [] := by
  refine V_aload_n (pc := 590) (i := 1) dL_law_590 rfl rfl ?_
  refine k_X11_crosses (pc := 591) lV_L_64 dL_law_591 (by decide) (Nat.le_of_ble_eq_true rfl) rfl (okBk (c_crosses2 hI hH)) (fun x S2 hc => ?_)
  obtain ⟨n, h, zn, z0, zw, zs, z1, zh, zS, zT⟩ := fx hI (okS hc).2.2
  refine V_aload_n (pc := 594) (i := 2) dL_law_594 rfl rfl ?_
  refine k_X12_crosses (pc := 595) lV_L_68 dL_law_595 (by decide) (Nat.le_of_ble_eq_true rfl) rfl (okBk (m_crosses zw)) (fun y S3 hm => ?_)
  obtain ⟨he, hI3⟩ := comb (okS hc) (okS hm)
  exact V_icmp_eq (pc := 598) (tgt := 1372) dL_law_598 (by decide) (fun _ => kk S3 (hI3.mono (by omega))) (fun h => absurd he h)
