/-! the law's loop -/
theorem neg_len : ∀ L, L < 6 → (nI L - 6).toInt < 0 := by decide +kernel
theorem len_sub {L : Nat} (h : 6 ≤ L) : nI L - 6 = nI (L - 6) := by
  have e : nI L = nI (L - 6) + 6 := by
    have : nI (L - 6) + nI 6 = nI (L - 6 + 6) := nI_addL _ _
    rw [show L - 6 + 6 = L by omega] at this
    exact this.symm
  rw [e, Int32.add_sub_cancel]
theorem i_add6 (i : Nat) : nI i + Int32.ofInt 6 = nI (i + 6) := nI_addL i 6
set_option maxRecDepth 16000 in
theorem L_step {E : vEnv} {nm : String} {Qa : Option Value → Nat → (Nat → AC) → Prop} {S : Mem} {H i : Nat} (hI : INV S (mp S) H) (hH : H ≤ 40000) (hi : i < 10000) (hE : eL E ≤ 3072) (hq : ∀ S2, Qa (some (.int 1)) 68 (hpS S2)) (kk : i + 6 ≤ eL E → ∀ S2, INV S2 (mp S2) (H + 60) → V E RL nm cL_law 4 (some .boolean) 11 0 0 Qa 68 (hpS S2) 18 (lwL (i + 6)) []) : V E RL nm cL_law 4 (some .boolean) 11 0 0 Qa 68 (hpS S) 18 (lwL i) [] := by
  refine V_iload_n (pc := 18) (i := 3) dL_law_18 rfl rfl ?_
  refine V_aload_n (pc := 19) (i := 0) dL_law_19 rfl rfl ?_
  refine V_slen (pc := 20) dL_law_20 ?_
  refine V_bipush (pc := 21) (v := 6) dL_law_21 (by decide) ?_
  refine V_isub (pc := 23) dL_law_23 ?_
  refine V_icmp_gt (pc := 24) (tgt := 1378) dL_law_24 (by decide) (fun _ => ?_) (fun h => ?_)
  · exact V_iconst (pc := 1378) (v := 1) dL_law_1378 (by decide) (V_iret (pc := 1379) dL_law_1379 rfl rfl (hq S))
  · have hi6 : i + 6 ≤ eL E := by
      have h2 := Int32.le_iff_toInt_le.mp (Int32.not_lt.mp h)
      rw [nI_toInt (by omega)] at h2
      by_cases h6 : 6 ≤ eL E
      · rw [len_sub h6, nI_toInt (by omega)] at h2
        omega
      · have := neg_len (eL E) (by omega)
        omega
    refine V_aload_n (pc := 27) (i := 0) dL_law_27 rfl rfl ?_
    refine V_iload_n (pc := 28) (i := 3) dL_law_28 rfl rfl ?_
    refine V_sld (pc := 29) (vp_in_iff.mpr (by rw [nI_toInt (by omega)]; omega)) dL_law_29 ?_
    refine V_bipush (pc := 30) (v := 63) dL_law_30 (by decide) ?_
    refine V_iand (pc := 32) dL_law_32 ?_
    generalize (eX E (nI i).toNatClampNeg &&& 63) = t
    have kk2 : ∀ S2, INV S2 (mp S2) (H + 60) → V E RL nm cL_law 4 (some .boolean) 11 0 0 Qa 68 (hpS S2) 1372 (lwL i) [] := fun S2 h2 => V_iinc (pc := 1372) (i := 3) (v := nI (i + 6)) (ls2 := lwL (i + 6)) dL_law_1372 rfl (i_add6 i) (by decide) rfl rfl (V_goto (pc := 1375) (tgt := 18) dL_law_1375 (by decide) (kk hi6 S2 h2))
    by_cases ht : t.toInt < 0 ∨ 38 < t.toInt
    · exact V_tableOut (pc := 33) (tgt := 1372) dL_law_33 ht (by decide) (kk2 S (hI.mono (by omega)))
    · obtain ⟨k, hk, rfl⟩ : ∃ k, k < 39 ∧ t = nI k := ⟨t.toInt.toNat, by omega, by
        apply Int32.toInt_inj.mp
        rw [nI_toInt (by omega)]
        omega⟩
      match k, hk with
      | 0, _ => exact V_tableIn (pc := 33) (off := 171) (tgt := 204) dL_law_33 (by decide) (by decide) (by rfl) (by decide) (L_c0 hI hH hi6 hE kk2)
      | 1, _ => exact V_tableIn (pc := 33) (off := 204) (tgt := 237) dL_law_33 (by decide) (by decide) (by rfl) (by decide) (L_c1 hI hH hi6 hE kk2)
      | 2, _ => exact V_tableIn (pc := 33) (off := 237) (tgt := 270) dL_law_33 (by decide) (by decide) (by rfl) (by decide) (L_c2 hI hH hi6 hE kk2)
      | 3, _ => exact V_tableIn (pc := 33) (off := 260) (tgt := 293) dL_law_33 (by decide) (by decide) (by rfl) (by decide) (L_c3 hI hH hi6 hE kk2)
      | 4, _ => exact V_tableIn (pc := 33) (off := 303) (tgt := 336) dL_law_33 (by decide) (by decide) (by rfl) (by decide) (L_c4 hI hH hi6 hE kk2)
      | 5, _ => exact V_tableIn (pc := 33) (off := 336) (tgt := 369) dL_law_33 (by decide) (by decide) (by rfl) (by decide) (L_c5 hI hH hi6 hE kk2)
      | 6, _ => exact V_tableIn (pc := 33) (off := 379) (tgt := 412) dL_law_33 (by decide) (by decide) (by rfl) (by decide) (L_c6 hI hH hi6 hE kk2)
      | 7, _ => exact V_tableIn (pc := 33) (off := 402) (tgt := 435) dL_law_33 (by decide) (by decide) (by rfl) (by decide) (L_c7 hI hH hi6 hE kk2)
      | 8, _ => exact V_tableIn (pc := 33) (off := 425) (tgt := 458) dL_law_33 (by decide) (by decide) (by rfl) (by decide) (L_c8 hI hH hi6 hE kk2)
      | 9, _ => exact V_tableIn (pc := 33) (off := 468) (tgt := 501) dL_law_33 (by decide) (by decide) (by rfl) (by decide) (L_c9 hI hH hi6 hE kk2)
      | 10, _ => exact V_tableIn (pc := 33) (off := 501) (tgt := 534) dL_law_33 (by decide) (by decide) (by rfl) (by decide) (L_c10 hI hH hi6 hE kk2)
      | 11, _ => exact V_tableIn (pc := 33) (off := 534) (tgt := 567) dL_law_33 (by decide) (by decide) (by rfl) (by decide) (L_c11 hI hH hi6 hE kk2)
      | 12, _ => exact V_tableIn (pc := 33) (off := 557) (tgt := 590) dL_law_33 (by decide) (by decide) (by rfl) (by decide) (L_c12 hI hH hi6 hE kk2)
      | 13, _ => exact V_tableIn (pc := 33) (off := 570) (tgt := 603) dL_law_33 (by decide) (by decide) (by rfl) (by decide) (L_c13 hI hH hi6 hE kk2)
      | 14, _ => exact V_tableIn (pc := 33) (off := 593) (tgt := 626) dL_law_33 (by decide) (by decide) (by rfl) (by decide) (L_c14 hI hH hi6 hE kk2)
      | 15, _ => exact V_tableIn (pc := 33) (off := 636) (tgt := 669) dL_law_33 (by decide) (by decide) (by rfl) (by decide) (L_c15 hI hH hi6 hE kk2)
      | 16, _ => exact V_tableIn (pc := 33) (off := 669) (tgt := 702) dL_law_33 (by decide) (by decide) (by rfl) (by decide) (L_c16 hI hH hi6 hE kk2)
      | 17, _ => exact V_tableIn (pc := 33) (off := 702) (tgt := 735) dL_law_33 (by decide) (by decide) (by rfl) (by decide) (L_c17 hI hH hi6 hE kk2)
      | 18, _ => exact V_tableIn (pc := 33) (off := 755) (tgt := 788) dL_law_33 (by decide) (by decide) (by rfl) (by decide) (L_c18 hI hH hi6 hE kk2)
      | 19, _ => exact V_tableIn (pc := 33) (off := 778) (tgt := 811) dL_law_33 (by decide) (by decide) (by rfl) (by decide) (L_c19 hI hH hi6 hE kk2)
      | 20, _ => exact V_tableIn (pc := 33) (off := 811) (tgt := 844) dL_law_33 (by decide) (by decide) (by rfl) (by decide) (L_c20 hI hH hi6 hE kk2)
      | 21, _ => exact V_tableIn (pc := 33) (off := 844) (tgt := 877) dL_law_33 (by decide) (by decide) (by rfl) (by decide) (L_c21 hI hH hi6 hE kk2)
      | 22, _ => exact V_tableIn (pc := 33) (off := 867) (tgt := 900) dL_law_33 (by decide) (by decide) (by rfl) (by decide) (L_c22 hI hH hi6 hE kk2)
      | 23, _ => exact V_tableIn (pc := 33) (off := 911) (tgt := 944) dL_law_33 (by decide) (by decide) (by rfl) (by decide) (L_c23 hI hH hi6 hE kk2)
      | 24, _ => exact V_tableIn (pc := 33) (off := 934) (tgt := 967) dL_law_33 (by decide) (by decide) (by rfl) (by decide) (L_c24 hI hH hi6 hE kk2)
      | 25, _ => exact V_tableIn (pc := 33) (off := 967) (tgt := 1000) dL_law_33 (by decide) (by decide) (by rfl) (by decide) (L_c25 hI hH hi6 hE kk2)
      | 26, _ => exact V_tableIn (pc := 33) (off := 980) (tgt := 1013) dL_law_33 (by decide) (by decide) (by rfl) (by decide) (L_c26 hI hH hi6 hE kk2)
      | 27, _ => exact V_tableIn (pc := 33) (off := 993) (tgt := 1026) dL_law_33 (by decide) (by decide) (by rfl) (by decide) (L_c27 hI hH hi6 hE kk2)
      | 28, _ => exact V_tableIn (pc := 33) (off := 1026) (tgt := 1059) dL_law_33 (by decide) (by decide) (by rfl) (by decide) (L_c28 hI hH hi6 hE kk2)
      | 29, _ => exact V_tableIn (pc := 33) (off := 1059) (tgt := 1092) dL_law_33 (by decide) (by decide) (by rfl) (by decide) (L_c29 hI hH hi6 hE kk2)
      | 30, _ => exact V_tableIn (pc := 33) (off := 1102) (tgt := 1135) dL_law_33 (by decide) (by decide) (by rfl) (by decide) (L_c30 hI hH hi6 hE kk2)
      | 31, _ => exact V_tableIn (pc := 33) (off := 1145) (tgt := 1178) dL_law_33 (by decide) (by decide) (by rfl) (by decide) (L_c31 hI hH hi6 hE kk2)
      | 32, _ => exact V_tableIn (pc := 33) (off := 1208) (tgt := 1241) dL_law_33 (by decide) (by decide) (by rfl) (by decide) (L_c32 hI hH hi6 hE kk2)
      | 33, _ => exact V_tableIn (pc := 33) (off := 1231) (tgt := 1264) dL_law_33 (by decide) (by decide) (by rfl) (by decide) (L_c33 hI hH hi6 hE kk2)
      | 34, _ => exact V_tableIn (pc := 33) (off := 1254) (tgt := 1287) dL_law_33 (by decide) (by decide) (by rfl) (by decide) (L_c34 hI hH hi6 hE kk2)
      | 35, _ => exact V_tableIn (pc := 33) (off := 1267) (tgt := 1300) dL_law_33 (by decide) (by decide) (by rfl) (by decide) (L_c35 hI hH hi6 hE kk2)
      | 36, _ => exact V_tableIn (pc := 33) (off := 1280) (tgt := 1313) dL_law_33 (by decide) (by decide) (by rfl) (by decide) (L_c36 hI hH hi6 hE kk2)
      | 37, _ => exact V_tableIn (pc := 33) (off := 1293) (tgt := 1326) dL_law_33 (by decide) (by decide) (by rfl) (by decide) (L_c37 hI hH hi6 hE kk2)
      | 38, _ => exact V_tableIn (pc := 33) (off := 1316) (tgt := 1349) dL_law_33 (by decide) (by decide) (by rfl) (by decide) (L_c38 hI hH hi6 hE kk2)
      | k + 39, h => exact absurd h (by omega)
theorem L_loop {E : vEnv} {nm : String} {Qa : Option Value → Nat → (Nat → AC) → Prop} (hE : eL E ≤ 3072) (hq : ∀ S2, Qa (some (.int 1)) 68 (hpS S2)) : ∀ (k i H : Nat) (S : Mem), i < 10000 → eL E < i + 6 * (k + 1) → H + 60 * k ≤ 40000 → INV S (mp S) H → V E RL nm cL_law 4 (some .boolean) 11 0 0 Qa 68 (hpS S) 18 (lwL i) []
  | 0, i, H, S, hi, hk, hH, hI => L_step hI (by omega) hi hE hq (fun h => absurd h (by omega))
  | k + 1, i, H, S, hi, hk, hH, hI => L_step hI (by omega) hi hE hq (fun h S2 h2 => L_loop hE hq k (i + 6) (H + 60) S2 (by omega) (by omega) (by omega) h2)
