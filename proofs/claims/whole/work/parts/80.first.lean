/-! THE FIRST MEMORY: what the constructors leave -/
theorem lN_L_7 : vNw RL 7 11 7 [.null, .null, .null, .null, .null, .null, .int 0] := ⟨RX11, TX11, tyX11, rfl, wsin_11, tyX11_ok, wd_82, wd_83, wd_62, fun j hj => match j, hj with | 0, _ => rfl | 1, _ => rfl | 2, _ => rfl | 3, _ => rfl | 4, _ => rfl | 5, _ => rfl | 6, _ => rfl | (_ + 7), h => absurd h (by omega), fun _ => rfl⟩
theorem lN_L_10 : vNw RL 10 12 17 [.null, .null, .null, .null, .int 0, .null, .null, .int 0, .null, .null, .null, .null, .int 0, .int 0, .int 0, .int 0, .int 0] := ⟨RX12, TX12, tyX12, rfl, wsin_12, tyX12_ok, wd_888, wd_889, wd_74, fun j hj => match j, hj with | 0, _ => rfl | 1, _ => rfl | 2, _ => rfl | 3, _ => rfl | 4, _ => rfl | 5, _ => rfl | 6, _ => rfl | 7, _ => rfl | 8, _ => rfl | 9, _ => rfl | 10, _ => rfl | 11, _ => rfl | 12, _ => rfl | 13, _ => rfl | 14, _ => rfl | 15, _ => rfl | 16, _ => rfl | (_ + 17), h => absurd h (by omega), fun _ => rfl⟩
theorem lI_L_9 : vLI RL 9 yX11_init cX11_init 3 0 := ⟨Or.inl wd_84, wd_85, wd_62, wd_86, rfl, ⟨by decide +kernel, by decide +kernel, by rfl⟩, by decide⟩
theorem lI_L_12 : vLI RL 12 yX12_init cX12_init 2 0 := ⟨Or.inl wd_890, wd_891, wd_74, wd_892, rfl, ⟨by decide +kernel, by decide +kernel, by rfl⟩, by decide⟩
def S0 : Mem := fun a => match a with
  | 9 => upd (fun _ => 0) 8 1
  | 21 => upd (fun _ => 0) 8 1
  | 33 => upd (fun _ => 0) 8 1
  | 20 => fil 0 (-1) (fun _ => 0) 10
  | 32 => fil 0 (-1) (fun _ => 0) 10
  | 44 => fil 0 (-1) (fun _ => 0) 10
  | 58 => fil 86 (-1) (upd (fun _ => 0) 2 1) 10
  | 64 => fil 0 (-1) (fun _ => 0) 4
  | _ => fun _ => 0
set_option maxRecDepth 16000 in
theorem S0_heap {hq : Nat → AC} : ∀ i, i < 68 → hx hq 0 (L_X11 ++ L_X12 57) i = hpS S0 i
  | 0, _ => hx_get (c := hpS S0 0) 0 rfl rfl
  | 1, _ => (hx_get 1 rfl rfl).trans (by rw [frl_eq]; rfl)
  | 2, _ => hx_get (c := hpS S0 2) 2 rfl rfl
  | 3, _ => hx_get (c := hpS S0 3) 3 rfl rfl
  | 4, _ => hx_get (c := hpS S0 4) 4 rfl rfl
  | 5, _ => hx_get (c := hpS S0 5) 5 rfl rfl
  | 6, _ => hx_get (c := hpS S0 6) 6 rfl rfl
  | 7, _ => hx_get (c := hpS S0 7) 7 rfl rfl
  | 8, _ => hx_get (c := hpS S0 8) 8 rfl rfl
  | 9, _ => hx_get (c := hpS S0 9) 9 rfl rfl
  | 10, _ => hx_get (c := hpS S0 10) 10 rfl rfl
  | 11, _ => (hx_get 11 rfl rfl).trans (by rw [frl_eq]; rfl)
  | 12, _ => hx_get (c := hpS S0 12) 12 rfl rfl
  | 13, _ => hx_get (c := hpS S0 13) 13 rfl rfl
  | 14, _ => hx_get (c := hpS S0 14) 14 rfl rfl
  | 15, _ => hx_get (c := hpS S0 15) 15 rfl rfl
  | 16, _ => hx_get (c := hpS S0 16) 16 rfl rfl
  | 17, _ => hx_get (c := hpS S0 17) 17 rfl rfl
  | 18, _ => hx_get (c := hpS S0 18) 18 rfl rfl
  | 19, _ => hx_get (c := hpS S0 19) 19 rfl rfl
  | 20, _ => hx_get (c := hpS S0 20) 20 rfl rfl
  | 21, _ => hx_get (c := hpS S0 21) 21 rfl rfl
  | 22, _ => hx_get (c := hpS S0 22) 22 rfl rfl
  | 23, _ => (hx_get 23 rfl rfl).trans (by rw [frl_eq]; rfl)
  | 24, _ => hx_get (c := hpS S0 24) 24 rfl rfl
  | 25, _ => hx_get (c := hpS S0 25) 25 rfl rfl
  | 26, _ => hx_get (c := hpS S0 26) 26 rfl rfl
  | 27, _ => hx_get (c := hpS S0 27) 27 rfl rfl
  | 28, _ => hx_get (c := hpS S0 28) 28 rfl rfl
  | 29, _ => hx_get (c := hpS S0 29) 29 rfl rfl
  | 30, _ => hx_get (c := hpS S0 30) 30 rfl rfl
  | 31, _ => hx_get (c := hpS S0 31) 31 rfl rfl
  | 32, _ => hx_get (c := hpS S0 32) 32 rfl rfl
  | 33, _ => hx_get (c := hpS S0 33) 33 rfl rfl
  | 34, _ => hx_get (c := hpS S0 34) 34 rfl rfl
  | 35, _ => (hx_get 35 rfl rfl).trans (by rw [frl_eq]; rfl)
  | 36, _ => hx_get (c := hpS S0 36) 36 rfl rfl
  | 37, _ => hx_get (c := hpS S0 37) 37 rfl rfl
  | 38, _ => hx_get (c := hpS S0 38) 38 rfl rfl
  | 39, _ => hx_get (c := hpS S0 39) 39 rfl rfl
  | 40, _ => hx_get (c := hpS S0 40) 40 rfl rfl
  | 41, _ => hx_get (c := hpS S0 41) 41 rfl rfl
  | 42, _ => hx_get (c := hpS S0 42) 42 rfl rfl
  | 43, _ => hx_get (c := hpS S0 43) 43 rfl rfl
  | 44, _ => hx_get (c := hpS S0 44) 44 rfl rfl
  | 45, _ => hx_get (c := hpS S0 45) 45 rfl rfl
  | 46, _ => hx_get (c := hpS S0 46) 46 rfl rfl
  | 47, _ => (hx_get 47 rfl rfl).trans (by rw [frl_eq]; rfl)
  | 48, _ => hx_get (c := hpS S0 48) 48 rfl rfl
  | 49, _ => hx_get (c := hpS S0 49) 49 rfl rfl
  | 50, _ => hx_get (c := hpS S0 50) 50 rfl rfl
  | 51, _ => hx_get (c := hpS S0 51) 51 rfl rfl
  | 52, _ => hx_get (c := hpS S0 52) 52 rfl rfl
  | 53, _ => hx_get (c := hpS S0 53) 53 rfl rfl
  | 54, _ => hx_get (c := hpS S0 54) 54 rfl rfl
  | 55, _ => hx_get (c := hpS S0 55) 55 rfl rfl
  | 56, _ => hx_get (c := hpS S0 56) 56 rfl rfl
  | 57, _ => hx_get (c := hpS S0 57) 57 rfl rfl
  | 58, _ => hx_get (c := hpS S0 58) 58 rfl rfl
  | 59, _ => hx_get (c := hpS S0 59) 59 rfl rfl
  | 60, _ => hx_get (c := hpS S0 60) 60 rfl rfl
  | 61, _ => hx_get (c := hpS S0 61) 61 rfl rfl
  | 62, _ => hx_get (c := hpS S0 62) 62 rfl rfl
  | 63, _ => hx_get (c := hpS S0 63) 63 rfl rfl
  | 64, _ => hx_get (c := hpS S0 64) 64 rfl rfl
  | 65, _ => hx_get (c := hpS S0 65) 65 rfl rfl
  | 66, _ => hx_get (c := hpS S0 66) 66 rfl rfl
  | 67, _ => hx_get (c := hpS S0 67) 67 rfl rfl
  | _ + 68, h => absurd h (by omega)
theorem S0_inv : INV S0 (mp S0) 0 := by
  refine ⟨⟨0, ⟨by omega, by decide +kernel, fun f hf => absurd hf (Nat.not_lt_zero f)⟩, fun k hk => Or.inl ?_, ⟨0, Nat.le_refl 0, by decide +kernel⟩, by decide +kernel, by decide +kernel, by decide +kernel, by decide +kernel, by decide +kernel, by decide +kernel, fun f hf => absurd hf (Nat.not_lt_zero f), by decide +kernel⟩, by decide +kernel, Or.inl (by decide +kernel), ⟨by decide +kernel, by decide +kernel⟩, ⟨0, by omega, by decide +kernel, by decide +kernel, fun i hi => absurd hi (Nat.not_lt_zero i)⟩, fun s hs => ⟨0, 0, Or.inl rfl, by omega, ?_⟩⟩
  · exact (by decide +kernel : ∀ k, k < 10 → mp S0 58 (86 + k) = -1) k hk
  · exact (by decide +kernel : ∀ s, s < 4 → S0 (48 + 2 * s) 1 = nI 0 ∧ mp S0 64 s = (if (0 : Nat) = 0 then -1 else nI 0) ∧ S0 (48 + 2 * s) 2 = nI 0 ∧ mp S0 65 s = nI 0 ∧ ∀ j, j < 40 → S0 (49 + 2 * s) j = mp S0 66 (40 * s + j)) s hs
set_option maxRecDepth 16000 in
theorem L_start {E : vEnv} {nm : String} {hq : Nat → AC} {Qa : Option Value → Nat → (Nat → AC) → Prop} (hE : eL E ≤ 3072) (hQ : ∀ S2, Qa (some (.int 1)) 68 (hpS S2)) : V E RL nm cL_law 4 (some .boolean) 11 68 1376 Qa 0 (hx hq 0 []) 0 [some (.ref 1012), none, none, none] [] := by
  refine V_new (pc := 0) (kc := 67) (ks := 1369) lN_L_7 dL_law_0 (by omega) (hx_push (L2 := [.inr (11, [.null, .null, .null, .null, .null, .null, .int 0])]) rfl rfl) ?_
  refine V_dup (pc := 3) dL_law_3 rfl ?_
  refine V_callI (pc := 4) (kc := 11) (ks := 705) (kc2 := 56) (ks2 := 664) (d2 := 5) (args := []) (st := [.ref 0]) (Qa2 := QN 57 (hx hq 0 L_X11)) lI_L_9 dL_law_4 (by decide) (Nat.le_of_ble_eq_true rfl) ct_X11 (fun r n2 hp2 hz => ?_)
  obtain ⟨rfl, rfl, rfl⟩ := hz
  refine V_astore_n (pc := 7) (i := 1) (ls2 := [some (.ref 1012), some (.ref 0), none, none]) dL_law_7 rfl (by decide) rfl rfl ?_
  refine V_new (pc := 8) (kc := 10) (ks := 688) lN_L_10 dL_law_8 (by omega) (hx_push (L2 := L_X11 ++ [.inr (12, [.null, .null, .null, .null, .int 0, .null, .null, .int 0, .null, .null, .null, .null, .int 0, .int 0, .int 0, .int 0, .int 0])]) rfl rfl) ?_
  refine V_dup (pc := 11) dL_law_11 rfl ?_
  refine V_callI (pc := 12) (kc := 0) (ks := 0) (kc2 := 10) (ks2 := 688) (d2 := 1) (args := []) (st := [.ref 57]) (Qa2 := QN 68 (hx hq 0 (L_X11 ++ L_X12 57))) lI_L_12 dL_law_12 (by decide) (Nat.le_of_ble_eq_true rfl) (ct_X12 (hp0 := hq) (n0 := 0) (i := 57) (Pr := L_X11) rfl (by omega)) (fun r n2 hp2 hz => ?_)
  obtain ⟨rfl, rfl, rfl⟩ := hz
  refine V_astore_n (pc := 15) (i := 2) (ls2 := [some (.ref 1012), some (.ref 0), some (.ref 57), none]) dL_law_15 rfl (by decide) rfl rfl ?_
  refine V_iconst (pc := 16) (v := 0) dL_law_16 (by decide) ?_
  refine V_istore_n (pc := 17) (i := 3) (ls2 := lwL 0) dL_law_17 rfl (by decide) rfl rfl ?_
  exact V_heap (S0_heap) (L_loop hE hQ 512 0 0 S0 (by omega) (by omega) (by omega) S0_inv)
