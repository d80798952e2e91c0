/-! String's own methods at the constants: length, charAt -/
theorem vad_K {E : vEnv} (k : Nat) : vad E (1000 + k) = eK E k := by
  unfold vad
  rw [if_neg (by omega), Nat.add_sub_cancel_left]
section VSTRS
variable {E : vEnv} {own nm : String} {cc : ByteArray} {nL : Nat} {ret : Option FieldType} {d kc ks : Nat} {Qa : Option Value → Nat → (Nat → AC) → Prop} {n : Nat} {hp : Nat → AC} {pc : Nat} {ls : List (Option Value)} {st : List Value}
variable {y : MethodName} {cc2 : ByteArray} {nL2 : Nat} {ret2 : Option FieldType} {d2 kc2 ks2 : Nat} {Qa2 : Option Value → Nat → (Nat → AC) → Prop}
theorem V_gcomp {idx : Nat} (hf : Cond.fieldLink own idx "java/lang/String" "COMPACT_STRINGS" "Z" ∈ tb) (hd : decode cc pc = .ok (.getstatic idx, 3)) (kk : V E own nm cc nL ret d kc ks Qa n hp (pc + 3) ls (.int 1 :: st)) : V E own nm cc nL ret d kc ks Qa n hp pc ls st := by
  intro p l e R s m args below meth c H locs cells slots Q lsA C Rt h1 h2 hR hS hL
  obtain ⟨cx, cb, cr, cm, co, ct, cl0, ck, cs, cd1, cd2, cz, cn⟩ := id C
  exact va_gets cx cb cs.2.2.2.2.2.1.1 hS co (ct _ hf) (fun _ h => h) hd (kk p l e R s m args below meth c H locs cells slots Q lsA C Rt h1 h2 hR hS hL)
theorem V_gform {idx : Nat} (hf : Cond.fieldLink own idx "jdk/internal/util/Preconditions" "SIOOBE_FORMATTER" "Ljava/util/function/BiFunction;" ∈ tb) (hd : decode cc pc = .ok (.getstatic idx, 3)) (k1 : V E own nm cc nL ret d kc ks Qa n hp (pc + 3) ls (.null :: st)) (k2 : V E own nm cc nL ret d kc ks Qa n hp (pc + 3) ls (.ref 1013 :: st)) : V E own nm cc nL ret d kc ks Qa n hp pc ls st := by
  intro p l e R s m args below meth c H locs cells slots Q lsA C Rt h1 h2 hR hS hL
  obtain ⟨cx, cb, cr, cm, co, ct, cl0, ck, cs, cd1, cd2, cz, cn⟩ := id C
  rcases cs.2.2.2.2.2.1.2 with hz | hz
  · exact va_gets cx cb hz hS co (ct _ hf) (fun _ h => h) hd (k1 p l e R s m args below meth c H locs cells slots Q lsA C Rt h1 h2 hR hS hL)
  · refine va_gets cx cb hz hS co (ct _ hf) (fun _ h => h) hd ?_
    rw [← vad_K (E := E) 13]
    exact k2 p l e R s m args below meth c H locs cells slots Q lsA C Rt h1 h2 hR hS hL
theorem V_gcoder {k idx : Nat} (hk : k < 12) (hf : Cond.fieldLink own idx "java/lang/String" "coder" "B" ∈ tb) (hd : decode cc pc = .ok (.getfield idx, 3)) (kk : V E own nm cc nL ret d kc ks Qa n hp (pc + 3) ls (.int 0 :: st)) : V E own nm cc nL ret d kc ks Qa n hp pc ls (.ref (1000 + k) :: st) := by
  intro p l e R s m args below meth c H locs cells slots Q lsA C Rt h1 h2 hR hS hL
  obtain ⟨cx, cb, cr, cm, co, ct, cl0, ck, cs, cd1, cd2, cz, cn⟩ := id C
  show W p l e R s m args below meth c H locs cells slots Q (F0 m pc lsA (.ref (vad E (1000 + k)) :: st.map (vr E)))
  rw [vad_K]
  exact vk_getf cx cb (cs.1.1 k hk).2.1 hS co (ct _ hf) (fun _ h => h) hd (kk p l e R s m args below meth c H locs cells slots Q lsA C Rt h1 h2 hR hS hL)
theorem vad_V {E : vEnv} {k : Nat} (h : eK E (1000 + k) = eV E k) : vad E (2000 + k) = eV E k := by
  rw [← h, show 2000 + k = 1000 + (1000 + k) by omega, vad_K]
theorem V_gvalue {k idx : Nat} (hk : k < 12) (hf : Cond.fieldLink own idx "java/lang/String" "value" "[B" ∈ tb) (hd : decode cc pc = .ok (.getfield idx, 3)) (kk : V E own nm cc nL ret d kc ks Qa n hp (pc + 3) ls (.ref (2000 + k) :: st)) : V E own nm cc nL ret d kc ks Qa n hp pc ls (.ref (1000 + k) :: st) := by
  intro p l e R s m args below meth c H locs cells slots Q lsA C Rt h1 h2 hR hS hL
  obtain ⟨cx, cb, cr, cm, co, ct, cl0, ck, cs, cd1, cd2, cz, cn⟩ := id C
  show W p l e R s m args below meth c H locs cells slots Q (F0 m pc lsA (.ref (vad E (1000 + k)) :: st.map (vr E)))
  rw [vad_K]
  have kk2 : W p l e R s m args below meth c H locs cells slots Q (F0 m (pc + 3) lsA (.ref (vad E (2000 + k)) :: st.map (vr E))) := kk p l e R s m args below meth c H locs cells slots Q lsA C Rt h1 h2 hR hS hL
  rw [vad_V (cs.2.2.1 k hk)] at kk2
  exact vk_getf cx cb (cs.1.1 k hk).2.2.1 hS co (ct _ hf) (fun _ h => h) hd kk2
theorem V_tlen {k : Nat} (hk : k < 12) (hd : decode cc pc = .ok (.arraylength, 1)) (kk : V E own nm cc nL ret d kc ks Qa n hp (pc + 1) ls (.int (nI (sLen.getD k 0)) :: st)) : V E own nm cc nL ret d kc ks Qa n hp pc ls (.ref (2000 + k) :: st) := by
  intro p l e R s m args below meth c H locs cells slots Q lsA C Rt h1 h2 hR hS hL
  obtain ⟨cx, cb, cr, cm, co, ct, cl0, ck, cs, cd1, cd2, cz, cn⟩ := id C
  show W p l e R s m args below meth c H locs cells slots Q (F0 m pc lsA (.ref (vad E (2000 + k)) :: st.map (vr E)))
  rw [vad_V (cs.2.2.1 k hk)]
  exact va_tlen cx cb (cs.1.1 k hk).2.2.2 hS rfl hd (kk p l e R s m args below meth c H locs cells slots Q lsA C Rt h1 h2 hR hS hL)
theorem V_tbal {k : Nat} {j : Int32} (hk : k < 12) (hin : vp_in j (sLen.getD k 0)) (hd : decode cc pc = .ok (.baload, 1)) (kk : V E own nm cc nL ret d kc ks Qa n hp (pc + 1) ls (.int ((sByt.getD k []).getD j.toNatClampNeg 0) :: st)) : V E own nm cc nL ret d kc ks Qa n hp pc ls (.int j :: .ref (2000 + k) :: st) := by
  intro p l e R s m args below meth c H locs cells slots Q lsA C Rt h1 h2 hR hS hL
  obtain ⟨cx, cb, cr, cm, co, ct, cl0, ck, cs, cd1, cd2, cz, cn⟩ := id C
  show W p l e R s m args below meth c H locs cells slots Q (F0 m pc lsA (.int j :: .ref (vad E (2000 + k)) :: st.map (vr E)))
  rw [vad_V (cs.2.2.1 k hk)]
  exact va_tb cx cb (cs.1.1 k hk).2.2.2 hS hin rfl hd (kk p l e R s m args below meth c H locs cells slots Q lsA C Rt h1 h2 hR hS hL)
theorem V_i2c {x : Int32} (hd : decode cc pc = .ok (.i2c, 1)) (k : V E own nm cc nL ret d kc ks Qa n hp (pc + 1) ls (.int (x.toUInt32 % 65536).toInt32 :: st)) : V E own nm cc nL ret d kc ks Qa n hp (pc) ls (.int x :: st) := by
  intro p l e R s m args below meth c H locs cells slots Q lsA C Rt h1 h2 hR hS hL
  exact lv_i2c C.1 C.2.1 hd rfl (k p l e R s m args below meth c H locs cells slots Q lsA C Rt h1 h2 hR hS hL)
/-- what a call of y at a String constant asks of the tables -/
def vLVs (own : String) (idx : Nat) (y : MethodName) (cc2 : ByteArray) (nL2 : Nat) (ret2 : Option FieldType) (k : Nat) : Prop := y.cls = "java/lang/String" ∧ Cond.methodLink own idx y ∈ tb ∧ Cond.instanceMethod y ∈ tb ∧ Cond.selects y.cls y y ∈ tb ∧ Cond.initialized y.cls ∈ tb ∧ Cond.code y cc2 nL2 ret2 ∈ tb ∧ (y.cls ≠ "java/lang/invoke/MethodHandle" ∧ y.cls ≠ "java/lang/invoke/VarHandle" ∧ (parseMethodDescriptor y.desc).map (fun d => d.parameters.length) = some k) ∧ nL2 ≤ 21
theorem V_callVS {k idx : Nat} {args : List Value} (hk : k < 12) (hl : vLVs own idx y cc2 nL2 ret2 args.length) (hd : decode cc pc = .ok (.invokevirtual idx, 3)) (hdd : d2 + 1 ≤ d) (hst : (st.map fun v => v.category).sum ≤ 8) (hC : Ct y cc2 nL2 ret2 d2 kc2 ks2 (.ref (1000 + k) :: args) n hp Qa2)
    (kk : ∀ r n' hp', Qa2 r n' hp' → V E own nm cc nL ret d kc ks Qa n' hp' (pc + 3) ls (r.toList ++ st)) : V E own nm cc nL ret d (kc2 + kc) (ks2 + ks) Qa n hp pc ls ((.ref (1000 + k) :: args).reverse ++ st) := by
  refine V_run (Qa2 := Qa2) ⟨3, rfl⟩ ?_ kk
  intro p l e R s m args' below meth c H locs cells slots lsA C h1 h2 hR hS hsz
  obtain ⟨l0, l1, l2, l3, l4, l5, l6, l7⟩ := hl
  obtain ⟨cx, cb, cr, cm, co, ct, cl0, ck, cs, cd1, cd2, cz, cn⟩ := id C
  refine ⟨_, va_runV (C := y.cls) (b := eK E k) (As := args.map (vr E)) (rest := st.map (vr E)) (n := args.length) ⟨cx, cb, cm, co, ct⟩ (hC l E) ⟨callB_of args.length ct (tb_good l5) rfl rfl rfl (ct _ l4) (ct _ l1) l6 (vroom cd1 cd2 hdd l7), ct _ l2, ct _ l3⟩ ⟨vPre.blind, by rw [l0]; exact vk_recv cs.1 hk hS, fun U hU hW => ?_⟩ rfl (by rw [List.length_map]) hsz ?_ (lv_room (by rw [vcat]; exact hst)) hd ⟨h1, h2⟩⟩
  · have := vPre.here (args := .ref (1000 + k) :: args) hR ck cs hS hU hW
    have e1 : (Value.ref (1000 + k) :: args).map (vr E) = .ref (eK E k) :: args.map (vr E) := by
      show Value.ref (vad E (1000 + k)) :: _ = _
      rw [vad_K]
    rw [e1] at this
    exact this
  · show ((Value.ref (1000 + k) :: args).reverse ++ st).map (vr E) = _
    rw [List.map_append, List.reverse_cons, List.map_append, List.map_reverse, List.append_assoc]
    show _ ++ ([Value.ref (vad E (1000 + k))] ++ _) = _
    rw [vad_K]
    rfl
end VSTRS
/-- answers with an int, the heap as it was -/
def QS (v : Int32) (n : Nat) (hp : Nat → AC) : Option Value → Nat → (Nat → AC) → Prop := fun r n2 hp2 => r = some (.int v) ∧ n2 = n ∧ hp2 = hp
def QN (n : Nat) (hp : Nat → AC) : Option Value → Nat → (Nat → AC) → Prop := fun r n2 hp2 => r = none ∧ n2 = n ∧ hp2 = hp
theorem w_coder {k n : Nat} {hp : Nat → AC} (hk : k < 12) : Ct yJ0_coder_7d493 cJ0_coder_7d493 1 (some .byte) 0 0 0 [.ref (1000 + k)] n hp (QS 0 n hp) := by
  refine Ct.ofV (by decide +kernel) (Nat.le_of_ble_eq_true rfl) fun E => ?_
  exact V_gcomp (pc := 0) wd_698 dJ0_coder_7d493_0 (V_if_eq (pc := 3) (tgt := 13) dJ0_coder_7d493_3 (by decide) (fun h => absurd h (by decide)) (fun _ => V_aload_n (pc := 6) (i := 0) dJ0_coder_7d493_6 rfl rfl (V_gcoder (pc := 7) hk wd_1351 dJ0_coder_7d493_7 (V_goto (pc := 10) (tgt := 14) dJ0_coder_7d493_10 (by decide) (V_iret (pc := 14) dJ0_coder_7d493_14 rfl rfl ⟨rfl, rfl, rfl⟩)))))
theorem w_isLatin1 {k n : Nat} {hp : Nat → AC} (hk : k < 12) : Ct yJ0_isLatin1_aae02 cJ0_isLatin1_aae02 1 (some .boolean) 0 0 0 [.ref (1000 + k)] n hp (QS 1 n hp) := by
  refine Ct.ofV (by decide +kernel) (Nat.le_of_ble_eq_true rfl) fun E => ?_
  exact V_gcomp (pc := 0) wd_698 dJ0_isLatin1_aae02_0 (V_if_eq (pc := 3) (tgt := 17) dJ0_isLatin1_aae02_3 (by decide) (fun h => absurd h (by decide)) (fun _ => V_aload_n (pc := 6) (i := 0) dJ0_isLatin1_aae02_6 rfl rfl (V_gcoder (pc := 7) hk wd_1351 dJ0_isLatin1_aae02_7 (V_if_ne (pc := 10) (tgt := 17) dJ0_isLatin1_aae02_10 (by decide) (fun h => absurd rfl h) (fun _ => V_iconst (pc := 13) (v := 1) dJ0_isLatin1_aae02_13 (by decide) (V_goto (pc := 14) (tgt := 18) dJ0_isLatin1_aae02_14 (by decide) (V_iret (pc := 18) dJ0_isLatin1_aae02_18 rfl rfl ⟨rfl, rfl, rfl⟩)))))))
theorem w_pre {i v : Int32} {x : Value} {n : Nat} {hp : Nat → AC} (hx : x = .null ∨ x = .ref 1013) (h0 : ¬ i < 0) (h1 : i < v) : Ct yJ3_checkIndex_8e157 cJ3_checkIndex_8e157 3 (some .int) 0 0 0 [.int i, .int v, x] n hp (QS i n hp) := by
  have hlen : (lg_sl [.int i, .int v, x]).length ≤ 3 := by rcases hx with rfl | rfl <;> exact Nat.le_of_ble_eq_true rfl
  refine Ct.ofV (by decide +kernel) hlen fun E => ?_
  have el : vArgs [.int i, .int v, x] 3 = [some (.int i), some (.int v), some x] := by rcases hx with rfl | rfl <;> rfl
  rw [el]
  exact V_iload_n (pc := 0) (i := 0) dJ3_checkIndex_8e157_0 rfl rfl (V_if_lt (pc := 1) (tgt := 9) dJ3_checkIndex_8e157_1 (by decide) (fun h => absurd h h0) (fun _ => V_iload_n (pc := 4) (i := 0) dJ3_checkIndex_8e157_4 rfl rfl (V_iload_n (pc := 5) (i := 1) dJ3_checkIndex_8e157_5 rfl rfl (V_icmp_lt (pc := 6) (tgt := 16) dJ3_checkIndex_8e157_6 (by decide) (fun _ => V_iload_n (pc := 16) (i := 0) dJ3_checkIndex_8e157_16 rfl rfl (V_iret (pc := 17) dJ3_checkIndex_8e157_17 rfl rfl ⟨rfl, rfl, rfl⟩)) (fun h => absurd h1 h)))))
theorem lS_J0_1059 : vLS RJ0 1059 yJ3_checkIndex_8e157 cJ3_checkIndex_8e157 3 (some .int) 3 := ⟨wd_716, wd_717, wd_80, wd_718, ⟨by decide +kernel, by decide +kernel, by rfl⟩, by decide⟩
theorem w_chk {i v : Int32} {n : Nat} {hp : Nat → AC} (h0 : ¬ i < 0) (h1 : i < v) : Ct yJ0_checkIndex_df160 cJ0_checkIndex_df160 2 none 1 0 0 [.int i, .int v] n hp (QN n hp) := by
  refine Ct.ofV (by decide +kernel) (Nat.le_of_ble_eq_true rfl) fun E => ?_
  refine V_iload_n (pc := 0) (i := 0) dJ0_checkIndex_df160_0 rfl rfl (V_iload_n (pc := 1) (i := 1) dJ0_checkIndex_df160_1 rfl rfl (V_gform (pc := 2) wd_714 dJ0_checkIndex_df160_2 ?_ ?_))
  · exact V_callSK (kc := 0) (ks := 0) (kc2 := 0) (ks2 := 0) (pc := 5) (args := [.int i, .int v, .null]) (st := []) lS_J0_1059 dJ0_checkIndex_df160_5 (Nat.le_refl 1) (Nat.le_of_ble_eq_true rfl) (w_pre (Or.inl rfl) h0 h1) (fun r n2 hp2 hq => by
      obtain ⟨rfl, rfl, rfl⟩ := hq
      exact V_pop (pc := 8) dJ0_checkIndex_df160_8 rfl (V_vret (pc := 9) dJ0_checkIndex_df160_9 rfl ⟨rfl, rfl, rfl⟩))
  · exact V_callSK (kc := 0) (ks := 0) (kc2 := 0) (ks2 := 0) (pc := 5) (args := [.int i, .int v, .ref 1013]) (st := []) lS_J0_1059 dJ0_checkIndex_df160_5 (Nat.le_refl 1) (Nat.le_of_ble_eq_true rfl) (w_pre (Or.inr rfl) h0 h1) (fun r n2 hp2 hq => by
      obtain ⟨rfl, rfl, rfl⟩ := hq
      exact V_pop (pc := 8) dJ0_checkIndex_df160_8 rfl (V_vret (pc := 9) dJ0_checkIndex_df160_9 rfl ⟨rfl, rfl, rfl⟩))
theorem lS_J1_9 : vLS RJ1 9 yJ0_checkIndex_df160 cJ0_checkIndex_df160 2 none 2 := ⟨wd_711, wd_712, wd_78, wd_713, ⟨by decide +kernel, by decide +kernel, by rfl⟩, by decide⟩
theorem sb_ok : ∀ k, k < 12 → ∀ j, j < 8 → ((((sByt.getD k []).getD j 0) &&& 255).toUInt32 % 65536).toInt32 = (sByt.getD k []).getD j 0 := by decide +kernel
theorem sb_len : ∀ k, k < 12 → sLen.getD k 0 < 8 := by decide +kernel
theorem w_latin {k n : Nat} {j : Int32} {hp : Nat → AC} (hk : k < 12) (h0 : 0 ≤ j.toInt) (h1 : j.toInt < (sLen.getD k 0 : Nat)) : Ct yJ1_charAt_3b067 cJ1_charAt_3b067 2 (some .char) 2 0 0 [.ref (2000 + k), .int j] n hp (QS ((sByt.getD k []).getD j.toNatClampNeg 0) n hp) := by
  have hl := sb_len k hk
  have z0 : (0 : Int32).toInt = 0 := by decide
  have e0 : ¬ j < 0 := fun h => by
    have := Int32.lt_iff_toInt_lt.mp h
    omega
  have e1 : j < nI (sLen.getD k 0) := by
    rw [Int32.lt_iff_toInt_lt, nI_toInt (by omega)]
    exact h1
  have e2 : j.toNatClampNeg < 8 := by
    have : ((j.toNatClampNeg : Nat) : Int) = j.toInt := by
      show ((j.toInt.toNat : Nat) : Int) = _
      omega
    omega
  have hb := sb_ok k hk _ e2
  have hnar : narrow .char (.int ((sByt.getD k []).getD j.toNatClampNeg 0)) = .int ((sByt.getD k []).getD j.toNatClampNeg 0) := by
    rw [← hb]
    exact pk_nc _
  refine Ct.ofV (by decide +kernel) (Nat.le_of_ble_eq_true rfl) fun E => ?_
  refine V_iload_n (pc := 0) (i := 1) dJ1_charAt_3b067_0 rfl rfl (V_aload_n (pc := 1) (i := 0) dJ1_charAt_3b067_1 rfl rfl (V_tlen (pc := 2) hk dJ1_charAt_3b067_2 ?_))
  refine V_callSK (kc := 0) (ks := 0) (kc2 := 0) (ks2 := 0) (pc := 3) (args := [.int j, .int (nI (sLen.getD k 0))]) (st := []) lS_J1_9 dJ1_charAt_3b067_3 (Nat.le_refl 2) (Nat.le_of_ble_eq_true rfl) (w_chk e0 e1) (fun r n2 hp2 hq => ?_)
  obtain ⟨rfl, rfl, rfl⟩ := hq
  refine V_aload_n (pc := 6) (i := 0) dJ1_charAt_3b067_6 rfl rfl (V_iload_n (pc := 7) (i := 1) dJ1_charAt_3b067_7 rfl rfl (V_tbal (pc := 8) hk (vp_in_iff.mpr ⟨h0, h1⟩) dJ1_charAt_3b067_8 (V_sipush (pc := 9) (v := 255) dJ1_charAt_3b067_9 (by decide) (V_iand (pc := 12) dJ1_charAt_3b067_12 (V_i2c (pc := 13) dJ1_charAt_3b067_13 ?_)))))
  rw [hb]
  exact V_iret (pc := 14) dJ1_charAt_3b067_14 rfl hnar ⟨rfl, rfl, rfl⟩
theorem lVs_335 : vLVs RJ0 335 yJ0_coder_7d493 cJ0_coder_7d493 1 (some .byte) 0 := ⟨rfl, wd_694, wd_695, wd_696, wd_78, wd_697, ⟨by decide +kernel, by decide +kernel, by rfl⟩, by decide⟩
theorem lVs_492 : vLVs RJ0 492 yJ0_isLatin1_aae02 cJ0_isLatin1_aae02 1 (some .boolean) 0 := ⟨rfl, wd_704, wd_705, wd_706, wd_78, wd_707, ⟨by decide +kernel, by decide +kernel, by rfl⟩, by decide⟩
theorem lS_J0_495 : vLS RJ0 495 yJ1_charAt_3b067 cJ1_charAt_3b067 2 (some .char) 2 := ⟨wd_708, wd_709, wd_79, wd_710, ⟨by decide +kernel, by decide +kernel, by rfl⟩, by decide⟩
theorem sl_ok : ∀ k, k < 12 → nI (sLen.getD k 0) >>> ((0 : Int32) &&& 31) = nI (sLen.getD k 0) := by decide +kernel
theorem w_length {k n : Nat} {hp : Nat → AC} (hk : k < 12) : Ct yJ0_length_8abf5 cJ0_length_8abf5 1 (some .int) 1 0 0 [.ref (1000 + k)] n hp (QS (nI (sLen.getD k 0)) n hp) := by
  refine Ct.ofV (by decide +kernel) (Nat.le_of_ble_eq_true rfl) fun E => ?_
  refine V_aload_n (pc := 0) (i := 0) dJ0_length_8abf5_0 rfl rfl (V_gvalue (pc := 1) hk wd_1350 dJ0_length_8abf5_1 (V_tlen (pc := 4) hk dJ0_length_8abf5_4 (V_aload_n (pc := 5) (i := 0) dJ0_length_8abf5_5 rfl rfl ?_)))
  refine V_callVS (kc := 0) (ks := 0) (kc2 := 0) (ks2 := 0) (pc := 6) (args := []) (st := [.int (nI (sLen.getD k 0))]) hk lVs_335 dJ0_length_8abf5_6 (Nat.le_refl 1) (Nat.le_of_ble_eq_true rfl) (w_coder hk) (fun r n2 hp2 hq => ?_)
  obtain ⟨rfl, rfl, rfl⟩ := hq
  refine V_ishr (pc := 9) dJ0_length_8abf5_9 ?_
  rw [sl_ok k hk]
  exact V_iret (pc := 10) dJ0_length_8abf5_10 rfl rfl ⟨rfl, rfl, rfl⟩
theorem w_charAt {k n : Nat} {j : Int32} {hp : Nat → AC} (hk : k < 12) (h0 : 0 ≤ j.toInt) (h1 : j.toInt < (sLen.getD k 0 : Nat)) : Ct yJ0_charAt_5068e cJ0_charAt_5068e 2 (some .char) 3 0 0 [.ref (1000 + k), .int j] n hp (QS ((sByt.getD k []).getD j.toNatClampNeg 0) n hp) := by
  have hl := sb_len k hk
  have e2 : j.toNatClampNeg < 8 := by
    have : ((j.toNatClampNeg : Nat) : Int) = j.toInt := by
      show ((j.toInt.toNat : Nat) : Int) = _
      omega
    omega
  have hb := sb_ok k hk _ e2
  have hnar : narrow .char (.int ((sByt.getD k []).getD j.toNatClampNeg 0)) = .int ((sByt.getD k []).getD j.toNatClampNeg 0) := by
    rw [← hb]
    exact pk_nc _
  refine Ct.ofV (by decide +kernel) (Nat.le_of_ble_eq_true rfl) fun E => ?_
  refine V_aload_n (pc := 0) (i := 0) dJ0_charAt_5068e_0 rfl rfl ?_
  refine V_callVS (kc := 0) (ks := 0) (kc2 := 0) (ks2 := 0) (pc := 1) (d2 := 0) (args := []) (st := []) hk lVs_492 dJ0_charAt_5068e_1 (Nat.le_of_ble_eq_true rfl) (Nat.le_of_ble_eq_true rfl) (w_isLatin1 hk) (fun r n2 hp2 hq => ?_)
  obtain ⟨rfl, rfl, rfl⟩ := hq
  refine V_if_eq (pc := 4) (tgt := 16) dJ0_charAt_5068e_4 (by decide) (fun h => absurd h (by decide)) (fun _ => V_aload_n (pc := 7) (i := 0) dJ0_charAt_5068e_7 rfl rfl (V_gvalue (pc := 8) hk wd_1350 dJ0_charAt_5068e_8 (V_iload_n (pc := 11) (i := 1) dJ0_charAt_5068e_11 rfl rfl ?_)))
  refine V_callSK (kc := 0) (ks := 0) (kc2 := 0) (ks2 := 0) (pc := 12) (args := [.ref (2000 + k), .int j]) (st := []) lS_J0_495 dJ0_charAt_5068e_12 (Nat.le_refl 3) (Nat.le_of_ble_eq_true rfl) (w_latin hk h0 h1) (fun r n2 hp2 hq => ?_)
  obtain ⟨rfl, rfl, rfl⟩ := hq
  exact V_iret (pc := 15) dJ0_charAt_5068e_15 rfl hnar ⟨rfl, rfl, rfl⟩
