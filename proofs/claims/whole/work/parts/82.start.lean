set_option maxRecDepth 16000 in
/-- THE LAW, from its entry -/
theorem whole_start {p : Program} {e : Env} {s : State} {m : MethodId} {below : List Frame} {meth : Method} {c : Code} (l : Launch) (hflags : l.flags = flags0) {b L : Nat} {xs : Nat → Int32} (hL : L ≤ 3072) (C0 : lw_At p s m meth c b L xs) : W p l e room_1 s m #[Value.ref b] below meth c s.heap [] 0 0 (lw_Z below #[Value.ref b] s) (entryFrame m ([Value.ref b] : List Value).toArray 4) := by
  obtain ⟨hx, hb, hr, hml, hown, hts, hX, hbl, hlocks, hgv⟩ := id C0
  have ht : ∀ w ∈ tb, w.before #[Value.ref b] s = true := fun w h => hts w (List.mem_filter.mp h).1
  have h1 : ∀ w ∈ tables_1, w.before #[Value.ref b] s = true := fun w h => hts w (in_tbl h)
  have hn := flat_of_before _ hgv
  have hA : ∀ a : Nat, a < s.heap.size → ¬ (fun q : Nat => s.heap.size ≤ q) a := fun a h => Nat.not_le.mpr h
  obtain ⟨c0, i0, k0⟩ := u_known (C := RX0) (T := TX0) (N := 0) ht wsin_0 (ht _ wd_134)
  obtain ⟨c1, i1, k1⟩ := u_known (C := RX1) (T := TX1) (N := 8) ht wsin_1 (ht _ wd_148)
  obtain ⟨c2, i2, k2⟩ := u_known (C := RX2) (T := TX2) (N := 0) ht wsin_2 (ht _ wd_127)
  obtain ⟨c3, i3, k3⟩ := u_known (C := RX3) (T := TX3) (N := 0) ht wsin_3 (ht _ wd_120)
  obtain ⟨c4, i4, k4⟩ := u_known (C := RX4) (T := TX4) (N := 0) ht wsin_4 (ht _ wd_92)
  obtain ⟨c5, i5, k5⟩ := u_known (C := RX5) (T := TX5) (N := 0) ht wsin_5 (ht _ wd_113)
  obtain ⟨c6, i6, k6⟩ := u_known (C := RX6) (T := TX6) (N := 0) ht wsin_6 (ht _ wd_106)
  obtain ⟨c7, i7, k7⟩ := u_known (C := RX7) (T := TX7) (N := 6) ht wsin_7 (ht _ wd_233)
  obtain ⟨c8, i8, k8⟩ := u_known (C := RX8) (T := TX8) (N := 3) ht wsin_8 (ht _ wd_261)
  obtain ⟨c9, i9, k9⟩ := u_known (C := RX9) (T := TX9) (N := 0) ht wsin_9 (ht _ wd_99)
  obtain ⟨c10, i10, k10⟩ := u_known (C := RX10) (T := TX10) (N := 9) ht wsin_10 (ht _ wd_141)
  obtain ⟨c11, i11, k11⟩ := u_known (C := RX11) (T := TX11) (N := 7) ht wsin_11 (ht _ wd_83)
  obtain ⟨c12, i12, k12⟩ := u_known (C := RX12) (T := TX12) (N := 17) ht wsin_12 (ht _ wd_889)
  have hcl : ∀ ci : Nat, ∃ q : ClassId × (Nat → Nat), ∀ r, classes[ci]? = some r → u_Kn s r.1 r.2.1 r.2.2 q.1 q.2 := by
    intro ci
    match ci with
    | 0 => exact ⟨(c0, i0), fun r h => by cases h; exact k0⟩
    | 1 => exact ⟨(c1, i1), fun r h => by cases h; exact k1⟩
    | 2 => exact ⟨(c2, i2), fun r h => by cases h; exact k2⟩
    | 3 => exact ⟨(c3, i3), fun r h => by cases h; exact k3⟩
    | 4 => exact ⟨(c4, i4), fun r h => by cases h; exact k4⟩
    | 5 => exact ⟨(c5, i5), fun r h => by cases h; exact k5⟩
    | 6 => exact ⟨(c6, i6), fun r h => by cases h; exact k6⟩
    | 7 => exact ⟨(c7, i7), fun r h => by cases h; exact k7⟩
    | 8 => exact ⟨(c8, i8), fun r h => by cases h; exact k8⟩
    | 9 => exact ⟨(c9, i9), fun r h => by cases h; exact k9⟩
    | 10 => exact ⟨(c10, i10), fun r h => by cases h; exact k10⟩
    | 11 => exact ⟨(c11, i11), fun r h => by cases h; exact k11⟩
    | 12 => exact ⟨(c12, i12), fun r h => by cases h; exact k12⟩
    | _ + 13 => exact ⟨(c0, i0), fun r h => by cases h⟩
  obtain ⟨dD, hdD⟩ := Classical.axiomOfChoice hcl
  obtain ⟨a0, kA0, comp0, f01, f02, f03⟩ := Cond.arrayClass_spec (ht _ wd_192)
  obtain ⟨a1, kA1, comp1, f11, f12, f13⟩ := Cond.arrayClass_spec (ht _ wd_258)
  have hao : ∀ C ∈ aoL, va_AO C s := fun C hC => va_AO.of (h1 _ (st_ao C hC))
  obtain ⟨comp2, a2, kA2, g21, -, g22, g23, g24⟩ := Cond.arrayOver_spec (va_AO.use (A := #[]) (hao "SmokeHome$Kind" (by decide)))
  obtain ⟨comp3, a3, kA3, g31, -, g32, g33, g34⟩ := Cond.arrayOver_spec (va_AO.use (A := #[]) (hao "SmokeHome$Fire" (by decide)))
  obtain ⟨comp4, a4, kA4, g41, -, g42, g43, g44⟩ := Cond.arrayOver_spec (va_AO.use (A := #[]) (hao "SmokeHome$Sheet" (by decide)))
  obtain ⟨adK, adV, hVS, hVe⟩ := vk_Sof (args := #[Value.ref b]) (s := s) (N := 12) (tm := sT) (len := sLen) (byt := sByt) (A := fun q : Nat => s.heap.size ≤ q) (fun i hi => Nat.lt_of_lt_of_le (sb_len i hi) (Nat.le_of_ble_eq_true rfl)) (fun i hi => hn _ (st_ex i hi)) (fun i hi => hn _ (st_co i hi)) (fun i hi => hn _ (st_ar i hi)) (fun i hi => hn _ (st_le i hi)) (fun i hi j hj => hn _ (st_el i hi j hj)) (fun i j hi hj hij => (st_ne i hi j hj hij).imp (hn _) (hn _)) hA
  have hcs := va_Zof (h1 _ st_l1) (ht _ wd_78) (va_eqt (hn _ st_v1)) hA
  have hsi := va_Zqof (h1 _ st_l2) (ht _ wd_80) (hn _ st_v2) hA
  obtain ⟨fo, hfo⟩ : ∃ fo : Nat, va_Z "jdk/internal/util/Preconditions" "SIOOBE_FORMATTER" "Ljava/util/function/BiFunction;" .null (fun q : Nat => s.heap.size ≤ q) s s.heap ∨ va_Z "jdk/internal/util/Preconditions" "SIOOBE_FORMATTER" "Ljava/util/function/BiFunction;" (.ref fo) (fun q : Nat => s.heap.size ≤ q) s s.heap := by
    rcases hsi with h | ⟨t, h⟩
    · exact ⟨0, Or.inl h⟩
    · exact ⟨t, Or.inr h⟩
  obtain ⟨E, hE⟩ : ∃ E : vEnv, E = (s.heap.size, (fun k => if k < 12 then adK k else if k = 12 then b else if k = 13 then fo else adV (k - 1000)), (fun k => (dD k).1), (fun k => (dD k).2), (fun t => if t = 0 then a0 else if t = 1 then a1 else if t = 2 then a2 else if t = 3 then a3 else a4), adV, L, xs) := ⟨_, rfl⟩
  have eB1 : eB E = s.heap.size := by rw [hE]; rfl
  have eK1 : ∀ k, k < 12 → eK E k = adK k := fun k hk => by rw [hE]; exact if_pos hk
  have eK2 : eK E 12 = b := by rw [hE]; rfl
  have eK3 : eK E 13 = fo := by rw [hE]; rfl
  have eK4 : ∀ k, k < 12 → eK E (1000 + k) = adV k := fun k hk => by
    rw [hE]
    show (if 1000 + k < 12 then adK (1000 + k) else if 1000 + k = 12 then b else if 1000 + k = 13 then fo else adV (1000 + k - 1000)) = _
    rw [if_neg (by omega), if_neg (by omega), if_neg (by omega), Nat.add_sub_cancel_left]
  have eV1 : eV E = adV := by rw [hE]; rfl
  have eL1 : eL E = L := by rw [hE]; rfl
  have eX1 : eX E = xs := by rw [hE]; rfl
  have hvA : vA E = fun q : Nat => s.heap.size ≤ q := by
    funext q
    show (eB E ≤ q) = _
    rw [eB1]
  have hK : vKn E s := by
    refine ⟨fun ci r h => ?_, fun k q hk => ?_⟩
    · subst hE
      exact hdD ci r h
    · subst hE
      match k, hk with
      | 0, hk => cases hk; exact ⟨fun n z => ⟨(fun k h => by cases h), kA0, f02, comp0, f03⟩, f01⟩
      | 1, hk => cases hk; exact ⟨fun n z => ⟨(fun k h => by cases h), kA1, f12, comp1, f13⟩, f11⟩
      | 2, hk => cases hk; exact ⟨fun n z => ⟨(fun k h => by cases h), kA2, g22, comp2, g23⟩, kA2, comp2, g22, g23, g21, g24⟩
      | 3, hk => cases hk; exact ⟨fun n z => ⟨(fun k h => by cases h), kA3, g32, comp3, g33⟩, kA3, comp3, g32, g33, g31, g34⟩
      | 4, hk => cases hk; exact ⟨fun n z => ⟨(fun k h => by cases h), kA4, g42, comp4, g43⟩, kA4, comp4, g42, g43, g41, g44⟩
      | _ + 5, hk => cases hk
  have hSt : vSt E s s.heap := by
    refine ⟨⟨fun i hi => ?_, fun i j hi hj h => ?_⟩, fun k hk => ?_, fun k hk => ?_, ?_, ?_, ⟨?_, ?_⟩, ?_, ?_, hao⟩
    · rw [eK1 i hi, eV1, hvA]; exact hVS.1 i hi
    · rw [eK1 i hi, eK1 j hj] at h; exact hVS.2 i j hi hj h
    · rw [eK1 k hk]; exact vk_R.of (h1 _ (st_sr k hk)) (hVe k hk)
    · rw [eK4 k hk, eV1]
    · rw [eK2, eL1, eX1]; exact hX
    · rw [eK2, eB1]; exact hbl
    · rw [hvA]; exact hcs
    · rw [hvA, eK3]; exact hfo
    · exact fun q hq => va_Nw.of rfl (h1 _ (st_ns q hq))
    · exact fun C hC => va_Nw.of rfl (h1 _ (st_cs C hC))
  have hl := lv_entry ([.ref b]) (n := 4) (Nat.le_of_ble_eq_true rfl)
  rw [lg_entry_eq]
  generalize (lg_sl ([.ref b]) ++ List.replicate (4 - (lg_sl ([.ref b])).length) Slot.unset).toArray = lsA at hl ⊢
  refine L_start (E := E) (nm := meth.name) (hq := fun _ => .inr (0, [])) (Qa := fun r _ _ => r = some (.int 1)) (by rw [eL1]; exact hL) (fun _ => rfl) p l e room_1 s m #[Value.ref b] below meth c s.heap [] 0 0 _ lsA ⟨hx, hb, hr, hml, hown, ht, hlocks, hK, hSt, Nat.le_of_ble_eq_true rfl, Nat.le_of_ble_eq_true rfl, Nat.le_of_eq eB1, rfl⟩ ?_ (Nat.le_of_ble_eq_true rfl) (Nat.le_of_ble_eq_true rfl) ⟨by rw [eB1]; rfl, by omega, fun i hi => absurd hi (Nat.not_lt_zero i)⟩ va_S.rf ⟨hl.1, hl.2.1, fun i v hi => ?_⟩
  · intro r n' hp' H' locs' pc' ls' hq hR hS hrk
    have hq : r = some (.int 1) := hq
    subst hq
    refine va_forget (fun q hq => ?_) (W.widen (k := 600000) (n := 7302250) (Nat.le_of_ble_eq_true rfl) (Nat.le_of_ble_eq_true rfl) ?_)
    · have h9 : eB E ≤ q.base := hS.2.2 q hq
      rw [eB1] at h9
      exact h9
    · rcases hrk with ⟨-, h, -⟩ | ⟨v, ty, h1, h2, h3, hd⟩ | ⟨v, h1, h2, hd⟩ | ⟨v, rt, tn, h1, h2, h3, hd⟩
      · cases h
      · exact lw_ret hx hb hr hlocks hd
      · cases h2
      · cases h3
  · match i, hi with
    | 0, hi =>
      cases hi
      have h9 : lsA[0]? = some (.val (.ref b)) := hl.2.2 (0, .ref b) List.mem_cons_self
      show lsA[0]? = some (.val (.ref (vad E (1000 + 12))))
      rw [vad_K, eK2]
      exact h9
    | 1, hi => cases hi
    | 2, hi => cases hi
    | 3, hi => cases hi
    | _ + 4, hi => cases hi
