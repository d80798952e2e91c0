/-! ROWS FOR CONSTRUCTORS: a heap whose last cells are a written list -/
def hx (hp0 : Nat → AC) (n0 : Nat) (L : List AC) : Nat → AC := fun i => if i < n0 then hp0 i else L.getD (i - n0) (.inr (0, []))
theorem hx_get {hp0 : Nat → AC} {n0 i : Nat} {L : List AC} {c : AC} (j : Nat) (hi : n0 + j = i) (h : L[j]? = some c) : hx hp0 n0 L i = c := by
  subst hi
  unfold hx
  rw [if_neg (by omega), Nat.add_sub_cancel_left, List.getD_eq_getElem?_getD, h]
  rfl
theorem hx_set {hp0 : Nat → AC} {n0 i : Nat} {L L2 : List AC} {c : AC} (j : Nat) (hi : n0 + j = i) (h : L.set j c = L2) (hl : j < L.length) : va_up (hx hp0 n0 L) i c = hx hp0 n0 L2 := by
  subst hi
  subst h
  funext q
  unfold va_up hx
  by_cases hq : q = n0 + j
  · subst hq
    rw [if_pos rfl, if_neg (by omega), Nat.add_sub_cancel_left, List.getD_eq_getElem?_getD, List.getElem?_set_self hl]
    rfl
  · rw [if_neg hq]
    by_cases h2 : q < n0
    · rw [if_pos h2, if_pos h2]
    · rw [if_neg h2, if_neg h2, List.getD_eq_getElem?_getD, List.getD_eq_getElem?_getD, List.getElem?_set_ne (by omega)]
theorem hx_push {hp0 : Nat → AC} {n0 i : Nat} {L L2 : List AC} {c : AC} (hi : n0 + L.length = i) (h : L ++ [c] = L2) : va_up (hx hp0 n0 L) i c = hx hp0 n0 L2 := by
  subst hi
  subst h
  funext q
  unfold va_up hx
  by_cases hq : q = n0 + L.length
  · subst hq
    rw [if_pos rfl, if_neg (by omega), Nat.add_sub_cancel_left, List.getD_eq_getElem?_getD, List.getElem?_append_right (Nat.le_refl _), Nat.sub_self]
    rfl
  · rw [if_neg hq]
    by_cases h2 : q < n0
    · rw [if_pos h2, if_pos h2]
    · rw [if_neg h2, if_neg h2, List.getD_eq_getElem?_getD, List.getD_eq_getElem?_getD]
      by_cases h3 : q - n0 < L.length
      · rw [List.getElem?_append_left h3]
      · rw [List.getElem?_eq_none (by omega), List.getElem?_eq_none (by rw [List.length_append]; show L.length + 1 ≤ _; omega)]
theorem hx_split {hp0 : Nat → AC} {n0 n1 : Nat} {L L2 : List AC} (hn : n0 + L.length = n1) : hx (hx hp0 n0 L) n1 L2 = hx hp0 n0 (L ++ L2) := by
  subst hn
  funext q
  unfold hx
  by_cases h1 : q < n0
  · rw [if_pos h1, if_pos (by omega), if_pos h1]
  · rw [if_neg h1]
    by_cases h2 : q < n0 + L.length
    · rw [if_pos h2, if_neg h1, List.getD_eq_getElem?_getD, List.getD_eq_getElem?_getD, List.getElem?_append_left (by omega)]
    · rw [if_neg h2, if_neg h1, List.getD_eq_getElem?_getD, List.getD_eq_getElem?_getD, List.getElem?_append_right (by omega), show q - n0 - L.length = q - (n0 + L.length) by omega]
/-- a new object of a class -/
def vNw (own : String) (idx ci N : Nat) (fs : List Value) : Prop := ∃ (C : String) (T : u_T) (ty : Nat → FieldType), classes[ci]? = some (C, T, N) ∧ (∀ w ∈ u_ws C T N, w ∈ tb) ∧ (∀ k, k < N → parseFieldDescriptor (T k).2.2.1 = some (ty k)) ∧ Cond.classLink own idx C ∈ tb ∧ Cond.instantiable C N ∈ tb ∧ Cond.initialized C ∈ tb ∧ (∀ j, j < N → defaultValue (ty j) = vp_V fs j) ∧ ∀ E : vEnv, fs.map (vr E) = fs
section VCTOR
variable {E : vEnv} {own nm : String} {cc : ByteArray} {nL : Nat} {ret : Option FieldType} {d kc ks : Nat} {Qa : Option Value → Nat → (Nat → AC) → Prop} {n : Nat} {hp : Nat → AC} {pc : Nat} {ls : List (Option Value)} {st : List Value}
variable {y : MethodName} {cc2 : ByteArray} {nL2 : Nat} {d2 kc2 ks2 : Nat} {Qa2 : Option Value → Nat → (Nat → AC) → Prop}
theorem V_heap {hp2 : Nat → AC} (he : ∀ i, i < n → hp i = hp2 i) (kk : V E own nm cc nL ret d kc ks Qa n hp2 pc ls st) : V E own nm cc nL ret d kc ks Qa n hp pc ls st := by
  intro p l e R s m args below meth c H locs cells slots Q lsA C Rt h1 h2 hR hS hL
  exact kk p l e R s m args below meth c H locs cells slots Q lsA C Rt h1 h2 ⟨hR.1, hR.2.1, fun i hi => by rw [← he i hi]; exact hR.2.2 i hi⟩ hS hL
theorem V_more {kc2 ks2 : Nat} (h1 : kc2 ≤ kc) (h2 : ks2 ≤ ks) (kk : V E own nm cc nL ret d kc2 ks2 Qa n hp pc ls st) : V E own nm cc nL ret d kc ks Qa n hp pc ls st := by
  intro p l e R s m args below meth c H locs cells slots Q lsA C Rt g1 g2 hR hS hL
  refine kk p l e R s m args below meth c H locs cells slots Q lsA C ?_ (by omega) (by omega) hR hS hL
  intro r n' hp' H' locs' pc' ls' hq hR' hS' hrk
  exact W.widen (k := cells + kc) (n := slots + ks) (by omega) (by omega) (Rt r n' hp' H' locs' pc' ls' hq hR' hS' hrk)
theorem V_new {ci idx N : Nat} {fs : List Value} {hp2 : Nat → AC} (hl : vNw own idx ci N fs) (hd : decode cc pc = .ok (.new idx, 3)) (hn : n < 1000) (he : va_up hp n (.inr (ci, fs)) = hp2) (kk : V E own nm cc nL ret d kc ks Qa (n + 1) hp2 (pc + 3) ls (.ref n :: st)) : V E own nm cc nL ret d (kc + 1) (ks + N) Qa n hp pc ls st := by
  intro p l e R s m args below meth c H locs cells slots Q lsA C Rt h1 h2 hR hS hL
  subst he
  obtain ⟨C', T, ty, hc, hin, hty, hcl, hins, hini, hfs, hmap⟩ := hl
  obtain ⟨cx, cb, cr, cm, co, ct, cl0, ck, cs, cd1, cd2, cz, cn⟩ := id C
  have hKn := ck.1 ci _ hc
  refine W.newcK cx cb co (ct _ hcl) (ct _ hins) (ct _ hini) rfl hd (by omega) (by omega) hKn.2.1 rfl fun H1 kC hkC e1 z1 o1 => ?_
  have hat : va_at (eD E) classes (eB E + n, vrC E (.inr (ci, fs))) H1 := by
    rw [← hR.1]
    have e9 : vrC E (.inr (ci, fs)) = .inr (ci, fs) := by
      show Sum.inr (ci, fs.map (vr E)) = _
      rw [hmap]
    rw [e9]
    exact ⟨_, hc, (u_born ty ct hin hKn hkC e1 hty).to hfs⟩
  have k2 := kk p l e R s m args below meth c H1 locs (cells + 1) (slots + N) Q lsA C (by rw [show cells + 1 + kc = cells + (kc + 1) by omega, show slots + N + ks = slots + (ks + N) by omega]; exact Rt) (by omega) (by omega) (hR.push hn z1 o1 hat) ⟨Nat.le_trans hS.1 (by omega), fun x g1 g2 => (o1 x (Nat.lt_of_lt_of_le g1 hS.1)).trans (hS.2.1 x g1 g2), hS.2.2⟩ hL
  have e8 : (Value.ref n :: st).map (vr E) = .ref H.size :: st.map (vr E) := by
    show Value.ref (vad E n) :: _ = _
    rw [vad_lt hn, ← hR.1]
  rw [e8] at k2
  exact k2
/-- an int row, a byte row -/
theorem V_newa {t N : Nat} {at0 : ArrayType} {ty : FieldType} {j : Int32} {hp2 : Nat → AC} (hty : newarray.typeOf at0 = ty) (htt : t = 0 ∧ ty = .int ∨ t = 1 ∧ ty = .byte) (harr : Cond.arrayClass ty ∈ tb) (hd : decode cc pc = .ok (.newarray at0, 2)) (hj : ¬ j < 0) (hN : j.toNatClampNeg = N) (hb : N ≤ 1000) (hn : n < 1000) (he : va_up hp n (.inl (t, (N, .inl fun _ => 0))) = hp2) (kk : V E own nm cc nL ret d kc ks Qa (n + 1) hp2 (pc + 2) ls (.ref n :: st)) : V E own nm cc nL ret d (kc + 1) (ks + N) Qa n hp pc ls (.int j :: st) := by
  intro p l e R s m args below meth c H locs cells slots Q lsA C Rt h1 h2 hR hS hL
  subst he
  subst hty
  obtain ⟨cx, cb, cr, cm, co, ct, cl0, ck, cs, cd1, cd2, cz, cn⟩ := id C
  have hbytes : N * componentBytes (newarray.typeOf at0) ≤ 536870912 := by
    rcases htt with ⟨-, h⟩ | ⟨-, h⟩
    · rw [h]
      show N * 4 ≤ _
      omega
    · rw [h]
      show N * 1 ≤ _
      omega
  refine va_newaK cx cb (ct _ harr) rfl hd rfl hj hN hbytes (by omega) (by omega) hR.1 fun H1 cA e1 z1 o1 hAr hNm => ?_
  have hcA : cA = eA E t := by
    rcases htt with ⟨rfl, h⟩ | ⟨rfl, h⟩
    · rw [h] at hNm
      exact Option.some.inj (hNm.symm.trans ((ck.2 0 _ rfl).2 : s.vm.findClass ("[" ++ (FieldType.int).toString) = some (eA E 0)))
    · rw [h] at hNm
      exact Option.some.inj (hNm.symm.trans ((ck.2 1 _ rfl).2 : s.vm.findClass ("[" ++ (FieldType.byte).toString) = some (eA E 1)))
  have hat : va_at (eD E) classes (eB E + n, vrC E (.inl (t, (N, .inl fun _ => 0)))) H1 := by
    show H1[eB E + n]? = some (vp_cell (eA E t) (N, .inl fun _ => 0))
    rw [e1, hcA]
    rcases htt with ⟨-, h⟩ | ⟨-, h⟩
    · rw [h]; rfl
    · rw [h]; rfl
  have z2 : H1.size = H.size + 1 := by rw [z1, hR.1]
  have o2 : ∀ q : Nat, q < H.size → H1[q]? = H[q]? := fun q hq => o1 q (by rw [← hR.1]; exact hq)
  have k2 := kk p l e R s m args below meth c H1 locs (cells + 1) (slots + N) Q lsA C (by rw [show cells + 1 + kc = cells + (kc + 1) by omega, show slots + N + ks = slots + (ks + N) by omega]; exact Rt) (by omega) (by omega) (hR.push hn z2 o2 hat) ⟨Nat.le_trans hS.1 (by omega), fun x g1 g2 => (o2 x (Nat.lt_of_lt_of_le g1 hS.1)).trans (hS.2.1 x g1 g2), hS.2.2⟩ hL
  have e8 : (Value.ref n :: st).map (vr E) = .ref (eB E + n) :: st.map (vr E) := by
    show Value.ref (vad E n) :: _ = _
    rw [vad_lt hn]
  rw [e8] at k2
  exact k2
/-- a row of objects -/
theorem V_newq {t N idx : Nat} {Cn : String} {j : Int32} {hp2 : Nat → AC} (hao : Cn ∈ aoL) (htt : ∀ E, (vTy E)[t]? = some (eA E t, .object Cn)) (hcl : Cond.classLink own idx Cn ∈ tb) (hd : decode cc pc = .ok (.anewarray idx, 3)) (hj : ¬ j < 0) (hN : j.toNatClampNeg = N) (hb : N ≤ 1000) (hn : n < 1000) (he : va_up hp n (.inl (t, (N, .inr (.inr (.inr (.inr fun _ => none)))))) = hp2) (kk : V E own nm cc nL ret d kc ks Qa (n + 1) hp2 (pc + 3) ls (.ref n :: st)) : V E own nm cc nL ret d (kc + 1) (ks + N) Qa n hp pc ls (.int j :: st) := by
  intro p l e R s m args below meth c H locs cells slots Q lsA C Rt h1 h2 hR hS hL
  subst he
  subst hN
  obtain ⟨cx, cb, cr, cm, co, ct, cl0, ck, cs, cd1, cd2, cz, cn⟩ := id C
  refine W.anew cx cb co (ct _ hcl) (va_AO.use (cs.2.2.2.2.2.2.2.2 Cn hao)) rfl hd rfl hj (by omega) (by omega) (by omega) fun cA kA comp f1 f2 f3 f4 => ?_
  have hcA : cA = eA E t := by
    have h9 := (ck.2 t _ (htt E)).2
    obtain ⟨_, _, _, _, _, h8⟩ := h9
    exact Option.some.inj (f1.symm.trans h8)
  subst hcA
  generalize hH1 : H.push ({ cls := eA E t, slots := Array.replicate j.toNatClampNeg .null, vm := .none } : Cell) = H1
  have z1 : H1.size = H.size + 1 := by rw [← hH1, Array.size_push]
  have e1 : H1[H.size]? = some (arrV (eA E t) j.toNatClampNeg (fun _ => .null)) := by rw [← hH1, Array.getElem?_push_size, ← arrV_new]
  have o1 : ∀ q : Nat, q < H.size → H1[q]? = H[q]? := fun q hq => by rw [← hH1, Array.getElem?_push, if_neg (Nat.ne_of_lt hq)]
  have hat : va_at (eD E) classes (eB E + n, vrC E (.inl (t, (j.toNatClampNeg, .inr (.inr (.inr (.inr fun _ => none))))))) H1 := by
    show H1[eB E + n]? = some (vp_cell (eA E t) _)
    rw [← hR.1, e1]
    show _ = some (vp_cell (eA E t) (j.toNatClampNeg, .inr (.inr (.inr (.inr fun _ => none)))))
    rw [vp_cell_q]
    rfl
  have k2 := kk p l e R s m args below meth c H1 locs (cells + 1) (slots + j.toNatClampNeg) Q lsA C (by rw [show cells + 1 + kc = cells + (kc + 1) by omega, show slots + j.toNatClampNeg + ks = slots + (ks + j.toNatClampNeg) by omega]; exact Rt) (by omega) (by omega) (hR.push hn z1 o1 hat) ⟨Nat.le_trans hS.1 (by omega), fun x g1 g2 => (o1 x (Nat.lt_of_lt_of_le g1 hS.1)).trans (hS.2.1 x g1 g2), hS.2.2⟩ hL
  have e8 : (Value.ref n :: st).map (vr E) = .ref H.size :: st.map (vr E) := by
    show Value.ref (vad E n) :: _ = _
    rw [vad_lt hn, ← hR.1]
  rw [e8] at k2
  exact k2
/-- a reference goes into a row of objects -/
theorem V_aast {i t len a ci N : Nat} {Cn C' : String} {T : u_T} {f : Nat → Option Nat} {fs : List Value} {j : Int32} {hp2 : Nat → AC} (k : Nat) (hk : j.toNatClampNeg = k) (hd : decode cc pc = .ok (.aastore, 1)) (hi : i < n) (ha : a < n) (hc : hp i = .inl (t, (len, .inr (.inr (.inr (.inr f)))))) (hv : hp a = .inr (ci, fs)) (ht : ∀ E, (vTy E)[t]? = some (eA E t, .object Cn)) (hcl : classes[ci]? = some (C', T, N)) (hca : C' = Cn ∨ (C' ∈ csL ∧ Cn = "SmokeHome$Kind")) (hin : vp_in j len) (he : va_up hp i (.inl (t, (len, .inr (.inr (.inr (.inr (va_up f k (some a)))))))) = hp2) (kk : V E own nm cc nL ret d kc ks Qa n hp2 (pc + 1) ls st) : V E own nm cc nL ret d kc ks Qa n hp pc ls (.ref a :: .int j :: .ref i :: st) := by
  intro p l e R s m args below meth c H locs cells slots Q lsA C Rt h1 h2 hR hS hL
  subst he
  subst hk
  have hi' : i < 1000 := Nat.lt_of_lt_of_le hi hR.2.1
  have ha' : a < 1000 := Nat.lt_of_lt_of_le ha hR.2.1
  show W p l e R s m args below meth c H locs cells slots Q (F0 m pc lsA (.ref (vad E a) :: .int j :: .ref (vad E i) :: st.map (vr E)))
  rw [vad_lt hi', vad_lt ha']
  obtain ⟨cx, cb, cr, cm, co, ct, cl0, ck, cs, cd1, cd2, cz, cn⟩ := id C
  have hlt : j.toNatClampNeg < len := Nat.not_le.mp fun q => hin (Or.inr q)
  have h0 : ¬ j < 0 := fun q => hin (Or.inl q)
  have hA0 := hR.2.2 i hi
  rw [hc] at hA0
  have hA : H[eB E + i]? = some (vp_cell (eA E t) (len, .inr (.inr (.inr (.inr fun q => (f q).map (vad E)))))) := hA0
  have hV0 := hR.2.2 a ha
  rw [hv] at hV0
  obtain ⟨r', hr', cellV, g1, g2, g3, -⟩ := hV0
  have hcls := (ck.1 ci _ hcl).2
  obtain ⟨kA, comp, k1, k2, k3, -⟩ := (ck.2 t _ (ht E)).2
  obtain ⟨kE, hkE, -⟩ := Vm.findClass_spec k3
  obtain ⟨kC, hkC, -⟩ := hcls.2
  have hasg : s.vm.assignable ((eD E).1 ci) comp = true := by
    rcases hca with rfl | ⟨hm, rfl⟩
    · have : comp = (eD E).1 ci := Option.some.inj (k3.symm.trans hcls.1)
      rw [this]
      exact va_assign hcls
    · obtain ⟨c0, t1, f1, f2, f3⟩ := Cond.castable_spec (va_Nw.use (A := args) rfl (cs.2.2.2.2.2.2.2.1 _ hm))
      have e1 : c0 = (eD E).1 ci := Option.some.inj (f1.symm.trans hcls.1)
      have e2 : t1 = comp := Option.some.inj (f2.symm.trans k3)
      rw [← e1, ← e2]
      exact f3
  refine W.aast cx cb hA (fun q h => by cases h) (fun h => by cases h) k1 k2 rfl hkE ⟨h0, by show _ < (arrV _ _ _).slots.size; rw [arrV_size]; exact hlt⟩ g1 (fun q h => by rw [g3] at h; cases h) (by rw [g2]; exact hkC) (by rw [g2]; exact hasg) rfl rfl hd fun H1 e9 z oq => ?_
  refine kk p l e R s m args below meth c H1 _ cells slots Q lsA C Rt h1 h2 (hR.set (c := .inl (t, (len, .inr (.inr (.inr (.inr (va_up f j.toNatClampNeg (some a)))))))) z oq ?_) (hS.put z oq (Nat.le_add_right _ _)) hL
  show H1[eB E + i]? = some (vp_cell (eA E t) (len, .inr (.inr (.inr (.inr fun q => (va_up f j.toNatClampNeg (some a) q).map (vad E))))))
  rw [e9]
  show some ((vp_cell (eA E t) (len, .inr (.inr (.inr (.inr fun q => (f q).map (vad E)))))).setSlot _ _) = _
  rw [vp_cell_q, vp_cell_q, arrV_store]
  congr 2
  funext q
  by_cases hq : q = j.toNatClampNeg
  · subst hq
    simp [updV, va_up, va_rf, vad_lt ha']
  · simp [updV, va_up, hq]
theorem V_iastK {i len : Nat} {f : Nat → Int32} {j x : Int32} {hp2 : Nat → AC} (k : Nat) (hk : j.toNatClampNeg = k) (hd : decode cc pc = .ok (.iastore, 1)) (hi : i < n) (hc : hp i = .inl (0, (len, .inl f))) (hin : vp_in j len) (he : va_up hp i (.inl (0, (len, .inl (upd f k x)))) = hp2) (kk : V E own nm cc nL ret d kc ks Qa n hp2 (pc + 1) ls st) : V E own nm cc nL ret d kc ks Qa n hp pc ls (.int x :: .int j :: .ref i :: st) := by
  subst hk
  exact V_iast hd hi hc hin he kk
/-- what a call of a constructor asks of the tables -/
def vLI (own : String) (idx : Nat) (y : MethodName) (cc2 : ByteArray) (nL2 : Nat) (k : Nat) : Prop := (Cond.methodLink own idx y ∈ tb ∨ (own, idx, y) ∈ nsL) ∧ Cond.instanceMethod y ∈ tb ∧ Cond.initialized y.cls ∈ tb ∧ Cond.code y cc2 nL2 none ∈ tb ∧ y.name = "<init>" ∧ (y.cls ≠ "java/lang/invoke/MethodHandle" ∧ y.cls ≠ "java/lang/invoke/VarHandle" ∧ (parseMethodDescriptor y.desc).map (fun d => d.parameters.length) = some k) ∧ nL2 ≤ 21
theorem V_callI {i idx : Nat} {args : List Value} (hl : vLI own idx y cc2 nL2 args.length) (hd : decode cc pc = .ok (.invokespecial idx, 3)) (hdd : d2 + 1 ≤ d) (hst : (st.map fun v => v.category).sum ≤ 8) (hC : Ct y cc2 nL2 none d2 kc2 ks2 (.ref i :: args) n hp Qa2)
    (kk : ∀ r n' hp', Qa2 r n' hp' → V E own nm cc nL ret d kc ks Qa n' hp' (pc + 3) ls (r.toList ++ st)) : V E own nm cc nL ret d (kc2 + kc) (ks2 + ks) Qa n hp pc ls ((.ref i :: args).reverse ++ st) := by
  refine V_run (Qa2 := Qa2) ⟨3, rfl⟩ ?_ kk
  intro p l e R s m args' below meth c H locs cells slots lsA C h1 h2 hR hS hsz
  obtain ⟨l0, l1, l2, l3, l4, l5, l6⟩ := hl
  obtain ⟨cx, cb, cr, cm, co, ct, cl0, ck, cs, cd1, cd2, cz, cn⟩ := id C
  have hstk : ((Value.ref i :: args).reverse ++ st).map (vr E) = (args.map (vr E)).reverse ++ .ref (vad E i) :: st.map (vr E) := by
    rw [List.map_append, List.reverse_cons, List.map_append, List.map_reverse, List.append_assoc]
    rfl
  rcases l0 with l0 | l0
  · refine ⟨_, va_runI (b := vad E i) (As := args.map (vr E)) (rest := st.map (vr E)) (n := args.length) ⟨cx, cb, cm, co, ct⟩ (hC l E) ⟨callB_of args.length ct (tb_good l3) rfl rfl rfl (ct _ l2) (ct _ l0) l5 (vroom cd1 cd2 hdd l6), l4, ct _ l1⟩ ⟨vPre.blind, fun U hU hW => vPre.here (args := .ref i :: args) hR ck cs hS hU hW⟩ rfl (by rw [List.length_map]) hsz hstk (lv_room (by rw [vcat]; exact hst)) hd ⟨h1, h2⟩⟩
  · refine ⟨_, va_runIN (host := "SmokeHome") (b := vad E i) (As := args.map (vr E)) (rest := st.map (vr E)) (n := args.length) ⟨cx, cb, cm, co, ct⟩ (hC l E) ⟨va_cnB args.length ct (tb_good l3) rfl rfl rfl (cs.2.2.2.2.2.2.1 _ l0) (ct _ l2) l5 (vroom cd1 cd2 hdd l6), l4, ct _ l1⟩ ⟨vPre.blind, fun U hU hW => vPre.here (args := .ref i :: args) hR ck cs hS hU hW⟩ rfl (by rw [List.length_map]) hsz hstk (lv_room (by rw [vcat]; exact hst)) hd ⟨h1, h2⟩⟩
theorem V_obj {i idx : Nat} (hl : Cond.methodLink own idx Lib.objectInit ∈ tb) (hd : decode cc pc = .ok (.invokespecial idx, 3)) (hdd : 1 ≤ d) (hst : (st.map fun v => v.category).sum ≤ 8) (kk : V E own nm cc nL ret d kc ks Qa n hp (pc + 3) ls st) : V E own nm cc nL ret d kc ks Qa n hp pc ls (.ref i :: st) := by
  intro p l e R s m args below meth c H locs cells slots Q lsA C Rt h1 h2 hR hS hL
  obtain ⟨cx, cb, cr, cm, co, ct, cl0, ck, cs, cd1, cd2, cz, cn⟩ := id C
  exact W.objInit cx cb co (ct _ hl) (ct _ wd_88) (ct _ wd_89) rfl (by show lsA.size = c.maxLocals; rw [hL.1, cm]) (rest := st.map (vr E)) rfl hd (by omega) (by show 2 * 0 + _ + 12 ≤ _; rw [vcat]; omega) (kk p l e R s m args below meth c H locs cells slots Q lsA C Rt h1 h2 hR hS hL)
/-- the script -/
theorem V_slen (hd : decode cc pc = .ok (.arraylength, 1)) (kk : V E own nm cc nL ret d kc ks Qa n hp (pc + 1) ls (.int (nI (eL E)) :: st)) : V E own nm cc nL ret d kc ks Qa n hp pc ls (.ref 1012 :: st) := by
  intro p l e R s m args below meth c H locs cells slots Q lsA C Rt h1 h2 hR hS hL
  obtain ⟨cx, cb, cr, cm, co, ct, cl0, ck, cs, cd1, cd2, cz, cn⟩ := id C
  show W p l e R s m args below meth c H locs cells slots Q (F0 m pc lsA (.ref (vad E (1000 + 12)) :: st.map (vr E)))
  rw [vad_K]
  have hbl : eK E 12 < eB E := cs.2.2.2.2.1
  exact va_slen (A := vA E) cx cb cs.2.2.2.1 (by omega) (fun h => by have h2 : eB E ≤ eK E 12 := h; omega) hS hd (kk p l e R s m args below meth c H locs cells slots Q lsA C Rt h1 h2 hR hS hL)
theorem V_sld {j : Int32} (hin : vp_in j (eL E)) (hd : decode cc pc = .ok (.iaload, 1)) (kk : V E own nm cc nL ret d kc ks Qa n hp (pc + 1) ls (.int (eX E j.toNatClampNeg) :: st)) : V E own nm cc nL ret d kc ks Qa n hp pc ls (.int j :: .ref 1012 :: st) := by
  intro p l e R s m args below meth c H locs cells slots Q lsA C Rt h1 h2 hR hS hL
  obtain ⟨cx, cb, cr, cm, co, ct, cl0, ck, cs, cd1, cd2, cz, cn⟩ := id C
  show W p l e R s m args below meth c H locs cells slots Q (F0 m pc lsA (.int j :: .ref (vad E (1000 + 12)) :: st.map (vr E)))
  rw [vad_K]
  have hbl : eK E 12 < eB E := cs.2.2.2.2.1
  exact va_sld (A := vA E) cx cb cs.2.2.2.1 (by omega) (fun h => by have h2 : eB E ≤ eK E 12 := h; omega) hS hin hd (kk p l e R s m args below meth c H locs cells slots Q lsA C Rt h1 h2 hR hS hL)
end VCTOR
/-- a row that is filled from its first place on -/
def fil (b : Nat) (v : Int32) (g : Nat → Int32) : Nat → Nat → Int32
  | 0 => g
  | k + 1 => upd (fil b v g k) (b + k) v
def frl (f : Nat → Nat) : Nat → Nat → Option Nat
  | 0 => fun _ => none
  | k + 1 => va_up (frl f k) k (some (f k))
theorem frl_eq (f : Nat → Nat) : ∀ k, frl f k = fun j => if j < k then some (f j) else none
  | 0 => by
    funext j
    show none = _
    rw [if_neg (Nat.not_lt_zero j)]
  | k + 1 => by
    funext j
    show va_up (frl f k) k (some (f k)) j = _
    rw [frl_eq f k]
    show (if j = k then some (f k) else if j < k then some (f j) else none) = _
    by_cases h : j = k
    · subst h
      rw [if_pos rfl, if_pos (Nat.lt_succ_self j)]
    · rw [if_neg h]
      by_cases h2 : j < k
      · rw [if_pos h2, if_pos (by omega)]
      · rw [if_neg h2, if_neg (by omega)]
theorem fil_in {b k : Nat} {v : Int32} {g : Nat → Int32} : ∀ {q : Nat}, b ≤ q → q < b + k → fil b v g k q = v := by
  induction k with
  | zero => intro q h1 h2; omega
  | succ k ih =>
    intro q h1 h2
    show upd (fil b v g k) (b + k) v q = v
    unfold upd
    by_cases h : q = b + k
    · rw [if_pos h]
    · rw [if_neg h]
      exact ih h1 (by omega)
theorem fil_out {b k : Nat} {v : Int32} {g : Nat → Int32} : ∀ {q : Nat}, (q < b ∨ b + k ≤ q) → fil b v g k q = g q := by
  induction k with
  | zero => intro q h; rfl
  | succ k ih =>
    intro q h
    show upd (fil b v g k) (b + k) v q = g q
    unfold upd
    rw [if_neg (by omega)]
    exact ih (by omega)
