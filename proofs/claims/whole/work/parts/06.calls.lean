/-! THE LAYER, third part: contracts and calls -/
def vRm (d kc ks : Nat) : Room := { frames := d, cells := kc, slots := ks, locals := 40 * d }
def vPre (E : vEnv) (args : List Value) (n : Nat) (hp : Nat → AC) : Array Value → State → Prop := va_Pc (args.map (vr E)) (fun U => vRel E n hp U.heap ∧ vKn E U ∧ vSt E U U.heap)
def vQc (E : vEnv) (Qa : Option Value → Nat → (Nat → AC) → Prop) : Array Value → State → Outcome → State → Prop := fun _ st oc t => (∃ (r : Option Value) (n' : Nat) (hp' : Nat → AC), oc = .returned (r.map (vr E)) ∧ Qa r n' hp' ∧ vRel E n' hp' t.heap) ∧ va_F (vA E) st t
/-- THE CONTRACT of a method: from the heap hp with these arguments it returns, and Qa holds of its answer and of the heap then -/
def Ct (y : MethodName) (cc : ByteArray) (nL : Nat) (ret : Option FieldType) (d kc ks : Nat) (args : List Value) (n : Nat) (hp : Nat → AC) (Qa : Option Value → Nat → (Nat → AC) → Prop) : Prop :=
  ∀ (l : Launch) (E : vEnv), Met l y (Cond.code y cc nL ret :: tb) (vRm d kc ks) (vPre E args n hp) (vQc E Qa) kc ks (vA E)
def vAr : List Value → List (Option Value)
  | [] => []
  | v9 :: t9 => if v9.category = 2 then some v9 :: none :: vAr t9 else some v9 :: vAr t9
def vArgs (args : List Value) (nL : Nat) : List (Option Value) := vAr args ++ List.replicate (nL - (vAr args).length) none
theorem vAr_mem {E : vEnv} : ∀ (args : List Value) (k i : Nat) (v9 : Value), (vAr args)[i]? = some (some v9) → (k + i, vr E v9) ∈ lv_args k (args.map (vr E))
  | [], k, i, v9, h => by simp [vAr] at h
  | a :: t9, k, i, v9, h => by
    show (k + i, vr E v9) ∈ (k, vr E a) :: lv_args (if (vr E a).category = 2 then k + 2 else k + 1) (t9.map (vr E))
    rw [vr_cat]
    unfold vAr at h
    by_cases h2 : a.category = 2
    · rw [if_pos h2] at h ⊢
      match i, h with
      | 0, h => cases h; exact List.mem_cons_self
      | 1, h => cases h
      | i + 2, h =>
        have h3 : (vAr t9)[i]? = some (some v9) := h
        have := vAr_mem (E := E) t9 (k + 2) i v9 h3
        rw [show k + (i + 2) = k + 2 + i by omega]
        exact List.mem_cons_of_mem _ this
    · rw [if_neg h2] at h ⊢
      match i, h with
      | 0, h => cases h; exact List.mem_cons_self
      | i + 1, h =>
        have h3 : (vAr t9)[i]? = some (some v9) := h
        have := vAr_mem (E := E) t9 (k + 1) i v9 h3
        rw [show k + (i + 1) = k + 1 + i by omega]
        exact List.mem_cons_of_mem _ this
theorem lg_sl_vr (E : vEnv) : ∀ args : List Value, (lg_sl (args.map (vr E))).length = (lg_sl args).length
  | [] => rfl
  | a :: t9 => by
    have ih := lg_sl_vr E t9
    unfold lg_sl at ih ⊢
    rw [List.map_cons, List.flatMap_cons, List.flatMap_cons, List.length_append, List.length_append, ih, vr_cat]
    by_cases h : a.category = 2
    · rw [if_pos h, if_pos h]; rfl
    · rw [if_neg h, if_neg h]; rfl
theorem Ct.ofV {y : MethodName} {cc : ByteArray} {nL : Nat} {ret : Option FieldType} {d kc ks : Nat} {args : List Value} {n : Nat} {hp : Nat → AC} {Qa : Option Value → Nat → (Nat → AC) → Prop} (hy : plainName y.cls = true) (hlen : (lg_sl args).length ≤ nL) (h : ∀ E, V E y.cls y.name cc nL ret d kc ks Qa n hp 0 (vArgs args nL) []) : Ct y cc nL ret d kc ks args n hp Qa := by
  intro l E
  refine Met.ofW (cc := cc) (maxL := nL) (ret := ret) hy rfl ?_
  intro p e s m args' below meth c s₁ B hml hv
  obtain ⟨rfl, hrel, hk, hst⟩ := hv
  have hts := atoms_spec (ws := Cond.code y cc nL ret :: tb) B.pre
  have hown : s.vm.findClass y.cls = some m.cls := findClass_of_methodNamed B.named
  have hl := lv_entry (args.map (vr E)) (n := nL) (by rw [lg_sl_vr]; exact hlen)
  have hnotS := B.notSynchronized
  have hx := B.exec
  have hb := B.bytes
  have hr := B.returns
  have hnm : meth.name = y.name := (name_of_methodNamed B.named B.method).1
  have hbase : eB E ≤ s.heap.size := by rw [hrel.1]; exact Nat.le_add_right _ _
  rw [lg_entry_eq]
  generalize (lg_sl (args.map (vr E)) ++ List.replicate (nL - (lg_sl (args.map (vr E))).length) Slot.unset).toArray = lsA at hl ⊢
  refine h E p l e _ s m _ below meth c s.heap [] 0 0 _ lsA ⟨hx, hb, hr, hml, hown, fun w hw => hts w (List.mem_cons_of_mem _ hw), hnotS, hk, hst, Nat.le_refl _, Nat.le_refl _, hbase, hnm⟩ ?_ (by show 0 + kc ≤ kc; omega) (by show 0 + ks ≤ ks; omega) hrel va_S.rf ⟨hl.1, hl.2.1, fun i v9 hi => ?_⟩
  · intro r n' hp' H' locs' pc' ls' hq hR hS hrk
    rw [Nat.zero_add, Nat.zero_add]
    rcases hrk with ⟨e1, rfl, hd⟩ | ⟨v9, ty, e1, hn, rfl, hd⟩ | ⟨v9, e1, rfl, hd⟩ | ⟨v9, rt, tn, e1, e2, rfl, hd⟩
    · exact W.vret hx hb (hr.trans e1) (fun t ht hW => ⟨⟨none, n', hp', rfl, hq, by rw [ht]; exact hR⟩, hS.F ht⟩) hS.2.2 hd hnotS
    · exact W.zret hx hb (hr.trans e1) hn (fun t ht hW => ⟨⟨some (.int v9), n', hp', rfl, hq, by rw [ht]; exact hR⟩, hS.F ht⟩) hS.2.2 hd hnotS
    · exact W.lret hx hb (hr.trans e1) (fun t ht hW => ⟨⟨some (.long v9), n', hp', rfl, hq, by rw [ht]; exact hR⟩, hS.F ht⟩) hS.2.2 hd hnotS
    · exact W.aret hx hb (hr.trans e1) (Or.inl ⟨tn, e2⟩) (Or.inr ⟨_, rfl⟩) (fun t ht hW => ⟨⟨some (.ref v9), n', hp', rfl, hq, by rw [ht]; exact hR⟩, hS.F ht⟩) hS.2.2 hd hnotS
  · have hi2 : (vAr args)[i]? = some (some v9) := by
      unfold vArgs at hi
      rw [List.getElem?_append] at hi
      split at hi
      · exact hi
      · have := List.eq_of_mem_replicate (List.mem_of_getElem? hi)
        cases this
    have := vAr_mem (E := E) args 0 i v9 hi2
    rw [Nat.zero_add] at this
    exact hl.2.2 _ this
theorem vPre.blind {E : vEnv} {args : List Value} {n : Nat} {hp : Nat → AC} : FrameBlind (vPre E args n hp) := by
  intro a U g mk q
  obtain ⟨q0, q1, q2, q3, q4⟩ := q
  exact ⟨q0, q1, q2.moved (Vm.Alike.refl U.vm), q3.moved (Vm.Alike.refl U.vm), fun k hk => (q4.1 k hk).same rfl, q4.2.1, q4.2.2.1.moved (Vm.Alike.refl U.vm), q4.2.2.2.1, q4.2.2.2.2.1.moved (Vm.Alike.refl U.vm), q4.2.2.2.2.2.same rfl⟩
theorem vPre.here {E : vEnv} {args : List Value} {n : Nat} {hp : Nat → AC} {s U : State} {H : Heap} {locs : List Loc} (hR : vRel E n hp H) (hk : vKn E s) (hs : vSt E s s.heap) (hS : va_S (vA E) s.heap H locs) (hU : U.heap = H) (hW : s.WarmedH U.vm) : vPre E args n hp (args.map (vr E)).toArray U := by
  refine ⟨rfl, by rw [hU]; exact hR, hk.moved hW.alike, ?_, fun k hk2 => (hs.2.1 k hk2).warm hW, hs.2.2.1, (hs.2.2.2.1.kept ?_).moved hW.alike, hs.2.2.2.2.1, (hs.2.2.2.2.2.1.kept (fun a h1 h2 => by rw [hU]; exact hS.2.1 a h1 h2)).moved hW.alike, hs.2.2.2.2.2.2.warm hW⟩
  rotate_left
  · rw [hU]
    obtain ⟨scr, g1, -⟩ := hs.2.2.2.1
    refine hS.2.1 _ (Array.getElem?_eq_some_iff.mp g1).1 (fun h => ?_)
    have h5 : eB E ≤ eK E 12 := h
    have := hs.2.2.2.2.1
    omega
  exact vk_S.moved hW.alike (hs.1.kept (fun a h1 h2 => by rw [hU]; exact hS.2.1 a h1 h2))
section VCALL
variable {E : vEnv} {own nm : String} {cc : ByteArray} {nL : Nat} {ret : Option FieldType} {d kc ks : Nat} {Qa : Option Value → Nat → (Nat → AC) → Prop} {n : Nat} {hp : Nat → AC} {pc : Nat} {ls : List (Option Value)} {st : List Value}
variable {y : MethodName} {cc2 : ByteArray} {nL2 : Nat} {ret2 : Option FieldType} {d2 kc2 ks2 : Nat} {Qa2 : Option Value → Nat → (Nat → AC) → Prop}
/-- behind a call -/
theorem V_run {args : List Value} (hlen : ∃ len : Nat, len = 3)
    (hrun : ∀ (p : Program) (l : Launch) (e : Env) (R : Room) (s : State) (m : MethodId) (args' : Array Value) (below : List Frame) (meth : Method) (c : Code) (H : Heap) (locs : List Loc) (cells slots : Nat) (lsA : Array Slot), vCtx E own nm cc nL ret d p R s m args' meth c → cells + kc2 ≤ R.cells → slots + ks2 ≤ R.slots → vRel E n hp H → va_S (vA E) s.heap H locs → lsA.size = nL →
      ∃ a : Array Value, va_Run p l e R s m args' below meth c H locs cells slots kc2 ks2 (F0 m pc lsA ((args.reverse ++ st).map (vr E))) (st.map (vr E)) (vQc E Qa2 a) (vA E))
    (kk : ∀ r n' hp', Qa2 r n' hp' → V E own nm cc nL ret d kc ks Qa n' hp' (pc + 3) ls (r.toList ++ st)) : V E own nm cc nL ret d (kc2 + kc) (ks2 + ks) Qa n hp pc ls (args.reverse ++ st) := by
  intro p l e R s m args' below meth c H locs cells slots Q lsA C Rt h1 h2 hR hS hL T hT X
  obtain ⟨a, hr⟩ := hrun p l e R s m args' below meth c H locs cells slots lsA C (by omega) (by omega) hR hS hL.1
  obtain ⟨v9, st₀, t, T', L, h0, X', hLf, e1, e2, ⟨⟨r, n', hp', hv, hq, hrel⟩, hz, hk⟩, stp⟩ := hr T hT X
  have hv2 : v9 = r.map (vr E) := by cases hv; rfl
  subst hv2
  rw [h0] at hz hk
  have hS2 : va_S (vA E) s.heap T'.heap (locs ++ L) := ⟨Nat.le_trans hS.1 (by rw [e1]; exact hz), fun q g1 g2 => by rw [e1, hk q (Nat.lt_of_lt_of_le g1 hS.1) g2]; exact hS.2.1 q g1 g2, fun q hq2 => by
      rcases List.mem_append.mp hq2 with h | h
      · exact hS.2.2 q h
      · exact hLf q h⟩
  obtain ⟨t2, a1, b1⟩ := kk r n' hp' hq p l e R s m args' below meth c T'.heap (locs ++ L) (cells + kc2) (slots + ks2) Q lsA C (by rw [Nat.add_assoc, Nat.add_assoc]; exact Rt) (by omega) (by omega) (by rw [e1]; exact hrel) hS2 hL T' rfl X'
  refine ⟨t2, stp t2 ?_, b1⟩
  have e9 : (r.map (vr E)).toList ++ st.map (vr E) = (r.toList ++ st).map (vr E) := by cases r <;> rfl
  show Steps p.tables e below (T'.setTop (F0 m (pc + 3) lsA ((r.map (vr E)).toList ++ st.map (vr E)))) t2
  rw [e9]
  exact a1
/-- what a call of y asks of the tables, static -/
def vLS (own : String) (idx : Nat) (y : MethodName) (cc2 : ByteArray) (nL2 : Nat) (ret2 : Option FieldType) (k : Nat) : Prop := Cond.methodLink own idx y ∈ tb ∧ Cond.static y ∈ tb ∧ Cond.initialized y.cls ∈ tb ∧ Cond.code y cc2 nL2 ret2 ∈ tb ∧ (y.cls ≠ "java/lang/invoke/MethodHandle" ∧ y.cls ≠ "java/lang/invoke/VarHandle" ∧ (parseMethodDescriptor y.desc).map (fun d => d.parameters.length) = some k) ∧ nL2 ≤ 21
def vLV (own : String) (idx ci : Nat) (y : MethodName) (cc2 : ByteArray) (nL2 : Nat) (ret2 : Option FieldType) (k : Nat) : Prop := (∃ T N, classes[ci]? = some (y.cls, T, N)) ∧ Cond.methodLink own idx y ∈ tb ∧ Cond.instanceMethod y ∈ tb ∧ Cond.selects y.cls y y ∈ tb ∧ Cond.initialized y.cls ∈ tb ∧ Cond.code y cc2 nL2 ret2 ∈ tb ∧ (y.cls ≠ "java/lang/invoke/MethodHandle" ∧ y.cls ≠ "java/lang/invoke/VarHandle" ∧ (parseMethodDescriptor y.desc).map (fun d => d.parameters.length) = some k) ∧ nL2 ≤ 21
theorem vroom {R : Room} {d d2 nL2 kc2 ks2 : Nat} (h1 : d ≤ R.frames) (h2 : 40 * d ≤ R.locals) (hd : d2 + 1 ≤ d) (hn : nL2 ≤ 21) : (vRm d2 kc2 ks2).frames + 1 ≤ R.frames ∧ 8 + (nL2 + 11) + (vRm d2 kc2 ks2).locals ≤ R.locals := by
  show d2 + 1 ≤ R.frames ∧ 8 + (nL2 + 11) + 40 * d2 ≤ R.locals
  omega
theorem vcat (E : vEnv) (st : List Value) : ((st.map (vr E)).map fun v => v.category).sum = (st.map fun v => v.category).sum := by
  rw [List.map_map]
  congr 2
  funext v9
  exact vr_cat E v9
theorem V_callSK {args : List Value} {idx : Nat} (hl : vLS own idx y cc2 nL2 ret2 args.length) (hd : decode cc pc = .ok (.invokestatic idx, 3)) (hdd : d2 + 1 ≤ d) (hst : (st.map fun v => v.category).sum ≤ 8) (hC : Ct y cc2 nL2 ret2 d2 kc2 ks2 args n hp Qa2)
    (kk : ∀ r n' hp', Qa2 r n' hp' → V E own nm cc nL ret d kc ks Qa n' hp' (pc + 3) ls (r.toList ++ st)) : V E own nm cc nL ret d (kc2 + kc) (ks2 + ks) Qa n hp pc ls (args.reverse ++ st) := by
  refine V_run (Qa2 := Qa2) ⟨3, rfl⟩ ?_ kk
  intro p l e R s m args' below meth c H locs cells slots lsA C h1 h2 hR hS hsz
  obtain ⟨l1, l2, l3, l4, l5, l6⟩ := hl
  obtain ⟨cx, cb, cr, cm, co, ct, cl0, ck, cs, cd1, cd2, cz, cn⟩ := id C
  refine ⟨_, va_runS (As := args.map (vr E)) (rest := st.map (vr E)) (n := args.length) ⟨cx, cb, cm, co, ct⟩ (hC l E) ⟨callB_of args.length ct (tb_good l4) rfl rfl rfl (ct _ l3) (ct _ l1) l5 (vroom cd1 cd2 hdd l6), ct _ l2⟩ ⟨vPre.blind, fun U hU hW => vPre.here hR ck cs hS hU hW⟩ rfl (by rw [List.length_map]) hsz ?_ (lv_room (by rw [vcat]; exact hst)) hd ⟨h1, h2⟩⟩
  show (args.reverse ++ st).map (vr E) = _
  rw [List.map_append, List.map_reverse]
theorem V_callVK {i ci idx : Nat} {fs : List Value} {args : List Value} (hl : vLV own idx ci y cc2 nL2 ret2 args.length) (hd : decode cc pc = .ok (.invokevirtual idx, 3)) (hi : i < n) (hc : hp i = .inr (ci, fs)) (hdd : d2 + 1 ≤ d) (hst : (st.map fun v => v.category).sum ≤ 8) (hC : Ct y cc2 nL2 ret2 d2 kc2 ks2 (.ref i :: args) n hp Qa2)
    (kk : ∀ r n' hp', Qa2 r n' hp' → V E own nm cc nL ret d kc ks Qa n' hp' (pc + 3) ls (r.toList ++ st)) : V E own nm cc nL ret d (kc2 + kc) (ks2 + ks) Qa n hp pc ls ((.ref i :: args).reverse ++ st) := by
  refine V_run (Qa2 := Qa2) ⟨3, rfl⟩ ?_ kk
  intro p l e R s m args' below meth c H locs cells slots lsA C h1 h2 hR hS hsz
  obtain ⟨⟨T, N, l0⟩, l1, l2, l3, l4, l5, l6, l7⟩ := hl
  obtain ⟨cx, cb, cr, cm, co, ct, cl0, ck, cs, cd1, cd2, cz, cn⟩ := id C
  have hin : i < 1000 := Nat.lt_of_lt_of_le hi hR.2.1
  refine ⟨_, va_runV (C := y.cls) (b := eB E + i) (As := args.map (vr E)) (rest := st.map (vr E)) (n := args.length) ⟨cx, cb, cm, co, ct⟩ (hC l E) ⟨callB_of args.length ct (tb_good l5) rfl rfl rfl (ct _ l4) (ct _ l1) l6 (vroom cd1 cd2 hdd l7), ct _ l2, ct _ l3⟩ ⟨vPre.blind, va_recv ck (hR.one hi) (ci := ci) (q0 := 0) (fs := fs.map (vr E)) l0 (by rw [hc]; rfl), fun U hU hW => ?_⟩ rfl (by rw [List.length_map]) hsz ?_ (lv_room (by rw [vcat]; exact hst)) hd ⟨h1, h2⟩⟩
  · have := vPre.here (args := .ref i :: args) hR ck cs hS hU hW
    have e1 : (Value.ref i :: args).map (vr E) = .ref (eB E + i) :: args.map (vr E) := by
      show Value.ref (vad E i) :: _ = _
      rw [vad_lt hin]
    rw [e1] at this
    exact this
  · show ((Value.ref i :: args).reverse ++ st).map (vr E) = _
    rw [List.map_append, List.reverse_cons, List.map_append, List.map_reverse, List.append_assoc]
    show _ ++ ([Value.ref (vad E i)] ++ _) = _
    rw [vad_lt hin]
    rfl
/-- a method that a class above declares: x is called, y is run -/
def vLU (own : String) (idx ci : Nat) (x y : MethodName) (cc2 : ByteArray) (nL2 : Nat) (ret2 : Option FieldType) (k : Nat) : Prop := (∃ C T N, classes[ci]? = some (C, T, N) ∧ Cond.selects C x y ∈ tb) ∧ Cond.methodLink own idx x ∈ tb ∧ Cond.sameMethod x.cls x.cls x.name x.desc ∈ tb ∧ Cond.instanceMethod y ∈ tb ∧ Cond.initialized y.cls ∈ tb ∧ Cond.code y cc2 nL2 ret2 ∈ tb ∧ (Cond.instanceMethod x ∈ tb ∧ ∃ b q r, Cond.code x b q r ∈ tb) ∧ (x.cls ≠ "java/lang/invoke/MethodHandle" ∧ x.cls ≠ "java/lang/invoke/VarHandle" ∧ (parseMethodDescriptor x.desc).map (fun d => d.parameters.length) = some k) ∧ nL2 ≤ 21
theorem V_callUK {x : MethodName} {i ci idx : Nat} {fs : List Value} {args : List Value} (hl : vLU own idx ci x y cc2 nL2 ret2 args.length) (hd : decode cc pc = .ok (.invokevirtual idx, 3)) (hi : i < n) (hc : hp i = .inr (ci, fs)) (hdd : d2 + 1 ≤ d) (hst : (st.map fun v => v.category).sum ≤ 8) (hC : Ct y cc2 nL2 ret2 d2 kc2 ks2 (.ref i :: args) n hp Qa2)
    (kk : ∀ r n' hp', Qa2 r n' hp' → V E own nm cc nL ret d kc ks Qa n' hp' (pc + 3) ls (r.toList ++ st)) : V E own nm cc nL ret d (kc2 + kc) (ks2 + ks) Qa n hp pc ls ((.ref i :: args).reverse ++ st) := by
  refine V_run (Qa2 := Qa2) ⟨3, rfl⟩ ?_ kk
  intro p l e R s m args' below meth c H locs cells slots lsA C h1 h2 hR hS hsz
  obtain ⟨⟨Cn, T, N, l0, l8⟩, l1, l2, l3, l4, l5, ⟨l9, bx, qx, rx, l10⟩, l6, l7⟩ := hl
  obtain ⟨cx, cb, cr, cm, co, ct, cl0, ck, cs, cd1, cd2, cz, cn⟩ := id C
  have hin : i < 1000 := Nat.lt_of_lt_of_le hi hR.2.1
  have hrm := vroom (R := R) (kc2 := kc2) (ks2 := ks2) cd1 cd2 hdd l7
  have hG := tb_good l5
  refine ⟨_, va_runU (C := Cn) (owner := x.cls) (x := x) (b := eB E + i) (As := args.map (vr E)) (rest := st.map (vr E)) (n := args.length) ⟨cx, cb, cm, co, ct⟩ (hC l E) ⟨⟨rfl, rfl, hrm.1, hrm.2, pay_in ct hG, List.mem_cons_self⟩, ct _ l5, ct _ l4, ⟨l6.1, l6.2.1⟩, fun sig h => ?_, ct _ l1, ct _ l2, va_Decl.of (ct _ l9) (ct _ l10), ct _ l8, ct _ l3⟩ ⟨vPre.blind, va_recv ck (hR.one hi) (ci := ci) (q0 := 0) (fs := fs.map (vr E)) l0 (by rw [hc]; rfl), fun U hU hW => ?_⟩ rfl (by rw [List.length_map]) hsz ?_ (lv_room (by rw [vcat]; exact hst)) hd ⟨h1, h2⟩⟩
  · have z2 := l6.2.2
    rw [h] at z2
    exact (Option.some.inj z2).symm
  · have := vPre.here (args := .ref i :: args) hR ck cs hS hU hW
    have e1 : (Value.ref i :: args).map (vr E) = .ref (eB E + i) :: args.map (vr E) := by
      show Value.ref (vad E i) :: _ = _
      rw [vad_lt hin]
    rw [e1] at this
    exact this
  · show ((Value.ref i :: args).reverse ++ st).map (vr E) = _
    rw [List.map_append, List.reverse_cons, List.map_append, List.map_reverse, List.append_assoc]
    show _ ++ ([Value.ref (vad E i)] ++ _) = _
    rw [vad_lt hin]
    rfl
def vLP (own : String) (idx ci : Nat) (y : MethodName) (cc2 : ByteArray) (nL2 : Nat) (ret2 : Option FieldType) (k : Nat) : Prop := (∃ C T N, classes[ci]? = some (C, T, N)) ∧ Cond.methodLink own idx y ∈ tb ∧ Cond.sameMethod y.cls y.cls y.name y.desc ∈ tb ∧ Cond.superclass own y.cls ∈ tb ∧ Cond.instanceMethod y ∈ tb ∧ Cond.initialized y.cls ∈ tb ∧ Cond.code y cc2 nL2 ret2 ∈ tb ∧ y.name ≠ "<init>" ∧ (parseMethodDescriptor y.desc).map (fun d => d.parameters.length) = some k ∧ nL2 ≤ 21
theorem V_callPK {i ci idx : Nat} {fs : List Value} {args : List Value} (hl : vLP own idx ci y cc2 nL2 ret2 args.length) (hd : decode cc pc = .ok (.invokespecial idx, 3)) (hi : i < n) (hc : hp i = .inr (ci, fs)) (hdd : d2 + 1 ≤ d) (hst : (st.map fun v => v.category).sum ≤ 8) (hC : Ct y cc2 nL2 ret2 d2 kc2 ks2 (.ref i :: args) n hp Qa2)
    (kk : ∀ r n' hp', Qa2 r n' hp' → V E own nm cc nL ret d kc ks Qa n' hp' (pc + 3) ls (r.toList ++ st)) : V E own nm cc nL ret d (kc2 + kc) (ks2 + ks) Qa n hp pc ls ((.ref i :: args).reverse ++ st) := by
  refine V_run (Qa2 := Qa2) ⟨3, rfl⟩ ?_ kk
  intro p l e R s m args' below meth c H locs cells slots lsA C h1 h2 hR hS hsz
  obtain ⟨⟨Cn, T, N, l0⟩, l1, l2, l3, l4, l5, l6, l7, l8, l9⟩ := hl
  obtain ⟨cx, cb, cr, cm, co, ct, cl0, ck, cs, cd1, cd2, cz, cn⟩ := id C
  have hin : i < 1000 := Nat.lt_of_lt_of_le hi hR.2.1
  have hrm := vroom (R := R) (kc2 := kc2) (ks2 := ks2) cd1 cd2 hdd l9
  have hG := tb_good l6
  refine ⟨_, va_runSU (C := Cn) (cC := (eD E).1 ci) (b := eB E + i) (As := args.map (vr E)) (rest := st.map (vr E)) (n := args.length) (ck.1 ci _ l0).2 ⟨cx, cb, cm, co, ct⟩ (hC l E) ⟨⟨rfl, rfl, hrm.1, hrm.2, pay_in ct hG, List.mem_cons_self⟩, ct _ l1, ct _ l2, ct _ l3, ct _ l4, ct _ l5, ct _ l6, l7, fun sig h => ?_⟩ ⟨vPre.blind, va_recv ck (hR.one hi) (ci := ci) (q0 := 0) (fs := fs.map (vr E)) l0 (by rw [hc]; rfl), fun U hU hW => ?_⟩ rfl (by rw [List.length_map]) hsz ?_ (lv_room (by rw [vcat]; exact hst)) hd ⟨h1, h2⟩⟩
  · have z2 := l8
    rw [h] at z2
    exact (Option.some.inj z2).symm
  · have := vPre.here (args := .ref i :: args) hR ck cs hS hU hW
    have e1 : (Value.ref i :: args).map (vr E) = .ref (eB E + i) :: args.map (vr E) := by
      show Value.ref (vad E i) :: _ = _
      rw [vad_lt hin]
    rw [e1] at this
    exact this
  · show ((Value.ref i :: args).reverse ++ st).map (vr E) = _
    rw [List.map_append, List.reverse_cons, List.map_append, List.map_reverse, List.append_assoc]
    show _ ++ ([Value.ref (vad E i)] ++ _) = _
    rw [vad_lt hin]
    rfl
end VCALL
