/-! THE LAYER: one judgement V over the kit's W. The heap that a run has made is a row of n cells (numbers 0 .. n-1, at the addresses base + i); a reference is the number of its cell; String constants are numbers from 1000 on. -/
theorem zl_mem {w : Cond} {l : List Cond} (i : Nat) (h : l[i]? = some w) (g : goodWord w = true) : w ∈ l.filter goodWord := List.mem_filter.mpr ⟨List.mem_of_getElem? h, g⟩
def tb : List Cond := lw_tbl.filter goodWord
theorem tb_good {y : MethodName} {cc : ByteArray} {nL : Nat} {ret : Option FieldType} (h : Cond.code y cc nL ret ∈ tb) : GoodIn tb (Cond.code y cc nL ret :: tb) := by
  intro w hw
  rcases List.mem_cons.mp hw with rfl | hw
  · exact ⟨h, good_of_word (List.mem_filter.mp h).2⟩
  · exact ⟨hw, good_of_word (List.mem_filter.mp hw).2⟩
abbrev classes : List vw_C := [(RX0, TX0, 0), (RX1, TX1, 8), (RX2, TX2, 0), (RX3, TX3, 0), (RX4, TX4, 0), (RX5, TX5, 0), (RX6, TX6, 0), (RX7, TX7, 6), (RX8, TX8, 3), (RX9, TX9, 0), (RX10, TX10, 9), (RX11, TX11, 7), (RX12, TX12, 17)]
/-- base, addresses of String constants, class ids, slots of fields, array class ids, addresses of the texts' bytes -/
abbrev vEnv : Type := Nat × (Nat → Nat) × (Nat → ClassId) × (Nat → Nat → Nat) × (Nat → ClassId) × (Nat → Nat) × Nat × (Nat → Int32)
def eB (E : vEnv) : Nat := E.1
def eK (E : vEnv) : Nat → Nat := E.2.1
def eD (E : vEnv) : va_G := (E.2.2.1, E.2.2.2.1)
def eA (E : vEnv) : Nat → ClassId := E.2.2.2.2.1
def eV (E : vEnv) : Nat → Nat := E.2.2.2.2.2.1
/-- the script: how many ints, and which -/
def eL (E : vEnv) : Nat := E.2.2.2.2.2.2.1
def eX (E : vEnv) : Nat → Int32 := E.2.2.2.2.2.2.2
abbrev AC : Type := (Nat × vp_A) ⊕ (Nat × List Value)
def vad (E : vEnv) (i : Nat) : Nat := if i < 1000 then eB E + i else eK E (i - 1000)
def vr (E : vEnv) : Value → Value
  | .ref i => .ref (vad E i)
  | v => v
theorem vr_cat (E : vEnv) (v : Value) : (vr E v).category = v.category := by cases v <;> rfl
def vrA (E : vEnv) (a : vp_A) : vp_A := match a.2 with
  | .inr (.inr (.inr (.inr f))) => (a.1, .inr (.inr (.inr (.inr (fun j => (f j).map (vad E))))))
  | _ => a
def vrC (E : vEnv) (c : AC) : va_E := match c with
  | .inl (t, a) => .inl (eA E t, vrA E a)
  | .inr (ci, fs) => .inr (ci, fs.map (vr E))
def vA (E : vEnv) : Nat → Prop := fun q => eB E ≤ q
def vTy (E : vEnv) : List (ClassId × FieldType) := [(eA E 0, .int), (eA E 1, .byte), (eA E 2, .object "SmokeHome$Kind"), (eA E 3, .object "SmokeHome$Fire"), (eA E 4, .object "SmokeHome$Sheet")]
def vKn (E : vEnv) (s : State) : Prop := va_K (eD E) classes (vTy E) s
theorem vKn.moved {E : vEnv} {u U : State} (hvm : u.vm.Alike U.vm) (h : vKn E u) : vKn E U := va_K.moved hvm h
def vRel (E : vEnv) (n : Nat) (hp : Nat → AC) (H : Heap) : Prop := H.size = eB E + n ∧ n ≤ 1000 ∧ ∀ i, i < n → va_at (eD E) classes (eB E + i, vrC E (hp i)) H
/-- the String constants: own class, entry, text -/
def sO (k : Nat) : String := [RX7, RX7, RX7, RX7, RX7, RX4, RX9, RX6, RX5, RX3, RX2, RX0].getD k ""
def sI (k : Nat) : Nat := [35, 44, 59, 65, 67, 7, 19, 19, 15, 15, 11, 19].getD k 0
def sX (k : Nat) : String := ["wind", "wood", "at", "home", "logs", "fire", "stove", "priest", "poor", "jar", "foreign", "bed"].getD k ""
def sLen : List Nat := [4, 4, 2, 4, 4, 4, 5, 6, 4, 3, 7, 3]
def sByt : List (List Int32) := [[119, 105, 110, 100], [119, 111, 111, 100], [97, 116], [104, 111, 109, 101], [108, 111, 103, 115], [102, 105, 114, 101], [115, 116, 111, 118, 101], [112, 114, 105, 101, 115, 116], [112, 111, 111, 114], [106, 97, 114], [102, 111, 114, 101, 105, 103, 110], [98, 101, 100]]
/-- the two statics that the texts' methods read -/
def vZt (E : vEnv) (s : State) (H : Heap) : Prop := va_Z "java/lang/String" "COMPACT_STRINGS" "Z" (.int 1) (vA E) s H ∧ (va_Z "jdk/internal/util/Preconditions" "SIOOBE_FORMATTER" "Ljava/util/function/BiFunction;" .null (vA E) s H ∨ va_Z "jdk/internal/util/Preconditions" "SIOOBE_FORMATTER" "Ljava/util/function/BiFunction;" (.ref (eK E 13)) (vA E) s H)
theorem vZt.moved {E : vEnv} {u U : State} {H : Heap} (hvm : u.vm.Alike U.vm) (h : vZt E u H) : vZt E U H := ⟨va_Z.moved hvm h.1, h.2.imp (va_Z.moved hvm) (va_Z.moved hvm)⟩
theorem vZt.kept {E : vEnv} {U : State} {H H1 : Heap} (h : vZt E U H) (hq : ∀ a : Nat, a < H.size → ¬ vA E a → H1[a]? = H[a]?) : vZt E U H1 := ⟨h.1.kept hq, h.2.imp (fun x => x.kept hq) (fun x => x.kept hq)⟩
/-- words of the tables that a call may not ask for, but that hold all along: links of nest mates' constructors, casts, array classes -/
def nsL : List (String × Nat × MethodName) := [("SmokeHome", 9, ⟨"SmokeHome$Kind", "<init>", "()V"⟩), ("SmokeHome", 12, ⟨"SmokeHome$Stove", "<init>", "()V"⟩), ("SmokeHome$Stove", 1, ⟨"SmokeHome$Kind", "<init>", "()V"⟩), ("SmokeHome", 15, ⟨"SmokeHome$Priest", "<init>", "()V"⟩), ("SmokeHome$Priest", 1, ⟨"SmokeHome$Kind", "<init>", "()V"⟩), ("SmokeHome", 18, ⟨"SmokeHome$Poor", "<init>", "()V"⟩), ("SmokeHome$Poor", 1, ⟨"SmokeHome$Priest", "<init>", "()V"⟩), ("SmokeHome", 21, ⟨"SmokeHome$Jar", "<init>", "()V"⟩), ("SmokeHome$Jar", 1, ⟨"SmokeHome$Poor", "<init>", "()V"⟩), ("SmokeHome", 24, ⟨"SmokeHome$Foreign", "<init>", "()V"⟩), ("SmokeHome$Foreign", 1, ⟨"SmokeHome$Kind", "<init>", "()V"⟩), ("SmokeHome", 27, ⟨"SmokeHome$Bed", "<init>", "()V"⟩), ("SmokeHome$Bed", 1, ⟨"SmokeHome$Stove", "<init>", "()V"⟩), ("SmokeHome$Town", 25, ⟨"SmokeHome$Fire", "<init>", "()V"⟩)]
def csL : List String := ["SmokeHome$Stove", "SmokeHome$Priest", "SmokeHome$Poor", "SmokeHome$Jar", "SmokeHome$Foreign", "SmokeHome$Bed"]
def aoL : List String := ["SmokeHome$Kind", "SmokeHome$Fire", "SmokeHome$Sheet"]
def vNs (s : State) : Prop := (∀ q ∈ nsL, va_Nw (.methodLinkNest q.1 q.2.1 q.2.2 "SmokeHome") s) ∧ (∀ C ∈ csL, va_Nw (.castable C "SmokeHome$Kind") s) ∧ ∀ C ∈ aoL, va_AO C s
theorem vNs.same {u U : State} (h : u.vm = U.vm) (z : vNs u) : vNs U := ⟨fun q hq => va_Nw.same rfl h (z.1 q hq), fun C hC => va_Nw.same rfl h (z.2.1 C hC), fun C hC => (z.2.2 C hC).moved (by rw [h]; exact Vm.Alike.refl U.vm)⟩
theorem vNs.warm {s U : State} (hW : s.WarmedH U.vm) (z : vNs s) : vNs U := ⟨fun q hq => va_Nw.warmM hW (z.1 q hq), fun C hC => va_Nw.warmC hW (z.2.1 C hC), fun C hC => (z.2.2 C hC).moved hW.alike⟩
def vSt (E : vEnv) (s : State) (H : Heap) : Prop := vk_S 12 sLen sByt (eK E) (eV E) (vA E) s H ∧ (∀ k, k < 12 → vk_R (sO k) (sI k) (sX k) (eK E k) s) ∧ (∀ k, k < 12 → eK E (1000 + k) = eV E k) ∧ va_X (eK E 12) (eL E) (eX E) s H ∧ eK E 12 < eB E ∧ vZt E s H ∧ vNs s
def vCtx (E : vEnv) (own nm : String) (cc : ByteArray) (nL : Nat) (ret : Option FieldType) (d : Nat) (p : Program) (R : Room) (s : State) (m : MethodId) (args : Array Value) (meth : Method) (c : Code) : Prop :=
  p.tables.exec = Jvm.exec ∧ c.code = cc ∧ meth.sig.returnType = ret ∧ c.maxLocals = nL ∧ s.vm.findClass own = some m.cls ∧ (∀ w ∈ tb, w.before args s = true) ∧ meth.locks = false ∧ vKn E s ∧ vSt E s s.heap ∧ d ≤ R.frames ∧ 40 * d ≤ R.locals ∧ eB E ≤ s.heap.size ∧ meth.name = nm
def vRk (cc : ByteArray) (pc : Nat) (ret : Option FieldType) (r : Option Value) : Prop :=
  (ret = none ∧ r = none ∧ decode cc pc = .ok (.return_, 1)) ∨ (∃ v ty, ret = some ty ∧ narrow ty (.int v) = .int v ∧ r = some (.int v) ∧ decode cc pc = .ok (.ireturn, 1)) ∨ (∃ v, ret = some .long ∧ r = some (.long v) ∧ decode cc pc = .ok (.lreturn, 1)) ∨ (∃ i rt nm, ret = some rt ∧ rt = .object nm ∧ r = some (.ref i) ∧ decode cc pc = .ok (.areturn, 1))
def vRet (E : vEnv) (cc : ByteArray) (ret : Option FieldType) (Qa : Option Value → Nat → (Nat → AC) → Prop) (p : Program) (l : Launch) (e : Env) (R : Room) (s : State) (m : MethodId) (args : Array Value) (below : List Frame) (meth : Method) (c : Code) (cells slots : Nat) (Q : State → Prop) : Prop :=
  ∀ (r : Option Value) (n' : Nat) (hp' : Nat → AC) (H' : Heap) (locs' : List Loc) (pc' : Nat) (ls' : Array Slot), Qa r n' hp' → vRel E n' hp' H' → va_S (vA E) s.heap H' locs' → vRk cc pc' ret r → W p l e R s m args below meth c H' locs' cells slots Q (F0 m pc' ls' ((r.map (vr E)).toList))
/-- locals by their places -/
def vLs (E : vEnv) (nL : Nat) (ls : List (Option Value)) (lsA : Array Slot) : Prop := lsA.size = nL ∧ lv_wf lsA ∧ ∀ (i : Nat) (v : Value), ls[i]? = some (some v) → lsA[i]? = some (.val (vr E v))
def vLv (E : vEnv) (ls : List (Option Value)) : List (Nat × Value) := (List.range ls.length).filterMap fun i => (ls[i]?).join.map fun v => (i, vr E v)
theorem mem_vLv {E : vEnv} {ls : List (Option Value)} {q : Nat × Value} : q ∈ vLv E ls ↔ ∃ v, ls[q.1]? = some (some v) ∧ q.2 = vr E v := by
  unfold vLv
  rw [List.mem_filterMap]
  constructor
  · rintro ⟨i, hi, h⟩
    cases hj : (ls[i]?).join with
    | none => rw [hj] at h; cases h
    | some v =>
      rw [hj] at h
      have e : (i, vr E v) = q := by simpa using h
      subst e
      refine ⟨v, ?_, rfl⟩
      cases hl : ls[i]? with
      | none => rw [hl] at hj; cases hj
      | some o => rw [hl] at hj; cases o with
        | none => cases hj
        | some w => cases hj; rfl
  · rintro ⟨v, h1, h2⟩
    refine ⟨q.1, ?_, ?_⟩
    · rw [List.mem_range]
      exact (List.getElem?_eq_some_iff.mp h1).1
    · rw [h1]
      show some (q.1, vr E v) = some q
      rw [← h2]
theorem vLs.has {E : vEnv} {nL : Nat} {ls : List (Option Value)} {lsA : Array Slot} (h : vLs E nL ls lsA) : lv_has lsA nL (vLv E ls) := by
  refine ⟨h.1, h.2.1, fun q hq => ?_⟩
  obtain ⟨v, h1, h2⟩ := mem_vLv.mp hq
  rw [h2]
  exact h.2.2 _ _ h1
/-- no number of two words begins just ahead of a place -/
def vNL (ls : List (Option Value)) (i : Nat) : Bool := match i with
  | 0 => true
  | j + 1 => match ls[j]? with
    | some (some v) => v.category == 1
    | _ => true
theorem vLs.store {E : vEnv} {nL i : Nat} {ls : List (Option Value)} {lsA ls' : Array Slot} {x : Value} (hn : vNL ls i = true) (h' : lv_has ls' nL ((i, vr E x) :: (vLv E ls).filter (fun q => !(q.1 == i) && !(q.1 + 1 == i && q.2.category == 2)))) : vLs E nL (ls.set i (some x)) ls' := by
  refine ⟨h'.1, h'.2.1, fun j v hj => ?_⟩
  by_cases hji : j = i
  · subst hji
    have hl : j < ls.length := by
      have := (List.getElem?_eq_some_iff.mp hj).1
      simpa using this
    rw [List.getElem?_set_self hl] at hj
    cases hj
    exact h'.2.2 (j, vr E x) List.mem_cons_self
  · rw [List.getElem?_set_ne (Ne.symm hji)] at hj
    refine h'.2.2 (j, vr E v) (List.mem_cons_of_mem _ (List.mem_filter.mpr ⟨mem_vLv.mpr ⟨v, hj, rfl⟩, ?_⟩))
    have h1 : (j == i) = false := by simpa using hji
    show (!(j == i) && !(j + 1 == i && (vr E v).category == 2)) = true
    rw [h1, vr_cat]
    cases i with
    | zero => simp
    | succ k =>
      by_cases hk : j = k
      · subst hk
        have hn' : (match ls[j]? with | some (some v) => v.category == 1 | _ => true) = true := hn
        rw [hj] at hn'
        have : v.category = 1 := by simpa using hn'
        simp [this]
      · simp [hk]
theorem vLs.storeL {E : vEnv} {nL i : Nat} {ls : List (Option Value)} {lsA ls' : Array Slot} {x : Int64} (hn : vNL ls i = true) (h' : lv_has ls' nL ((i, .long x) :: (vLv E ls).filter (fun q => !(q.1 == i) && (!(q.1 == i + 1) && !(q.1 + 1 == i && q.2.category == 2))))) : vLs E nL ((ls.set i (some (.long x))).set (i + 1) none) ls' := by
  refine ⟨h'.1, h'.2.1, fun j v hj => ?_⟩
  by_cases hj1 : j = i + 1
  · subst hj1
    exfalso
    have hl := (List.getElem?_eq_some_iff.mp hj).1
    rw [List.getElem?_set_self (by simpa using hl)] at hj
    cases hj
  rw [List.getElem?_set_ne (Ne.symm hj1)] at hj
  by_cases hji : j = i
  · subst hji
    have hl : j < ls.length := by
      have := (List.getElem?_eq_some_iff.mp hj).1
      simpa using this
    rw [List.getElem?_set_self hl] at hj
    cases hj
    exact h'.2.2 (j, .long x) List.mem_cons_self
  · rw [List.getElem?_set_ne (Ne.symm hji)] at hj
    refine h'.2.2 (j, vr E v) (List.mem_cons_of_mem _ (List.mem_filter.mpr ⟨mem_vLv.mpr ⟨v, hj, rfl⟩, ?_⟩))
    have h1 : (j == i) = false := by simpa using hji
    have h2 : (j == i + 1) = false := by simpa using hj1
    show (!(j == i) && (!(j == i + 1) && !(j + 1 == i && (vr E v).category == 2))) = true
    rw [h1, h2, vr_cat]
    cases i with
    | zero => simp
    | succ k =>
      by_cases hk : j = k
      · subst hk
        have hn' : (match ls[j]? with | some (some v) => v.category == 1 | _ => true) = true := hn
        rw [hj] at hn'
        have : v.category = 1 := by simpa using hn'
        simp [this]
      · simp [hk]
def V (E : vEnv) (own nm : String) (cc : ByteArray) (nL : Nat) (ret : Option FieldType) (d kc ks : Nat) (Qa : Option Value → Nat → (Nat → AC) → Prop) (n : Nat) (hp : Nat → AC) (pc : Nat) (ls : List (Option Value)) (st : List Value) : Prop :=
  ∀ (p : Program) (l : Launch) (e : Env) (R : Room) (s : State) (m : MethodId) (args : Array Value) (below : List Frame) (meth : Method) (c : Code) (H : Heap) (locs : List Loc) (cells slots : Nat) (Q : State → Prop) (lsA : Array Slot),
    vCtx E own nm cc nL ret d p R s m args meth c → vRet E cc ret Qa p l e R s m args below meth c (cells + kc) (slots + ks) Q → cells + kc ≤ R.cells → slots + ks ≤ R.slots → vRel E n hp H → va_S (vA E) s.heap H locs → vLs E nL ls lsA →
    W p l e R s m args below meth c H locs cells slots Q (F0 m pc lsA (st.map (vr E)))
section VROWS
variable {E : vEnv} {own nm : String} {cc : ByteArray} {nL : Nat} {ret : Option FieldType} {d kc ks : Nat} {Qa : Option Value → Nat → (Nat → AC) → Prop} {n : Nat} {hp : Nat → AC} {pc : Nat} {ls : List (Option Value)} {st : List Value}

theorem V_iadd {x y : Int32} (hd : decode cc pc = .ok (.iadd, 1)) (k : V E own nm cc nL ret d kc ks Qa n hp (pc + 1) ls (.int (x + y) :: st)) : V E own nm cc nL ret d kc ks Qa n hp (pc) ls (.int y :: .int x :: st) := by
  intro p l e R s m args below meth c H locs cells slots Q lsA C Rt h1 h2 hR hS hL
  exact lv_iadd C.1 C.2.1 hd (k p l e R s m args below meth c H locs cells slots Q lsA C Rt h1 h2 hR hS hL)
theorem V_isub {x y : Int32} (hd : decode cc pc = .ok (.isub, 1)) (k : V E own nm cc nL ret d kc ks Qa n hp (pc + 1) ls (.int (x - y) :: st)) : V E own nm cc nL ret d kc ks Qa n hp (pc) ls (.int y :: .int x :: st) := by
  intro p l e R s m args below meth c H locs cells slots Q lsA C Rt h1 h2 hR hS hL
  exact lv_isub C.1 C.2.1 hd (k p l e R s m args below meth c H locs cells slots Q lsA C Rt h1 h2 hR hS hL)
theorem V_imul {x y : Int32} (hd : decode cc pc = .ok (.imul, 1)) (k : V E own nm cc nL ret d kc ks Qa n hp (pc + 1) ls (.int (x * y) :: st)) : V E own nm cc nL ret d kc ks Qa n hp (pc) ls (.int y :: .int x :: st) := by
  intro p l e R s m args below meth c H locs cells slots Q lsA C Rt h1 h2 hR hS hL
  exact lv_imul C.1 C.2.1 hd (k p l e R s m args below meth c H locs cells slots Q lsA C Rt h1 h2 hR hS hL)
theorem V_iand {x y : Int32} (hd : decode cc pc = .ok (.iand, 1)) (k : V E own nm cc nL ret d kc ks Qa n hp (pc + 1) ls (.int (x &&& y) :: st)) : V E own nm cc nL ret d kc ks Qa n hp (pc) ls (.int y :: .int x :: st) := by
  intro p l e R s m args below meth c H locs cells slots Q lsA C Rt h1 h2 hR hS hL
  exact lv_iand C.1 C.2.1 hd (k p l e R s m args below meth c H locs cells slots Q lsA C Rt h1 h2 hR hS hL)
theorem V_ior {x y : Int32} (hd : decode cc pc = .ok (.ior, 1)) (k : V E own nm cc nL ret d kc ks Qa n hp (pc + 1) ls (.int (x ||| y) :: st)) : V E own nm cc nL ret d kc ks Qa n hp (pc) ls (.int y :: .int x :: st) := by
  intro p l e R s m args below meth c H locs cells slots Q lsA C Rt h1 h2 hR hS hL
  exact lv_ior C.1 C.2.1 hd (k p l e R s m args below meth c H locs cells slots Q lsA C Rt h1 h2 hR hS hL)
theorem V_ishl {x y : Int32} (hd : decode cc pc = .ok (.ishl, 1)) (k : V E own nm cc nL ret d kc ks Qa n hp (pc + 1) ls (.int (x <<< (y &&& 31)) :: st)) : V E own nm cc nL ret d kc ks Qa n hp (pc) ls (.int y :: .int x :: st) := by
  intro p l e R s m args below meth c H locs cells slots Q lsA C Rt h1 h2 hR hS hL
  exact lv_ishl C.1 C.2.1 hd (k p l e R s m args below meth c H locs cells slots Q lsA C Rt h1 h2 hR hS hL)
theorem V_ishr {x y : Int32} (hd : decode cc pc = .ok (.ishr, 1)) (k : V E own nm cc nL ret d kc ks Qa n hp (pc + 1) ls (.int (x >>> (y &&& 31)) :: st)) : V E own nm cc nL ret d kc ks Qa n hp (pc) ls (.int y :: .int x :: st) := by
  intro p l e R s m args below meth c H locs cells slots Q lsA C Rt h1 h2 hR hS hL
  exact lv_ishr C.1 C.2.1 hd (k p l e R s m args below meth c H locs cells slots Q lsA C Rt h1 h2 hR hS hL)
theorem V_idiv {x y : Int32} (hd : decode cc pc = .ok (.idiv, 1)) (hne : ¬ y = 0) (k : V E own nm cc nL ret d kc ks Qa n hp (pc + 1) ls (.int (x / y) :: st)) : V E own nm cc nL ret d kc ks Qa n hp (pc) ls (.int y :: .int x :: st) := by
  intro p l e R s m args below meth c H locs cells slots Q lsA C Rt h1 h2 hR hS hL
  exact lv_idiv C.1 C.2.1 hd hne (k p l e R s m args below meth c H locs cells slots Q lsA C Rt h1 h2 hR hS hL)
theorem V_irem {x y : Int32} (hd : decode cc pc = .ok (.irem, 1)) (hne : ¬ y = 0) (k : V E own nm cc nL ret d kc ks Qa n hp (pc + 1) ls (.int (x - x / y * y) :: st)) : V E own nm cc nL ret d kc ks Qa n hp (pc) ls (.int y :: .int x :: st) := by
  intro p l e R s m args below meth c H locs cells slots Q lsA C Rt h1 h2 hR hS hL
  exact lv_irem C.1 C.2.1 hd hne (k p l e R s m args below meth c H locs cells slots Q lsA C Rt h1 h2 hR hS hL)
theorem V_ineg {x : Int32} (hd : decode cc pc = .ok (.ineg, 1)) (k : V E own nm cc nL ret d kc ks Qa n hp (pc + 1) ls (.int (-x) :: st)) : V E own nm cc nL ret d kc ks Qa n hp (pc) ls (.int x :: st) := by
  intro p l e R s m args below meth c H locs cells slots Q lsA C Rt h1 h2 hR hS hL
  exact lv_ineg C.1 C.2.1 hd (k p l e R s m args below meth c H locs cells slots Q lsA C Rt h1 h2 hR hS hL)
theorem V_iushr {x y : Int32} (hd : decode cc pc = .ok (.iushr, 1)) (k : V E own nm cc nL ret d kc ks Qa n hp (pc + 1) ls (.int ((x.toUInt32 >>> (y.toUInt32 &&& Int32.toUInt32 31)).toInt32) :: st)) : V E own nm cc nL ret d kc ks Qa n hp (pc) ls (.int y :: .int x :: st) := by
  intro p l e R s m args below meth c H locs cells slots Q lsA C Rt h1 h2 hR hS hL
  exact lv_iushr C.1 C.2.1 hd rfl (k p l e R s m args below meth c H locs cells slots Q lsA C Rt h1 h2 hR hS hL)
theorem V_lmul {x y : Int64} (hd : decode cc pc = .ok (.lmul, 1)) (k : V E own nm cc nL ret d kc ks Qa n hp (pc + 1) ls (.long (x * y) :: st)) : V E own nm cc nL ret d kc ks Qa n hp (pc) ls (.long y :: .long x :: st) := by
  intro p l e R s m args below meth c H locs cells slots Q lsA C Rt h1 h2 hR hS hL
  exact lv_lmul C.1 C.2.1 hd (k p l e R s m args below meth c H locs cells slots Q lsA C Rt h1 h2 hR hS hL)
theorem V_lcmp {x y : Int64} (hd : decode cc pc = .ok (.lcmp, 1)) (k : V E own nm cc nL ret d kc ks Qa n hp (pc + 1) ls (.int (lg_cmp x y) :: st)) : V E own nm cc nL ret d kc ks Qa n hp (pc) ls (.long y :: .long x :: st) := by
  intro p l e R s m args below meth c H locs cells slots Q lsA C Rt h1 h2 hR hS hL
  exact W.lcmp C.1 C.2.1 hd (k p l e R s m args below meth c H locs cells slots Q lsA C Rt h1 h2 hR hS hL)
theorem V_i2l {x : Int32} (hd : decode cc pc = .ok (.i2l, 1)) (k : V E own nm cc nL ret d kc ks Qa n hp (pc + 1) ls (.long x.toInt64 :: st)) : V E own nm cc nL ret d kc ks Qa n hp (pc) ls (.int x :: st) := by
  intro p l e R s m args below meth c H locs cells slots Q lsA C Rt h1 h2 hR hS hL
  exact lv_i2l C.1 C.2.1 hd rfl (k p l e R s m args below meth c H locs cells slots Q lsA C Rt h1 h2 hR hS hL)
theorem V_i2b {x : Int32} (hd : decode cc pc = .ok (.i2b, 1)) (k : V E own nm cc nL ret d kc ks Qa n hp (pc + 1) ls (.int x.toInt8.toInt32 :: st)) : V E own nm cc nL ret d kc ks Qa n hp (pc) ls (.int x :: st) := by
  intro p l e R s m args below meth c H locs cells slots Q lsA C Rt h1 h2 hR hS hL
  exact lv_i2b C.1 C.2.1 hd rfl (k p l e R s m args below meth c H locs cells slots Q lsA C Rt h1 h2 hR hS hL)
theorem V_i2s {x : Int32} (hd : decode cc pc = .ok (.i2s, 1)) (k : V E own nm cc nL ret d kc ks Qa n hp (pc + 1) ls (.int x.toInt16.toInt32 :: st)) : V E own nm cc nL ret d kc ks Qa n hp (pc) ls (.int x :: st) := by
  intro p l e R s m args below meth c H locs cells slots Q lsA C Rt h1 h2 hR hS hL
  exact lv_i2s C.1 C.2.1 hd rfl (k p l e R s m args below meth c H locs cells slots Q lsA C Rt h1 h2 hR hS hL)
theorem V_iconst {k : Int} {v : Int32} (hd : decode cc pc = .ok (.iconst k, 1)) (hv : Int32.ofInt k = v) (k : V E own nm cc nL ret d kc ks Qa n hp (pc + 1) ls (.int v :: st)) : V E own nm cc nL ret d kc ks Qa n hp (pc) ls (st) := by
  intro p l e R s m args below meth c H locs cells slots Q lsA C Rt h1 h2 hR hS hL
  exact lv_iconst C.1 C.2.1 hd hv (k p l e R s m args below meth c H locs cells slots Q lsA C Rt h1 h2 hR hS hL)
theorem V_bipush {k : Int} {v : Int32} (hd : decode cc pc = .ok (.bipush k, 2)) (hv : (Int8.ofInt k).toInt32 = v) (k : V E own nm cc nL ret d kc ks Qa n hp (pc + 2) ls (.int v :: st)) : V E own nm cc nL ret d kc ks Qa n hp (pc) ls (st) := by
  intro p l e R s m args below meth c H locs cells slots Q lsA C Rt h1 h2 hR hS hL
  exact lv_bipush C.1 C.2.1 hd hv (k p l e R s m args below meth c H locs cells slots Q lsA C Rt h1 h2 hR hS hL)
theorem V_sipush {k : Int} {v : Int32} (hd : decode cc pc = .ok (.sipush k, 3)) (hv : (Int16.ofInt k).toInt32 = v) (k : V E own nm cc nL ret d kc ks Qa n hp (pc + 3) ls (.int v :: st)) : V E own nm cc nL ret d kc ks Qa n hp (pc) ls (st) := by
  intro p l e R s m args below meth c H locs cells slots Q lsA C Rt h1 h2 hR hS hL
  exact lv_sipush C.1 C.2.1 hd hv (k p l e R s m args below meth c H locs cells slots Q lsA C Rt h1 h2 hR hS hL)
theorem V_lconst {k : Fin 2} {v : Int64} (hd : decode cc pc = .ok (.lconst k, 1)) (hv : Int64.ofNat (k : Nat) = v) (k : V E own nm cc nL ret d kc ks Qa n hp (pc + 1) ls (.long v :: st)) : V E own nm cc nL ret d kc ks Qa n hp (pc) ls (st) := by
  intro p l e R s m args below meth c H locs cells slots Q lsA C Rt h1 h2 hR hS hL
  exact lv_lconst C.1 C.2.1 hd hv (k p l e R s m args below meth c H locs cells slots Q lsA C Rt h1 h2 hR hS hL)
theorem V_ldc {i : Nat} {v : Int32} (hw : Cond.constant own i v ∈ tb) (hd : decode cc pc = .ok (.ldc i, 2)) (k : V E own nm cc nL ret d kc ks Qa n hp (pc + 2) ls (.int v :: st)) : V E own nm cc nL ret d kc ks Qa n hp (pc) ls (st) := by
  intro p l e R s m args below meth c H locs cells slots Q lsA C Rt h1 h2 hR hS hL
  exact lv_ldc C.1 C.2.1 C.2.2.2.2.1 (C.2.2.2.2.2.1 _ hw) hd (k p l e R s m args below meth c H locs cells slots Q lsA C Rt h1 h2 hR hS hL)
theorem V_ldcw {i : Nat} {v : Int32} (hw : Cond.constant own i v ∈ tb) (hd : decode cc pc = .ok (.ldc_w i, 3)) (k : V E own nm cc nL ret d kc ks Qa n hp (pc + 3) ls (.int v :: st)) : V E own nm cc nL ret d kc ks Qa n hp (pc) ls (st) := by
  intro p l e R s m args below meth c H locs cells slots Q lsA C Rt h1 h2 hR hS hL
  exact lv_ldcw C.1 C.2.1 C.2.2.2.2.1 (C.2.2.2.2.2.1 _ hw) hd (k p l e R s m args below meth c H locs cells slots Q lsA C Rt h1 h2 hR hS hL)
theorem V_ldc2 {i : Nat} {v : Int64} (hw : Cond.constantLong own i v ∈ tb) (hd : decode cc pc = .ok (.ldc2_w i, 3)) (k : V E own nm cc nL ret d kc ks Qa n hp (pc + 3) ls (.long v :: st)) : V E own nm cc nL ret d kc ks Qa n hp (pc) ls (st) := by
  intro p l e R s m args below meth c H locs cells slots Q lsA C Rt h1 h2 hR hS hL
  exact lv_ldc2 C.1 C.2.1 C.2.2.2.2.1 (C.2.2.2.2.2.1 _ hw) hd (k p l e R s m args below meth c H locs cells slots Q lsA C Rt h1 h2 hR hS hL)
theorem V_dup {v : Value} (hd : decode cc pc = .ok (.dup, 1)) (hv : v.category = 1) (k : V E own nm cc nL ret d kc ks Qa n hp (pc + 1) ls (v :: v :: st)) : V E own nm cc nL ret d kc ks Qa n hp (pc) ls (v :: st) := by
  intro p l e R s m args below meth c H locs cells slots Q lsA C Rt h1 h2 hR hS hL
  exact lv_dup C.1 C.2.1 hd ((vr_cat E v).trans hv) (k p l e R s m args below meth c H locs cells slots Q lsA C Rt h1 h2 hR hS hL)
theorem V_dup2 {v w : Value} (hd : decode cc pc = .ok (.dup2, 1)) (hv : v.category = 1) (hw : w.category = 1) (k : V E own nm cc nL ret d kc ks Qa n hp (pc + 1) ls (v :: w :: v :: w :: st)) : V E own nm cc nL ret d kc ks Qa n hp (pc) ls (v :: w :: st) := by
  intro p l e R s m args below meth c H locs cells slots Q lsA C Rt h1 h2 hR hS hL
  exact lv_dup2_11 C.1 C.2.1 hd ((vr_cat E v).trans hv) ((vr_cat E w).trans hw) (k p l e R s m args below meth c H locs cells slots Q lsA C Rt h1 h2 hR hS hL)
theorem V_pop {v : Value} (hd : decode cc pc = .ok (.pop, 1)) (hv : v.category = 1) (k : V E own nm cc nL ret d kc ks Qa n hp (pc + 1) ls (st)) : V E own nm cc nL ret d kc ks Qa n hp (pc) ls (v :: st) := by
  intro p l e R s m args below meth c H locs cells slots Q lsA C Rt h1 h2 hR hS hL
  exact lv_pop C.1 C.2.1 hd ((vr_cat E v).trans hv) (k p l e R s m args below meth c H locs cells slots Q lsA C Rt h1 h2 hR hS hL)
theorem V_iload_n {k : Fin 4} {i : Nat} {x : Int32} (hd : decode cc pc = .ok (.iload_n k, 1)) (hi : (k : Nat) = i) (hl : ls[i]? = some (some (.int x))) (k : V E own nm cc nL ret d kc ks Qa n hp (pc + 1) ls (.int x :: st)) : V E own nm cc nL ret d kc ks Qa n hp (pc) ls (st) := by
  intro p l e R s m args below meth c H locs cells slots Q lsA C Rt h1 h2 hR hS hL
  exact lv_iload_n C.1 C.2.1 hd hi (hL.2.2 _ _ hl) (k p l e R s m args below meth c H locs cells slots Q lsA C Rt h1 h2 hR hS hL)
theorem V_iload {i : Nat} {x : Int32} (hd : decode cc pc = .ok (.iload i, 2)) (hl : ls[i]? = some (some (.int x))) (k : V E own nm cc nL ret d kc ks Qa n hp (pc + 2) ls (.int x :: st)) : V E own nm cc nL ret d kc ks Qa n hp (pc) ls (st) := by
  intro p l e R s m args below meth c H locs cells slots Q lsA C Rt h1 h2 hR hS hL
  exact lv_iload C.1 C.2.1 hd (hL.2.2 _ _ hl) (k p l e R s m args below meth c H locs cells slots Q lsA C Rt h1 h2 hR hS hL)
theorem V_lload_n {k : Fin 4} {i : Nat} {x : Int64} (hd : decode cc pc = .ok (.lload_n k, 1)) (hi : (k : Nat) = i) (hl : ls[i]? = some (some (.long x))) (k : V E own nm cc nL ret d kc ks Qa n hp (pc + 1) ls (.long x :: st)) : V E own nm cc nL ret d kc ks Qa n hp (pc) ls (st) := by
  intro p l e R s m args below meth c H locs cells slots Q lsA C Rt h1 h2 hR hS hL
  exact lv_lload_n C.1 C.2.1 hd hi (hL.2.2 _ _ hl) (k p l e R s m args below meth c H locs cells slots Q lsA C Rt h1 h2 hR hS hL)
theorem V_lload {i : Nat} {x : Int64} (hd : decode cc pc = .ok (.lload i, 2)) (hl : ls[i]? = some (some (.long x))) (k : V E own nm cc nL ret d kc ks Qa n hp (pc + 2) ls (.long x :: st)) : V E own nm cc nL ret d kc ks Qa n hp (pc) ls (st) := by
  intro p l e R s m args below meth c H locs cells slots Q lsA C Rt h1 h2 hR hS hL
  exact lv_lload C.1 C.2.1 hd (hL.2.2 _ _ hl) (k p l e R s m args below meth c H locs cells slots Q lsA C Rt h1 h2 hR hS hL)
theorem V_aload_n {k : Fin 4} {i : Nat} {x : Nat} (hd : decode cc pc = .ok (.aload_n k, 1)) (hi : (k : Nat) = i) (hl : ls[i]? = some (some (.ref x))) (k : V E own nm cc nL ret d kc ks Qa n hp (pc + 1) ls (.ref x :: st)) : V E own nm cc nL ret d kc ks Qa n hp (pc) ls (st) := by
  intro p l e R s m args below meth c H locs cells slots Q lsA C Rt h1 h2 hR hS hL
  exact lv_aload_n C.1 C.2.1 hd hi (hL.2.2 _ _ hl) (k p l e R s m args below meth c H locs cells slots Q lsA C Rt h1 h2 hR hS hL)
theorem V_aload {i : Nat} {x : Nat} (hd : decode cc pc = .ok (.aload i, 2)) (hl : ls[i]? = some (some (.ref x))) (k : V E own nm cc nL ret d kc ks Qa n hp (pc + 2) ls (.ref x :: st)) : V E own nm cc nL ret d kc ks Qa n hp (pc) ls (st) := by
  intro p l e R s m args below meth c H locs cells slots Q lsA C Rt h1 h2 hR hS hL
  exact lv_aload C.1 C.2.1 hd (hL.2.2 _ _ hl) (k p l e R s m args below meth c H locs cells slots Q lsA C Rt h1 h2 hR hS hL)
theorem V_istore_n {k : Fin 4} {i : Nat} {x : Int32} {ls2 : List (Option Value)} (hd : decode cc pc = .ok (.istore_n k, 1)) (hi : (k : Nat) = i) (hn : i < nL) (hz : vNL ls i = true) (he : ls.set i (some (.int x)) = ls2) (k : V E own nm cc nL ret d kc ks Qa n hp (pc + 1) ls2 (st)) : V E own nm cc nL ret d kc ks Qa n hp (pc) ls (.int x :: st) := by
  intro p l e R s m args below meth c H locs cells slots Q lsA C Rt h1 h2 hR hS hL
  subst he
  exact lv_istore_n C.1 C.2.1 hd hi hL.has hn rfl (fun ls' h' => k p l e R s m args below meth c H locs cells slots Q ls' C Rt h1 h2 hR hS (vLs.store (lsA := lsA) (x := .int x) hz h'))
theorem V_istore {i : Nat} {x : Int32} {ls2 : List (Option Value)} (hd : decode cc pc = .ok (.istore i, 2)) (hn : i < nL) (hz : vNL ls i = true) (he : ls.set i (some (.int x)) = ls2) (k : V E own nm cc nL ret d kc ks Qa n hp (pc + 2) ls2 (st)) : V E own nm cc nL ret d kc ks Qa n hp (pc) ls (.int x :: st) := by
  intro p l e R s m args below meth c H locs cells slots Q lsA C Rt h1 h2 hR hS hL
  subst he
  exact lv_istore C.1 C.2.1 hd hL.has hn rfl (fun ls' h' => k p l e R s m args below meth c H locs cells slots Q ls' C Rt h1 h2 hR hS (vLs.store (lsA := lsA) (x := .int x) hz h'))
theorem V_astore_n {k : Fin 4} {i : Nat} {x : Nat} {ls2 : List (Option Value)} (hd : decode cc pc = .ok (.astore_n k, 1)) (hi : (k : Nat) = i) (hn : i < nL) (hz : vNL ls i = true) (he : ls.set i (some (.ref x)) = ls2) (k : V E own nm cc nL ret d kc ks Qa n hp (pc + 1) ls2 (st)) : V E own nm cc nL ret d kc ks Qa n hp (pc) ls (.ref x :: st) := by
  intro p l e R s m args below meth c H locs cells slots Q lsA C Rt h1 h2 hR hS hL
  subst he
  exact lv_astore_n C.1 C.2.1 hd hi hL.has hn rfl (fun ls' h' => k p l e R s m args below meth c H locs cells slots Q ls' C Rt h1 h2 hR hS (vLs.store (lsA := lsA) (x := .ref x) hz h'))
theorem V_astore {i : Nat} {x : Nat} {ls2 : List (Option Value)} (hd : decode cc pc = .ok (.astore i, 2)) (hn : i < nL) (hz : vNL ls i = true) (he : ls.set i (some (.ref x)) = ls2) (k : V E own nm cc nL ret d kc ks Qa n hp (pc + 2) ls2 (st)) : V E own nm cc nL ret d kc ks Qa n hp (pc) ls (.ref x :: st) := by
  intro p l e R s m args below meth c H locs cells slots Q lsA C Rt h1 h2 hR hS hL
  subst he
  exact lv_astore C.1 C.2.1 hd hL.has hn rfl (fun ls' h' => k p l e R s m args below meth c H locs cells slots Q ls' C Rt h1 h2 hR hS (vLs.store (lsA := lsA) (x := .ref x) hz h'))
theorem V_lstore_n {k : Fin 4} {i : Nat} {x : Int64} {ls2 : List (Option Value)} (hd : decode cc pc = .ok (.lstore_n k, 1)) (hi : (k : Nat) = i) (hn : i + 1 < nL) (hz : vNL ls i = true) (he : (ls.set i (some (.long x))).set (i + 1) none = ls2) (k : V E own nm cc nL ret d kc ks Qa n hp (pc + 1) ls2 (st)) : V E own nm cc nL ret d kc ks Qa n hp (pc) ls (.long x :: st) := by
  intro p l e R s m args below meth c H locs cells slots Q lsA C Rt h1 h2 hR hS hL
  subst he
  exact lv_lstore_n C.1 C.2.1 hd hi hL.has hn rfl (fun ls' h' => k p l e R s m args below meth c H locs cells slots Q ls' C Rt h1 h2 hR hS (vLs.storeL (lsA := lsA) hz h'))
theorem V_lstore {i : Nat} {x : Int64} {ls2 : List (Option Value)} (hd : decode cc pc = .ok (.lstore i, 2)) (hn : i + 1 < nL) (hz : vNL ls i = true) (he : (ls.set i (some (.long x))).set (i + 1) none = ls2) (k : V E own nm cc nL ret d kc ks Qa n hp (pc + 2) ls2 (st)) : V E own nm cc nL ret d kc ks Qa n hp (pc) ls (.long x :: st) := by
  intro p l e R s m args below meth c H locs cells slots Q lsA C Rt h1 h2 hR hS hL
  subst he
  exact lv_lstore C.1 C.2.1 hd hL.has hn rfl (fun ls' h' => k p l e R s m args below meth c H locs cells slots Q ls' C Rt h1 h2 hR hS (vLs.storeL (lsA := lsA) hz h'))
theorem V_iinc {i : Nat} {a : Int} {x v : Int32} {ls2 : List (Option Value)} (hd : decode cc pc = .ok (.iinc i a, 3)) (hl : ls[i]? = some (some (.int x))) (hv : x + Int32.ofInt a = v) (hn : i < nL) (hz : vNL ls i = true) (he : ls.set i (some (.int v)) = ls2) (k : V E own nm cc nL ret d kc ks Qa n hp (pc + 3) ls2 (st)) : V E own nm cc nL ret d kc ks Qa n hp (pc) ls (st) := by
  intro p l e R s m args below meth c H locs cells slots Q lsA C Rt h1 h2 hR hS hL
  subst he
  obtain ⟨j, hj⟩ := List.getElem?_of_mem (mem_vLv.mpr ⟨.int x, hl, rfl⟩ : (i, vr E (.int x)) ∈ vLv E ls)
  exact lv_iinc C.1 C.2.1 hd hL.has hj hv hn rfl (fun ls' h' => k p l e R s m args below meth c H locs cells slots Q ls' C Rt h1 h2 hR hS (vLs.store (lsA := lsA) (x := .int v) hz h'))
theorem V_icmp_eq {x y : Int32} {off : Int} {tgt : Nat} (hd : decode cc pc = .ok (.if_icmp .eq off, 3)) (ht : (pc : Int) + off = (tgt : Int)) (kt : x = y → V E own nm cc nL ret d kc ks Qa n hp (tgt) ls (st)) (kf : ¬ x = y → V E own nm cc nL ret d kc ks Qa n hp (pc + 3) ls (st)) : V E own nm cc nL ret d kc ks Qa n hp (pc) ls (.int y :: .int x :: st) := by
  intro p l e R s m args below meth c H locs cells slots Q lsA C Rt h1 h2 hR hS hL
  exact lv_icmp_eq C.1 C.2.1 hd ht (fun z => kt z p l e R s m args below meth c H locs cells slots Q lsA C Rt h1 h2 hR hS hL) (fun z => kf z p l e R s m args below meth c H locs cells slots Q lsA C Rt h1 h2 hR hS hL)
theorem V_if_eq {x : Int32} {off : Int} {tgt : Nat} (hd : decode cc pc = .ok (.ifCond .eq off, 3)) (ht : (pc : Int) + off = (tgt : Int)) (kt : x = 0 → V E own nm cc nL ret d kc ks Qa n hp (tgt) ls (st)) (kf : ¬ x = 0 → V E own nm cc nL ret d kc ks Qa n hp (pc + 3) ls (st)) : V E own nm cc nL ret d kc ks Qa n hp (pc) ls (.int x :: st) := by
  intro p l e R s m args below meth c H locs cells slots Q lsA C Rt h1 h2 hR hS hL
  exact lv_if_eq C.1 C.2.1 hd ht (fun z => kt z p l e R s m args below meth c H locs cells slots Q lsA C Rt h1 h2 hR hS hL) (fun z => kf z p l e R s m args below meth c H locs cells slots Q lsA C Rt h1 h2 hR hS hL)
theorem V_icmp_ne {x y : Int32} {off : Int} {tgt : Nat} (hd : decode cc pc = .ok (.if_icmp .ne off, 3)) (ht : (pc : Int) + off = (tgt : Int)) (kt : ¬ x = y → V E own nm cc nL ret d kc ks Qa n hp (tgt) ls (st)) (kf : x = y → V E own nm cc nL ret d kc ks Qa n hp (pc + 3) ls (st)) : V E own nm cc nL ret d kc ks Qa n hp (pc) ls (.int y :: .int x :: st) := by
  intro p l e R s m args below meth c H locs cells slots Q lsA C Rt h1 h2 hR hS hL
  exact lv_icmp_ne C.1 C.2.1 hd ht (fun z => kt z p l e R s m args below meth c H locs cells slots Q lsA C Rt h1 h2 hR hS hL) (fun z => kf z p l e R s m args below meth c H locs cells slots Q lsA C Rt h1 h2 hR hS hL)
theorem V_if_ne {x : Int32} {off : Int} {tgt : Nat} (hd : decode cc pc = .ok (.ifCond .ne off, 3)) (ht : (pc : Int) + off = (tgt : Int)) (kt : ¬ x = 0 → V E own nm cc nL ret d kc ks Qa n hp (tgt) ls (st)) (kf : x = 0 → V E own nm cc nL ret d kc ks Qa n hp (pc + 3) ls (st)) : V E own nm cc nL ret d kc ks Qa n hp (pc) ls (.int x :: st) := by
  intro p l e R s m args below meth c H locs cells slots Q lsA C Rt h1 h2 hR hS hL
  exact lv_if_ne C.1 C.2.1 hd ht (fun z => kt z p l e R s m args below meth c H locs cells slots Q lsA C Rt h1 h2 hR hS hL) (fun z => kf z p l e R s m args below meth c H locs cells slots Q lsA C Rt h1 h2 hR hS hL)
theorem V_icmp_lt {x y : Int32} {off : Int} {tgt : Nat} (hd : decode cc pc = .ok (.if_icmp .lt off, 3)) (ht : (pc : Int) + off = (tgt : Int)) (kt : x < y → V E own nm cc nL ret d kc ks Qa n hp (tgt) ls (st)) (kf : ¬ x < y → V E own nm cc nL ret d kc ks Qa n hp (pc + 3) ls (st)) : V E own nm cc nL ret d kc ks Qa n hp (pc) ls (.int y :: .int x :: st) := by
  intro p l e R s m args below meth c H locs cells slots Q lsA C Rt h1 h2 hR hS hL
  exact lv_icmp_lt C.1 C.2.1 hd ht (fun z => kt z p l e R s m args below meth c H locs cells slots Q lsA C Rt h1 h2 hR hS hL) (fun z => kf z p l e R s m args below meth c H locs cells slots Q lsA C Rt h1 h2 hR hS hL)
theorem V_if_lt {x : Int32} {off : Int} {tgt : Nat} (hd : decode cc pc = .ok (.ifCond .lt off, 3)) (ht : (pc : Int) + off = (tgt : Int)) (kt : x < 0 → V E own nm cc nL ret d kc ks Qa n hp (tgt) ls (st)) (kf : ¬ x < 0 → V E own nm cc nL ret d kc ks Qa n hp (pc + 3) ls (st)) : V E own nm cc nL ret d kc ks Qa n hp (pc) ls (.int x :: st) := by
  intro p l e R s m args below meth c H locs cells slots Q lsA C Rt h1 h2 hR hS hL
  exact lv_if_lt C.1 C.2.1 hd ht (fun z => kt z p l e R s m args below meth c H locs cells slots Q lsA C Rt h1 h2 hR hS hL) (fun z => kf z p l e R s m args below meth c H locs cells slots Q lsA C Rt h1 h2 hR hS hL)
theorem V_icmp_ge {x y : Int32} {off : Int} {tgt : Nat} (hd : decode cc pc = .ok (.if_icmp .ge off, 3)) (ht : (pc : Int) + off = (tgt : Int)) (kt : y ≤ x → V E own nm cc nL ret d kc ks Qa n hp (tgt) ls (st)) (kf : ¬ y ≤ x → V E own nm cc nL ret d kc ks Qa n hp (pc + 3) ls (st)) : V E own nm cc nL ret d kc ks Qa n hp (pc) ls (.int y :: .int x :: st) := by
  intro p l e R s m args below meth c H locs cells slots Q lsA C Rt h1 h2 hR hS hL
  exact lv_icmp_ge C.1 C.2.1 hd ht (fun z => kt z p l e R s m args below meth c H locs cells slots Q lsA C Rt h1 h2 hR hS hL) (fun z => kf z p l e R s m args below meth c H locs cells slots Q lsA C Rt h1 h2 hR hS hL)
theorem V_if_ge {x : Int32} {off : Int} {tgt : Nat} (hd : decode cc pc = .ok (.ifCond .ge off, 3)) (ht : (pc : Int) + off = (tgt : Int)) (kt : 0 ≤ x → V E own nm cc nL ret d kc ks Qa n hp (tgt) ls (st)) (kf : ¬ 0 ≤ x → V E own nm cc nL ret d kc ks Qa n hp (pc + 3) ls (st)) : V E own nm cc nL ret d kc ks Qa n hp (pc) ls (.int x :: st) := by
  intro p l e R s m args below meth c H locs cells slots Q lsA C Rt h1 h2 hR hS hL
  exact lv_if_ge C.1 C.2.1 hd ht (fun z => kt z p l e R s m args below meth c H locs cells slots Q lsA C Rt h1 h2 hR hS hL) (fun z => kf z p l e R s m args below meth c H locs cells slots Q lsA C Rt h1 h2 hR hS hL)
theorem V_icmp_gt {x y : Int32} {off : Int} {tgt : Nat} (hd : decode cc pc = .ok (.if_icmp .gt off, 3)) (ht : (pc : Int) + off = (tgt : Int)) (kt : y < x → V E own nm cc nL ret d kc ks Qa n hp (tgt) ls (st)) (kf : ¬ y < x → V E own nm cc nL ret d kc ks Qa n hp (pc + 3) ls (st)) : V E own nm cc nL ret d kc ks Qa n hp (pc) ls (.int y :: .int x :: st) := by
  intro p l e R s m args below meth c H locs cells slots Q lsA C Rt h1 h2 hR hS hL
  exact lv_icmp_gt C.1 C.2.1 hd ht (fun z => kt z p l e R s m args below meth c H locs cells slots Q lsA C Rt h1 h2 hR hS hL) (fun z => kf z p l e R s m args below meth c H locs cells slots Q lsA C Rt h1 h2 hR hS hL)
theorem V_if_gt {x : Int32} {off : Int} {tgt : Nat} (hd : decode cc pc = .ok (.ifCond .gt off, 3)) (ht : (pc : Int) + off = (tgt : Int)) (kt : 0 < x → V E own nm cc nL ret d kc ks Qa n hp (tgt) ls (st)) (kf : ¬ 0 < x → V E own nm cc nL ret d kc ks Qa n hp (pc + 3) ls (st)) : V E own nm cc nL ret d kc ks Qa n hp (pc) ls (.int x :: st) := by
  intro p l e R s m args below meth c H locs cells slots Q lsA C Rt h1 h2 hR hS hL
  exact lv_if_gt C.1 C.2.1 hd ht (fun z => kt z p l e R s m args below meth c H locs cells slots Q lsA C Rt h1 h2 hR hS hL) (fun z => kf z p l e R s m args below meth c H locs cells slots Q lsA C Rt h1 h2 hR hS hL)
theorem V_icmp_le {x y : Int32} {off : Int} {tgt : Nat} (hd : decode cc pc = .ok (.if_icmp .le off, 3)) (ht : (pc : Int) + off = (tgt : Int)) (kt : x ≤ y → V E own nm cc nL ret d kc ks Qa n hp (tgt) ls (st)) (kf : ¬ x ≤ y → V E own nm cc nL ret d kc ks Qa n hp (pc + 3) ls (st)) : V E own nm cc nL ret d kc ks Qa n hp (pc) ls (.int y :: .int x :: st) := by
  intro p l e R s m args below meth c H locs cells slots Q lsA C Rt h1 h2 hR hS hL
  exact lv_icmp_le C.1 C.2.1 hd ht (fun z => kt z p l e R s m args below meth c H locs cells slots Q lsA C Rt h1 h2 hR hS hL) (fun z => kf z p l e R s m args below meth c H locs cells slots Q lsA C Rt h1 h2 hR hS hL)
theorem V_if_le {x : Int32} {off : Int} {tgt : Nat} (hd : decode cc pc = .ok (.ifCond .le off, 3)) (ht : (pc : Int) + off = (tgt : Int)) (kt : x ≤ 0 → V E own nm cc nL ret d kc ks Qa n hp (tgt) ls (st)) (kf : ¬ x ≤ 0 → V E own nm cc nL ret d kc ks Qa n hp (pc + 3) ls (st)) : V E own nm cc nL ret d kc ks Qa n hp (pc) ls (.int x :: st) := by
  intro p l e R s m args below meth c H locs cells slots Q lsA C Rt h1 h2 hR hS hL
  exact lv_if_le C.1 C.2.1 hd ht (fun z => kt z p l e R s m args below meth c H locs cells slots Q lsA C Rt h1 h2 hR hS hL) (fun z => kf z p l e R s m args below meth c H locs cells slots Q lsA C Rt h1 h2 hR hS hL)
theorem V_goto {off : Int} {tgt : Nat} (hd : decode cc pc = .ok (.goto off, 3)) (ht : (pc : Int) + off = (tgt : Int)) (k : V E own nm cc nL ret d kc ks Qa n hp (tgt) ls (st)) : V E own nm cc nL ret d kc ks Qa n hp (pc) ls (st) := by
  intro p l e R s m args below meth c H locs cells slots Q lsA C Rt h1 h2 hR hS hL
  exact lv_goto C.1 C.2.1 hd ht (k p l e R s m args below meth c H locs cells slots Q lsA C Rt h1 h2 hR hS hL)
theorem V_tableIn {dflt lo hi : Int} {offs : Array Int} {len : Nat} {x : Int32} {off : Int} {tgt : Nat} (hd : decode cc pc = .ok (.tableswitch dflt lo hi offs, len)) (h1 : ¬ x.toInt < lo) (h2 : ¬ hi < x.toInt) (ho : offs[(x.toInt - lo).toNat]? = some off) (ht : (pc : Int) + off = (tgt : Int)) (k : V E own nm cc nL ret d kc ks Qa n hp (tgt) ls (st)) : V E own nm cc nL ret d kc ks Qa n hp (pc) ls (.int x :: st) := by
  intro p l e R s m args below meth c H locs cells slots Q lsA C Rt g1 g2 hR hS hL
  exact lv_tableIn C.1 C.2.1 hd h1 h2 ho ht (k p l e R s m args below meth c H locs cells slots Q lsA C Rt g1 g2 hR hS hL)
theorem V_tableOut {dflt lo hi : Int} {offs : Array Int} {len : Nat} {x : Int32} {tgt : Nat} (hd : decode cc pc = .ok (.tableswitch dflt lo hi offs, len)) (h : x.toInt < lo ∨ hi < x.toInt) (ht : (pc : Int) + dflt = (tgt : Int)) (k : V E own nm cc nL ret d kc ks Qa n hp (tgt) ls (st)) : V E own nm cc nL ret d kc ks Qa n hp (pc) ls (.int x :: st) := by
  intro p l e R s m args below meth c H locs cells slots Q lsA C Rt h1 h2 hR hS hL
  exact lv_tableOut C.1 C.2.1 hd h ht (k p l e R s m args below meth c H locs cells slots Q lsA C Rt h1 h2 hR hS hL)
theorem V_lookup {dflt : Int} {ps : Array (Int × Int)} {len : Nat} {x : Int32} {off : Int} {tgt : Nat} (hd : decode cc pc = .ok (.lookupswitch dflt ps, len)) (hp2 : (ps.toList.zip (ps.toList.drop 1)).all (fun (a, next) => a.1 < next.1) = true) (ho : Op.lookupswitch.offset ps.toList dflt x.toInt = off) (ht : (pc : Int) + off = (tgt : Int)) (k : V E own nm cc nL ret d kc ks Qa n hp (tgt) ls (st)) : V E own nm cc nL ret d kc ks Qa n hp (pc) ls (.int x :: st) := by
  intro p l e R s m args below meth c H locs cells slots Q lsA C Rt h1 h2 hR hS hL
  exact lv_lookup C.1 C.2.1 hd hp2 ho ht (k p l e R s m args below meth c H locs cells slots Q lsA C Rt h1 h2 hR hS hL)
theorem V_iret {v : Int32} {ty : FieldType} (hd : decode cc pc = .ok (.ireturn, 1)) (hr : ret = some ty) (hn : narrow ty (.int v) = .int v) (k : Qa (some (.int v)) n hp) : V E own nm cc nL ret d kc ks Qa n hp (pc) ls ([.int v]) := by
  intro p l e R s m args below meth c H locs cells slots Q lsA C Rt h1 h2 hR hS hL
  refine W.widen (k := cells + kc) (n := slots + ks) (Nat.le_add_right _ _) (Nat.le_add_right _ _) ?_
  exact Rt (some (.int v)) n hp H locs pc lsA k hR hS (Or.inr (Or.inl ⟨v, ty, hr, hn, rfl, hd⟩))
theorem V_lret {v : Int64} (hd : decode cc pc = .ok (.lreturn, 1)) (hr : ret = some .long) (k : Qa (some (.long v)) n hp) : V E own nm cc nL ret d kc ks Qa n hp (pc) ls ([.long v]) := by
  intro p l e R s m args below meth c H locs cells slots Q lsA C Rt h1 h2 hR hS hL
  refine W.widen (k := cells + kc) (n := slots + ks) (Nat.le_add_right _ _) (Nat.le_add_right _ _) ?_
  exact Rt (some (.long v)) n hp H locs pc lsA k hR hS (Or.inr (Or.inr (Or.inl ⟨v, hr, rfl, hd⟩)))
theorem V_aret {v : Nat} {tn : String} (hd : decode cc pc = .ok (.areturn, 1)) (hr : ret = some (.object tn)) (k : Qa (some (.ref v)) n hp) : V E own nm cc nL ret d kc ks Qa n hp (pc) ls ([.ref v]) := by
  intro p l e R s m args below meth c H locs cells slots Q lsA C Rt h1 h2 hR hS hL
  refine W.widen (k := cells + kc) (n := slots + ks) (Nat.le_add_right _ _) (Nat.le_add_right _ _) ?_
  exact Rt (some (.ref v)) n hp H locs pc lsA k hR hS (Or.inr (Or.inr (Or.inr ⟨v, _, tn, hr, rfl, rfl, hd⟩)))
theorem V_vret (hd : decode cc pc = .ok (.return_, 1)) (hr : ret = none) (k : Qa none n hp) : V E own nm cc nL ret d kc ks Qa n hp (pc) ls ([]) := by
  intro p l e R s m args below meth c H locs cells slots Q lsA C Rt h1 h2 hR hS hL
  refine W.widen (k := cells + kc) (n := slots + ks) (Nat.le_add_right _ _) (Nat.le_add_right _ _) ?_
  exact Rt none n hp H locs pc lsA k hR hS (Or.inl ⟨hr, rfl, hd⟩)
end VROWS
