/-! THE LAYER, second part: fields, arrays, calls, contracts -/
theorem vad_lt {E : vEnv} {i : Nat} (h : i < 1000) : vad E i = eB E + i := if_pos h
theorem vRel.one {E : vEnv} {n i : Nat} {hp : Nat → AC} {H : Heap} (h : vRel E n hp H) (hi : i < n) : va_P (eD E) classes [(eB E + i, vrC E (hp i))] H := by
  intro k q hq
  have hk : k < 1 := (List.getElem?_eq_some_iff.mp hq).1
  rw [show k = 0 by omega] at hq
  cases hq
  exact h.2.2 i hi
theorem vRel.oneD {E : vEnv} {i : Nat} {hp : Nat → AC} : va_D (vA E) [(eB E + i, vrC E (hp i))] := by
  refine ⟨fun i j p q hp hq _ => ?_, fun k q hq => ?_⟩
  · have h1 : i < 1 := (List.getElem?_eq_some_iff.mp hp).1
    have h2 : j < 1 := (List.getElem?_eq_some_iff.mp hq).1
    omega
  · have h1 : k < 1 := (List.getElem?_eq_some_iff.mp hq).1
    rw [show k = 0 by omega] at hq
    cases hq
    exact Nat.le_add_right _ _
theorem vRel.set {E : vEnv} {n i : Nat} {hp : Nat → AC} {H H' : Heap} {c : AC} (h : vRel E n hp H) (e2 : H'.size = H.size) (e3 : ∀ q : Nat, q ≠ eB E + i → H'[q]? = H[q]?) (hat : va_at (eD E) classes (eB E + i, vrC E c) H') : vRel E n (va_up hp i c) H' := by
  refine ⟨e2.trans h.1, h.2.1, fun j hj => ?_⟩
  by_cases hji : j = i
  · subst hji
    show va_at _ _ (eB E + j, vrC E (if j = j then c else hp j)) H'
    rw [if_pos rfl]
    exact hat
  · show va_at _ _ (eB E + j, vrC E (if j = i then c else hp j)) H'
    rw [if_neg hji]
    exact (h.2.2 j hj).kept (e3 _ (by show eB E + j ≠ eB E + i; omega))
theorem vRel.push {E : vEnv} {n : Nat} {hp : Nat → AC} {H H' : Heap} {c : AC} (h : vRel E n hp H) (hn : n < 1000) (e2 : H'.size = H.size + 1) (e3 : ∀ q : Nat, q < H.size → H'[q]? = H[q]?) (hat : va_at (eD E) classes (eB E + n, vrC E c) H') : vRel E (n + 1) (va_up hp n c) H' := by
  refine ⟨by rw [e2, h.1]; rfl, hn, fun j hj => ?_⟩
  by_cases hji : j = n
  · subst hji
    show va_at _ _ (eB E + j, vrC E (if j = j then c else hp j)) H'
    rw [if_pos rfl]
    exact hat
  · show va_at _ _ (eB E + j, vrC E (if j = n then c else hp j)) H'
    rw [if_neg hji]
    exact (h.2.2 j (by omega)).kept (e3 _ (by show eB E + j < H.size; rw [h.1]; omega))
/-- a field's link: of own's entry idx, the field k of class ci -/
def vFL (own : String) (idx ci k : Nat) : Prop := ∃ (C : String) (T : u_T) (N : Nat), classes[ci]? = some (C, T, N) ∧ k < N ∧ Cond.fieldLink own idx (T k).1 (T k).2.1 (T k).2.2.1 ∈ tb ∧ ∀ w ∈ u_ws C T N, w ∈ tb
def vFP (own : String) (idx ci k : Nat) (ty : FieldType) (fin : Bool) : Prop := ∃ (C : String) (T : u_T) (N : Nat) (ty0 : Nat → FieldType), classes[ci]? = some (C, T, N) ∧ k < N ∧ Cond.fieldLink own idx (T k).1 (T k).2.1 (T k).2.2.1 ∈ tb ∧ (∀ w ∈ u_ws C T N, w ∈ tb) ∧ (∀ k, k < N → parseFieldDescriptor (T k).2.2.1 = some (ty0 k)) ∧ (∀ a, a < N → ∀ b, b < N → a ≠ b → (T a).2.1 ≠ (T b).2.1) ∧ (T k).2.2.2 = fin ∧ parseFieldDescriptor (T k).2.2.1 = some ty ∧ (T k).1 = C
section VHEAP
variable {E : vEnv} {own nm : String} {cc : ByteArray} {nL : Nat} {ret : Option FieldType} {d kc ks : Nat} {Qa : Option Value → Nat → (Nat → AC) → Prop} {n : Nat} {hp : Nat → AC} {pc : Nat} {ls : List (Option Value)} {st : List Value}
theorem V_getf {ci k idx i : Nat} {fs : List Value} {v : Value} (hf : vFL own idx ci k) (hd : decode cc pc = .ok (.getfield idx, 3)) (hi : i < n) (hc : hp i = .inr (ci, fs)) (hv : fs[k]? = some v) (kk : V E own nm cc nL ret d kc ks Qa n hp (pc + 3) ls (v :: st)) : V E own nm cc nL ret d kc ks Qa n hp pc ls (.ref i :: st) := by
  intro p l e R s m args below meth c H locs cells slots Q lsA C Rt h1 h2 hR hS hL
  obtain ⟨C', T, N, g1, g2, g3, g4⟩ := hf
  have hin : i < 1000 := Nat.lt_of_lt_of_le hi hR.2.1
  show W p l e R s m args below meth c H locs cells slots Q (F0 m pc lsA (.ref (vad E i) :: st.map (vr E)))
  rw [vad_lt hin]
  obtain ⟨cx, cb, cr, cm, co, ct, cl0, ck, cs, cd1, cd2, cz, cn⟩ := id C
  exact va_get (v := vr E v) cx cb ct g4 co ck (hR.one hi) 0 (fs := fs.map (vr E)) (by rw [hc]; rfl) g1 k g2 (ct _ g3) (fun _ h => h) (by rw [List.getElem?_map, hv]; rfl) hd (kk p l e R s m args below meth c H locs cells slots Q lsA C Rt h1 h2 hR hS hL)
theorem V_putf {ci k idx i : Nat} {fs : List Value} {v : Value} {ty : FieldType} {hp2 : Nat → AC} (hf : vFP own idx ci k ty false) (hd : decode cc pc = .ok (.putfield idx, 3)) (hi : i < n) (hc : hp i = .inr (ci, fs)) (hk : k < fs.length) (hn : ∀ E, narrow ty (vr E v) = vr E v ∧ fits ty (vr E v) = true) (he : va_up hp i (.inr (ci, fs.set k v)) = hp2) (kk : V E own nm cc nL ret d kc ks Qa n hp2 (pc + 3) ls st) : V E own nm cc nL ret d kc ks Qa n hp pc ls (v :: .ref i :: st) := by
  intro p l e R s m args below meth c H locs cells slots Q lsA C Rt h1 h2 hR hS hL
  subst he
  obtain ⟨C', T, N, ty0, g1, g2, g3, g4, g5, g6, g7, g8, -⟩ := hf
  have hin : i < 1000 := Nat.lt_of_lt_of_le hi hR.2.1
  show W p l e R s m args below meth c H locs cells slots Q (F0 m pc lsA (vr E v :: .ref (vad E i) :: st.map (vr E)))
  rw [vad_lt hin]
  obtain ⟨cx, cb, cr, cm, co, ct, cl0, ck, cs, cd1, cd2, cz, cn⟩ := id C
  have hap := va_apart (own := own) ct g4 ty0 g5 g6 ck g1
  have hat := hR.2.2 i hi
  rw [hc] at hat
  obtain ⟨r, z1, cell, q1, q2, q3, q4⟩ := hat
  have hr : r = (C', T, N) := Option.some.inj (z1.symm.trans g1)
  subst hr
  obtain ⟨hS0, hfc, kC, hkC, hkind⟩ := ck.1 ci _ g1
  obtain ⟨cf, kf, fi, f, hi0, hsl⟩ := hS0 k g2
  have hlay := ct _ (g4 _ (u_in_lay g2))
  unfold u_lay at hlay
  rw [if_neg (by rw [g7]; decide)] at hlay
  have hst := (u_facts hfc hkC (u_lays ct g4 g2) hi0).1
  have h6 := u_store hfc hkC hkind hlay hi0 g8 (hn E).1 (hn E).2
  refine W.putK cx cb (f := f) ⟨co, ct _ g3, ⟨_, _, _, hi0⟩, hst⟩ (by rw [q2]; exact h6) q1 q3 (by rw [hsl]; exact k2_hasslot (q4 k g2)) rfl rfl hd fun H' e1 e2 e3 => ?_
  rw [hsl] at e1 ⊢
  refine kk p l e R s m args below meth c H' _ cells slots Q lsA C Rt h1 h2 (hR.set (c := .inr (ci, fs.set k v)) e2 e3 ?_) (hS.put e2 e3 (Nat.le_add_right _ _)) hL
  refine ⟨_, g1, ?_⟩
  have hl2 : k < (fs.map (vr E)).length := by rw [List.length_map]; exact hk
  have e5 : (fs.set k v).map (vr E) = (fs.map (vr E)).set k (vr E v) := List.map_set
  show t_OB _ _ _ _ H' (vp_V ((fs.set k v).map (vr E)))
  rw [e5]
  exact t_OB.to (V := updV (vp_V (fs.map (vr E))) k (vr E v)) ⟨_, e1, q2, q3, t_set q4 hap g2 (vr E v)⟩ (fun j _ => vp_updV_set hl2 (vr E v) j)
theorem V_putF {ci k idx i : Nat} {fs : List Value} {v : Value} {ty : FieldType} {hp2 : Nat → AC} (hnm : nm = "<init>") (how : (classes.getD ci ("", TX0, 0)).1 = own) (hf : vFP own idx ci k ty true) (hd : decode cc pc = .ok (.putfield idx, 3)) (hi : i < n) (hc : hp i = .inr (ci, fs)) (hk : k < fs.length) (hn : ∀ E, narrow ty (vr E v) = vr E v ∧ fits ty (vr E v) = true) (he : va_up hp i (.inr (ci, fs.set k v)) = hp2) (kk : V E own nm cc nL ret d kc ks Qa n hp2 (pc + 3) ls st) : V E own nm cc nL ret d kc ks Qa n hp pc ls (v :: .ref i :: st) := by
  intro p l e R s m args below meth c H locs cells slots Q lsA C Rt h1 h2 hR hS hL
  subst he
  obtain ⟨C', T, N, ty0, g1, g2, g3, g4, g5, g6, g7, g8, g9⟩ := hf
  have hin : i < 1000 := Nat.lt_of_lt_of_le hi hR.2.1
  show W p l e R s m args below meth c H locs cells slots Q (F0 m pc lsA (vr E v :: .ref (vad E i) :: st.map (vr E)))
  rw [vad_lt hin]
  obtain ⟨cx, cb, cr, cm, co, ct, cl0, ck, cs, cd1, cd2, cz, cn⟩ := id C
  have hap := va_apart (own := own) ct g4 ty0 g5 g6 ck g1
  have hat := hR.2.2 i hi
  rw [hc] at hat
  obtain ⟨r, z1, cell, q1, q2, q3, q4⟩ := hat
  have hr : r = (C', T, N) := Option.some.inj (z1.symm.trans g1)
  subst hr
  obtain ⟨hS0, hfc, kC, hkC, hkind⟩ := ck.1 ci _ g1
  obtain ⟨cf, kf, fi, f, hi0, hsl⟩ := hS0 k g2
  have hlay := ct _ (g4 _ (u_in_lay g2))
  unfold u_lay at hlay
  rw [if_pos g7] at hlay
  have hst := (u_facts hfc hkC (u_lays ct g4 g2) hi0).1
  have hCo : C' = own := by rw [List.getD_eq_getElem?_getD, g1] at how; exact how
  have hcf : m.cls = cf := by
    obtain ⟨_, _, c', _, _, _, -, -, hf', -, -, -, hown2, -⟩ := Cond.laysFinal_spec hlay
    have e1 : c' = cf := by have := hi0.symm.trans hf'; simp at this; exact this.1.symm
    rw [g9, hCo] at hown2
    rw [← e1]; exact Option.some.inj (co.symm.trans hown2)
  have h6 := u_fits hfc hkC hkind (Or.inr hlay) hi0 g8 (hn E).1 (hn E).2
  refine W.putFinK cx cb co (ct _ g3) hi0 hst hcf (cn.trans hnm) (by rw [q2]; exact h6) q1 q3 (by rw [hsl]; exact k2_hasslot (q4 k g2)) rfl rfl hd fun H' e1 e2 e3 => ?_
  rw [hsl] at e1 ⊢
  refine kk p l e R s m args below meth c H' _ cells slots Q lsA C Rt h1 h2 (hR.set (c := .inr (ci, fs.set k v)) e2 e3 ?_) (hS.put e2 e3 (Nat.le_add_right _ _)) hL
  refine ⟨_, g1, ?_⟩
  have hl2 : k < (fs.map (vr E)).length := by rw [List.length_map]; exact hk
  have e5 : (fs.set k v).map (vr E) = (fs.map (vr E)).set k (vr E v) := List.map_set
  show t_OB _ _ _ _ H' (vp_V ((fs.set k v).map (vr E)))
  rw [e5]
  exact t_OB.to (V := updV (vp_V (fs.map (vr E))) k (vr E v)) ⟨_, e1, q2, q3, t_set q4 hap g2 (vr E v)⟩ (fun j _ => vp_updV_set hl2 (vr E v) j)
theorem V_iald {i len : Nat} {f : Nat → Int32} {j : Int32} (hd : decode cc pc = .ok (.iaload, 1)) (hi : i < n) (hc : hp i = .inl (0, (len, .inl f))) (hin : vp_in j len) (kk : V E own nm cc nL ret d kc ks Qa n hp (pc + 1) ls (.int (f j.toNatClampNeg) :: st)) : V E own nm cc nL ret d kc ks Qa n hp pc ls (.int j :: .ref i :: st) := by
  intro p l e R s m args below meth c H locs cells slots Q lsA C Rt h1 h2 hR hS hL
  have hin' : i < 1000 := Nat.lt_of_lt_of_le hi hR.2.1
  show W p l e R s m args below meth c H locs cells slots Q (F0 m pc lsA (.int j :: .ref (vad E i) :: st.map (vr E)))
  rw [vad_lt hin']
  obtain ⟨cx, cb, cr, cm, co, ct, cl0, ck, cs, cd1, cd2, cz, cn⟩ := id C
  exact va_iald cx cb ck (hR.one hi) 0 0 (f := f) (by rw [hc]; rfl) rfl hin hd (kk p l e R s m args below meth c H locs cells slots Q lsA C Rt h1 h2 hR hS hL)
theorem V_bald {i len : Nat} {f : Nat → Int32} {j : Int32} (hd : decode cc pc = .ok (.baload, 1)) (hi : i < n) (hc : hp i = .inl (1, (len, .inl f))) (hin : vp_in j len) (kk : V E own nm cc nL ret d kc ks Qa n hp (pc + 1) ls (.int (f j.toNatClampNeg) :: st)) : V E own nm cc nL ret d kc ks Qa n hp pc ls (.int j :: .ref i :: st) := by
  intro p l e R s m args below meth c H locs cells slots Q lsA C Rt h1 h2 hR hS hL
  have hin' : i < 1000 := Nat.lt_of_lt_of_le hi hR.2.1
  show W p l e R s m args below meth c H locs cells slots Q (F0 m pc lsA (.int j :: .ref (vad E i) :: st.map (vr E)))
  rw [vad_lt hin']
  obtain ⟨cx, cb, cr, cm, co, ct, cl0, ck, cs, cd1, cd2, cz, cn⟩ := id C
  exact va_bald cx cb ck (hR.one hi) 0 1 (f := f) (by rw [hc]; rfl) rfl hin hd (kk p l e R s m args below meth c H locs cells slots Q lsA C Rt h1 h2 hR hS hL)
theorem V_aald {i len t a : Nat} {Cn : String} {f : Nat → Option Nat} {j : Int32} (hd : decode cc pc = .ok (.aaload, 1)) (hi : i < n) (hc : hp i = .inl (t, (len, .inr (.inr (.inr (.inr f)))))) (ht : ∀ E, (vTy E)[t]? = some (eA E t, .object Cn)) (hin : vp_in j len) (ha : f j.toNatClampNeg = some a) (kk : V E own nm cc nL ret d kc ks Qa n hp (pc + 1) ls (.ref a :: st)) : V E own nm cc nL ret d kc ks Qa n hp pc ls (.int j :: .ref i :: st) := by
  intro p l e R s m args below meth c H locs cells slots Q lsA C Rt h1 h2 hR hS hL
  have hin' : i < 1000 := Nat.lt_of_lt_of_le hi hR.2.1
  show W p l e R s m args below meth c H locs cells slots Q (F0 m pc lsA (.int j :: .ref (vad E i) :: st.map (vr E)))
  rw [vad_lt hin']
  obtain ⟨cx, cb, cr, cm, co, ct, cl0, ck, cs, cd1, cd2, cz, cn⟩ := id C
  refine va_aldq cx cb ck (hR.one hi) 0 t (f := fun q => (f q).map (vad E)) (by rw [hc]; rfl) (ht E) hin hd ?_
  show W p l e R s m args below meth c H locs cells slots Q (F0 m (pc + 1) lsA (va_rf ((f j.toNatClampNeg).map (vad E)) :: st.map (vr E)))
  rw [ha]
  exact kk p l e R s m args below meth c H locs cells slots Q lsA C Rt h1 h2 hR hS hL
theorem V_iast {i len : Nat} {f : Nat → Int32} {j x : Int32} {hp2 : Nat → AC} (hd : decode cc pc = .ok (.iastore, 1)) (hi : i < n) (hc : hp i = .inl (0, (len, .inl f))) (hin : vp_in j len) (he : va_up hp i (.inl (0, (len, .inl (upd f j.toNatClampNeg x)))) = hp2) (kk : V E own nm cc nL ret d kc ks Qa n hp2 (pc + 1) ls st) : V E own nm cc nL ret d kc ks Qa n hp pc ls (.int x :: .int j :: .ref i :: st) := by
  intro p l e R s m args below meth c H locs cells slots Q lsA C Rt h1 h2 hR hS hL
  subst he
  have hin' : i < 1000 := Nat.lt_of_lt_of_le hi hR.2.1
  show W p l e R s m args below meth c H locs cells slots Q (F0 m pc lsA (.int x :: .int j :: .ref (vad E i) :: st.map (vr E)))
  rw [vad_lt hin']
  obtain ⟨cx, cb, cr, cm, co, ct, cl0, ck, cs, cd1, cd2, cz, cn⟩ := id C
  have hat := hR.2.2 i hi
  rw [hc] at hat
  refine W.iast cx cb hat ((ck.2 0 _ rfl).1 len (fun q => .int (f q))) (fun q => by cases q) (by show ¬ (j < 0 ∨ (arrV _ _ _).slots.size ≤ _); rw [arrV_size]; exact hin) rfl rfl hd fun H1 e1 z oq => ?_
  refine kk p l e R s m args below meth c H1 _ cells slots Q lsA C Rt h1 h2 (hR.set (c := .inl (0, (len, .inl (upd f j.toNatClampNeg x)))) z oq ?_) (hS.put z oq (Nat.le_add_right _ _)) hL
  show H1[eB E + i]? = some (vp_cell (eA E 0) (len, .inl (upd f j.toNatClampNeg x)))
  rw [e1]
  show some ((vp_cell (eA E 0) (len, .inl f)).setSlot _ _) = _
  rw [vp_cell_i, vp_cell_i, arrV_store]
  congr 2
  funext q
  by_cases hq : q = j.toNatClampNeg
  · subst hq
    simp [updV, upd]
  · simp [updV, upd, hq]
theorem V_bast {i len : Nat} {f : Nat → Int32} {j x : Int32} {hp2 : Nat → AC} (hd : decode cc pc = .ok (.bastore, 1)) (hi : i < n) (hc : hp i = .inl (1, (len, .inl f))) (hin : vp_in j len) (hx : narrow .byte (.int x) = .int x) (he : va_up hp i (.inl (1, (len, .inl (upd f j.toNatClampNeg x)))) = hp2) (kk : V E own nm cc nL ret d kc ks Qa n hp2 (pc + 1) ls st) : V E own nm cc nL ret d kc ks Qa n hp pc ls (.int x :: .int j :: .ref i :: st) := by
  intro p l e R s m args below meth c H locs cells slots Q lsA C Rt h1 h2 hR hS hL
  subst he
  have hin' : i < 1000 := Nat.lt_of_lt_of_le hi hR.2.1
  show W p l e R s m args below meth c H locs cells slots Q (F0 m pc lsA (.int x :: .int j :: .ref (vad E i) :: st.map (vr E)))
  rw [vad_lt hin']
  obtain ⟨cx, cb, cr, cm, co, ct, cl0, ck, cs, cd1, cd2, cz, cn⟩ := id C
  have hat := hR.2.2 i hi
  rw [hc] at hat
  refine W.bast cx cb hat ((ck.2 1 _ rfl).1 len (fun q => .int (f q))) (fun q => by cases q) (by show ¬ (j < 0 ∨ (arrV _ _ _).slots.size ≤ _); rw [arrV_size]; exact hin) rfl rfl hd fun H1 e1 z oq => ?_
  rw [hx] at e1
  refine kk p l e R s m args below meth c H1 _ cells slots Q lsA C Rt h1 h2 (hR.set (c := .inl (1, (len, .inl (upd f j.toNatClampNeg x)))) z oq ?_) (hS.put z oq (Nat.le_add_right _ _)) hL
  show H1[eB E + i]? = some (vp_cell (eA E 1) (len, .inl (upd f j.toNatClampNeg x)))
  rw [e1]
  show some ((vp_cell (eA E 1) (len, .inl f)).setSlot _ _) = _
  rw [vp_cell_i, vp_cell_i, arrV_store]
  congr 2
  funext q
  by_cases hq : q = j.toNatClampNeg
  · subst hq
    simp [updV, upd]
  · simp [updV, upd, hq]
end VHEAP
