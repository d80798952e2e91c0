/-! what a TEXT tells, item by item; the class reads it -/
def nmQ (Q : Nat → Nat) (tp p most : Nat) : Bool := decide (tkN Q tp p = 2) && decide (nmN Q tp p ≤ most)
def partN (Q : Nat → Nat) (tp p : Nat) (w : List Nat) (most : Nat) (dfl : Int32) : Option Int32 × Nat := if isW Q tp p w = true then (if nmQ Q tp (nxN Q tp p) most = true then (some (nI (nmN Q tp (nxN Q tp p))), nxN Q tp (nxN Q tp p)) else (none, nxN Q tp p)) else (some dfl, p)
def fireN (Q : Nat → Nat) (tp p n k : Nat) (g : Row) : (Nat × Row) ⊕ Nat :=
  match partN Q tp (nxN Q tp p) (wN 2) 24 0 with
  | (none, q) => .inr q
  | (some c, q) => match partN Q tp q (wN 3) 24 c with
    | (none, q) => .inr q
    | (some h, q) => match partN Q tp q (wN 4) 999 50 with
      | (none, q) => .inr q
      | (some l, q) => .inl (q, comeR g n (nI k) c h l)
def windN (Q : Nat → Nat) (tp p : Nat) (g : Row) : (Nat × Row) ⊕ Nat := if nmQ Q tp (nxN Q tp p) 4 = true then .inl (nxN Q tp (nxN Q tp p), upd g 3 (nI (nmN Q tp (nxN Q tp p)))) else .inr (nxN Q tp p)
def woodN (Q : Nat → Nat) (tp p : Nat) (g : Row) : (Nat × Row) ⊕ Nat := if nmQ Q tp (nxN Q tp p) 24 = true then (if nmQ Q tp (nxN Q tp (nxN Q tp p)) 9999 = true then .inl (nxN Q tp (nxN Q tp (nxN Q tp p)), upd g (5 + nmN Q tp (nxN Q tp p)) (nI (nmN Q tp (nxN Q tp (nxN Q tp p))))) else .inr (nxN Q tp (nxN Q tp p))) else .inr (nxN Q tp p)
def itemN (Q : Nat → Nat) (tp p : Nat) (g : Row) : (Nat × Row) ⊕ Nat :=
  if isW Q tp p (wN 0) = true then windN Q tp p g else if isW Q tp p (wN 1) = true then woodN Q tp p g else
  match kindN Q tp p with
  | none => .inr p
  | some k => if g 0 = 8 then .inr p else fireN Q tp p (ix (g 0)) k g
def F45 (S S2 : Mem) : Prop := ∀ a, a ≠ 45 → S2 a = S a
theorem F45.rf {S : Mem} : F45 S S := fun _ _ => rfl
theorem F45.tr {S S2 S3 : Mem} (h : F45 S S2) (h2 : F45 S2 S3) : F45 S S3 := fun a ha => (h2 a ha).trans (h a ha)
theorem CB.f45 {Q : Nat → Nat} {tp : Nat} {S S2 : Mem} (h : CB Q tp S) (hf : F45 S S2) : CB Q tp S2 := ⟨h.1, fun i hi => by rw [hf 46 (by decide)]; exact h.2 i hi⟩
theorem c_takeNumber {Q : Nat → Nat} {tp p most : Nat} {S : Mem} (ht : tp ≤ 120) (hp : p ≤ tp) (hb : CB Q tp S) (hc : CT Q tp p S) (hm : most ≤ 9999) : okk (f_X7_takeNumber 45 (nI most) S) (fun x => (nmQ Q tp p most = true ∧ x.1 = nI (nmN Q tp p) ∧ CT Q tp (nxN Q tp p) x.2 ∧ F45 S x.2) ∨ (nmQ Q tp p most = false ∧ x.1 = -1 ∧ CT Q tp p x.2 ∧ F45 S x.2)) := by
  have hcc := hc
  obtain ⟨a1, a2, a3, a4, a5⟩ := hc
  unfold f_X7_takeNumber nmQ
  rw [if_pos tg45, a2]
  by_cases k2 : tkN Q tp p = 2
  · rw [if_pos (by rw [k2]; rfl), a5, dec_t k2, Bool.true_and]
    by_cases h : nmN Q tp p ≤ most
    · rw [if_pos ((nI_leI (by omega) (by omega)).mpr (by omega)), dec_t h]
      refine okB2 (okk_mono (c_takeN ht hp hb hcc) fun x hx => okI (Or.inl ⟨rfl, ?_, hx.1, hx.2⟩))
      rw [show min (nmN Q tp p) 10000 = nmN Q tp p by omega]
    · rw [if_neg (fun z => h (by have := (nI_leI (by omega) (by omega)).mp z; omega)), dec_f h]
      exact okI (Or.inr ⟨rfl, rfl, hcc, F45.rf⟩)
  · rw [if_neg (show ¬ nI (tkN Q tp p) = (2 : Int32) from fun z => k2 ((tk1 (k := 2) (by omega)).mp z)), dec_f k2, Bool.false_and]
    exact okI (Or.inr ⟨rfl, rfl, hcc, F45.rf⟩)
theorem c_part {Q : Nat → Nat} {tp p k most : Nat} {dfl : Int32} {S : Mem} (ht : tp ≤ 120) (hp : p ≤ tp) (hb : CB Q tp S) (hc : CT Q tp p S) (hk : k < 12) (hm : most ≤ 9999) : okk (f_X7_takePart 45 (1000 + k) (nI most) dfl S) (fun x => ((∃ v, (partN Q tp p (wN k) most dfl).1 = some v ∧ x.1 = v) ∨ ((partN Q tp p (wN k) most dfl).1 = none ∧ x.1 = -1)) ∧ CT Q tp (partN Q tp p (wN k) most dfl).2 x.2 ∧ F45 S x.2) := by
  unfold f_X7_takePart partN
  rw [if_pos tg45, c_isWord ht hp hb hc hk, bnd2_s, b1_if]
  by_cases h : isW Q tp p (wN k) = true
  · rw [if_pos h, if_pos h]
    refine okB2 (okk_mono (c_takeN ht hp hb hc) fun x hx => ?_)
    refine okB2 (okk_mono (c_takeNumber ht (nxN_le hp ht).2 (hb.f45 hx.2) hx.1 hm) fun y hy => ?_)
    rcases hy with ⟨q, y1, y2, y3⟩ | ⟨q, y1, y2, y3⟩
    · rw [if_pos q]
      exact okI ⟨Or.inl ⟨_, rfl, y1⟩, y2, F45.tr hx.2 y3⟩
    · rw [if_neg (by rw [q]; decide)]
      exact okI ⟨Or.inr ⟨rfl, y1⟩, y2, F45.tr hx.2 y3⟩
  · rw [if_neg h, if_neg h]
    exact okI ⟨Or.inl ⟨_, rfl, rfl⟩, hc, F45.rf⟩
theorem partN_pos {Q : Nat → Nat} {tp p most : Nat} {w : List Nat} {dfl : Int32} (ht : tp ≤ 120) (hp : p ≤ tp) : p ≤ (partN Q tp p w most dfl).2 ∧ (partN Q tp p w most dfl).2 ≤ tp := by
  have a1 := nxN_le (Q := Q) hp ht
  have a2 := stN_le (Q := Q) hp ht
  have b1 := nxN_le (Q := Q) a1.2 ht
  have b2 := stN_le (Q := Q) a1.2 ht
  unfold partN
  split
  · split
    · dsimp only; omega
    · dsimp only; omega
  · dsimp only; omega
theorem partN_val {Q : Nat → Nat} {tp p most : Nat} {w : List Nat} {dfl v : Int32} (h : (partN Q tp p w most dfl).1 = some v) : v = dfl ∨ ∃ j, j ≤ most ∧ v = nI j := by
  unfold partN at h
  split at h
  · split at h
    · rename_i q
      cases h
      right
      exact ⟨_, of_decide_eq_true (and_b.mp q).2, rfl⟩
    · cases h
  · cases h
    exact Or.inl rfl
