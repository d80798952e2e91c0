/-! THE MEMORY: the heap behind the constructors has a fixed shape (68 cells); only its ints change. A memory gives the int of each cell's slot. -/
abbrev Mem : Type := Nat → Nat → Int32
def wr (S : Mem) (a k : Nat) (v : Int32) : Mem := fun i => if i = a then upd (S a) k v else S i
def wrow (S : Mem) (a : Nat) (g : Nat → Int32) : Mem := fun i => if i = a then g else S i
/-- what kind of cell: below 20 an object of that class; 1000 + n an int row, 2000 + n a byte row, 3000 + n a row of objects -/
def tgL : List Nat := [11, 3007, 4, 9, 6, 5, 3, 2, 0, 10, 1025, 3008, 1, 1, 1, 1, 1, 1, 1, 1, 1010, 10, 1025, 3008, 1, 1, 1, 1, 1, 1, 1, 1, 1010, 10, 1025, 3008, 1, 1, 1, 1, 1, 1, 1, 1, 1010, 7, 2120, 3004, 8, 1040, 8, 1040, 8, 1040, 8, 1040, 1007, 12, 1096, 1096, 1096, 1096, 1008, 1120, 1004, 1004, 1160, 1008]
def tg (a : Nat) : Nat := tgL.getD a 9999
def rtp (t : Nat) : Nat := if t = 3007 then 2 else if t = 3008 then 3 else 4
def eadr (t b j : Nat) : Nat := if t = 3004 then b + 1 + 2 * j else b + 1 + j
def flds (t i : Nat) (g : Nat → Int32) : List Value := match t with
  | 1 => [.int (g 0), .int (g 1), .int (g 2), .int (g 3), .int (g 4), .int (g 5), .int (g 6), .int (g 7)]
  | 7 => [.ref (i + 1), .int (g 1), .int (g 2), .int (g 3), .int (g 4), .int (g 5)]
  | 8 => [.ref (i + 1), .int (g 1), .int (g 2)]
  | 10 => [.ref 1, .ref (i + 1), .ref (i + 2), .ref (i + 11), .int (g 4), .int (g 5), .int (g 6), .int (g 7), .int (g 8)]
  | 11 => [.ref 9, .ref 21, .ref 33, .ref 45, .ref 47, .ref 56, .int (g 6)]
  | 12 => [.ref 58, .ref 59, .ref 60, .ref 61, .int (g 4), .ref 62, .ref 63, .int (g 7), .ref 64, .ref 65, .ref 66, .ref 67, .int (g 12), .int (g 13), .int (g 14), .int (g 15), .int (g 16)]
  | _ => []
def mkc (t i : Nat) (g : Nat → Int32) : AC :=
  if t < 20 then .inr (t, flds t i g)
  else if t < 2000 then .inl (0, (t - 1000, .inl g))
  else if t < 3000 then .inl (1, (t - 2000, .inl g))
  else .inl (rtp t, (t - 3000, .inr (.inr (.inr (.inr (fun j => if j < t - 3000 then some (eadr t i j) else none))))))
def hpS (S : Mem) : Nat → AC := fun i => mkc (tg i) i (S i)
theorem tg_lt {a t : Nat} (h : tg a = t) (ht : t < 9999) : a < 68 := by
  have hl : tgL.length = 68 := by decide
  by_cases ha : a < 68
  · exact ha
  · have : tg a = 9999 := by
      unfold tg
      rw [List.getD_eq_getElem?_getD, List.getElem?_eq_none (by omega)]
      rfl
    omega
def iab (b : Nat) (j : Int32) : Bool := decide (1000 ≤ tg b) && decide (tg b < 2000) && decide (0 ≤ j.toInt) && decide (j.toInt < (tg b : Int) - 1000)
def bab (b : Nat) (j : Int32) : Bool := decide (2000 ≤ tg b) && decide (tg b < 3000) && decide (0 ≤ j.toInt) && decide (j.toInt < (tg b : Int) - 2000)
def rab (t b : Nat) (j : Int32) : Bool := decide (tg b = t) && decide (0 ≤ j.toInt) && decide (j.toInt < (t : Int) - 3000)
def cpok (b : Nat) (j : Int32) (b2 : Nat) (j2 n : Int32) : Bool := decide (1000 ≤ tg b) && decide (tg b < 2000) && decide (1000 ≤ tg b2) && decide (tg b2 < 2000) && decide (0 ≤ j.toInt) && decide (0 ≤ j2.toInt) && decide (0 ≤ n.toInt) && decide (j.toInt + n.toInt ≤ (tg b : Int) - 1000) && decide (j2.toInt + n.toInt ≤ (tg b2 : Int) - 1000)
abbrev ix (j : Int32) : Nat := j.toNatClampNeg
def rmI (x y : Int32) : Int32 := x - x / y * y
def shI (x y : Int32) : Int32 := x <<< (y &&& 31)
def srI (x y : Int32) : Int32 := x >>> (y &&& 31)
def usI (x y : Int32) : Int32 := (x.toUInt32 >>> (y.toUInt32 &&& Int32.toUInt32 31)).toInt32
def okk {α : Type} (o : Option α) (P : α → Prop) : Prop := ∃ a, o = some a ∧ P a
theorem okS {α : Type} {a : α} {P : α → Prop} (h : okk (some a) P) : P a := by
  obtain ⟨b, e, hb⟩ := h
  cases e
  exact hb
theorem okI {α : Type} {a : α} {P : α → Prop} (h : P a) : okk (some a) P := ⟨a, rfl, h⟩
theorem okN {α : Type} {P : α → Prop} (h : okk none P) : False := by
  obtain ⟨b, e, hb⟩ := h
  cases e
def bnd {α β : Type} (o : Option α) (g : α → Option β) : Option β := match o with
  | none => none
  | some a => g a
def bnd2 {α β : Type} (o : Option (α × Mem)) (g : α → Mem → Option β) : Option β := match o with
  | none => none
  | some a => g a.1 a.2
def elm {α β γ : Type} (f : α → γ) (g : β → γ) : α ⊕ β → γ
  | .inl a => f a
  | .inr b => g b
def itr {σ ρ : Type} : Nat → (σ → Option (σ ⊕ ρ)) → σ → Option ρ
  | 0, _, _ => none
  | n + 1, f, s => bnd (f s) (elm (fun s2 => itr n f s2) (fun r => some r))
theorem okk_bnd {α β : Type} {o : Option α} {g : α → Option β} {P : β → Prop} (h : okk (bnd o g) P) : okk o (fun a => okk (g a) P) := by
  cases o with
  | none => exact (okN h).elim
  | some a => exact okI h
theorem okk_bnd2 {α β : Type} {o : Option (α × Mem)} {g : α → Mem → Option β} {P : β → Prop} (h : okk (bnd2 o g) P) : okk o (fun a => okk (g a.1 a.2) P) := by
  cases o with
  | none => exact (okN h).elim
  | some a => exact okI h
theorem okk_mono {α : Type} {o : Option α} {P Q : α → Prop} (h : okk o P) (hq : ∀ a, P a → Q a) : okk o Q := by
  cases o with
  | none => exact (okN h).elim
  | some a => exact okI (hq a (okS h))
/-! what comes back of a method -/
def RQi (P : Int32 × Mem → Prop) : Option Value → Nat → (Nat → AC) → Prop := fun r n hp => ∃ x, P x ∧ r = some (.int x.1) ∧ n = 68 ∧ hp = hpS x.2
def RQl (P : Int64 × Mem → Prop) : Option Value → Nat → (Nat → AC) → Prop := fun r n hp => ∃ x, P x ∧ r = some (.long x.1) ∧ n = 68 ∧ hp = hpS x.2
def RQr (P : Nat × Mem → Prop) : Option Value → Nat → (Nat → AC) → Prop := fun r n hp => ∃ x, P x ∧ r = some (.ref x.1) ∧ n = 68 ∧ hp = hpS x.2
def RQv (P : Unit × Mem → Prop) : Option Value → Nat → (Nat → AC) → Prop := fun r n hp => ∃ x, P x ∧ r = none ∧ n = 68 ∧ hp = hpS x.2
def msk : List Bool → List (Option Value) → List (Option Value)
  | b :: bs, o :: os => (if b = true then o else none) :: msk bs os
  | _, _ => []
theorem msk_get : ∀ (bs : List Bool) (ls : List (Option Value)) (i : Nat) (v : Value), (msk bs ls)[i]? = some (some v) → ls[i]? = some (some v)
  | [], ls, i, v, h => by simp [msk] at h
  | b :: bs, [], i, v, h => by simp [msk] at h
  | b :: bs, o :: os, i, v, h => by
    cases i with
    | zero =>
      simp only [msk, List.getElem?_cons_zero] at h ⊢
      by_cases hb : b = true
      · rw [if_pos hb] at h; exact h
      · rw [if_neg hb] at h; cases h
    | succ i =>
      simp only [msk, List.getElem?_cons_succ] at h ⊢
      exact msk_get bs os i v h
theorem nar_b {x : Int32} (h : x = 0 ∨ x = 1) : narrow .boolean (.int x) = .int x := by
  rcases h with rfl | rfl <;> rfl
section XROWS
variable {E : vEnv} {own nm : String} {cc : ByteArray} {nL : Nat} {ret : Option FieldType} {d : Nat} {Qa : Option Value → Nat → (Nat → AC) → Prop} {S : Mem} {pc : Nat} {ls : List (Option Value)} {st : List Value}
variable {β : Type} {P : β → Prop} {A B : Option β}
theorem V_sub {ls2 : List (Option Value)} (bs : List Bool) (he : msk bs ls = ls2) (k : V E own nm cc nL ret d 0 0 Qa 68 (hpS S) pc ls2 st) : V E own nm cc nL ret d 0 0 Qa 68 (hpS S) pc ls st := by
  intro p l e R s m args below meth c H locs cells slots Q lsA C Rt h1 h2 hR hS hL
  subst he
  exact k p l e R s m args below meth c H locs cells slots Q lsA C Rt h1 h2 hR hS ⟨hL.1, hL.2.1, fun i v h => hL.2.2 i v (msk_get _ _ _ _ h)⟩
theorem V_itr {σ ρ : Type} {f : σ → Option (σ ⊕ ρ)} {Q : ρ → Prop} {W : σ → Prop} (hs : ∀ s, okk (f s) (elm W Q) → W s) : ∀ (n : Nat) (s : σ), okk (itr n f s) Q → W s
  | 0, s, h => (okN h).elim
  | n + 1, s, h => by
    refine hs s ?_
    have h2 := okk_bnd (show okk (bnd (f s) (elm (fun s2 => itr n f s2) (fun r => some r))) Q from h)
    refine okk_mono h2 fun a ha => ?_
    cases a with
    | inl s2 => exact V_itr hs n s2 ha
    | inr r => exact (show Q r from okS (show okk (some r) Q from ha))
theorem X_as {c : Prop} [Decidable c] {G : Prop} (h : okk (if c then A else none) P) (k : c → okk A P → G) : G := by
  by_cases hc : c
  · rw [if_pos hc] at h; exact k hc h
  · rw [if_neg hc] at h; exact (okN h).elim
theorem X_br {c : Prop} [Decidable c] {G : Prop} (h : okk (if c then A else B) P) (k1 : c → okk A P → G) (k2 : ¬ c → okk B P → G) : G := by
  by_cases hc : c
  · rw [if_pos hc] at h; exact k1 hc h
  · rw [if_neg hc] at h; exact k2 hc h
theorem X_geti {t k idx a : Nat} (hf : vFL own idx t k) (hd : decode cc pc = .ok (.getfield idx, 3)) (hv : ∀ a g, (flds t a g)[k]? = some (.int (g k))) (ht : tg a = t) (h20 : t < 20) (kk : V E own nm cc nL ret d 0 0 Qa 68 (hpS S) (pc + 3) ls (.int (S a k) :: st)) : V E own nm cc nL ret d 0 0 Qa 68 (hpS S) pc ls (.ref a :: st) :=
  V_getf hf hd (tg_lt ht (by omega)) (show mkc (tg a) a (S a) = _ by rw [ht]; unfold mkc; rw [if_pos h20]) (hv a (S a)) kk
theorem X_getr {t k idx a b : Nat} (hf : vFL own idx t k) (hd : decode cc pc = .ok (.getfield idx, 3)) (hv : ∀ g, (flds t a g)[k]? = some (.ref b)) (ht : tg a = t) (h20 : t < 20) (kk : V E own nm cc nL ret d 0 0 Qa 68 (hpS S) (pc + 3) ls (.ref b :: st)) : V E own nm cc nL ret d 0 0 Qa 68 (hpS S) pc ls (.ref a :: st) :=
  V_getf hf hd (tg_lt ht (by omega)) (show mkc (tg a) a (S a) = _ by rw [ht]; unfold mkc; rw [if_pos h20]) (hv (S a)) kk
theorem hpS_wr {a t k : Nat} {v : Int32} {c : AC} (ht : tg a = t) (hc : c = mkc t a (upd (S a) k v)) : va_up (hpS S) a c = hpS (wr S a k v) := by
  subst hc
  funext i
  show (if i = a then mkc t a (upd (S a) k v) else mkc (tg i) i (S i)) = mkc (tg i) i (if i = a then upd (S a) k v else S i)
  by_cases hi : i = a
  · subst hi
    rw [if_pos rfl, if_pos rfl, ht]
  · rw [if_neg hi, if_neg hi]
theorem hpS_wrow {a t : Nat} {g : Nat → Int32} {c : AC} (ht : tg a = t) (hc : c = mkc t a g) : va_up (hpS S) a c = hpS (wrow S a g) := by
  subst hc
  funext i
  show (if i = a then mkc t a g else mkc (tg i) i (S i)) = mkc (tg i) i (if i = a then g else S i)
  by_cases hi : i = a
  · subst hi
    rw [if_pos rfl, if_pos rfl, ht]
  · rw [if_neg hi, if_neg hi]
theorem X_puti {t k idx a : Nat} {v : Int32} {ty : FieldType} (hf : vFP own idx t k ty false) (hd : decode cc pc = .ok (.putfield idx, 3)) (hv : ∀ a g v, (flds t a g).set k (.int v) = flds t a (upd g k v)) (hk : ∀ a g, k < (flds t a g).length) (hn : narrow ty (.int v) = .int v ∧ fits ty (.int v) = true) (ht : tg a = t) (h20 : t < 20) (kk : V E own nm cc nL ret d 0 0 Qa 68 (hpS (wr S a k v)) (pc + 3) ls st) : V E own nm cc nL ret d 0 0 Qa 68 (hpS S) pc ls (.int v :: .ref a :: st) :=
  V_putf hf hd (tg_lt ht (by omega)) (show mkc (tg a) a (S a) = _ by rw [ht]; unfold mkc; rw [if_pos h20]) (hk a (S a)) (fun _ => hn) (hpS_wr ht (by rw [hv]; unfold mkc; rw [if_pos h20])) kk
theorem vpin_of {j : Int32} {n : Nat} (h0 : 0 ≤ j.toInt) (h1 : j.toInt < (n : Int)) : vp_in j n := vp_in_iff.mpr ⟨h0, h1⟩
theorem iab_spec {b : Nat} {j : Int32} (h : iab b j = true) : b < 68 ∧ (∀ g, mkc (tg b) b g = .inl (0, (tg b - 1000, .inl g))) ∧ vp_in j (tg b - 1000) := by
  unfold iab at h
  simp only [Bool.and_eq_true, decide_eq_true_eq] at h
  obtain ⟨⟨⟨h1, h2⟩, h3⟩, h4⟩ := h
  refine ⟨tg_lt (t := tg b) rfl (by omega), fun g => ?_, vpin_of h3 (by omega)⟩
  unfold mkc
  rw [if_neg (by omega), if_pos h2]
theorem bab_spec {b : Nat} {j : Int32} (h : bab b j = true) : b < 68 ∧ (∀ g, mkc (tg b) b g = .inl (1, (tg b - 2000, .inl g))) ∧ vp_in j (tg b - 2000) := by
  unfold bab at h
  simp only [Bool.and_eq_true, decide_eq_true_eq] at h
  obtain ⟨⟨⟨h1, h2⟩, h3⟩, h4⟩ := h
  refine ⟨tg_lt (t := tg b) rfl (by omega), fun g => ?_, vpin_of h3 (by omega)⟩
  unfold mkc
  rw [if_neg (by omega), if_neg (by omega), if_pos h2]
theorem X_iald {b : Nat} {j : Int32} (hd : decode cc pc = .ok (.iaload, 1)) (h : okk (if iab b j = true then A else none) P) (kk : okk A P → V E own nm cc nL ret d 0 0 Qa 68 (hpS S) (pc + 1) ls (.int (S b (ix j)) :: st)) : V E own nm cc nL ret d 0 0 Qa 68 (hpS S) pc ls (.int j :: .ref b :: st) :=
  X_as h fun hc h2 => by
    obtain ⟨g1, g2, g3⟩ := iab_spec hc
    exact V_iald hd g1 (g2 (S b)) g3 (kk h2)
theorem X_bald {b : Nat} {j : Int32} (hd : decode cc pc = .ok (.baload, 1)) (h : okk (if bab b j = true then A else none) P) (kk : okk A P → V E own nm cc nL ret d 0 0 Qa 68 (hpS S) (pc + 1) ls (.int (S b (ix j)) :: st)) : V E own nm cc nL ret d 0 0 Qa 68 (hpS S) pc ls (.int j :: .ref b :: st) :=
  X_as h fun hc h2 => by
    obtain ⟨g1, g2, g3⟩ := bab_spec hc
    exact V_bald hd g1 (g2 (S b)) g3 (kk h2)
theorem X_iast {b : Nat} {j v : Int32} (hd : decode cc pc = .ok (.iastore, 1)) (h : okk (if iab b j = true then A else none) P) (kk : okk A P → V E own nm cc nL ret d 0 0 Qa 68 (hpS (wr S b (ix j) v)) (pc + 1) ls st) : V E own nm cc nL ret d 0 0 Qa 68 (hpS S) pc ls (.int v :: .int j :: .ref b :: st) :=
  X_as h fun hc h2 => by
    obtain ⟨g1, g2, g3⟩ := iab_spec hc
    exact V_iast hd g1 (g2 (S b)) g3 (hpS_wr rfl (g2 _).symm) (kk h2)
theorem X_bast {b : Nat} {j v : Int32} (hd : decode cc pc = .ok (.bastore, 1)) (h : okk (if bab b j = true then A else none) P) (hx : narrow .byte (.int v) = .int v) (kk : okk A P → V E own nm cc nL ret d 0 0 Qa 68 (hpS (wr S b (ix j) v)) (pc + 1) ls st) : V E own nm cc nL ret d 0 0 Qa 68 (hpS S) pc ls (.int v :: .int j :: .ref b :: st) :=
  X_as h fun hc h2 => by
    obtain ⟨g1, g2, g3⟩ := bab_spec hc
    exact V_bast hd g1 (g2 (S b)) g3 hx (hpS_wr rfl (g2 _).symm) (kk h2)
theorem X_aald {t b : Nat} {j : Int32} (hd : decode cc pc = .ok (.aaload, 1)) (ht : t = 3007 ∨ t = 3008 ∨ t = 3004) (h : okk (if rab t b j = true then A else none) P) (kk : okk A P → V E own nm cc nL ret d 0 0 Qa 68 (hpS S) (pc + 1) ls (.ref (eadr t b (ix j)) :: st)) : V E own nm cc nL ret d 0 0 Qa 68 (hpS S) pc ls (.int j :: .ref b :: st) :=
  X_as h fun hc h2 => by
    unfold rab at hc
    simp only [Bool.and_eq_true, decide_eq_true_eq] at hc
    obtain ⟨⟨g1, g2⟩, g3⟩ := hc
    have hin : vp_in j (t - 3000) := vpin_of g2 (by omega)
    have hlt : ix j < t - 3000 := Nat.not_le.mp fun q => hin (Or.inr q)
    have e : mkc (tg b) b (S b) = .inl (rtp t, (t - 3000, .inr (.inr (.inr (.inr (fun j => if j < t - 3000 then some (eadr t b j) else none)))))) := by
      rw [g1]
      unfold mkc
      rw [if_neg (by omega), if_neg (by omega), if_neg (by omega)]
    rcases ht with rfl | rfl | rfl
    · exact V_aald (t := 2) (Cn := "SmokeHome$Kind") hd (tg_lt g1 (by omega)) e (fun _ => rfl) hin (if_pos hlt) (kk h2)
    · exact V_aald (t := 3) (Cn := "SmokeHome$Fire") hd (tg_lt g1 (by omega)) e (fun _ => rfl) hin (if_pos hlt) (kk h2)
    · exact V_aald (t := 4) (Cn := "SmokeHome$Sheet") hd (tg_lt g1 (by omega)) e (fun _ => rfl) hin (if_pos hlt) (kk h2)
theorem X_ialdK {b : Nat} {j : Int32} (hd : decode cc pc = .ok (.iaload, 1)) (hc : iab b j = true) (kk : V E own nm cc nL ret d 0 0 Qa 68 (hpS S) (pc + 1) ls (.int (S b (ix j)) :: st)) : V E own nm cc nL ret d 0 0 Qa 68 (hpS S) pc ls (.int j :: .ref b :: st) :=
  by
    obtain ⟨g1, g2, g3⟩ := iab_spec hc
    exact V_iald hd g1 (g2 (S b)) g3 kk
theorem X_baldK {b : Nat} {j : Int32} (hd : decode cc pc = .ok (.baload, 1)) (hc : bab b j = true) (kk : V E own nm cc nL ret d 0 0 Qa 68 (hpS S) (pc + 1) ls (.int (S b (ix j)) :: st)) : V E own nm cc nL ret d 0 0 Qa 68 (hpS S) pc ls (.int j :: .ref b :: st) :=
  by
    obtain ⟨g1, g2, g3⟩ := bab_spec hc
    exact V_bald hd g1 (g2 (S b)) g3 kk
theorem X_iastK {b : Nat} {j v : Int32} (hd : decode cc pc = .ok (.iastore, 1)) (hc : iab b j = true) (kk : V E own nm cc nL ret d 0 0 Qa 68 (hpS (wr S b (ix j) v)) (pc + 1) ls st) : V E own nm cc nL ret d 0 0 Qa 68 (hpS S) pc ls (.int v :: .int j :: .ref b :: st) :=
  by
    obtain ⟨g1, g2, g3⟩ := iab_spec hc
    exact V_iast hd g1 (g2 (S b)) g3 (hpS_wr rfl (g2 _).symm) kk
theorem X_bastK {b : Nat} {j v : Int32} (hd : decode cc pc = .ok (.bastore, 1)) (hc : bab b j = true) (hx : narrow .byte (.int v) = .int v) (kk : V E own nm cc nL ret d 0 0 Qa 68 (hpS (wr S b (ix j) v)) (pc + 1) ls st) : V E own nm cc nL ret d 0 0 Qa 68 (hpS S) pc ls (.int v :: .int j :: .ref b :: st) :=
  by
    obtain ⟨g1, g2, g3⟩ := bab_spec hc
    exact V_bast hd g1 (g2 (S b)) g3 hx (hpS_wr rfl (g2 _).symm) kk
theorem X_aaldK {t b : Nat} {j : Int32} (hd : decode cc pc = .ok (.aaload, 1)) (ht : t = 3007 ∨ t = 3008 ∨ t = 3004) (hc : rab t b j = true) (kk : V E own nm cc nL ret d 0 0 Qa 68 (hpS S) (pc + 1) ls (.ref (eadr t b (ix j)) :: st)) : V E own nm cc nL ret d 0 0 Qa 68 (hpS S) pc ls (.int j :: .ref b :: st) :=
  by
    unfold rab at hc
    simp only [Bool.and_eq_true, decide_eq_true_eq] at hc
    obtain ⟨⟨g1, g2⟩, g3⟩ := hc
    have hin : vp_in j (t - 3000) := vpin_of g2 (by omega)
    have hlt : ix j < t - 3000 := Nat.not_le.mp fun q => hin (Or.inr q)
    have e : mkc (tg b) b (S b) = .inl (rtp t, (t - 3000, .inr (.inr (.inr (.inr (fun j => if j < t - 3000 then some (eadr t b j) else none)))))) := by
      rw [g1]
      unfold mkc
      rw [if_neg (by omega), if_neg (by omega), if_neg (by omega)]
    rcases ht with rfl | rfl | rfl
    · exact V_aald (t := 2) (Cn := "SmokeHome$Kind") hd (tg_lt g1 (by omega)) e (fun _ => rfl) hin (if_pos hlt) kk
    · exact V_aald (t := 3) (Cn := "SmokeHome$Fire") hd (tg_lt g1 (by omega)) e (fun _ => rfl) hin (if_pos hlt) kk
    · exact V_aald (t := 4) (Cn := "SmokeHome$Sheet") hd (tg_lt g1 (by omega)) e (fun _ => rfl) hin (if_pos hlt) kk
theorem X_icmp_eq {x y : Int32} {off : Int} {tgt : Nat} (hd : decode cc pc = .ok (.if_icmp .eq off, 3)) (ht : (pc : Int) + off = (tgt : Int)) (h : okk (if x = y then A else B) P) (kt : okk A P → V E own nm cc nL ret d 0 0 Qa 68 (hpS S) tgt ls st) (kf : okk B P → V E own nm cc nL ret d 0 0 Qa 68 (hpS S) (pc + 3) ls st) : V E own nm cc nL ret d 0 0 Qa 68 (hpS S) pc ls (.int y :: .int x :: st) :=
  X_br h (fun c h => V_icmp_eq hd ht (fun _ => kt h) (fun z => absurd c z)) (fun c h => V_icmp_eq hd ht (fun z => absurd z c) (fun _ => kf h))
theorem X_icmp_ne {x y : Int32} {off : Int} {tgt : Nat} (hd : decode cc pc = .ok (.if_icmp .ne off, 3)) (ht : (pc : Int) + off = (tgt : Int)) (h : okk (if x = y then A else B) P) (kt : okk B P → V E own nm cc nL ret d 0 0 Qa 68 (hpS S) tgt ls st) (kf : okk A P → V E own nm cc nL ret d 0 0 Qa 68 (hpS S) (pc + 3) ls st) : V E own nm cc nL ret d 0 0 Qa 68 (hpS S) pc ls (.int y :: .int x :: st) :=
  X_br h (fun c h => V_icmp_ne hd ht (fun z => absurd c z) (fun _ => kf h)) (fun c h => V_icmp_ne hd ht (fun _ => kt h) (fun z => absurd z c))
theorem X_icmp_lt {x y : Int32} {off : Int} {tgt : Nat} (hd : decode cc pc = .ok (.if_icmp .lt off, 3)) (ht : (pc : Int) + off = (tgt : Int)) (h : okk (if x < y then A else B) P) (kt : okk A P → V E own nm cc nL ret d 0 0 Qa 68 (hpS S) tgt ls st) (kf : okk B P → V E own nm cc nL ret d 0 0 Qa 68 (hpS S) (pc + 3) ls st) : V E own nm cc nL ret d 0 0 Qa 68 (hpS S) pc ls (.int y :: .int x :: st) :=
  X_br h (fun c h => V_icmp_lt hd ht (fun _ => kt h) (fun z => absurd c z)) (fun c h => V_icmp_lt hd ht (fun z => absurd z c) (fun _ => kf h))
theorem X_icmp_ge {x y : Int32} {off : Int} {tgt : Nat} (hd : decode cc pc = .ok (.if_icmp .ge off, 3)) (ht : (pc : Int) + off = (tgt : Int)) (h : okk (if y ≤ x then A else B) P) (kt : okk A P → V E own nm cc nL ret d 0 0 Qa 68 (hpS S) tgt ls st) (kf : okk B P → V E own nm cc nL ret d 0 0 Qa 68 (hpS S) (pc + 3) ls st) : V E own nm cc nL ret d 0 0 Qa 68 (hpS S) pc ls (.int y :: .int x :: st) :=
  X_br h (fun c h => V_icmp_ge hd ht (fun _ => kt h) (fun z => absurd c z)) (fun c h => V_icmp_ge hd ht (fun z => absurd z c) (fun _ => kf h))
theorem X_icmp_gt {x y : Int32} {off : Int} {tgt : Nat} (hd : decode cc pc = .ok (.if_icmp .gt off, 3)) (ht : (pc : Int) + off = (tgt : Int)) (h : okk (if y < x then A else B) P) (kt : okk A P → V E own nm cc nL ret d 0 0 Qa 68 (hpS S) tgt ls st) (kf : okk B P → V E own nm cc nL ret d 0 0 Qa 68 (hpS S) (pc + 3) ls st) : V E own nm cc nL ret d 0 0 Qa 68 (hpS S) pc ls (.int y :: .int x :: st) :=
  X_br h (fun c h => V_icmp_gt hd ht (fun _ => kt h) (fun z => absurd c z)) (fun c h => V_icmp_gt hd ht (fun z => absurd z c) (fun _ => kf h))
theorem X_icmp_le {x y : Int32} {off : Int} {tgt : Nat} (hd : decode cc pc = .ok (.if_icmp .le off, 3)) (ht : (pc : Int) + off = (tgt : Int)) (h : okk (if x ≤ y then A else B) P) (kt : okk A P → V E own nm cc nL ret d 0 0 Qa 68 (hpS S) tgt ls st) (kf : okk B P → V E own nm cc nL ret d 0 0 Qa 68 (hpS S) (pc + 3) ls st) : V E own nm cc nL ret d 0 0 Qa 68 (hpS S) pc ls (.int y :: .int x :: st) :=
  X_br h (fun c h => V_icmp_le hd ht (fun _ => kt h) (fun z => absurd c z)) (fun c h => V_icmp_le hd ht (fun z => absurd z c) (fun _ => kf h))
theorem X_if_eq {x : Int32} {off : Int} {tgt : Nat} (hd : decode cc pc = .ok (.ifCond .eq off, 3)) (ht : (pc : Int) + off = (tgt : Int)) (h : okk (if x = 0 then A else B) P) (kt : okk A P → V E own nm cc nL ret d 0 0 Qa 68 (hpS S) tgt ls st) (kf : okk B P → V E own nm cc nL ret d 0 0 Qa 68 (hpS S) (pc + 3) ls st) : V E own nm cc nL ret d 0 0 Qa 68 (hpS S) pc ls (.int x :: st) :=
  X_br h (fun c h => V_if_eq hd ht (fun _ => kt h) (fun z => absurd c z)) (fun c h => V_if_eq hd ht (fun z => absurd z c) (fun _ => kf h))
theorem X_if_ne {x : Int32} {off : Int} {tgt : Nat} (hd : decode cc pc = .ok (.ifCond .ne off, 3)) (ht : (pc : Int) + off = (tgt : Int)) (h : okk (if x = 0 then A else B) P) (kt : okk B P → V E own nm cc nL ret d 0 0 Qa 68 (hpS S) tgt ls st) (kf : okk A P → V E own nm cc nL ret d 0 0 Qa 68 (hpS S) (pc + 3) ls st) : V E own nm cc nL ret d 0 0 Qa 68 (hpS S) pc ls (.int x :: st) :=
  X_br h (fun c h => V_if_ne hd ht (fun z => absurd c z) (fun _ => kf h)) (fun c h => V_if_ne hd ht (fun _ => kt h) (fun z => absurd z c))
theorem X_if_lt {x : Int32} {off : Int} {tgt : Nat} (hd : decode cc pc = .ok (.ifCond .lt off, 3)) (ht : (pc : Int) + off = (tgt : Int)) (h : okk (if x < 0 then A else B) P) (kt : okk A P → V E own nm cc nL ret d 0 0 Qa 68 (hpS S) tgt ls st) (kf : okk B P → V E own nm cc nL ret d 0 0 Qa 68 (hpS S) (pc + 3) ls st) : V E own nm cc nL ret d 0 0 Qa 68 (hpS S) pc ls (.int x :: st) :=
  X_br h (fun c h => V_if_lt hd ht (fun _ => kt h) (fun z => absurd c z)) (fun c h => V_if_lt hd ht (fun z => absurd z c) (fun _ => kf h))
theorem X_if_ge {x : Int32} {off : Int} {tgt : Nat} (hd : decode cc pc = .ok (.ifCond .ge off, 3)) (ht : (pc : Int) + off = (tgt : Int)) (h : okk (if 0 ≤ x then A else B) P) (kt : okk A P → V E own nm cc nL ret d 0 0 Qa 68 (hpS S) tgt ls st) (kf : okk B P → V E own nm cc nL ret d 0 0 Qa 68 (hpS S) (pc + 3) ls st) : V E own nm cc nL ret d 0 0 Qa 68 (hpS S) pc ls (.int x :: st) :=
  X_br h (fun c h => V_if_ge hd ht (fun _ => kt h) (fun z => absurd c z)) (fun c h => V_if_ge hd ht (fun z => absurd z c) (fun _ => kf h))
theorem X_if_gt {x : Int32} {off : Int} {tgt : Nat} (hd : decode cc pc = .ok (.ifCond .gt off, 3)) (ht : (pc : Int) + off = (tgt : Int)) (h : okk (if 0 < x then A else B) P) (kt : okk A P → V E own nm cc nL ret d 0 0 Qa 68 (hpS S) tgt ls st) (kf : okk B P → V E own nm cc nL ret d 0 0 Qa 68 (hpS S) (pc + 3) ls st) : V E own nm cc nL ret d 0 0 Qa 68 (hpS S) pc ls (.int x :: st) :=
  X_br h (fun c h => V_if_gt hd ht (fun _ => kt h) (fun z => absurd c z)) (fun c h => V_if_gt hd ht (fun z => absurd z c) (fun _ => kf h))
theorem X_if_le {x : Int32} {off : Int} {tgt : Nat} (hd : decode cc pc = .ok (.ifCond .le off, 3)) (ht : (pc : Int) + off = (tgt : Int)) (h : okk (if x ≤ 0 then A else B) P) (kt : okk A P → V E own nm cc nL ret d 0 0 Qa 68 (hpS S) tgt ls st) (kf : okk B P → V E own nm cc nL ret d 0 0 Qa 68 (hpS S) (pc + 3) ls st) : V E own nm cc nL ret d 0 0 Qa 68 (hpS S) pc ls (.int x :: st) :=
  X_br h (fun c h => V_if_le hd ht (fun _ => kt h) (fun z => absurd c z)) (fun c h => V_if_le hd ht (fun z => absurd z c) (fun _ => kf h))
theorem X_tableIn {dflt lo hi : Int} {offs : Array Int} {len : Nat} {x c : Int32} {off : Int} {tgt : Nat} (e : x = c) (hd : decode cc pc = .ok (.tableswitch dflt lo hi offs, len)) (h1 : ¬ c.toInt < lo) (h2 : ¬ hi < c.toInt) (ho : offs[(c.toInt - lo).toNat]? = some off) (ht : (pc : Int) + off = (tgt : Int)) (k : V E own nm cc nL ret d 0 0 Qa 68 (hpS S) tgt ls st) : V E own nm cc nL ret d 0 0 Qa 68 (hpS S) pc ls (.int x :: st) := by
  subst e
  exact V_tableIn hd h1 h2 ho ht k
theorem X_lookup {dflt : Int} {ps : Array (Int × Int)} {len : Nat} {x c : Int32} {off : Int} {tgt : Nat} (e : x = c) (hd : decode cc pc = .ok (.lookupswitch dflt ps, len)) (hp2 : (ps.toList.zip (ps.toList.drop 1)).all (fun (a, next) => a.1 < next.1) = true) (ho : Op.lookupswitch.offset ps.toList dflt c.toInt = off) (ht : (pc : Int) + off = (tgt : Int)) (k : V E own nm cc nL ret d 0 0 Qa 68 (hpS S) tgt ls st) : V E own nm cc nL ret d 0 0 Qa 68 (hpS S) pc ls (.int x :: st) := by
  subst e
  exact V_lookup hd hp2 ho ht k
/-- behind a call of a method with a contract -/
theorem X_iinc {i : Nat} {a : Int} {x c : Int32} {ls2 : List (Option Value)} (hd : decode cc pc = .ok (.iinc i a, 3)) (hl : ls[i]? = some (some (.int x))) (hv : Int32.ofInt a = c) (hn : i < nL) (hz : vNL ls i = true) (he : ls.set i (some (.int (x + c))) = ls2) (k : V E own nm cc nL ret d 0 0 Qa 68 (hpS S) (pc + 3) ls2 st) : V E own nm cc nL ret d 0 0 Qa 68 (hpS S) pc ls st := V_iinc hd hl (by rw [hv]) hn hz he k
theorem tab_out {x : Int32} {lo hi : Int} (cs : List Int32) (hc : (List.range (hi + 1 - lo).toNat).all (fun k => cs.any fun c => c.toInt == lo + (k : Int)) = true) (h : ∀ c ∈ cs, ¬ x = c) : x.toInt < lo ∨ hi < x.toInt := by
  by_cases h1 : x.toInt < lo
  · exact Or.inl h1
  · by_cases h2 : hi < x.toInt
    · exact Or.inr h2
    · exfalso
      have h3 := List.all_eq_true.mp hc (x.toInt - lo).toNat (List.mem_range.mpr (by omega))
      obtain ⟨c, hcm, h4⟩ := List.any_eq_true.mp h3
      have h5 : c.toInt = lo + ((x.toInt - lo).toNat : Int) := by simpa using h4
      exact h c hcm (Int32.toInt_inj.mp (by omega))
theorem lk2_out {x a b : Int32} {o1 o2 dflt : Int} (ha : ¬ x = a) (hb : ¬ x = b) : Op.lookupswitch.offset [(a.toInt, o1), (b.toInt, o2)] dflt x.toInt = dflt := by
  have h1 : ¬ a.toInt = x.toInt := fun e => ha (Int32.toInt_inj.mp e.symm)
  have h2 : ¬ b.toInt = x.toInt := fun e => hb (Int32.toInt_inj.mp e.symm)
  simp [Op.lookupswitch.offset, h1, h2]
theorem X_irem {x y : Int32} (hd : decode cc pc = .ok (.irem, 1)) (hne : ¬ y = 0) (k : V E own nm cc nL ret d 0 0 Qa 68 (hpS S) (pc + 1) ls (.int (rmI x y) :: st)) : V E own nm cc nL ret d 0 0 Qa 68 (hpS S) pc ls (.int y :: .int x :: st) := V_irem hd hne k
theorem X_ishl {x y : Int32} (hd : decode cc pc = .ok (.ishl, 1)) (k : V E own nm cc nL ret d 0 0 Qa 68 (hpS S) (pc + 1) ls (.int (shI x y) :: st)) : V E own nm cc nL ret d 0 0 Qa 68 (hpS S) pc ls (.int y :: .int x :: st) := V_ishl hd k
theorem X_ishr {x y : Int32} (hd : decode cc pc = .ok (.ishr, 1)) (k : V E own nm cc nL ret d 0 0 Qa 68 (hpS S) (pc + 1) ls (.int (srI x y) :: st)) : V E own nm cc nL ret d 0 0 Qa 68 (hpS S) pc ls (.int y :: .int x :: st) := V_ishr hd k
theorem X_iushr {x y : Int32} (hd : decode cc pc = .ok (.iushr, 1)) (k : V E own nm cc nL ret d 0 0 Qa 68 (hpS S) (pc + 1) ls (.int (usI x y) :: st)) : V E own nm cc nL ret d 0 0 Qa 68 (hpS S) pc ls (.int y :: .int x :: st) := V_iushr hd k
theorem X_sconst {k : Nat} (hk : k < 12) (hd : decode cc pc = .ok (.ldc (sI k), 2)) (ho : sO k = own) (kk : V E own nm cc nL ret d 0 0 Qa 68 (hpS S) (pc + 2) ls (.ref (1000 + k) :: st)) : V E own nm cc nL ret d 0 0 Qa 68 (hpS S) pc ls st := by
  intro p l e R s m args below meth c H locs cells slots Q lsA C Rt h1 h2 hR hS hL
  subst ho
  obtain ⟨cx, cb, cr, cm, co, ct, cl0, ck, cs, cd1, cd2, cz, cn⟩ := id C
  refine va_ldcS cx cb co (cs.2.1 k hk) hd ?_
  have e1 : vr E (.ref (1000 + k)) = .ref (eK E k) := by
    show Value.ref (vad E (1000 + k)) = _
    unfold vad
    rw [if_neg (by omega), show 1000 + k - 1000 = k by omega]
  rw [← e1]
  exact kk p l e R s m args below meth c H locs cells slots Q lsA C Rt h1 h2 hR hS hL
theorem X_copyi {b b2 : Nat} {j j2 n : Int32} {idx : Nat} (hlk : Cond.methodLink own idx arraycopyName ∈ tb) (hnat : Cond.native arraycopyName ∈ tb) (hstat : Cond.static arraycopyName ∈ tb) (hini : Cond.initialized "java/lang/System" ∈ tb) (hd : decode cc pc = .ok (.invokestatic idx, 3)) (hdd : 1 ≤ d) (hst : (st.map fun v => v.category).sum ≤ 8)
    (h : okk (if cpok b j b2 j2 n = true then A else none) P)
    (kk : okk A P → V E own nm cc nL ret d 0 0 Qa 68 (hpS (wrow S b2 (va_cpy (S b) (S b2) (ix j) (ix j2) (ix n)))) (pc + 3) ls st) : V E own nm cc nL ret d 0 0 Qa 68 (hpS S) pc ls (.int n :: .int j2 :: .ref b2 :: .int j :: .ref b :: st) := by
  refine X_as h fun hc h2 => ?_
  unfold cpok at hc
  simp only [Bool.and_eq_true, decide_eq_true_eq] at hc
  obtain ⟨⟨⟨⟨⟨⟨⟨⟨g1, g2⟩, g3⟩, g4⟩, g5⟩, g6⟩, g7⟩, g8⟩, g9⟩ := hc
  have hb : b < 68 := tg_lt (t := tg b) rfl (by omega)
  have hb2 : b2 < 68 := tg_lt (t := tg b2) rfl (by omega)
  have e1 : ∀ g, mkc (tg b) b g = .inl (0, (tg b - 1000, .inl g)) := fun g => by
    unfold mkc
    rw [if_neg (by omega), if_pos g2]
  have e2 : ∀ g, mkc (tg b2) b2 g = .inl (0, (tg b2 - 1000, .inl g)) := fun g => by
    unfold mkc
    rw [if_neg (by omega), if_pos g4]
  have nn : ∀ z : Int32, 0 ≤ z.toInt → ¬ z < 0 ∧ z.toInt = (z.toNatClampNeg : Int) := by
    intro z hz
    refine ⟨?_, ?_⟩
    · intro hl
      have := Int32.lt_iff_toInt_lt.mp hl
      have z0 : (0 : Int32).toInt = 0 := by decide
      omega
    · show z.toInt = ((z.toInt.toNat : Nat) : Int)
      omega
  obtain ⟨a1, a2⟩ := nn j g5
  obtain ⟨a3, a4⟩ := nn j2 g6
  obtain ⟨a5, a6⟩ := nn n g7
  have kk := kk h2
  intro p l e R s m args below meth c H locs cells slots Q lsA C Rt h1 h2 hR hS hL
  obtain ⟨cx, cb, cr, cm, co, ct, cl0, ck, cs, cd1, cd2, cz, cn⟩ := id C
  show W p l e R s m args below meth c H locs cells slots Q (F0 m pc lsA (.int n :: .int j2 :: .ref (vad E b2) :: .int j :: .ref (vad E b) :: st.map (vr E)))
  rw [vad_lt (by omega : b < 1000), vad_lt (by omega : b2 < 1000)]
  have hc1 := hR.2.2 b hb
  have hc2 := hR.2.2 b2 hb2
  have q1 : hpS S b = .inl (0, (tg b - 1000, .inl (S b))) := e1 (S b)
  have q2 : hpS S b2 = .inl (0, (tg b2 - 1000, .inl (S b2))) := e2 (S b2)
  have hloc : ((st.map (vr E)).map fun v => v.category).sum + (nativeFrameWords "java/lang/System" "arraycopy" 5 + 11) ≤ R.locals := by
    rw [vcat]
    have : nativeFrameWords "java/lang/System" "arraycopy" 5 + 11 ≤ 32 := Nat.le_of_ble_eq_true rfl
    omega
  have hc1' : H[eB E + b]? = some (vp_cell (eA E 0) (tg b - 1000, .inl (S b))) := by
    rw [q1] at hc1
    exact hc1
  have hc2' : H[eB E + b2]? = some (vp_cell (eA E 0) (tg b2 - 1000, .inl (S b2))) := by
    rw [q2] at hc2
    exact hc2
  intro T hT X
  obtain ⟨-, k0, hk0, cm0, hkk0⟩ := (ck.2 0 _ rfl).1 (tg b - 1000) (fun j => .int (S b j))
  obtain ⟨-, k1, hk1, cm1, hkk1⟩ := (ck.2 0 _ rfl).1 (tg b2 - 1000) (fun j => .int (S b2 j))
  obtain ⟨vm2, X2, step⟩ := X.arraycopy cx co (ct _ hlk) (ct _ hnat) (ct _ hstat) (ct _ hini) (src := eB E + b) (dst := eB E + b2) (cs := vp_cell (eA E 0) (tg b - 1000, .inl (S b))) (cd := vp_cell (eA E 0) (tg b2 - 1000, .inl (S b2))) (srcPos := j) (destPos := j2) (n := n) (by rw [hT]; exact hc1') (by rw [hT]; exact hc2')
    (fun _ h => by cases h) (fun _ h => by cases h) (fun h => by cases h) (fun h => by cases h) hk0 hk1 hkk0 hkk1 (by simp [refKind]) a1 a3 a5
    (by show ¬ _ > ((arrV (eA E 0) (tg b - 1000) (fun j => .int (S b j))).slots.size : Int); rw [arrV_size]; omega)
    (by show ¬ _ > ((arrV (eA E 0) (tg b2 - 1000) (fun j => .int (S b2 j))).slots.size : Int); rw [arrV_size]; omega)
    (fun vm₁ _ i hi => by
      have e : (vp_cell (eA E 0) (tg b - 1000, .inl (S b))).slots.getD (j.toNatClampNeg + i) .null = .int (S b (j.toNatClampNeg + i)) := by
        show (arrV (eA E 0) (tg b - 1000) (fun j => .int (S b j))).slots.getD _ _ = _
        rw [Array.getD_eq_getD_getElem?, arrV_read _ _ (by omega)]
        rfl
      refine ⟨?_, ?_⟩
      · rw [e]; rfl
      · rw [e]; exact trivial)
    (g := F0 m pc lsA (.int n :: .int j2 :: .ref (eB E + b2) :: .int j :: .ref (eB E + b) :: st.map (vr E))) rfl (by show lsA.size = c.maxLocals; rw [hL.1, cm]) (rest := st.map (vr E)) rfl (by rw [cb]; exact hd) (by omega) (by show 2 * 0 + _ + _ ≤ _; omega)
  have e9 : copied (vp_cell (eA E 0) (tg b - 1000, .inl (S b))) (vp_cell (eA E 0) (tg b2 - 1000, .inl (S b2))) j j2 n = vp_cell (eA E 0) (tg b2 - 1000, .inl (va_cpy (S b) (S b2) j.toNatClampNeg j2.toNatClampNeg n.toNatClampNeg)) := va_copied (fun z => .int z) (eA E 0) (eA E 0) (S b) (S b2) (by omega)
  rw [e9] at X2 step
  have hl : eB E + b2 < H.size := (Array.getElem?_eq_some_iff.mp hc2').1
  have hheap : ((T.setVm vm2).setCell (eB E + b2) (vp_cell (eA E 0) (tg b2 - 1000, .inl (va_cpy (S b) (S b2) j.toNatClampNeg j2.toNatClampNeg n.toNatClampNeg)))).heap = H.setIfInBounds (eB E + b2) (vp_cell (eA E 0) (tg b2 - 1000, .inl (va_cpy (S b) (S b2) j.toNatClampNeg j2.toNatClampNeg n.toNatClampNeg))) := by rw [← hT]; rfl
  have oq : ∀ q : Nat, q ≠ eB E + b2 → (H.setIfInBounds (eB E + b2) (vp_cell (eA E 0) (tg b2 - 1000, .inl (va_cpy (S b) (S b2) j.toNatClampNeg j2.toNatClampNeg n.toNatClampNeg))))[q]? = H[q]? := fun q hq => by simp [Array.getElem?_setIfInBounds, Ne.symm hq]
  have hR2 := hR.set (c := .inl (0, (tg b2 - 1000, .inl (va_cpy (S b) (S b2) j.toNatClampNeg j2.toNatClampNeg n.toNatClampNeg)))) (H' := H.setIfInBounds (eB E + b2) (vp_cell (eA E 0) (tg b2 - 1000, .inl (va_cpy (S b) (S b2) j.toNatClampNeg j2.toNatClampNeg n.toNatClampNeg)))) (by simp) oq (by show (H.setIfInBounds (eB E + b2) _)[eB E + b2]? = some _; simp [Array.getElem?_setIfInBounds, hl]; rfl)
  rw [hpS_wrow rfl (e2 _).symm] at hR2
  obtain ⟨t, b1, b3⟩ := kk p l e R s m args below meth c _ _ cells slots Q lsA C Rt h1 h2 hR2 ⟨by simp; exact hS.1, fun q g1 g2 => by
      rw [oq q (fun e => g2 (by rw [e]; exact Nat.le_add_right _ _))]
      exact hS.2.1 q g1 g2, fun q hq => by
      rcases List.mem_append.mp hq with h | h
      · exact hS.2.2 q h
      · obtain ⟨z, -, hz⟩ := List.mem_map.mp h
        rw [← hz]
        exact Nat.le_add_right _ _⟩ hL _ hheap X2
  exact ⟨t, step t b1, b3⟩
end XROWS
