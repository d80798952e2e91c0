/-! WHAT AN HOUR DOES, on a row of numbers: 0 how many fires, 1 hour, 2 z, 3 wind, 4 crossed, 5.. wood, 30 + 7 f + w a fire's, 86.. spots. -/
abbrev Row : Type := Nat → Int32
def fi (f w : Nat) : Nat := 30 + 7 * f + w
def mnI (a b : Int32) : Int32 := if b ≤ a then b else a
def burnsK (hour k : Int32) : Int32 := if k = 1 then 5 else if k = 2 then 1 else if k = 3 then (if rmI hour 2 = 0 then 3 else 1) else if k = 4 then (if rmI hour 2 = 0 then 3 else 1) else if k = 6 then 10 else 2
def stepsK (hour waited k : Int32) : Nat := if k = 1 then 2 else if k = 2 then (if rmI hour 3 = 0 then 1 else 0) else if k = 4 then (if waited < 5 then 1 else 3) else if k = 6 then 3 else 1
def bearsK (much k : Int32) : Bool := decide (k = 4) || (decide (k = 5) && decide (20 < much))
def vertK (home cell : Int32) : Int32 := if home / 5 - cell / 5 < 0 then 1 else if 0 < home / 5 - cell / 5 then 3 else 0
def levK (home cell : Int32) : Int32 := if 0 < rmI home 5 - rmI cell 5 then 2 else if rmI home 5 - rmI cell 5 < 0 then 4 else 0
def wayK (k home cell : Int32) : Int32 := if k = 3 ∨ k = 4 then (if levK home cell = 0 then vertK home cell else levK home cell) else (if vertK home cell = 0 then levK home cell else vertK home cell)
def othW (w : Int32) : Int32 := if w ≤ 2 then w + 2 else w - 2
def onW (c w : Int32) : Int32 := if w = 1 then c - 5 else if w = 2 then c + 1 else if w = 3 then c + 5 else c - 1
def burn1 (g : Row) (f : Nat) : Row :=
  if g (fi f 4) = g (fi f 1) ∧ ¬ g (fi f 1) = g (fi f 2) then
    upd (upd g (fi f 3) (g (fi f 3) - mnI (burnsK (g 1) (g (fi f 0))) (g (fi f 3)))) (fi f 5) (mnI 999 (g (fi f 5) + mnI (burnsK (g 1) (g (fi f 0))) (g (fi f 3))))
  else g
def mvN : Nat → Row → Nat → Row
  | 0, g, _ => g
  | k + 1, g, f =>
    if g (fi f 4) = g (fi f 2) then g
    else if g 3 = othW (wayK (g (fi f 0)) (g (fi f 2)) (g (fi f 4))) ∧ bearsK (g (fi f 5)) (g (fi f 0)) = false then upd g (fi f 6) (mnI 9999 (g (fi f 6) + 1))
    else mvN k (upd g (fi f 4) (onW (g (fi f 4)) (wayK (g (fi f 0)) (g (fi f 2)) (g (fi f 4))))) f
def move1 (g : Row) (f : Nat) : Row := if g (fi f 5) ≤ 0 then g else mvN (stepsK (g 1) (g (fi f 6)) (g (fi f 0))) g f
def crossQ (bg : Nat → Int32) (g : Row) (a b : Nat) : Prop := g (fi a 4) = g (fi b 4) ∧ ¬ g (fi a 5) ≤ 0 ∧ ¬ g (fi b 5) ≤ 0 ∧ ¬ (g (fi a 4) = bg a ∧ g (fi b 4) = bg b)
noncomputable def cross1 (bg : Nat → Int32) (g : Row) (a b : Nat) : Row := by
  classical
  exact if crossQ bg g a b then
    upd (upd (upd g (fi a 5) (g (fi a 5) + (g (fi b 5) / 4 - g (fi a 5) / 4))) (fi b 5) (g (fi b 5) + (g (fi a 5) / 4 - g (fi b 5) / 4))) 4 (mnI 99999 (g 4 + 1))
  else g
def settle1 (g : Row) (f : Nat) : Row :=
  if g (fi f 4) = g (fi f 2) then
    upd (upd (upd g (5 + ix (g (fi f 2))) (mnI 9999 (g (5 + ix (g (fi f 2))) + g (fi f 5)))) (fi f 5) 0) (fi f 4) (g (fi f 1))
  else g
def fol (F : Row → Nat → Row) : Nat → Row → Row
  | 0, g => g
  | n + 1, g => F (fol F n g) n
noncomputable def crossA (bg : Nat → Int32) (n : Nat) (g : Row) : Row := fol (fun g a => fol (fun g j => cross1 bg g a (a + 1 + j)) (n - (a + 1)) g) n g
noncomputable def hourR (n : Nat) (g : Row) : Row :=
  upd (fol settle1 n (crossA (fun f => g (fi f 4)) n (fol move1 n (fol burn1 n g)))) 1 ((fol settle1 n (crossA (fun f => g (fi f 4)) n (fol move1 n (fol burn1 n g)))) 1 + 1)
noncomputable def hoursR (n : Nat) : Nat → Row → Row
  | 0, g => g
  | k + 1, g => hourR n (hoursR n k g)
/-- what makes the indices fall in their rows -/
def WF (n : Nat) (g : Row) : Prop := n ≤ 8 ∧ g 0 = nI n ∧ ∀ f, f < n → (∃ k, k < 7 ∧ g (fi f 0) = nI k) ∧ (∃ c, c < 25 ∧ g (fi f 1) = nI c) ∧ (∃ c, c < 25 ∧ g (fi f 2) = nI c) ∧ (∃ c, c < 25 ∧ g (fi f 4) = nI c)
/-! loops and steps over the memory -/
theorem itr_run {σ ρ : Type} {f : σ → Option (σ ⊕ ρ)} (s : Nat → σ) (n : Nat) {r : ρ} (hs : ∀ k, k < n → f (s k) = some (.inl (s (k + 1)))) (he : f (s n) = some (.inr r)) (m : Nat) (hm : n < m) : itr m f (s 0) = some r := by
  have key : ∀ j, j ≤ n → ∀ m, j < m → itr m f (s (n - j)) = some r := by
    intro j
    induction j with
    | zero =>
      intro _ m hm
      cases m with
      | zero => omega
      | succ m =>
        show bnd (f (s (n - 0))) _ = _
        rw [Nat.sub_zero, he]
        rfl
    | succ j ih =>
      intro hj m hm
      cases m with
      | zero => omega
      | succ m =>
        show bnd (f (s (n - (j + 1)))) _ = _
        rw [hs (n - (j + 1)) (by omega), show n - (j + 1) + 1 = n - j by omega]
        exact ih (by omega) m (by omega)
  have h0 := key n (Nat.le_refl n) m hm
  rwa [Nat.sub_self] at h0
theorem itr_ex {σ ρ : Type} {f : σ → Option (σ ⊕ ρ)} (I : Nat → σ → Prop) (P : ρ → Prop) (n : Nat) (hs : ∀ k, k ≤ n → ∀ s, I k s → okk (f s) (fun x => (∃ s2, x = .inl s2 ∧ k < n ∧ I (k + 1) s2) ∨ ∃ r, x = .inr r ∧ P r)) {s : σ} (h0 : I 0 s) (m : Nat) (hm : n < m) : okk (itr m f s) P := by
  have key : ∀ j, j ≤ n → ∀ m, j < m → ∀ s, I (n - j) s → okk (itr m f s) P := by
    intro j
    induction j with
    | zero =>
      intro _ m hm s hI
      cases m with
      | zero => omega
      | succ m =>
        obtain ⟨x, hx, h⟩ := hs (n - 0) (by omega) s hI
        show okk (bnd (f s) _) P
        rw [hx]
        rcases h with ⟨s2, rfl, h2, -⟩ | ⟨r, rfl, hr⟩
        · omega
        · exact okI hr
    | succ j ih =>
      intro hj m hm s hI
      cases m with
      | zero => omega
      | succ m =>
        obtain ⟨x, hx, h⟩ := hs (n - (j + 1)) (by omega) s hI
        show okk (bnd (f s) _) P
        rw [hx]
        rcases h with ⟨s2, rfl, h2, hI2⟩ | ⟨r, rfl, hr⟩
        · rw [show n - (j + 1) + 1 = n - j by omega] at hI2
          exact ih (by omega) m (by omega) s2 hI2
        · exact okI hr
  exact key n (Nat.le_refl n) m hm s (by rwa [Nat.sub_self])
/-- a loop of n rounds -/
theorem itr_for {σ ρ : Type} {f : σ → Option (σ ⊕ ρ)} (I : Nat → σ → Prop) (P : ρ → Prop) (n : Nat) (hs : ∀ k, k < n → ∀ s, I k s → okk (f s) (fun x => ∃ s2, x = .inl s2 ∧ I (k + 1) s2)) (he : ∀ s, I n s → okk (f s) (fun x => ∃ r, x = .inr r ∧ P r)) {s : σ} (h0 : I 0 s) (m : Nat) (hm : n < m) : okk (itr m f s) P := by
  refine itr_ex I P n (fun k hk s hI => ?_) h0 m hm
  by_cases h : k < n
  · refine okk_mono (hs k h s hI) fun x hx => ?_
    obtain ⟨s2, e, h2⟩ := hx
    exact Or.inl ⟨s2, e, h, h2⟩
  · have : k = n := by omega
    subst this
    exact okk_mono (he s hI) fun x hx => Or.inr hx
theorem okB {α β : Type} {o : Option α} {g : α → Option β} {P : β → Prop} (h : okk o (fun a => okk (g a) P)) : okk (bnd o g) P := by
  obtain ⟨a, rfl, h⟩ := h
  exact h
theorem okB2 {α β : Type} {o : Option (α × Mem)} {g : α → Mem → Option β} {P : β → Prop} (h : okk o (fun a => okk (g a.1 a.2) P)) : okk (bnd2 o g) P := by
  obtain ⟨a, rfl, h⟩ := h
  exact h
theorem ok_eq {α : Type} {o : Option α} {a : α} (h : okk o (fun x => x = a)) : o = some a := by
  obtain ⟨b, e, rfl⟩ := h
  exact e
theorem ok_of {α : Type} {o : Option α} {a : α} {P : α → Prop} (h : o = some a) (hp : P a) : okk o P := ⟨a, h, hp⟩
theorem bnd2_s {α β : Type} (a : α) (S : Mem) (g : α → Mem → Option β) : bnd2 (some (a, S)) g = g a S := rfl
theorem bnd_s {α β : Type} (a : α) (g : α → Option β) : bnd (some a) g = g a := rfl
/-! memory -/
theorem wr_row (S : Mem) (a k : Nat) (v : Int32) : wr S a k v = wrow S a (upd (S a) k v) := rfl
theorem wrow_s (S : Mem) (a : Nat) (g : Row) : wrow S a g a = g := if_pos rfl
theorem wrow_n {S : Mem} {a b : Nat} (g : Row) (h : b ≠ a) : wrow S a g b = S b := if_neg h
theorem wrow_w (S : Mem) (a : Nat) (g g2 : Row) : wrow (wrow S a g) a g2 = wrow S a g2 := by
  funext i
  unfold wrow
  by_cases h : i = a
  · rw [if_pos h, if_pos h]
  · rw [if_neg h, if_neg h, if_neg h]
theorem wrow_id (S : Mem) (a : Nat) : wrow S a (S a) = S := by
  funext i
  unfold wrow
  by_cases h : i = a
  · rw [if_pos h, h]
  · rw [if_neg h]
theorem wrow_c {S : Mem} {a b : Nat} (g g2 : Row) (h : a ≠ b) : wrow (wrow S a g) b g2 = wrow (wrow S b g2) a g := by
  funext i
  unfold wrow
  by_cases h1 : i = a
  · subst h1
    rw [if_neg h, if_pos rfl, if_pos rfl]
  · by_cases h2 : i = b
    · subst h2
      rw [if_pos rfl, if_neg h1, if_pos rfl]
    · rw [if_neg h2, if_neg h1, if_neg h1, if_neg h2]
theorem upd_s (g : Row) (k : Nat) (v : Int32) : upd g k v k = v := by simp [upd]
theorem upd_n {g : Row} {k j : Nat} {v : Int32} (h : j ≠ k) : upd g k v j = g j := by simp [upd, h]
theorem tg57 : tg 57 = 12 := rfl
theorem tg0 : tg 0 = 11 := rfl
theorem slot_ok : ∀ f, f < 8 → ∀ w, w < 7 → ix ((30 + 7 * nI f) + nI w) = fi f w ∧ iab 58 ((30 + 7 * nI f) + nI w) = true := by decide +kernel
theorem iab_row {b : Nat} {j k : Nat} (hb : tg b = 1000 + k) (hk : k < 1000) (h : j < k) : iab b (nI j) = true := by
  unfold iab
  have e : (nI j).toInt = (j : Int) := nI_toInt (by omega)
  simp only [e, hb, Bool.and_eq_true, decide_eq_true_eq]
  omega
