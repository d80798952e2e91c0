/-! quench -/
def bitQ (s f : Nat) : Bool := decide ((srI (nI s) (nI f) &&& 1) = 1)
def qn1 (s : Nat) (g : Row) (f : Nat) : Row := if bitQ s f = true then upd (upd g (fi f 3) 0) (fi f 5) 0 else g
def qR (n s : Nat) (g : Row) : Row := fol (qn1 s) n g
noncomputable def quP (n k : Nat) (g : Row) (s : Nat) : Bool := decide (hoursR n k (qR n s g) 4 = g 4)
def pcN (s : Nat) : Nat := s % 2 + s / 2 % 2 + s / 4 % 2 + s / 8 % 2 + s / 16 % 2 + s / 32 % 2 + s / 64 % 2 + s / 128 % 2
def QB (P : Nat → Bool) (m s : Nat) : Prop := s < m ∧ P s = true ∧ ∀ i, i < m → P i = true → pcN s < pcN i ∨ (pcN s = pcN i ∧ s ≤ i)
def bqN (P : Nat → Bool) : Nat → Option Nat
  | 0 => none
  | m + 1 => match bqN P m with
    | none => if P m = true then some m else none
    | some b => if pcN b ≤ pcN m then some b else if P m = true then some m else some b
theorem bqN_ok {P : Nat → Bool} : ∀ m, (bqN P m = none ∧ ∀ i, i < m → P i = false) ∨ ∃ s, bqN P m = some s ∧ QB P m s
  | 0 => Or.inl ⟨rfl, fun i hi => absurd hi (by omega)⟩
  | m + 1 => by
    unfold bqN
    rcases bqN_ok (P := P) m with ⟨e, h⟩ | ⟨s, e, h1, h2, h3⟩
    · rw [e]
      dsimp only
      by_cases hp : P m = true
      · rw [if_pos hp]
        refine Or.inr ⟨m, rfl, by omega, hp, fun i hi hpi => ?_⟩
        by_cases hm : i = m
        · subst hm; exact Or.inr ⟨rfl, Nat.le_refl _⟩
        · rw [h i (by omega)] at hpi; exact absurd hpi (by decide)
      · rw [if_neg hp]
        refine Or.inl ⟨rfl, fun i hi => ?_⟩
        by_cases hm : i = m
        · subst hm; exact Bool.eq_false_iff.mpr hp
        · exact h i (by omega)
    · rw [e]
      dsimp only
      by_cases hc : pcN s ≤ pcN m
      · rw [if_pos hc]
        refine Or.inr ⟨s, rfl, by omega, h2, fun i hi hpi => ?_⟩
        by_cases hm : i = m
        · subst hm; omega
        · exact h3 i (by omega) hpi
      · rw [if_neg hc]
        by_cases hp : P m = true
        · rw [if_pos hp]
          refine Or.inr ⟨m, rfl, by omega, hp, fun i hi hpi => ?_⟩
          by_cases hm : i = m
          · subst hm; exact Or.inr ⟨rfl, Nat.le_refl _⟩
          · rcases h3 i (by omega) hpi with h | h <;> omega
        · rw [if_neg hp]
          refine Or.inr ⟨s, rfl, by omega, h2, fun i hi hpi => ?_⟩
          by_cases hm : i = m
          · subst hm; exact absurd hpi hp
          · exact h3 i (by omega) hpi
theorem bqN_eq {P : Nat → Bool} {m s : Nat} (h : QB P m s) : bqN P m = some s := by
  obtain ⟨h1, h2, h3⟩ := h
  rcases bqN_ok (P := P) m with ⟨e, h⟩ | ⟨t, e, k1, k2, k3⟩
  · rw [h s h1] at h2; exact absurd h2 (by decide)
  · rw [e]
    congr 1
    rcases h3 t k1 k2 with a | a <;> rcases k3 s h1 h2 with b | b <;> omega
/-- what stands after crossings were counted on from c -/
def Lv (c d : Int32) : Prop := d ≤ 99999 ∧ (c < d ∨ 99999 < c)
theorem Lv_ne {c d : Int32} (h : Lv c d) : ¬ d = c := fun e => by
  obtain ⟨h1, h2⟩ := h
  subst e
  rw [Int32.lt_iff_toInt_lt, Int32.lt_iff_toInt_lt] at h2
  rw [Int32.le_iff_toInt_le] at h1
  omega
theorem i_1 : (1 : Int32).toInt = 1 := by decide
theorem i_m : (99999 : Int32).toInt = 99999 := by decide
theorem add1 {d : Int32} (h : d.toInt ≤ 99999) : (d + 1).toInt = d.toInt + 1 := by
  rw [Int32.toInt_add, i_1]
  have := Int32.le_toInt d
  apply Int.bmod_eq_of_le <;> omega
theorem mnI_t (a b : Int32) : (mnI a b).toInt = if b.toInt ≤ a.toInt then b.toInt else a.toInt := by
  unfold mnI
  by_cases h : b ≤ a
  · rw [if_pos h, if_pos (Int32.le_iff_toInt_le.mp h)]
  · rw [if_neg h, if_neg (fun z => h (Int32.le_iff_toInt_le.mpr z))]
theorem Lv_step {c d : Int32} (h : Lv c d) : Lv c (mnI 99999 (d + 1)) := by
  obtain ⟨h1, h2⟩ := h
  rw [Int32.lt_iff_toInt_lt, Int32.lt_iff_toInt_lt, i_m] at h2
  rw [Int32.le_iff_toInt_le, i_m] at h1
  unfold Lv
  rw [Int32.lt_iff_toInt_lt, Int32.lt_iff_toInt_lt, Int32.le_iff_toInt_le, mnI_t, i_m, add1 h1]
  split <;> omega
theorem add1_c (d : Int32) : (d + 1).toInt = d.toInt + 1 ∨ (d.toInt = 2147483647 ∧ (d + 1).toInt = -2147483648) := by
  by_cases h : d.toInt = 2147483647
  · right
    refine ⟨h, ?_⟩
    have : d = 2147483647 := Int32.toInt_inj.mp (h.trans (by decide))
    subst this
    decide
  · left
    rw [Int32.toInt_add, i_1]
    have h1 := Int32.le_toInt d
    have h2 : d.toInt < 2 ^ 31 := Int32.toInt_lt d
    apply Int.bmod_eq_of_le <;> omega
theorem Lv_first (c : Int32) : mnI 99999 (c + 1) = c ∨ Lv c (mnI 99999 (c + 1)) := by
  by_cases h : c = 99999
  · subst h; left; decide
  · right
    have h1 : c.toInt ≠ 99999 := fun z => h (Int32.toInt_inj.mp (z.trans (by decide)))
    unfold Lv
    rw [Int32.lt_iff_toInt_lt, Int32.lt_iff_toInt_lt, Int32.le_iff_toInt_le, mnI_t, i_m]
    rcases add1_c c with e | ⟨e1, e⟩ <;> rw [e] <;> split <;> omega
def Jv (c d : Int32) : Prop := d = c ∨ Lv c d
theorem Jv_step {c d : Int32} (h : Jv c d) : Jv c (mnI 99999 (d + 1)) := by
  rcases h with rfl | h
  · exact Lv_first d
  · exact Or.inr (Lv_step h)
theorem cross_I {I : Int32 → Prop} (hI : ∀ d, I d → I (mnI 99999 (d + 1))) {n : Nat} {g : Row} {bg : Nat → Int32} (h : I (g 4)) : I (crossA bg n g 4) := by
  unfold crossA
  refine fol_ind (n := n) (I := fun g : Row => I (g 4)) (fun a ha g hg => ?_) n (Nat.le_refl _) g h
  refine fol_ind (n := n - (a + 1)) (F := fun g j => cross1 bg g a (a + 1 + j)) (I := fun g : Row => I (g 4)) (fun b hb g hg => ?_) _ (Nat.le_refl _) g hg
  unfold cross1
  split
  · rw [upd_s]; exact hI _ hg
  · exact hg
theorem burn_4 {n : Nat} {g : Row} : fol burn1 n g 4 = g 4 := fol_ind (n := n) (I := fun x : Row => x 4 = g 4) (fun f _ x hx => by
  unfold burn1
  split
  · rw [upd_n (lo_ne (by omega)), upd_n (lo_ne (by omega))]; exact hx
  · exact hx) n (Nat.le_refl _) g rfl
theorem mvN_4 {f : Nat} : ∀ (k : Nat) (g : Row), mvN k g f 4 = g 4
  | 0, _ => rfl
  | k + 1, g => by
    unfold mvN
    split
    · rfl
    · split
      · rw [upd_n (lo_ne (by omega))]
      · rw [mvN_4 k, upd_n (lo_ne (by omega))]
theorem move_4 {n : Nat} {g : Row} : fol move1 n g 4 = g 4 := fol_ind (n := n) (I := fun x : Row => x 4 = g 4) (fun f _ x hx => by
  unfold move1
  split
  · exact hx
  · rw [mvN_4]; exact hx) n (Nat.le_refl _) g rfl
theorem settle_4 {n : Nat} {g : Row} : fol settle1 n g 4 = g 4 := fol_ind (n := n) (I := fun x : Row => x 4 = g 4) (fun f _ x hx => by
  unfold settle1
  split
  · rw [upd_n (lo_ne (by omega)), upd_n (lo_ne (by omega)), upd_n (by omega)]; exact hx
  · exact hx) n (Nat.le_refl _) g rfl
theorem hourR_I {I : Int32 → Prop} (hI : ∀ d, I d → I (mnI 99999 (d + 1))) {n : Nat} {g : Row} (h : I (g 4)) : I (hourR n g 4) := by
  unfold hourR
  rw [upd_n (by decide), settle_4]
  refine cross_I hI ?_
  rw [move_4, burn_4]
  exact h
theorem hours_J {n : Nat} {g : Row} {c : Int32} (h : g 4 = c) : ∀ k, Jv c (hoursR n k g 4)
  | 0 => Or.inl h
  | k + 1 => hourR_I (I := Jv c) (g := hoursR n k g) (fun _ => Jv_step) (hours_J h k)
theorem hours_L {n i : Nat} {g : Row} {c : Int32} (h : Lv c (hoursR n i g 4)) : ∀ d, Lv c (hoursR n (i + d) g 4)
  | 0 => h
  | d + 1 => hourR_I (I := Lv c) (g := hoursR n (i + d) g) (fun _ => Lv_step) (hours_L h d)
/-- once they have crossed, they have crossed -/
theorem left_stays {n i k : Nat} {g : Row} {c : Int32} (h : g 4 = c) (hne : ¬ hoursR n i g 4 = c) (hik : i ≤ k) : ¬ hoursR n k g 4 = c := by
  rcases hours_J h i with e | e
  · exact absurd e hne
  · have := hours_L e (k - i)
    rw [show i + (k - i) = k by omega] at this
    exact Lv_ne this
/-- with all of them out, none cross -/
def Zr (n : Nat) (g : Row) : Prop := ∀ f, f < n → g (fi f 3) = 0 ∧ g (fi f 5) = 0
theorem burns0 (h k : Int32) : mnI (burnsK h k) 0 = 0 ∧ mnI 999 (0 + mnI (burnsK h k) 0) = 0 ∧ (0 : Int32) - mnI (burnsK h k) 0 = 0 := by
  obtain ⟨b, hb, e⟩ := burnsK_in h k
  rw [e]
  exact (by decide +kernel : ∀ b, b ≤ 10 → mnI (nI b) 0 = 0 ∧ mnI 999 (0 + mnI (nI b) 0) = 0 ∧ (0 : Int32) - mnI (nI b) 0 = 0) b hb
theorem le00 : (0 : Int32) ≤ 0 := by decide
theorem Zr_burn {n : Nat} {g : Row} (h : Zr n g) : Zr n (fol burn1 n g) := fol_ind (n := n) (I := Zr n) (fun f hf x hx j hj => by
  unfold burn1
  split
  · obtain ⟨b1, b2, b3⟩ := burns0 (x 1) (x (fi f 0))
    rw [(hx f hf).1, (hx f hf).2, b2, b3]
    by_cases e : j = f
    · subst e
      rw [upd_n (fi_ne (f := j) (j := j) (w := 3) (x := 5) (by omega) (by omega) (by omega)), upd_s, upd_s]
      exact ⟨rfl, rfl⟩
    · rw [upd_n (fi_ne (by omega) (by omega) (Or.inl e)), upd_n (fi_ne (by omega) (by omega) (Or.inl e)), upd_n (fi_ne (by omega) (by omega) (Or.inl e)), upd_n (fi_ne (by omega) (by omega) (Or.inl e))]
      exact hx j hj
  · exact hx j hj) n (Nat.le_refl _) g h
theorem Zr_move {n : Nat} {g : Row} (h : Zr n g) : fol move1 n g = g := fol_ind (n := n) (I := fun x => x = g) (fun f hf x hx => by
  subst hx
  unfold move1
  rw [if_pos (by rw [(h f hf).2]; exact le00)]) n (Nat.le_refl _) g rfl
theorem Zr_cross {n : Nat} {g : Row} {bg : Nat → Int32} (h : Zr n g) : crossA bg n g = g := by
  unfold crossA
  refine fol_ind (n := n) (I := fun x : Row => x = g) (fun a ha x hx => ?_) n (Nat.le_refl _) g rfl
  subst hx
  refine fol_ind (n := n - (a + 1)) (F := fun g j => cross1 bg g a (a + 1 + j)) (I := fun y : Row => y = x) (fun b hb y hy => ?_) _ (Nat.le_refl _) x rfl
  subst hy
  unfold cross1
  rw [if_neg (fun z : crossQ _ _ _ _ => z.2.1 (by rw [(h a ha).2]; exact le00))]
theorem Zr_settle {n : Nat} {g : Row} (hw : WF n g) (h : Zr n g) : Zr n (fol settle1 n g) := (fol_ind (n := n) (I := fun x => WF n x ∧ Zr n x) (fun f hf x hx => ⟨WF_settle1 hx.1 hf, fun j hj => by
  unfold settle1
  split
  · obtain ⟨-, -, ⟨c, hc, e⟩, -⟩ := hx.1.2.2 f hf
    rw [e, ix_nI (by omega), upd_n (fi_ne (f := j) (j := f) (w := 3) (x := 4) (by omega) (by omega) (by omega)), upd_n (fi_ne (f := j) (j := f) (w := 3) (x := 5) (by omega) (by omega) (by omega)), upd_n (lo_ne (p := 5 + c) (f := j) (w := 3) (by omega)).symm, upd_n (fi_ne (f := j) (j := f) (w := 5) (x := 4) (by omega) (by omega) (by omega))]
    refine ⟨(hx.2 j hj).1, ?_⟩
    by_cases e : j = f
    · subst e; rw [upd_s]
    · rw [upd_n (fi_ne (by omega) (by omega) (Or.inl e)), upd_n (lo_ne (p := 5 + c) (f := j) (w := 5) (by omega)).symm]
      exact (hx.2 j hj).2
  · exact hx.2 j hj⟩) n (Nat.le_refl _) g ⟨hw, h⟩).2
theorem Zr_hour {n : Nat} {g : Row} (hw : WF n g) (h : Zr n g) : Zr n (hourR n g) ∧ hourR n g 4 = g 4 := by
  unfold hourR
  have hb := Zr_burn h
  rw [Zr_move hb, Zr_cross hb]
  refine ⟨fun f hf => ?_, ?_⟩
  · rw [upd_n (lo_ne (by omega)).symm, upd_n (lo_ne (by omega)).symm]
    exact Zr_settle (WF_burnA hw (Nat.le_refl _)) hb f hf
  · rw [upd_n (by decide), settle_4, burn_4]
theorem Zr_hours {n : Nat} {g : Row} (hw : WF n g) (h : Zr n g) : ∀ k, Zr n (hoursR n k g) ∧ hoursR n k g 4 = g 4
  | 0 => ⟨h, rfl⟩
  | k + 1 => by
    obtain ⟨h1, h2⟩ := Zr_hours hw h k
    obtain ⟨h3, h4⟩ := Zr_hour (WF_hoursR hw k) h1
    exact ⟨h3, h4.trans h2⟩
theorem qn1_4 {s f : Nat} {g : Row} : qn1 s g f 4 = g 4 := by
  unfold qn1
  split
  · rw [upd_n (lo_ne (by omega)), upd_n (lo_ne (by omega))]
  · rfl
theorem qR_4 {s n : Nat} {g : Row} : qR n s g 4 = g 4 := fol_ind (n := n) (I := fun x : Row => x 4 = g 4) (fun f _ x hx => qn1_4.trans hx) n (Nat.le_refl _) g rfl
theorem qn1_1 {s f : Nat} {g : Row} : qn1 s g f 1 = g 1 := by
  unfold qn1
  split
  · rw [upd_n (lo_ne (by omega)), upd_n (lo_ne (by omega))]
  · rfl
theorem qR_1 {s n : Nat} {g : Row} : qR n s g 1 = g 1 := fol_ind (n := n) (I := fun x : Row => x 1 = g 1) (fun f _ x hx => qn1_1.trans hx) n (Nat.le_refl _) g rfl
theorem qn1_hi {s f p : Nat} {g : Row} (hf : f < 8) (hp : 86 ≤ p) : qn1 s g f p = g p := by
  unfold qn1
  split
  · rw [upd_n (by unfold fi; omega), upd_n (by unfold fi; omega)]
  · rfl
theorem qR_hi {s n p : Nat} {g : Row} (hn : n ≤ 8) (hp : 86 ≤ p) : qR n s g p = g p := fol_ind (n := n) (I := fun x : Row => x p = g p) (fun f hf x hx => (qn1_hi (by omega) hp).trans hx) n (Nat.le_refl _) g rfl
theorem WF_qn1 {n s f : Nat} {g : Row} (h : WF n g) (hf : f < n) : WF n (qn1 s g f) := by
  unfold qn1
  split
  · exact WF_slot (WF_slot h hf (Or.inl rfl)) hf (Or.inr (Or.inl rfl))
  · exact h
theorem WF_qk {n s k : Nat} {g : Row} (h : WF n g) (hk : k ≤ n) : WF n (fol (qn1 s) k g) := fol_ind (n := n) (fun _ hf _ hg => WF_qn1 hg hf) k hk g h
theorem WF_qR {n s : Nat} {g : Row} (h : WF n g) : WF n (qR n s g) := WF_qk h (Nat.le_refl _)
theorem bit_all : ∀ n, n ≤ 8 → ∀ f, f < n → bitQ (2 ^ n - 1) f = true := by decide +kernel
theorem Zr_qk {n s : Nat} {g : Row} (hb : ∀ f, f < n → bitQ s f = true) : ∀ k, k ≤ n → Zr k (fol (qn1 s) k g)
  | 0, _, f, hf => absurd hf (by omega)
  | k + 1, hk, f, hf => by
    show qn1 s (fol (qn1 s) k g) k _ = _ ∧ qn1 s (fol (qn1 s) k g) k _ = _
    unfold qn1
    rw [if_pos (hb k (by omega))]
    by_cases e : f = k
    · subst e
      rw [upd_n (fi_ne (f := f) (j := f) (w := 3) (x := 5) (by omega) (by omega) (by omega)), upd_s, upd_s]
      exact ⟨rfl, rfl⟩
    · rw [upd_n (fi_ne (by omega) (by omega) (Or.inl e)), upd_n (fi_ne (by omega) (by omega) (Or.inl e)), upd_n (fi_ne (by omega) (by omega) (Or.inl e)), upd_n (fi_ne (by omega) (by omega) (Or.inl e))]
      exact Zr_qk hb k (by omega) f (by omega)
theorem quP_all {n k : Nat} {g : Row} (hw : WF n g) : quP n k g (2 ^ n - 1) = true := by
  unfold quP
  rw [(Zr_hours (WF_qR hw) (Zr_qk (bit_all n hw.1) n (Nat.le_refl _)) k).2, qR_4]
  exact decide_eq_true rfl
