/-! WHAT A RUN KEEPS: the class's cells tell the reference's rows -/
def isM (lo hi : Int) (v : Int32) : Bool := decide (lo ≤ v.toInt) && decide (v.toInt ≤ hi)
theorem isM_t {hi : Nat} {v : Int32} (h : isM 0 hi v = true) : ∃ j, j ≤ hi ∧ v = nI j := by
  unfold isM at h
  simp only [Bool.and_eq_true, decide_eq_true_eq] at h
  have hlt : v.toInt < 2 ^ 31 := Int32.toInt_lt v
  refine ⟨v.toInt.toNat, by omega, ?_⟩
  apply Int32.toInt_inj.mp
  rw [nI_toInt (by omega)]
  omega
theorem isM_lo {lo hi : Nat} {v : Int32} (h : isM lo hi v = true) : ∃ j, lo ≤ j ∧ j ≤ hi ∧ v = nI j := by
  unfold isM at h
  simp only [Bool.and_eq_true, decide_eq_true_eq] at h
  have hlt : v.toInt < 2 ^ 31 := Int32.toInt_lt v
  refine ⟨v.toInt.toNat, by omega, by omega, ?_⟩
  apply Int32.toInt_inj.mp
  rw [nI_toInt (by omega)]
  omega
theorem isM_of {lo hi j : Nat} (h : j < 2 ^ 31) (h1 : lo ≤ j) (h2 : j ≤ hi) : isM lo hi (nI j) = true := by
  unfold isM
  rw [nI_toInt h]
  simp only [Bool.and_eq_true, decide_eq_true_eq]
  omega
theorem isM_f {lo hi : Int} {v : Int32} (h : isM lo hi v = false) : v.toInt < lo ∨ hi < v.toInt := by
  unfold isM at h
  simp only [Bool.and_eq_false_iff, decide_eq_false_iff_not] at h
  omega
/-- in this order: wood, wind and the others in row 58 -/
def fndR (r : Row) (k : Nat) : Row := upd (upd r 0 (r 0 + 1)) (k + 1) (r (k + 1) + 1)
def fin (A : Mem) (k : Nat) : Int32 × Mem := ((-1000001) - nI k, wrow A 62 (fndR (A 62) k))
def SP (n : Nat) (g : Row) : Prop := ∀ k, k < 10 → g (86 + k) = -1 ∨ ∃ f, f < n ∧ g (86 + k) = nI f
def RW (S : Mem) (t : Nat) (g : Row) (H : Nat) : Prop := ∃ n, WF n g ∧ SP n g ∧ (∃ h, h ≤ H ∧ g 1 = nI h) ∧ Rl S t n g
def FI (S A : Mem) : Prop := (∀ k, k < 7 → S 56 k = A 62 (k + 1)) ∧ A 62 0 = A 62 1 + A 62 2 + A 62 3 + A 62 4 + A 62 5 + A 62 6 + A 62 7
def TP (S A : Mem) : Prop := ∃ tp, tp ≤ 120 ∧ S 45 1 = nI tp ∧ A 57 7 = nI tp ∧ ∀ i, i < tp → ∃ q, q < 256 ∧ A 63 i = nI q ∧ S 46 i = (nI q).toInt8.toInt32
def SH (S A : Mem) : Prop := ∀ s, s < 4 → ∃ b z, (b = 0 ∨ b = 8 ∨ b = 16 ∨ b = 32) ∧ z ≤ 40 ∧ S (48 + 2 * s) 1 = nI b ∧ A 64 s = (if b = 0 then -1 else nI b) ∧ S (48 + 2 * s) 2 = nI z ∧ A 65 s = nI z ∧ ∀ j, j < 40 → S (49 + 2 * s) j = A 66 (40 * s + j)
def INV (S A : Mem) (H : Nat) : Prop := RW S 9 (A 58) H ∧ S 0 6 = A 57 4 ∧ (A 57 4 = 0 ∨ A 57 4 = 1 ∧ RW S 33 (A 59) H) ∧ FI S A ∧ TP S A ∧ SH S A
/-- the reference's cells that tell its state -/
def PE (B C : Mem) : Prop := B 57 4 = C 57 4 ∧ B 57 7 = C 57 7 ∧ B 58 = C 58 ∧ B 59 = C 59 ∧ B 62 = C 62 ∧ B 63 = C 63 ∧ B 64 = C 64 ∧ B 65 = C 65 ∧ B 66 = C 66
theorem PE.rf {B : Mem} : PE B B := ⟨rfl, rfl, rfl, rfl, rfl, rfl, rfl, rfl, rfl⟩
theorem INV.pe {S A B : Mem} {H : Nat} (h : INV S A H) (p : PE B A) : INV S B H := by
  obtain ⟨p1, p2, p3, p4, p5, p6, p7, p8, p9⟩ := p
  unfold INV FI TP SH
  rw [p1, p2, p3, p4, p5, p6, p7, p8, p9]
  exact h
theorem RW.mono {S : Mem} {t H H2 : Nat} {g : Row} (h : RW S t g H) (hh : H ≤ H2) : RW S t g H2 := by
  obtain ⟨n, h1, h2, ⟨x, hx, e⟩, h4⟩ := h
  exact ⟨n, h1, h2, ⟨x, by omega, e⟩, h4⟩
theorem INV.mono {S A : Mem} {H H2 : Nat} (h : INV S A H) (hh : H ≤ H2) : INV S A H2 := by
  obtain ⟨h1, h2, h3, h4⟩ := h
  exact ⟨h1.mono hh, h2, h3.imp id (fun x => ⟨x.1, x.2.mono hh⟩), h4⟩
theorem Rl.same {S S2 : Mem} {t n : Nat} {g : Row} (h : Rl S t n g) (hn : n ≤ 8) (he : ∀ a, t ≤ a → a < t + 12 → S2 a = S a) : Rl S2 t n g := by
  obtain ⟨h1, h2, h3, h4, h5, h6, h7, h8⟩ := h
  have e : S2 t = S t := he t (by omega) (by omega)
  refine ⟨by rw [e]; exact h1, by rw [e]; exact h2, by rw [e]; exact h3, by rw [e]; exact h4, by rw [e]; exact h5, fun c hc => ?_, fun f hf x hx => ?_, fun i hi => ?_⟩
  · rw [he _ (by omega) (by omega)]; exact h6 c hc
  · rw [he _ (by unfold fa; omega) (by unfold fa; omega)]; exact h7 f hf x hx
  · rw [he _ (by omega) (by omega)]; exact h8 i hi
theorem RW.same {S S2 : Mem} {t H : Nat} {g : Row} (h : RW S t g H) (he : ∀ a, t ≤ a → a < t + 12 → S2 a = S a) : RW S2 t g H := by
  obtain ⟨n, h1, h2, h3, h4⟩ := h
  exact ⟨n, h1, h2, h3, h4.same h1.1 he⟩
/-- what the state doesn't rest on: the trial, the reader's own marks -/
theorem INV.same {S S2 A : Mem} {H : Nat} (h : INV S A H) (he : ∀ a, a < 57 → (a < 21 ∨ 33 ≤ a) → a ≠ 45 → S2 a = S a) (h45 : S2 45 1 = S 45 1) : INV S2 A H := by
  obtain ⟨h1, h2, h3, h4, h5, h6⟩ := h
  refine ⟨h1.same fun a _ _ => he a (by omega) (by omega) (by omega), by rw [he 0 (by omega) (by omega) (by omega)]; exact h2, h3.imp id fun x => ⟨x.1, x.2.same fun a _ _ => he a (by omega) (by omega) (by omega)⟩, ?_, ?_, ?_⟩
  · unfold FI
    rw [he 56 (by omega) (by omega) (by omega)]; exact h4
  · unfold TP
    rw [he 46 (by omega) (by omega) (by omega), h45]; exact h5
  · intro s hs
    obtain ⟨b, z, q⟩ := h6 s hs
    refine ⟨b, z, ?_⟩
    rw [he (48 + 2 * s) (by omega) (by omega) (by omega), he (49 + 2 * s) (by omega) (by omega) (by omega)]
    exact q
def mp (S : Mem) : Mem := fun a => if a < 57 then fun _ => 0 else S a
theorem mp_e {S S2 : Mem} (h : ∀ a, 57 ≤ a → S2 a = S a) : mp S2 = mp S := by
  funext a
  unfold mp
  by_cases ha : a < 57
  · rw [if_pos ha, if_pos ha]
  · rw [if_neg ha, if_neg ha, h a (by omega)]
/-- how a call of the class, a call of the reference ends well: r is the answer and the state then -/
def OKC (S : Mem) (H : Nat) (r : Int32 × Mem) : Int32 × Mem → Prop := fun x => x.1 = r.1 ∧ INV x.2 r.2 H ∧ ∀ a, 57 ≤ a → x.2 a = S a
def OKM (S : Mem) (r : Int32 × Mem) : Int32 × Mem → Prop := fun x => x.1 = r.1 ∧ PE x.2 r.2 ∧ ∀ a, a < 57 → x.2 a = S a
theorem OKC.mono {S : Mem} {H H2 : Nat} {r : Int32 × Mem} (hh : H ≤ H2) {x : Int32 × Mem} (h : OKC S H r x) : OKC S H2 r x := ⟨h.1, h.2.1.mono hh, h.2.2⟩
/-- an int in a range, as the class asks and as the reference asks -/
theorem c_out {v m : Int32} {hi : Int} (e : m.toInt = hi) (S : Mem) : f_X11_outside v m S = some (b1 (!isM 0 hi v), S) := by
  unfold f_X11_outside f_X11_outside_j9 b1 isM
  by_cases h0 : v < 0
  · have h1 := Int32.lt_iff_toInt_lt.mp h0
    have z0 : (0 : Int32).toInt = 0 := by decide
    rw [if_pos h0, decide_eq_false (p := (0 : Int) ≤ v.toInt) (by omega)]
    rfl
  · have h1 := Int32.le_iff_toInt_le.mp (Int32.not_lt.mp h0)
    have z0 : (0 : Int32).toInt = 0 := by decide
    rw [if_neg h0, decide_eq_true (p := (0 : Int) ≤ v.toInt) (by omega)]
    by_cases h2 : v ≤ m
    · have h3 := Int32.le_iff_toInt_le.mp h2
      rw [if_pos h2, decide_eq_true (by omega)]
      rfl
    · have h3 := Int32.lt_iff_toInt_lt.mp (Int32.not_le.mp h2)
      rw [if_neg h2, decide_eq_false (by omega)]
      rfl
theorem m_isIn {v : Int32} {lo hi : Int64} {l u : Int} (hl : lo.toInt = l) (hu : hi.toInt = u) (S : Mem) : f_X12_isIn v.toInt64 lo hi S = some (b1 (isM l u v), S) := by
  unfold f_X12_isIn b1 isM
  have e : v.toInt64.toInt = v.toInt := by simp
  have k : ∀ a b : Int64, (lg_cmp a b < 0 ↔ a.toInt < b.toInt) ∧ (0 < lg_cmp a b ↔ b.toInt < a.toInt) := by
    intro a b
    refine ⟨?_, ?_⟩
    · rw [← Int32.not_le, lg_cmp_ge, Int64.not_le, Int64.lt_iff_toInt_lt]
    · rw [← Int32.not_le, lg_cmp_le, Int64.not_le, Int64.lt_iff_toInt_lt]
  by_cases h1 : v.toInt < l
  · rw [if_pos ((k _ _).1.mpr (by omega)), decide_eq_false (p := l ≤ v.toInt) (by omega)]
    rfl
  · rw [if_neg (fun z => h1 (by have := (k _ _).1.mp z; omega)), decide_eq_true (p := l ≤ v.toInt) (by omega)]
    by_cases h2 : u < v.toInt
    · rw [if_pos ((k _ _).2.mpr (by omega)), decide_eq_false (by omega)]
      rfl
    · rw [if_neg (fun z => h2 (by have := (k _ _).2.mp z; omega)), decide_eq_true (by omega)]
      rfl
