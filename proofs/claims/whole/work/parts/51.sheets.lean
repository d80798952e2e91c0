/-! the sheets: sheet, write -/
theorem rabS : ∀ s, s < 4 → rab 3004 47 (nI s) = true := by decide +kernel
theorem eadS {s : Nat} (h : s < 4) : eadr 3004 47 (ix (nI s)) = 48 + 2 * s := by
  rw [ix_nI (by omega)]
  unfold eadr
  rw [if_pos rfl]
theorem tgS : ∀ s, s < 4 → tg (48 + 2 * s) = 8 ∧ tg (48 + 2 * s + 1) = 1040 := by decide +kernel
theorem iabN {s j : Nat} (h : s < 4) (hj : j < 40) : iab (48 + 2 * s + 1) (nI j) = true := iab_row (k := 40) (tgS s h).2 (by omega) hj
theorem iab64 {s : Nat} (h : s < 4) : iab 64 (nI s) = true := iab_row (k := 4) rfl (by omega) h
theorem iab65 {s : Nat} (h : s < 4) : iab 65 (nI s) = true := iab_row (k := 4) rfl (by omega) h
theorem pl66 (s j : Nat) : (40 : Int32) * nI s + nI j = nI (40 * s + j) := by
  rw [show (40 : Int32) = nI 40 by decide, pk_mul, nI_add]
theorem iab66 {p : Nat} (h : p < 160) : iab 66 (nI p) = true := iab_row (k := 160) rfl (by omega) h
theorem c_isMissing {a : Nat} {S : Mem} (h : tg a = 8) : f_X8_isMissing a S = some (b1 (decide (S a 1 = 0)), S) := by
  unfold f_X8_isMissing
  rw [if_pos h]
  by_cases h0 : S a 1 = 0
  · rw [if_pos h0, dec_t h0]; rfl
  · rw [if_neg h0, dec_f h0]; rfl
theorem INV.sh {S S2 A A2 : Mem} {H : Nat} (hI : INV S A H) (he : ∀ a, a < 48 ∨ 56 ≤ a → S2 a = S a) (ha : ∀ a, a ≠ 64 → a ≠ 65 → a ≠ 66 → A2 a = A a) (hs : SH S2 A2) : INV S2 A2 H := by
  obtain ⟨h1, h2, h3, h4, h5, h6⟩ := hI
  have a57 := ha 57 (by decide) (by decide) (by decide)
  refine ⟨?_, ?_, ?_, ?_, ?_, hs⟩
  · rw [ha 58 (by decide) (by decide) (by decide)]
    exact h1.same fun a _ _ => he a (by omega)
  · rw [he 0 (by omega), a57]; exact h2
  · rw [a57, ha 59 (by decide) (by decide) (by decide)]
    exact h3.imp id fun x => ⟨x.1, x.2.same fun a _ _ => he a (by omega)⟩
  · unfold FI
    rw [he 56 (by omega), ha 62 (by decide) (by decide) (by decide)]; exact h4
  · unfold TP
    rw [he 46 (by omega), he 45 (by omega), a57, ha 63 (by decide) (by decide) (by decide)]; exact h5
def bitsQ (b : Int32) : Prop := b = 0 ∨ b = 8 ∨ b = 16 ∨ b = 32
def zrR (g : Row) (p : Nat) : Row := fun j => if p ≤ j ∧ j < p + 40 then 0 else g j
def shA (A : Mem) (s : Nat) (b m : Int32) : Mem := wrow (wrow (wrow A 64 (upd (A 64) s (if b = 0 then -1 else b))) 65 (upd (A 65) s (if b = 0 then 0 else m))) 66 (zrR (A 66) (40 * s))
noncomputable def sp_sheet (s b m : Int32) (A : Mem) : Int32 × Mem := by
  classical
  exact if isM 0 3 s = true ∧ bitsQ b then (if 0 ≤ m then (if m ≤ 40 then ((if b = 0 then 0 else m), shA A (ix s) b m) else fin A 0) else fin A 6) else fin A 0
theorem shA_n {A : Mem} {s : Nat} {b m : Int32} {a : Nat} (h1 : a ≠ 64) (h2 : a ≠ 65) (h3 : a ≠ 66) : shA A s b m a = A a := by
  unfold shA
  rw [wrow_n _ h3, wrow_n _ h2, wrow_n _ h1]
theorem shA_64 {A : Mem} {s : Nat} {b m : Int32} : shA A s b m 64 = upd (A 64) s (if b = 0 then -1 else b) := by
  unfold shA
  rw [wrow_n _ (by decide), wrow_n _ (by decide), wrow_s]
theorem shA_65 {A : Mem} {s : Nat} {b m : Int32} : shA A s b m 65 = upd (A 65) s (if b = 0 then 0 else m) := by
  unfold shA
  rw [wrow_n _ (by decide), wrow_s]
theorem shA_66 {A : Mem} {s : Nat} {b m : Int32} : shA A s b m 66 = zrR (A 66) (40 * s) := wrow_s _ _ _
theorem zr_end (g : Row) (p : Nat) : (fun j => if p ≤ j ∧ j < p + 40 then (0 : Int32) else g j) = zrR g p := rfl
theorem zr_step (g : Row) (p k : Nat) : upd (fun j => if p ≤ j ∧ j < p + k then 0 else g j) (p + k) 0 = fun j => if p ≤ j ∧ j < p + (k + 1) then 0 else g j := by
  funext j
  by_cases h : j = p + k
  · subst h
    rw [upd_s, if_pos (by omega)]
  · rw [upd_n h]
    by_cases h2 : p ≤ j ∧ j < p + k
    · rw [if_pos h2, if_pos (by omega)]
    · rw [if_neg h2, if_neg (by omega)]
theorem c_begin {s : Nat} {S : Mem} {b m : Int32} (h : s < 4) : f_X8_begin (48 + 2 * s) b m S = some ((), wrow (wr (wr S (48 + 2 * s) 1 b) (48 + 2 * s) 2 (if b = 0 then 0 else m)) (48 + 2 * s + 1) (zrR (S (48 + 2 * s + 1)) 0)) := by
  have hL : ∀ X : Mem, itr 300 i_X8_begin_L20 (48 + 2 * s, 0, X) = some (wrow X (48 + 2 * s + 1) (zrR (X (48 + 2 * s + 1)) 0)) := fun X => by
    have := itr_run (f := i_X8_begin_L20) (r := wrow X (48 + 2 * s + 1) (zrR (X (48 + 2 * s + 1)) 0)) (fun k => (48 + 2 * s, nI k, wrow X (48 + 2 * s + 1) (fun j => if 0 ≤ j ∧ j < 0 + k then 0 else X (48 + 2 * s + 1) j))) 40 (fun k hk => by
      show f_X8_begin_L20 (48 + 2 * s) (nI k) _ = _
      unfold f_X8_begin_L20
      rw [if_neg (show ¬ (40 : Int32) ≤ nI k from nI_ge (b := 40) hk (by decide)), if_pos (tgS s h).1, if_pos (iabN h hk), ix_nI (by omega), nI_1]
      dsimp only
      rw [wr_row, wrow_s, wrow_w]
      have e := zr_step (X (48 + 2 * s + 1)) 0 k
      rw [Nat.zero_add] at e
      rw [← e]
      simp only [Nat.zero_add]) (by
      show f_X8_begin_L20 (48 + 2 * s) (nI 40) _ = _
      unfold f_X8_begin_L20
      rw [if_pos (by decide)]
      rfl) 300 (by omega)
    have e0 : wrow X (48 + 2 * s + 1) (fun j => if 0 ≤ j ∧ j < 0 + 0 then 0 else X (48 + 2 * s + 1) j) = X := by
      have : (fun j => if 0 ≤ j ∧ j < 0 + 0 then (0 : Int32) else X (48 + 2 * s + 1) j) = X (48 + 2 * s + 1) := by
        funext j
        rw [if_neg (by omega)]
      rw [this, wrow_id]
    rw [e0] at this
    exact this
  unfold f_X8_begin f_X8_begin_j15
  rw [if_pos (tgS s h).1]
  dsimp only
  have hne : 48 + 2 * s + 1 ≠ 48 + 2 * s := by omega
  by_cases hb : b = 0
  · rw [if_pos hb, if_pos hb, if_pos (tgS s h).1]
    rw [hL, bnd_s, wr_n hne, wr_n hne]
  · rw [if_neg hb, if_neg hb, if_pos (tgS s h).1]
    rw [hL, bnd_s, wr_n hne, wr_n hne]
theorem le_40 {m : Int32} (h0 : 0 ≤ m) (h : m ≤ 40) : ∃ z, z ≤ 40 ∧ m = nI z := by
  refine isM_t (hi := 40) ?_
  unfold isM
  rw [Int32.le_iff_toInt_le] at h0 h
  have e : (40 : Int32).toInt = 40 := by decide
  have e0 : (0 : Int32).toInt = 0 := by decide
  rw [e] at h
  rw [e0] at h0
  simp only [Bool.and_eq_true, decide_eq_true_eq]
  omega
theorem bitsQ_n {b : Int32} (h : bitsQ b) : ∃ k, (k = 0 ∨ k = 8 ∨ k = 16 ∨ k = 32) ∧ b = nI k := by
  rcases h with h | h | h | h
  · exact ⟨0, by omega, h⟩
  · exact ⟨8, by omega, h⟩
  · exact ⟨16, by omega, h⟩
  · exact ⟨32, by omega, h⟩
theorem SH.sheet {S A : Mem} {s k z : Nat} (hS : SH S A) (h : s < 4) (hk : k = 0 ∨ k = 8 ∨ k = 16 ∨ k = 32) (hz : z ≤ 40) : SH (wrow (wr (wr S (48 + 2 * s) 1 (nI k)) (48 + 2 * s) 2 (if nI k = 0 then 0 else nI z)) (48 + 2 * s + 1) (zrR (S (48 + 2 * s + 1)) 0)) (shA A s (nI k) (nI z)) := fun q hq => by
  have ek : nI k = 0 ↔ k = 0 := by rcases hk with rfl | rfl | rfl | rfl <;> decide
  rw [shA_64, shA_65, shA_66]
  by_cases e : q = s
  · subst e
    refine ⟨k, if k = 0 then 0 else z, hk, ?_, ?_, ?_, ?_, ?_, fun j hj => ?_⟩
    · split <;> omega
    · rw [wrow_n _ (by omega), wr_s, upd_n (by omega), wr_s, upd_s]
    · rw [upd_s]
      by_cases h0 : k = 0
      · rw [if_pos h0, if_pos (ek.mpr h0)]
      · rw [if_neg h0, if_neg (fun z => h0 (ek.mp z))]
    · rw [wrow_n _ (by omega), wr_s, upd_s]
      by_cases h0 : k = 0
      · rw [if_pos h0, if_pos (ek.mpr h0)]; rfl
      · rw [if_neg h0, if_neg (fun z => h0 (ek.mp z))]
    · rw [upd_s]
      by_cases h0 : k = 0
      · rw [if_pos h0, if_pos (ek.mpr h0)]; rfl
      · rw [if_neg h0, if_neg (fun z => h0 (ek.mp z))]
    · rw [show 49 + 2 * q = 48 + 2 * q + 1 by omega, wrow_s]
      unfold zrR
      rw [if_pos (by omega), if_pos (by omega)]
  · obtain ⟨b, z2, h1, h2, h3, h4, h5, h6, h7⟩ := hS q hq
    refine ⟨b, z2, h1, h2, ?_, ?_, ?_, ?_, fun j hj => ?_⟩
    · rw [wrow_n _ (by omega), wr_n (by omega), wr_n (by omega)]; exact h3
    · rw [upd_n e]; exact h4
    · rw [wrow_n _ (by omega), wr_n (by omega), wr_n (by omega)]; exact h5
    · rw [upd_n e]; exact h6
    · rw [wrow_n _ (by omega), wr_n (by omega), wr_n (by omega), h7 j hj]
      unfold zrR
      rw [if_neg (by omega)]
theorem bits_if {β : Type} (b : Int32) (X Y : β) [Decidable (bitsQ b)] : (if b = 0 then X else if b = 8 then X else if b = 16 then X else if b = 32 then X else Y) = if bitsQ b then X else Y := by
  by_cases h0 : b = 0
  · rw [if_pos h0, if_pos (show bitsQ b from Or.inl h0)]
  · rw [if_neg h0]
    by_cases h1 : b = 8
    · rw [if_pos h1, if_pos (show bitsQ b from Or.inr (Or.inl h1))]
    · rw [if_neg h1]
      by_cases h2 : b = 16
      · rw [if_pos h2, if_pos (show bitsQ b from Or.inr (Or.inr (Or.inl h2)))]
      · rw [if_neg h2]
        by_cases h3 : b = 32
        · rw [if_pos h3, if_pos (show bitsQ b from Or.inr (Or.inr (Or.inr h3)))]
        · rw [if_neg h3, if_neg (show ¬ bitsQ b from by rintro (z | z | z | z) <;> contradiction)]
theorem c_sheet {S A : Mem} {H : Nat} {s b m : Int32} (hI : INV S A H) : okk (f_X11_sheet 0 s b m S) (OKC S H (sp_sheet s b m A)) := by
  classical
  unfold f_X11_sheet sp_sheet
  rw [c_out (hi := 3) (by decide), bnd2_s, b1n_if, if_pos tg0, bits_if]
  by_cases h1 : isM 0 3 s = true
  · rw [if_pos h1]
    by_cases h2 : bitsQ b
    · rw [if_pos h2, if_pos (And.intro h1 h2)]
      unfold f_X11_sheet_j36
      rw [if_pos tg0, if_pos tg0, if_pos tg0]
      by_cases h3 : 0 ≤ m
      · rw [if_pos h3, if_pos h3]
        by_cases h4 : m ≤ 40
        · obtain ⟨j, hj, rfl⟩ := isM_t (hi := 3) h1
          have hj4 : j < 4 := by omega
          obtain ⟨z, hz, rfl⟩ := le_40 h3 h4
          obtain ⟨k, hk, rfl⟩ := bitsQ_n h2
          rw [if_pos h4, if_pos h4, if_pos (rabS j hj4), eadS hj4, if_pos (tgS j hj4).1, c_begin hj4, bnd2_s, ix_nI (by omega)]
          refine okI ⟨?_, hI.sh (fun a ha => ?_) (fun a q1 q2 q3 => shA_n q1 q2 q3) (hI.2.2.2.2.2.sheet hj4 hk hz), fun a ha => ?_⟩
          · show wrow _ _ _ _ _ = _
            rw [wrow_n _ (by omega), wr_s, upd_s]
          · show wrow _ _ _ _ = _
            rw [wrow_n _ (by omega), wr_n (by omega), wr_n (by omega)]
          · show wrow _ _ _ _ = _
            rw [wrow_n _ (by omega), wr_n (by omega), wr_n (by omega)]
        · rw [if_neg h4, if_neg h4]
          exact c_fin0 hI
      · rw [if_neg h3, if_neg h3]
        exact c_fin hI (by decide) rfl
    · rw [if_neg h2, if_neg (nr h2)]
      exact c_fin0 hI
  · rw [if_neg h1, if_neg (nl h1)]
    exact c_fin0 hI
theorem m_shL {s : Nat} (h : s < 4) (X : Mem) : itr 300 i_X12_sheet_L94 (57, nI s, 0, X) = some (57, nI s, wrow X 66 (zrR (X 66) (40 * s))) := by
  have := itr_run (f := i_X12_sheet_L94) (r := (57, nI s, wrow X 66 (zrR (X 66) (40 * s)))) (fun k => (57, nI s, nI k, wrow X 66 (fun j => if 40 * s ≤ j ∧ j < 40 * s + k then 0 else X 66 j))) 40 (fun k hk => by
    show f_X12_sheet_L94 57 (nI s) (nI k) _ = _
    unfold f_X12_sheet_L94
    rw [if_neg (show ¬ (40 : Int32) ≤ nI k from nI_ge (b := 40) hk (by decide)), if_pos tg57, pl66, if_pos (iab66 (by omega)), ix_nI (by omega), nI_1]
    dsimp only
    rw [wr_row, wrow_s, wrow_w, zr_step]) (by
    show f_X12_sheet_L94 57 (nI s) (nI 40) _ = _
    unfold f_X12_sheet_L94
    rw [if_pos (by decide)]
    rfl) 300 (by omega)
  have e0 : wrow X 66 (fun j => if 40 * s ≤ j ∧ j < 40 * s + 0 then 0 else X 66 j) = X := by
    have : (fun j => if 40 * s ≤ j ∧ j < 40 * s + 0 then (0 : Int32) else X 66 j) = X 66 := by
      funext j
      rw [if_neg (by omega)]
    rw [this, wrow_id]
  rw [e0] at this
  exact this
theorem m_sheet {S : Mem} {s b m : Int32} : okk (f_X12_sheet 57 s b m S) (OKM S (sp_sheet s b m (mp S))) := by
  classical
  unfold f_X12_sheet sp_sheet
  rw [m_isSheet, bnd2_s, b1_if, if_pos tg57, bits_if]
  by_cases h1 : isM 0 3 s = true
  · rw [if_pos h1]
    by_cases h2 : bitsQ b
    · rw [if_pos h2, if_pos (And.intro h1 h2)]
      unfold f_X12_sheet_j36
      rw [if_pos tg57, if_pos tg57, if_pos tg57]
      by_cases h3 : 0 ≤ m
      · rw [if_pos h3, if_pos h3]
        by_cases h4 : m ≤ 40
        · obtain ⟨j, hj, rfl⟩ := isM_t (hi := 3) h1
          have hj4 : j < 4 := by omega
          rw [if_pos h4, if_pos h4]
          have key : ∀ x y : Int32, okk (f_X12_sheet_j90 57 (nI j) 65 (nI j) y (wr S 64 j x)) (OKM S (y, wrow (wrow (wrow (mp S) 64 (upd (mp S 64) j x)) 65 (upd (mp S 65) j y)) 66 (zrR (mp S 66) (40 * j)))) := fun x y => by
            unfold f_X12_sheet_j90
            rw [if_pos (iab65 hj4), ix_nI (by omega)]
            dsimp only
            rw [m_shL hj4, bnd_s]
            dsimp only
            rw [if_pos tg57, if_pos (iab65 hj4), ix_nI (by omega), wrow_n _ (by decide), wr_s, upd_s, wr_n (by decide), wr_n (by decide), wr_row, wr_n (by decide), wr_row]
            refine OKM.hi (fun a ha => ?_) (fun a ha => ?_)
            · exact hi_row (hi_row (hi_row (hi_mp S) _ _) _ _) _ _ a ha
            · rw [wrow_n _ (by omega), wrow_n _ (by omega), wrow_n _ (by omega)]
          unfold f_X12_sheet_j75
          rw [if_pos (iab64 hj4), if_pos tg57, if_pos (iab64 hj4), if_pos tg57, ix_nI (by omega)]
          unfold shA
          by_cases h0 : b = 0
          · rw [if_pos h0, if_pos h0, if_pos h0, if_pos h0]
            exact key _ _
          · rw [if_neg h0, if_neg h0, if_neg h0, if_neg h0]
            exact key _ _
        · rw [if_neg h4, if_neg h4]
          exact m_fin0
      · rw [if_neg h3, if_neg h3]
        exact m_fin (k := 6) (by decide) (by decide)
    · rw [if_neg h2, if_neg (nr h2)]
      exact m_fin0
  · rw [if_neg h1, if_neg (nl h1)]
    exact m_fin0
