/-! the reference takes a token -/
def MT (Q : Nat → Nat) (tp p : Nat) (S : Mem) : Prop := S 57 7 = nI tp ∧ S 57 12 = nI (tkN Q tp p) ∧ S 57 13 = nI (stN Q tp p) ∧ S 57 14 = nI (nxN Q tp p) ∧ S 57 15 = nI (nmN Q tp p)
def MB (Q : Nat → Nat) (tp : Nat) (S : Mem) : Prop := (∀ i, Q i < 256) ∧ ∀ i, i < tp → S 63 i = nI (Q i)
def MF (S S2 : Mem) : Prop := (∀ a, a ≠ 57 → S2 a = S a) ∧ ∀ k, k < 12 ∨ 15 < k → S2 57 k = S 57 k
theorem MF.rf {S : Mem} : MF S S := ⟨fun _ _ => rfl, fun _ _ => rfl⟩
theorem MF.tr {S S2 S3 : Mem} (h : MF S S2) (h2 : MF S2 S3) : MF S S3 := ⟨fun a ha => (h2.1 a ha).trans (h.1 a ha), fun k hk => (h2.2 k hk).trans (h.2 k hk)⟩
theorem MF.wr {S S2 : Mem} {k : Nat} {v : Int32} (h : MF S S2) (h1 : 12 ≤ k) (h2 : k ≤ 15) : MF S (wr S2 57 k v) := ⟨fun a ha => (wr_n ha).trans (h.1 a ha), fun j hj => by rw [wr_s, upd_n (by omega)]; exact h.2 j hj⟩
theorem iab63 {j : Nat} (h : j < 120) : iab 63 (nI j) = true := iab_row (k := 120) rfl (by omega) h
def bt (Q : Nat → Nat) (tp i : Nat) : Int32 := if i < tp then nI (Q i) else -1
theorem m_byteAt {Q : Nat → Nat} {tp i : Nat} {S : Mem} (ht : tp ≤ 120) (hi : i < 2 ^ 31) (hb : MB Q tp S) (h7 : S 57 7 = nI tp) : f_X12_byteAt 57 (nI i) S = some (bt Q tp i, S) := by
  unfold f_X12_byteAt bt
  rw [if_pos tg57, h7]
  by_cases h : i < tp
  · rw [if_neg (nI_ge h (by omega)), if_pos (iab63 (by omega)), ix_nI hi, hb.2 i h, if_pos h]
  · rw [if_pos (nI_le (by omega) hi), if_neg h]
theorem m_isLetter {q : Nat} (hq : q < 256) (S : Mem) : f_X12_isLetter (nI q) S = some (b1 (decide (tokK q = 1)), S) := by
  unfold f_X12_isLetter
  rw [show (97 : Int32) = nI 97 from rfl, show (122 : Int32) = nI 122 from rfl]
  have hk : tokK q = 1 ↔ 97 ≤ q ∧ q ≤ 122 := by
    unfold tokK
    split
    · simp; assumption
    · split
      · simp; omega
      · split <;> simp <;> omega
  by_cases h1 : q < 97
  · rw [if_pos ((nI_ltI (by omega) (by omega)).mpr h1), dec_f (by omega)]; rfl
  · rw [if_neg (fun z => h1 ((nI_ltI (by omega) (by omega)).mp z))]
    by_cases h2 : 122 < q
    · rw [if_pos ((nI_ltI (by omega) (by omega)).mpr h2), dec_f (by omega)]; rfl
    · rw [if_neg (fun z => h2 ((nI_ltI (by omega) (by omega)).mp z)), dec_t (by omega)]; rfl
theorem m_isDigit {q : Nat} (hq : q < 256) (S : Mem) : f_X12_isDigit (nI q) S = some (b1 (decide (tokK q = 2)), S) := by
  unfold f_X12_isDigit
  rw [show (48 : Int32) = nI 48 from rfl, show (57 : Int32) = nI 57 from rfl]
  have hk : tokK q = 2 ↔ 48 ≤ q ∧ q ≤ 57 := by
    unfold tokK
    split
    · simp; omega
    · split
      · simp; assumption
      · split <;> simp <;> omega
  by_cases h1 : q < 48
  · rw [if_pos ((nI_ltI (by omega) (by omega)).mpr h1), dec_f (by omega)]; rfl
  · rw [if_neg (fun z => h1 ((nI_ltI (by omega) (by omega)).mp z))]
    by_cases h2 : 57 < q
    · rw [if_pos ((nI_ltI (by omega) (by omega)).mpr h2), dec_f (by omega)]; rfl
    · rw [if_neg (fun z => h2 ((nI_ltI (by omega) (by omega)).mp z)), dec_t (by omega)]; rfl
theorem m_letterAt {Q : Nat → Nat} {tp i : Nat} (hq : ∀ i, Q i < 256) (S : Mem) : f_X12_isLetter (bt Q tp i) S = some (b1 (decide (i < tp) && decide (tokK (Q i) = 1)), S) := by
  unfold bt
  by_cases h : i < tp
  · rw [if_pos h, m_isLetter (hq i), dec_t h, Bool.true_and]
  · rw [if_neg h, dec_f h, Bool.false_and]; rfl
theorem m_digitAt {Q : Nat → Nat} {tp i : Nat} (hq : ∀ i, Q i < 256) (S : Mem) : f_X12_isDigit (bt Q tp i) S = some (b1 (decide (i < tp) && decide (tokK (Q i) = 2)), S) := by
  unfold bt
  by_cases h : i < tp
  · rw [if_pos h, m_isDigit (hq i), dec_t h, Bool.true_and]
  · rw [if_neg h, dec_f h, Bool.false_and]; rfl
theorem vN_le (Q : Nat → Nat) (hq : ∀ i, Q i < 256) (s : Nat) : ∀ k, vN Q s k ≤ 100300
  | 0 => by show 0 ≤ _; omega
  | k + 1 => by
    show (if vN Q s k ≤ 9999 then 10 * vN Q s k + (Q (s + k) - 48) else vN Q s k) ≤ _
    have := hq (s + k)
    have := vN_le Q hq s k
    split <;> omega
/-- in the token that begins at p, i of its signs taken -/
def MI (Q : Nat → Nat) (tp p i : Nat) (S0 S : Mem) : Prop := S 57 7 = nI tp ∧ S 57 12 = nI (tkN Q tp p) ∧ S 57 13 = nI (stN Q tp p) ∧ S 57 14 = nI (stN Q tp p + i) ∧ S 57 15 = nI (if tkN Q tp p = 2 then vN Q (stN Q tp p) i else 0) ∧ MF S0 S
theorem MI.bytes {Q : Nat → Nat} {tp p i : Nat} {S0 S : Mem} (h : MI Q tp p i S0 S) (hb : MB Q tp S0) : MB Q tp S := ⟨hb.1, fun j hj => by rw [h.2.2.2.2.2.1 63 (by decide)]; exact hb.2 j hj⟩
def lnG (Q : Nat → Nat) (tp p i : Nat) : Prop := (∀ j, j < i → lnC Q tp (stN Q tp p) (tkN Q tp p) j = true) ∧ lnC Q tp (stN Q tp p) (tkN Q tp p) i = false
theorem tk1 {Q : Nat → Nat} {tp p k : Nat} (hk : k < 2 ^ 31) : nI (tkN Q tp p) = nI k ↔ tkN Q tp p = k := by
  have := tkN_le Q tp p
  exact nI_eq (by omega) hk
theorem m_letters {Q : Nat → Nat} {tp p : Nat} {S0 S : Mem} (ht : tp ≤ 120) (hp : p ≤ tp) (hb : MB Q tp S0) (h : MI Q tp p 0 S0 S) : okk (itr 300 i_X12_nextToken_L101 (57, S)) (fun r => ∃ i S2, r = (57, S2) ∧ MI Q tp p i S0 S2 ∧ (tkN Q tp p = 1 → lnG Q tp p i ∧ i ≤ 120) ∧ (tkN Q tp p ≠ 1 → i = 0)) := by
  obtain ⟨s1, s2⟩ := stN_le (Q := Q) hp ht
  refine itr_ex (f := i_X12_nextToken_L101) (fun i t => ∃ S2, t = (57, S2) ∧ MI Q tp p i S0 S2 ∧ (tkN Q tp p = 1 → (∀ j, j < i → lnC Q tp (stN Q tp p) (tkN Q tp p) j = true) ∧ stN Q tp p + i ≤ tp) ∧ (tkN Q tp p ≠ 1 → i = 0)) _ 121 (fun i hi t hh => ?_) ⟨S, rfl, h, fun _ => ⟨fun j hj => absurd hj (by omega), by omega⟩, fun _ => rfl⟩ 300 (by omega)
  obtain ⟨S2, rfl, hM, hl, h0⟩ := hh
  have hMM := hM
  obtain ⟨a7, a12, a13, a14, a15, aF⟩ := hM
  unfold i_X12_nextToken_L101
  dsimp only
  unfold f_X12_nextToken_L101
  rw [if_pos tg57, a12]
  by_cases hk : tkN Q tp p = 1
  · obtain ⟨hl1, hl2⟩ := hl hk
    rw [if_pos (by rw [hk]; rfl), a14, m_byteAt ht (by omega) (hMM.bytes hb) a7, bnd2_s, m_letterAt hb.1, bnd2_s, b1_if]
    have hlc : lnC Q tp (stN Q tp p) (tkN Q tp p) i = (decide (stN Q tp p + i < tp) && decide (tokK (Q (stN Q tp p + i)) = 1)) := by
      unfold lnC
      rw [hk, dec_t (show (1 : Nat) = 1 from rfl), Bool.true_or, Bool.true_or, Bool.and_true]
    by_cases hc : (decide (stN Q tp p + i < tp) && decide (tokK (Q (stN Q tp p + i)) = 1)) = true
    · have hlt : stN Q tp p + i < tp := of_decide_eq_true (and_b.mp hc).1
      rw [if_pos hc]
      refine okI (Or.inl ⟨_, rfl, by omega, _, rfl, ⟨?_, ?_, ?_, ?_, ?_, aF.wr (by decide) (by decide)⟩, fun _ => ⟨fun j hj => ?_, by omega⟩, fun z => absurd hk z⟩)
      · rw [wr_s, upd_n (by decide)]; exact a7
      · rw [wr_s, upd_n (by decide)]; exact a12
      · rw [wr_s, upd_n (by decide)]; exact a13
      · rw [wr_s, upd_s, a14, nI_1, Nat.add_assoc]
      · rw [wr_s, upd_n (by decide), a15, if_neg (by omega), if_neg (by omega)]
      · by_cases e : j = i
        · rw [e, hlc]; exact hc
        · exact hl1 j (by omega)
    · rw [if_neg hc]
      exact okI (Or.inr ⟨_, rfl, i, S2, rfl, hMM, fun _ => ⟨⟨hl1, by rw [hlc]; exact Bool.eq_false_iff.mpr hc⟩, by omega⟩, fun z => absurd hk z⟩)
  · rw [if_neg (show ¬ nI (tkN Q tp p) = (1 : Int32) from fun z => hk ((tk1 (k := 1) (by omega)).mp z))]
    exact okI (Or.inr ⟨_, rfl, i, S2, rfl, hMM, fun z => absurd z hk, h0⟩)
theorem m_digits {Q : Nat → Nat} {tp p i0 : Nat} {S0 S : Mem} (ht : tp ≤ 120) (hp : p ≤ tp) (hb : MB Q tp S0) (h : MI Q tp p i0 S0 S) (hi0 : tkN Q tp p ≠ 1 → i0 = 0) : okk (itr 300 i_X12_nextToken_L136 (57, S)) (fun r => ∃ i S2, r = (57, S2) ∧ MI Q tp p i S0 S2 ∧ (tkN Q tp p = 2 → lnG Q tp p i ∧ i ≤ 120) ∧ (tkN Q tp p ≠ 2 → i = i0)) := by
  obtain ⟨s1, s2⟩ := stN_le (Q := Q) hp ht
  refine itr_ex (f := i_X12_nextToken_L136) (fun k t => ∃ i S2, t = (57, S2) ∧ MI Q tp p i S0 S2 ∧ (tkN Q tp p = 2 → i = k ∧ (∀ j, j < i → lnC Q tp (stN Q tp p) (tkN Q tp p) j = true) ∧ stN Q tp p + i ≤ tp) ∧ (tkN Q tp p ≠ 2 → i = i0)) _ 121 (fun k hk0 t hh => ?_) ⟨i0, S, rfl, h, fun z => ⟨hi0 (by omega), fun j hj => absurd hj (by rw [hi0 (by omega)]; omega), by rw [hi0 (by omega)]; omega⟩, fun _ => rfl⟩ 300 (by omega)
  obtain ⟨i, S2, rfl, hM, hl, h0⟩ := hh
  have hMM := hM
  obtain ⟨a7, a12, a13, a14, a15, aF⟩ := hM
  unfold i_X12_nextToken_L136
  dsimp only
  unfold f_X12_nextToken_L136
  rw [if_pos tg57, a12]
  by_cases hk : tkN Q tp p = 2
  · obtain ⟨rfl, hl1, hl2⟩ := hl hk
    have hv := vN_le Q hb.1 (stN Q tp p) i
    rw [if_pos (by rw [hk]; rfl), a14, m_byteAt ht (by omega) (hMM.bytes hb) a7, bnd2_s, m_digitAt hb.1, bnd2_s, b1_if]
    have hlc : lnC Q tp (stN Q tp p) (tkN Q tp p) i = (decide (stN Q tp p + i < tp) && decide (tokK (Q (stN Q tp p + i)) = 2)) := by
      unfold lnC
      rw [hk, dec_t (show (2 : Nat) = 2 from rfl), Bool.or_true, Bool.true_or, Bool.and_true]
    by_cases hc : (decide (stN Q tp p + i < tp) && decide (tokK (Q (stN Q tp p + i)) = 2)) = true
    · have hlt : stN Q tp p + i < tp := of_decide_eq_true (and_b.mp hc).1
      obtain ⟨d1, d2⟩ := tokK_2 (of_decide_eq_true (and_b.mp hc).2)
      rw [if_pos hc, a15, if_pos hk, a14]
      have go : ∀ v : Int32, v = nI (vN Q (stN Q tp p) (i + 1)) → okk (f_X12_nextToken_j195 57 57 v S2) (fun x => ∃ s2, x = .inl s2 ∧ ∃ S3, s2 = (57, S3) ∧ MI Q tp p (i + 1) S0 S3) := fun v hv => by
        unfold f_X12_nextToken_j195
        rw [if_pos tg57]
        dsimp only
        rw [if_pos tg57]
        refine okI ⟨_, rfl, _, rfl, ⟨?_, ?_, ?_, ?_, ?_, (aF.wr (by decide) (by decide)).wr (by decide) (by decide)⟩⟩
        · rw [wr_s, upd_n (by decide), wr_s, upd_n (by decide)]; exact a7
        · rw [wr_s, upd_n (by decide), wr_s, upd_n (by decide)]; exact a12
        · rw [wr_s, upd_n (by decide), wr_s, upd_n (by decide)]; exact a13
        · rw [wr_s, upd_s, wr_s, upd_n (by decide), a14, nI_1, Nat.add_assoc]
        · rw [wr_s, upd_n (by decide), wr_s, upd_s, if_pos hk, hv]
      have fin : okk (f_X12_nextToken_j195 57 57 (nI (vN Q (stN Q tp p) (i + 1))) S2) (fun x => (∃ s2, x = Sum.inl s2 ∧ i < 121 ∧ ∃ i_1 S2, s2 = (57, S2) ∧ MI Q tp p i_1 S0 S2 ∧ (tkN Q tp p = 2 → i_1 = i + 1 ∧ (∀ j, j < i_1 → lnC Q tp (stN Q tp p) (tkN Q tp p) j = true) ∧ stN Q tp p + i_1 ≤ tp) ∧ (tkN Q tp p ≠ 2 → i_1 = i0)) ∨ ∃ r, x = Sum.inr r ∧ ∃ i S2, r = (57, S2) ∧ MI Q tp p i S0 S2 ∧ (tkN Q tp p = 2 → lnG Q tp p i ∧ i ≤ 120) ∧ (tkN Q tp p ≠ 2 → i = i0)) := okk_mono (go _ rfl) fun x hx => by
        obtain ⟨s2, e, S3, e2, hx⟩ := hx
        refine Or.inl ⟨s2, e, by omega, i + 1, S3, e2, hx, fun _ => ⟨rfl, fun j hj => ?_, by omega⟩, fun z => absurd hk z⟩
        by_cases e : j = i
        · rw [e, hlc]; exact hc
        · exact hl1 j (by omega)
      have hs : vN Q (stN Q tp p) (i + 1) = if vN Q (stN Q tp p) i ≤ 9999 then 10 * vN Q (stN Q tp p) i + (Q (stN Q tp p + i) - 48) else vN Q (stN Q tp p) i := rfl
      by_cases h9 : vN Q (stN Q tp p) i ≤ 9999
      · rw [if_pos (show nI (vN Q (stN Q tp p) i) ≤ (9999 : Int32) from (nI_leI (b := 9999) (by omega) (by omega)).mpr h9), m_byteAt ht (by omega) (hMM.bytes hb) a7, bnd2_s]
        have e : (10 : Int32) * nI (vN Q (stN Q tp p) i) + bt Q tp (stN Q tp p + i) - 48 = nI (vN Q (stN Q tp p) (i + 1)) := by
          unfold bt
          rw [if_pos hlt, show (10 : Int32) = nI 10 from rfl, pk_mul, nI_add, show (48 : Int32) = nI 48 from rfl, nI_subk _ _ (by omega), hs, if_pos h9]
          congr 1
          omega
        rw [e]
        exact fin
      · rw [if_neg (show ¬ nI (vN Q (stN Q tp p) i) ≤ (9999 : Int32) from fun z => h9 ((nI_leI (b := 9999) (by omega) (by omega)).mp z))]
        rw [hs, if_neg h9] at fin
        exact fin
    · rw [if_neg hc]
      exact okI (Or.inr ⟨_, rfl, i, S2, rfl, hMM, fun _ => ⟨⟨hl1, by rw [hlc]; exact Bool.eq_false_iff.mpr hc⟩, by omega⟩, fun z => absurd hk z⟩)
  · rw [if_neg (show ¬ nI (tkN Q tp p) = (2 : Int32) from fun z => hk ((tk1 (k := 2) (by omega)).mp z))]
    exact okI (Or.inr ⟨_, rfl, i, S2, rfl, hMM, fun z => absurd z hk, h0⟩)
