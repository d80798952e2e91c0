/-! the reference's nextToken whole -/
theorem lnN_G {Q : Nat → Nat} {tp p i : Nat} (h : lnG Q tp p i) (hi : i ≤ 121) : lnN Q tp p = i := runN_121 h.1 h.2 hi
theorem tk_st {Q : Nat → Nat} {tp p : Nat} (h : stN Q tp p < tp) : tkN Q tp p = tokK (Q (stN Q tp p)) := by
  rw [show tkN Q tp p = if stN Q tp p < tp then tokK (Q (stN Q tp p)) else 0 from rfl, if_pos h]
theorem tk_st0 {Q : Nat → Nat} {tp p : Nat} (h : ¬ stN Q tp p < tp) : tkN Q tp p = 0 := by
  rw [show tkN Q tp p = if stN Q tp p < tp then tokK (Q (stN Q tp p)) else 0 from rfl, if_neg h]
theorem lnN_0 {Q : Nat → Nat} {tp p : Nat} (hk : tkN Q tp p = 0) : lnN Q tp p = 0 := by
  by_cases h : stN Q tp p < tp
  · have := tk_st h
    have := (tokK_le (Q (stN Q tp p))).1
    omega
  · exact lnN_G (i := 0) ⟨fun j hj => absurd hj (by omega), ln_end (by omega)⟩ (by omega)
theorem lnN_1 {Q : Nat → Nat} {tp p : Nat} (hk : 2 < tkN Q tp p) : lnN Q tp p = 1 := by
  by_cases h : stN Q tp p < tp
  · have e := tk_st h
    refine lnN_G (i := 1) ⟨fun j hj => ?_, ?_⟩ (by omega)
    · rw [show j = 0 by omega]
      unfold lnC
      rw [Nat.add_zero, dec_t h, dec_t e.symm, dec_t (show (0 : Nat) = 0 from rfl), Bool.or_true]; rfl
    · unfold lnC
      rw [dec_f (show ¬ tkN Q tp p = 1 by omega), dec_f (show ¬ tkN Q tp p = 2 by omega), dec_f (show ¬ (1 : Nat) = 0 by omega), Bool.or_false, Bool.or_false, Bool.and_false]
  · rw [tk_st0 h] at hk
    omega
theorem m_j93 {Q : Nat → Nat} {tp p : Nat} {S0 S : Mem} (ht : tp ≤ 120) (hp : p ≤ tp) (hb : MB Q tp S0) (h7 : S 57 7 = nI tp) (h13 : S 57 13 = nI (stN Q tp p)) (h14 : S 57 14 = nI (stN Q tp p)) (hF : MF S0 S) : okk (f_X12_nextToken_j93 57 57 (nI (tkN Q tp p)) S) (fun x => MT Q tp p x.2 ∧ MF S0 x.2) := by
  obtain ⟨s1, s2⟩ := stN_le (Q := Q) hp ht
  have hk4 := tkN_le Q tp p
  unfold f_X12_nextToken_j93
  rw [if_pos tg57]
  dsimp only
  rw [if_pos tg57]
  have hM0 : MI Q tp p 0 S0 (wr (wr S 57 12 (nI (tkN Q tp p))) 57 15 0) := by
    refine ⟨?_, ?_, ?_, ?_, ?_, (hF.wr (by decide) (by decide)).wr (by decide) (by decide)⟩
    · rw [wr_s, upd_n (by decide), wr_s, upd_n (by decide)]; exact h7
    · rw [wr_s, upd_n (by decide), wr_s, upd_s]
    · rw [wr_s, upd_n (by decide), wr_s, upd_n (by decide)]; exact h13
    · rw [wr_s, upd_n (by decide), wr_s, upd_n (by decide), Nat.add_zero]; exact h14
    · rw [wr_s, upd_s]
      split <;> rfl
  refine okB (okk_mono (m_letters ht hp hb hM0) fun r hr => ?_)
  obtain ⟨i, S2, rfl, hM, k1, k0⟩ := hr
  refine okB (okk_mono (m_digits ht hp hb hM k0) fun r hr => ?_)
  obtain ⟨i2, S3, rfl, hM3, j2, j0⟩ := hr
  obtain ⟨a7, a12, a13, a14, a15, aF⟩ := hM3
  dsimp only
  unfold f_X12_nextToken_j211
  rw [if_pos tg57, a12, a14]
  by_cases hk : tkN Q tp p ≤ 2
  · have hln : lnN Q tp p = i2 := by
      rcases (by omega : tkN Q tp p = 0 ∨ tkN Q tp p = 1 ∨ tkN Q tp p = 2) with e | e | e
      · rw [lnN_0 e, j0 (by omega), k0 (by omega)]
      · rw [j0 (by omega)]
        exact lnN_G (k1 e).1 (by have := (k1 e).2; omega)
      · exact lnN_G (j2 e).1 (by have := (j2 e).2; omega)
    rw [if_pos (show nI (tkN Q tp p) ≤ (2 : Int32) from (nI_leI (b := 2) (by omega) (by omega)).mpr hk), Int32.add_zero]
    refine okI ⟨show MT Q tp p (wr S3 57 14 _) from ⟨?_, ?_, ?_, ?_, ?_⟩, aF.wr (by decide) (by decide)⟩
    · rw [wr_s, upd_n (by decide)]; exact a7
    · rw [wr_s, upd_n (by decide)]; exact a12
    · rw [wr_s, upd_n (by decide)]; exact a13
    · rw [wr_s, upd_s]
      unfold nxN
      rw [hln]
    · rw [wr_s, upd_n (by decide), a15]
      unfold nmN
      rw [hln]
  · have hln : lnN Q tp p = 1 := lnN_1 (by omega)
    have hi0 : i2 = 0 := by rw [j0 (by omega), k0 (by omega)]
    subst hi0
    rw [if_neg (show ¬ nI (tkN Q tp p) ≤ (2 : Int32) from fun z => hk ((nI_leI (b := 2) (by omega) (by omega)).mp z)), Nat.add_zero, nI_1]
    refine okI ⟨show MT Q tp p (wr S3 57 14 _) from ⟨?_, ?_, ?_, ?_, ?_⟩, aF.wr (by decide) (by decide)⟩
    · rw [wr_s, upd_n (by decide)]; exact a7
    · rw [wr_s, upd_n (by decide)]; exact a12
    · rw [wr_s, upd_n (by decide)]; exact a13
    · rw [wr_s, upd_s]
      unfold nxN
      rw [hln]
    · rw [wr_s, upd_n (by decide), a15]
      unfold nmN
      rw [if_neg (by omega), if_neg (by omega)]
theorem m_skip {Q : Nat → Nat} {tp p : Nat} {S : Mem} (ht : tp ≤ 120) (hp : p ≤ tp) (hb : MB Q tp S) (h7 : S 57 7 = nI tp) : okk (itr 300 i_X12_nextToken_L8 (57, wr S 57 13 (nI p))) (fun r => r = (57, wr S 57 13 (nI (stN Q tp p)))) := by
  refine itr_ex (f := i_X12_nextToken_L8) (fun i s => s = (57, wr S 57 13 (nI (p + i))) ∧ p + i ≤ tp ∧ ∀ j, j < i → spC Q tp p j = true) _ 121 (fun i hi s hs => ?_) ⟨by rw [Nat.add_zero], by omega, fun j hj => absurd hj (by omega)⟩ 300 (by omega)
  obtain ⟨rfl, r0, r1⟩ := hs
  unfold i_X12_nextToken_L8
  dsimp only
  unfold f_X12_nextToken_L8
  have w13 : wr S 57 13 (nI (p + i)) 57 13 = nI (p + i) := by rw [wr_s, upd_s]
  have w7 : wr S 57 13 (nI (p + i)) 57 7 = nI tp := by rw [wr_s, upd_n (by decide)]; exact h7
  have hb2 : MB Q tp (wr S 57 13 (nI (p + i))) := ⟨hb.1, fun j hj => by rw [wr_n (by decide)]; exact hb.2 j hj⟩
  rw [if_pos tg57, w13, m_byteAt ht (by omega) hb2 w7, bnd2_s]
  have hsp : bt Q tp (p + i) = 32 ↔ spC Q tp p i = true := by
    unfold bt spC
    by_cases h : p + i < tp
    · have := hb.1 (p + i)
      rw [if_pos h, dec_t h, Bool.true_and, decide_eq_true_eq]
      exact nI_eq (b := 32) (by omega) (by omega)
    · rw [if_neg h, dec_f h, Bool.false_and]
      exact ⟨fun z => absurd z (by decide), fun z => absurd z (by decide)⟩
  by_cases hc : bt Q tp (p + i) = 32
  · have hlt : p + i < tp := of_decide_eq_true (and_b.mp (hsp.mp hc)).1
    rw [if_pos hc, w13, nI_1]
    refine okI (Or.inl ⟨_, rfl, by omega, ?_, by omega, fun j hj => ?_⟩)
    · rw [wr_row, wr_s, wrow_w_wr, upd_uu]; rfl
    · by_cases e : j = i
      · rw [e]; exact hsp.mp hc
      · exact r1 j (by omega)
  · rw [if_neg hc]
    refine okI (Or.inr ⟨_, rfl, ?_⟩)
    rw [stN_eq r1 (Bool.eq_false_iff.mpr fun z => hc (hsp.mpr z)) (by omega)]
theorem m_next {Q : Nat → Nat} {tp p : Nat} {S : Mem} (ht : tp ≤ 120) (hp : p ≤ tp) (hb : MB Q tp S) (h7 : S 57 7 = nI tp) (h14 : S 57 14 = nI p) : okk (f_X12_nextToken 57 S) (fun x => MT Q tp p x.2 ∧ MF S x.2) := by
  obtain ⟨s1, s2⟩ := stN_le (Q := Q) hp ht
  unfold f_X12_nextToken
  rw [if_pos tg57, h14]
  dsimp only
  refine okB (okk_mono (m_skip ht hp hb h7) fun r hr => ?_)
  subst hr
  dsimp only
  rw [if_pos tg57]
  have hF : MF S (wr (wr S 57 13 (nI (stN Q tp p))) 57 14 (wr S 57 13 (nI (stN Q tp p)) 57 13)) := (MF.rf.wr (by decide) (by decide)).wr (by decide) (by decide)
  have w13 : wr (wr S 57 13 (nI (stN Q tp p))) 57 14 (wr S 57 13 (nI (stN Q tp p)) 57 13) 57 13 = nI (stN Q tp p) := by rw [wr_s, upd_n (by decide), wr_s, upd_s]
  have w14 : wr (wr S 57 13 (nI (stN Q tp p))) 57 14 (wr S 57 13 (nI (stN Q tp p)) 57 13) 57 14 = nI (stN Q tp p) := by rw [wr_s, upd_s, wr_s, upd_s]
  have w7 : wr (wr S 57 13 (nI (stN Q tp p))) 57 14 (wr S 57 13 (nI (stN Q tp p)) 57 13) 57 7 = nI tp := by rw [wr_s, upd_n (by decide), wr_s, upd_n (by decide)]; exact h7
  have hb2 : MB Q tp (wr (wr S 57 13 (nI (stN Q tp p))) 57 14 (wr S 57 13 (nI (stN Q tp p)) 57 13)) := ⟨hb.1, fun j hj => by rw [hF.1 63 (by decide)]; exact hb.2 j hj⟩
  have key := m_j93 ht hp hb w7 w13 w14 hF
  generalize wr (wr S 57 13 (nI (stN Q tp p))) 57 14 (wr S 57 13 (nI (stN Q tp p)) 57 13) = S9 at hF w13 w14 w7 hb2 key ⊢
  rw [w13, m_byteAt ht (by omega) hb2 w7, bnd2_s]
  by_cases hlt : stN Q tp p < tp
  · have hq := hb.1 (stN Q tp p)
    have e := tk_st hlt
    have hbt : bt Q tp (stN Q tp p) = nI (Q (stN Q tp p)) := if_pos hlt
    rw [hbt, if_pos (nI_0le (by omega)), m_isLetter hq, bnd2_s, b1_if]
    rw [e] at key
    by_cases c1 : tokK (Q (stN Q tp p)) = 1
    · rw [if_pos (dec_t c1)]
      rw [c1] at key
      exact key
    · rw [if_neg (by rw [dec_f c1]; decide), m_isDigit hq, bnd2_s, b1_if]
      by_cases c2 : tokK (Q (stN Q tp p)) = 2
      · rw [if_pos (dec_t c2)]
        rw [c2] at key
        exact key
      · rw [if_neg (by rw [dec_f c2]; decide)]
        by_cases c3 : Q (stN Q tp p) = 59
        · rw [if_pos (by rw [c3]; rfl)]
          rw [c3] at key
          exact key
        · rw [if_neg (show ¬ nI (Q (stN Q tp p)) = (59 : Int32) from fun z => c3 ((nI_eq (b := 59) (by omega) (by omega)).mp z))]
          have c4 : tokK (Q (stN Q tp p)) = 4 := by
            unfold tokK at c1 c2 ⊢
            split
            · rename_i h; rw [if_pos h] at c1; exact absurd rfl c1
            · rename_i h
              rw [if_neg h] at c2
              split
              · rename_i h2; rw [if_pos h2] at c2; exact absurd rfl c2
              · first | rfl | rw [if_neg c3]
          rw [c4] at key
          exact key
  · have e := tk_st0 hlt
    have hbt : bt Q tp (stN Q tp p) = -1 := if_neg hlt
    rw [hbt, if_neg m1_neg]
    rw [e] at key
    exact key
theorem MB.mf {Q : Nat → Nat} {tp : Nat} {S S2 : Mem} (h : MB Q tp S) (hF : S2 63 = S 63) : MB Q tp S2 := ⟨h.1, fun i hi => by rw [hF]; exact h.2 i hi⟩
theorem m_nextN {Q : Nat → Nat} {tp p : Nat} {S : Mem} (ht : tp ≤ 120) (hp : p ≤ tp) (hb : MB Q tp S) (hm : MT Q tp p S) : okk (f_X12_nextToken 57 S) (fun x => MT Q tp (nxN Q tp p) x.2 ∧ MF S x.2) := m_next ht (nxN_le hp ht).2 hb hm.1 hm.2.2.2.1
