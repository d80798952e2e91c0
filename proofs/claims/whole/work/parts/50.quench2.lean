/-! quench on both sides -/
def clN : Nat → Nat → Nat
  | 0, s => s
  | k + 1, s => (clN k s) &&& ((clN k s) - 1)
theorem pc_ok : ∀ s, s < 256 → pcN s ≤ 8 ∧ clN (pcN s) s = 0 ∧ ∀ k, k < 8 → k < pcN s → ¬ nI (clN k s) = 0 ∧ nI (clN k s) &&& (nI (clN k s) - 1) = nI (clN (k + 1) s) := by decide +kernel
theorem m_many {s : Nat} (hs : s < 256) (S : Mem) : f_X12_many (nI s) S = some (nI (pcN s), S) := by
  unfold f_X12_many
  obtain ⟨h1, h2, h3⟩ := pc_ok s hs
  have := itr_run (f := i_X12_many_L4) (r := (nI (pcN s), S)) (fun k => (nI k, nI (clN k s), S)) (pcN s) (fun k hk => by
    obtain ⟨q1, q2⟩ := h3 k (by omega) hk
    show f_X12_many_L4 (nI k) (nI (clN k s)) S = _
    unfold f_X12_many_L4
    rw [if_neg q1, q2, nI_1]) (by
    show f_X12_many_L4 (nI (pcN s)) (nI (clN (pcN s) s)) S = _
    unfold f_X12_many_L4
    rw [h2, if_pos (by decide)]) 300 (by omega)
  have e : ((0 : Int32), nI s, S) = (nI 0, nI (clN 0 s), S) := rfl
  rw [e, this]
  rfl
def bcI (l0 : Int32) : Int32 := let x1 := (((l0 - ((usI l0 1) &&& 1431655765)) &&& 858993459) + ((usI (l0 - ((usI l0 1) &&& 1431655765)) 2) &&& 858993459)); let x2 := (((x1 + (usI x1 4)) &&& 252645135) + (usI ((x1 + (usI x1 4)) &&& 252645135) 8)); ((x2 + (usI x2 16)) &&& 63)
theorem bc_ok : ∀ s, s < 256 → bcI (nI s) = nI (pcN s) := by decide +kernel
theorem c_bitCount {s : Nat} (hs : s < 256) (S : Mem) : f_J6_bitCount_0f7a4 (nI s) S = some (nI (pcN s), S) := by
  rw [← bc_ok s hs]
  rfl
theorem two_n : ∀ n, n ≤ 8 → shI 1 (nI n) = nI (2 ^ n) ∧ nI (2 ^ n) - 1 = nI (2 ^ n - 1) ∧ 1 ≤ 2 ^ n ∧ 2 ^ n ≤ 256 := by decide +kernel
theorem pc_lt : ∀ n, n ≤ 8 → ∀ s, s < 2 ^ n → pcN s ≤ n ∧ (pcN s = n → s = 2 ^ n - 1) := by decide +kernel
theorem c_noneCross {S : Mem} {n h s k : Nat} {g : Row} (hw : WF n g) (hR : Rl S 9 n g) (hh : g 1 = nI h) (h9 : h ≤ 40000) (hk : k ≤ 20) : okk (f_X11_noneCrossWithout 0 (nI s) (nI k) S) (fun x => x.1 = b1 (quP n k g s) ∧ Fr 21 S x.2) := by
  unfold f_X11_noneCrossWithout
  have hn := hw.1
  rw [if_pos tg0]
  refine okB2 (okk_mono (c_become t21 t9 (by omega) hn hR) fun x hx => ?_)
  obtain ⟨x1, x2⟩ := hx
  refine okB (okk_mono (itr_for (f := i_X11_noneCrossWithout_L13) (fun i t => ∃ S2, t = (0, nI s, nI k, nI i, S2) ∧ Rl S2 21 n (fol (qn1 s) i g) ∧ Fr 21 S S2) (fun r => ∃ S2, r = (0, nI k, S2) ∧ Rl S2 21 n (qR n s g) ∧ Fr 21 S S2) n (fun i hi t ht => ?_) (fun t ht => ?_) ⟨x.2, rfl, x1, x2⟩ 300 (by omega)) fun r hr => ?_)
  · obtain ⟨S2, rfl, r1, r2⟩ := ht
    have hi8 : i < 8 := by omega
    unfold i_X11_noneCrossWithout_L13
    dsimp only
    unfold f_X11_noneCrossWithout_L13 f_X11_noneCrossWithout_j59
    rw [if_pos tg0, r1.1, if_neg (nI_ge hi (by omega)), nI_1]
    have e : fol (qn1 s) (i + 1) g = qn1 s (fol (qn1 s) i g) i := rfl
    by_cases hb : bitQ s i = true
    · rw [if_pos (of_decide_eq_true hb), if_pos (rabT21 hi8), eadT21 hi8, if_pos (tg21 hi8)]
      refine okI ⟨_, rfl, _, rfl, ?_, (r2.wr (by unfold fa; omega) (by unfold fa; omega)).wr (by unfold fa; omega) (by unfold fa; omega)⟩
      rw [e]
      unfold qn1
      rw [if_pos hb]
      exact (r1.fire (w := 3) hn hi (by decide)).fire (w := 5) hn hi (by decide)
    · rw [if_neg (fun z => hb (decide_eq_true z))]
      refine okI ⟨_, rfl, _, rfl, ?_, r2⟩
      rw [e]
      unfold qn1
      rw [if_neg hb]
      exact r1
  · obtain ⟨S2, rfl, r1, r2⟩ := ht
    unfold i_X11_noneCrossWithout_L13
    dsimp only
    unfold f_X11_noneCrossWithout_L13
    rw [if_pos tg0, r1.1, if_pos (nI_le (Nat.le_refl _) (by omega))]
    exact okI ⟨_, rfl, _, rfl, r1, r2⟩
  · obtain ⟨S2, rfl, r1, r2⟩ := hr
    dsimp only
    have c9 : S 9 6 = g 4 := hR.2.2.1
    have hq1 : qR n s g 1 = nI h := qR_1.trans hh
    refine okB (okk_mono (itr_ex (f := i_X11_noneCrossWithout_L67) (fun i t => ∃ S2, t = (0, nI k, nI i, S2) ∧ Rl S2 21 n (hoursR n i (qR n s g)) ∧ Fr 21 S S2) (fun r => ∃ S2 i, r = (0, S2) ∧ Rl S2 21 n (hoursR n i (qR n s g)) ∧ Fr 21 S S2 ∧ i ≤ k ∧ (i = k ∨ ¬ hoursR n i (qR n s g) 4 = g 4)) k (fun i hi t ht => ?_) ⟨S2, rfl, r1, r2⟩ 300 (by omega)) fun r hr => ?_)
    · obtain ⟨S3, rfl, r3, r4⟩ := ht
      unfold i_X11_noneCrossWithout_L67
      dsimp only
      unfold f_X11_noneCrossWithout_L67
      by_cases hik : i = k
      · subst hik
        rw [if_pos (nI_le (Nat.le_refl _) (by omega))]
        exact okI (Or.inr ⟨_, rfl, S3, i, rfl, r3, r4, Nat.le_refl _, Or.inl rfl⟩)
      · rw [if_neg (nI_ge (by omega) (by omega)), if_pos tg0, r4 9 (by omega), c9, r3.2.2.1]
        by_cases h4 : hoursR n i (qR n s g) 4 = g 4
        · rw [if_pos h4]
          refine okB2 (okk_mono (c_hour t21 (WF_hoursR (WF_qR hw) i) r3 (hoursR_hour hq1 i) (by omega)) fun y hy => ?_)
          rw [nI_1]
          exact okI (Or.inl ⟨_, rfl, by omega, y.2, rfl, hy.1, r4.tr hy.2⟩)
        · rw [if_neg h4]
          exact okI (Or.inr ⟨_, rfl, S3, i, rfl, r3, r4, hi, Or.inr h4⟩)
    · obtain ⟨S3, i, rfl, r3, r4, hik, h5⟩ := hr
      dsimp only
      unfold f_X11_noneCrossWithout_j102
      rw [if_pos tg0, r4 9 (by omega), c9, r3.2.2.1]
      by_cases h4 : hoursR n i (qR n s g) 4 = g 4
      · rw [if_pos h4]
        have hk2 : i = k := h5.resolve_right (fun z => z h4)
        subst hk2
        refine okI ⟨?_, r4⟩
        unfold quP
        rw [dec_t h4]
        rfl
      · rw [if_neg h4]
        refine okI ⟨?_, r4⟩
        have := left_stays (k := k) (c := g 4) qR_4 h4 hik
        unfold quP
        rw [dec_f this]
        rfl
noncomputable def sp_quench (k : Int32) (A : Mem) : Int32 × Mem := if isM 0 20 k = true then ((match bqN (quP (ix (A 58 0)) (ix k) (A 58)) (2 ^ ix (A 58 0)) with
  | none => -1
  | some s => nI s), A) else fin A 0
theorem c_quench {S A : Mem} {H : Nat} {k : Int32} (hI : INV S A H) (hH : H ≤ 40000) : okk (f_X11_quench 0 k S) (OKC S H (sp_quench k A)) := by
  unfold f_X11_quench sp_quench
  obtain ⟨n, hw, hsp, ⟨h, hh, e1⟩, hR⟩ := hI.1
  have hn := hw.1
  obtain ⟨t1, t2, t3, t4⟩ := two_n n hn
  rw [c_out (hi := 20) (by decide), bnd2_s, b1n_if, if_pos tg0, if_pos tg0]
  by_cases h1 : isM 0 20 k = true
  · obtain ⟨j, hj, rfl⟩ := isM_t (hi := 20) h1
    rw [if_pos h1, if_pos h1, hR.1, t1, t2, hw.2.1, ix_nI (by omega), ix_nI (by omega)]
    have hall : quP n j (A 58) (2 ^ n - 1) = true := quP_all hw
    have hc : ∀ s S2, Fr 21 S S2 → okk (f_X11_noneCrossWithout 0 (nI s) (nI j) S2) (fun x => x.1 = b1 (quP n j (A 58) s) ∧ Fr 21 S2 x.2) := fun s S2 r2 => c_noneCross hw (hR.same hn fun a _ _ => r2 a (by omega)) e1 (by omega) hj
    generalize quP n j (A 58) = P at hall hc ⊢
    refine okB (okk_mono (itr_ex (f := i_X11_quench_L29) (fun i t => ∃ S2, t = (0, nI j, nI (2 ^ n - 1), nI i, S2) ∧ Fr 21 S S2 ∧ ∀ q, q < 2 ^ n → pcN q < i → P q = false) (fun r => ∃ s S2, (r = .inl (nI s, S2) ∨ r = .inr (nI s, S2)) ∧ Fr 21 S S2 ∧ QB P (2 ^ n) s) n (fun i hi t ht => ?_) ⟨S, rfl, Fr.rf, fun q _ hq => absurd hq (by omega)⟩ 300 (by omega)) fun r hr => ?_)
    · obtain ⟨S2, rfl, r2, r3⟩ := ht
      unfold i_X11_quench_L29
      dsimp only
      unfold f_X11_quench_L29
      rw [if_pos tg0, r2 9 (by omega), hR.1]
      by_cases hin : i = n
      · subst hin
        rw [if_pos (nI_le (Nat.le_refl _) (by omega))]
        refine okI (Or.inr ⟨_, rfl, 2 ^ i - 1, S2, Or.inr rfl, r2, by omega, hall, fun q hq hpq => ?_⟩)
        obtain ⟨l1, l2⟩ := pc_lt i hn q hq
        by_cases l3 : pcN q = i
        · right
          rw [l2 l3]
          exact ⟨rfl, Nat.le_refl _⟩
        · rw [r3 q hq (by omega)] at hpq
          exact absurd hpq (by decide)
      · rw [if_neg (nI_ge (by omega) (by omega))]
        refine okB (okk_mono (itr_ex (f := i_X11_quench_L43) (fun m t => ∃ S2, t = (0, nI j, nI (2 ^ n - 1), nI i, nI m, S2) ∧ Fr 21 S S2 ∧ ∀ q, q < m → pcN q = i → P q = false) (fun r => (∃ s S2, r = .inl (nI s, S2) ∧ Fr 21 S S2 ∧ QB P (2 ^ n) s) ∨ ∃ S2, r = .inr (0, nI j, nI (2 ^ n - 1), nI i, S2) ∧ Fr 21 S S2 ∧ ∀ q, q < 2 ^ n → pcN q = i → P q = false) (2 ^ n) (fun m hm t ht => ?_) ⟨S2, rfl, r2, fun q hq => absurd hq (by omega)⟩ 300 (by omega)) fun r hr => ?_)
        · obtain ⟨S3, rfl, r4, r5⟩ := ht
          unfold i_X11_quench_L43
          dsimp only
          unfold f_X11_quench_L43 f_X11_quench_j71
          by_cases hmn : m = 2 ^ n
          · rw [if_pos ((nI_ltI (by omega) (by omega)).mpr (by omega))]
            exact okI (Or.inr ⟨_, rfl, Or.inr ⟨S3, rfl, r4, fun q hq => r5 q (by omega)⟩⟩)
          · have hm256 : m < 256 := by omega
            have hpc := (pc_ok m hm256).1
            rw [if_neg (fun z => absurd ((nI_ltI (by omega) (by omega)).mp z) (by omega)), c_bitCount hm256, bnd2_s, if_pos tg0]
            by_cases hpi : pcN m = i
            · rw [if_pos (by rw [hpi])]
              refine okB2 (okk_mono (hc m S3 r4) fun x hx => ?_)
              rw [hx.1, b1_if]
              by_cases hp : P m = true
              · rw [if_pos hp]
                refine okI (Or.inr ⟨_, rfl, Or.inl ⟨m, x.2, rfl, r4.tr hx.2, by omega, hp, fun q hq hpq => ?_⟩⟩)
                by_cases l1 : pcN q < i
                · rw [r3 q hq l1] at hpq
                  exact absurd hpq (by decide)
                · by_cases l2 : pcN q = i
                  · right
                    refine ⟨by omega, ?_⟩
                    by_cases l3 : q < m
                    · rw [r5 q l3 l2] at hpq
                      exact absurd hpq (by decide)
                    · omega
                  · left
                    omega
              · rw [if_neg hp, nI_1]
                exact okI (Or.inl ⟨_, rfl, by omega, x.2, rfl, r4.tr hx.2, fun q hq hqi => by
                  by_cases e : q = m
                  · rw [e]; exact Bool.eq_false_iff.mpr hp
                  · exact r5 q (by omega) hqi⟩)
            · rw [if_neg (fun z => hpi ((nI_eq (by omega) (by omega)).mp z)), nI_1]
              exact okI (Or.inl ⟨_, rfl, by omega, S3, rfl, r4, fun q hq hqi => by
                by_cases e : q = m
                · rw [e] at hqi; exact absurd hqi hpi
                · exact r5 q (by omega) hqi⟩)
        · rcases hr with ⟨s, S3, rfl, r4, r5⟩ | ⟨S3, rfl, r4, r5⟩
          · exact okI (Or.inr ⟨_, rfl, s, S3, Or.inl rfl, r4, r5⟩)
          · refine okI (Or.inl ⟨_, rfl, by omega, S3, ?_, r4, fun q hq hqi => ?_⟩)
            · show (0, nI j, nI (2 ^ n - 1), nI i + 1, S3) = _
              rw [nI_1]
            · by_cases e : pcN q = i
              · exact r5 q hq e
              · exact r3 q hq (by omega)
    · obtain ⟨s, S2, hr, r2, r3⟩ := hr
      rw [bqN_eq r3]
      rcases hr with rfl | rfl
      · exact OKC.trial hI r2
      · exact OKC.trial hI r2
  · rw [if_neg h1, if_neg h1]
    exact c_fin0 hI

theorem bit_if {β : Type} (s f : Nat) (X Y : β) : (if (srI (nI s) (nI f) &&& 1) = 1 then X else Y) = (if bitQ s f = true then X else Y) := by
  unfold bitQ
  by_cases h : (srI (nI s) (nI f) &&& 1) = 1
  · rw [if_pos h, if_pos (decide_eq_true h)]
  · rw [if_neg h, if_neg (fun z => h (of_decide_eq_true z))]
theorem st_st (S : Mem) (b g b2 g2 : Row) : st (st S b g) b2 g2 = st S b2 g2 := by
  unfold st
  rw [wrow_c _ _ (by decide : (58 : Nat) ≠ 67), wrow_w, wrow_w]
theorem st_wr (S : Mem) (b g : Row) (p : Nat) (v : Int32) : wr (st S b g) 58 p v = st S b (upd g p v) := by
  rw [wr_row, st_58, st_w58]
theorem m_quenchL {S : Mem} {n k s i : Nat} {x y : Int32} {b g : Row} (hg : WF n g) (hi : i < n) : f_X12_quench_L74 57 (nI k) x y (nI s) (nI i) (st S b g) = some (.inl (57, nI k, x, y, nI s, nI (i + 1), st S b (qn1 s g i))) := by
  have hn := hg.1
  have hi8 : i < 8 := by omega
  unfold f_X12_quench_L74 qn1
  rw [if_pos tg57, if_pos i58_0, ix_0, st_58, hg.2.1, if_neg (nI_ge hi (by omega)), m_at, bnd2_s, bit_if]
  unfold f_X12_quench_j117 f_X12_quench_j150
  by_cases hb : bitQ s i = true
  · rw [if_pos hb, if_pos hb, if_pos (s_3 hi8).2, (s_3 hi8).1, if_pos tg57, m_at, bnd2_s, bit_if, if_pos hb, if_pos (s_5 hi8).2, (s_5 hi8).1, nI_1]
    dsimp only
    rw [st_wr, st_wr]
  · rw [if_neg hb, if_neg hb, m_its3 hi8, bnd2_s, if_pos (s_3 hi8).2, (s_3 hi8).1, if_pos tg57, m_at, bnd2_s, bit_if, if_neg hb]
    dsimp only
    rw [m_its5 hi8, bnd2_s, if_pos (s_5 hi8).2, (s_5 hi8).1, nI_1]
    rw [st_58, st_wr, st_58, st_wr, upd_id, upd_id]
theorem m_quenchF {S : Mem} {n k s : Nat} {x y : Int32} {b g : Row} (hg : WF n g) : itr 300 i_X12_quench_L74 (57, nI k, x, y, nI s, 0, st S b g) = some (57, nI k, x, y, nI s, st S b (qR n s g)) := by
  have hn := hg.1
  refine itr_run (f := i_X12_quench_L74) (r := (57, nI k, x, y, nI s, st S b (qR n s g))) (fun i => (57, nI k, x, y, nI s, nI i, st S b (fol (qn1 s) i g))) n (fun i hi => ?_) ?_ 300 (by omega)
  · show f_X12_quench_L74 57 (nI k) x y (nI s) (nI i) (st S b (fol (qn1 s) i g)) = _
    exact m_quenchL (WF_qk hg (by omega)) hi
  · show f_X12_quench_L74 57 (nI k) x y (nI s) (nI n) (st S b (fol (qn1 s) n g)) = _
    unfold f_X12_quench_L74
    rw [if_pos tg57, if_pos i58_0, ix_0, st_58, (WF_qk (s := s) hg (Nat.le_refl n)).2.1, if_pos (nI_le (Nat.le_refl _) (by omega))]
    rfl
theorem m_quenchJ {S : Mem} {n k s : Nat} {y : Int32} {b : Row} (hw : WF n (S 58)) (hk : k ≤ 20) : ∃ b2, f_X12_quench_j71 57 (nI k) (S 58 4) y (nI s) (st (lb S) b (S 58)) = some (.inl (57, nI k, S 58 4, (if quP n k (S 58) s = true then nI s else y), nI (s + 1), st (lb S) b2 (S 58))) := by
  have hn := hw.1
  obtain ⟨b2, e2⟩ := m_goesA (S := st (lb S) b (qR n s (S 58))) (n := n) (by rw [st_58]; exact WF_qR hw) k (by omega)
  refine ⟨b2, ?_⟩
  unfold f_X12_quench_j71 f_X12_quench_j178 f_X12_quench_j190
  have hc : f_X12_copyRow 61 58 (st (lb S) b2 (hoursR n k (qR n s (S 58)))) = some ((), st (lb S) b2 (S 58)) := by
    have e61 : st (lb S) b2 (hoursR n k (qR n s (S 58))) 61 = cpR (S 58) (S 61) := by
      rw [st_n (by decide) (by decide)]
      exact wrow_s _ _ _
    rw [m_copyRow rfl rfl (by decide), st_58, e61, cpR_back (fun p hp => (hoursR_hi (WF_qR hw) (by omega) k).trans (qR_hi hn (by omega))), st_w58]
  rw [m_quenchF hw, bnd_s]
  dsimp only
  rw [if_pos tg57, e2, bnd2_s, if_pos i58_4, ix_4, st_58, st_58, st_st, if_pos tg57, if_pos tg57, hc, bnd2_s, bnd2_s, nI_1]
  unfold quP
  by_cases h : hoursR n k (qR n s (S 58)) 4 = S 58 4
  · rw [if_pos h, if_pos (dec_t h)]
  · rw [if_neg h, if_neg (fun z => h (of_decide_eq_true z))]
def bqI (o : Option Nat) : Int32 := match o with
  | none => -1
  | some s => nI s
theorem bqN_lt {P : Nat → Bool} {m s : Nat} (h : bqN P m = some s) : s < m := by
  rcases bqN_ok (P := P) m with ⟨e, -⟩ | ⟨t, e, q, -⟩
  · rw [e] at h; cases h
  · rw [e] at h; cases h; exact q
theorem nI_neg0 {k : Nat} (h : k < 2 ^ 31) : ¬ nI k < 0 := Int32.not_lt.mpr (nI_0le h)
theorem m_quench {S : Mem} {n : Nat} {k : Int32} (hw : WF n (S 58)) : okk (f_X12_quench 57 k S) (OKM S (sp_quench k (mp S))) := by
  unfold f_X12_quench sp_quench
  have hn := hw.1
  obtain ⟨t1, t2, t3, t4⟩ := two_n n hn
  rw [m_isIn (l := 0) (u := 20) (by decide) (by decide), bnd2_s, b1_if, if_pos tg57, if_pos tg57, if_pos i58_4, ix_4, m_lb, bnd2_s, mp58, hw.2.1, ix_nI (show n < 2 ^ 31 by omega)]
  by_cases h1 : isM 0 20 k = true
  · obtain ⟨j, hj, rfl⟩ := isM_t (hi := 20) h1
    rw [if_pos h1, if_pos h1, ix_nI (show j < 2 ^ 31 by omega)]
    have hJ : ∀ (s : Nat) (y : Int32) (b : Row), ∃ b2, f_X12_quench_j71 57 (nI j) (S 58 4) y (nI s) (st (lb S) b (S 58)) = some (.inl (57, nI j, S 58 4, (if quP n j (S 58) s = true then nI s else y), nI (s + 1), st (lb S) b2 (S 58))) := fun s y b => m_quenchJ hw hj
    generalize quP n j (S 58) = P at hJ ⊢
    refine okB (okk_mono (itr_for (f := i_X12_quench_L42) (fun i t => ∃ b, t = (57, nI j, S 58 4, bqI (bqN P i), nI i, st (lb S) b (S 58))) (fun r => ∃ b, r = (bqI (bqN P (2 ^ n)), st (lb S) b (S 58))) (2 ^ n) (fun i hi t ht => ?_) (fun t ht => ?_) ⟨lb S 67, by rw [lb0]; rfl⟩ 300 (by omega)) fun r hr => ?_)
    · obtain ⟨b, rfl⟩ := ht
      obtain ⟨b2, e2⟩ := hJ i (bqI (bqN P i)) b
      unfold i_X12_quench_L42
      dsimp only
      unfold f_X12_quench_L42
      rw [if_pos tg57, if_pos i58_0, ix_0, st_58, hw.2.1, t1, if_neg (nI_ge hi (by omega))]
      rcases hq : bqN P i with _ | s
      · rw [hq] at e2
        rw [if_pos (show bqI none < 0 by decide), e2]
        refine okI ⟨_, rfl, b2, ?_⟩
        unfold bqN
        rw [hq]
        dsimp only
        by_cases hp : P i = true
        · rw [if_pos hp, if_pos hp]; rfl
        · rw [if_neg hp, if_neg hp]
      · have hs := bqN_lt hq
        rw [hq] at e2
        rw [if_neg (show ¬ bqI (some s) < 0 from nI_neg0 (by omega)), m_many (by omega), bnd2_s, show bqI (some s) = nI s from rfl, m_many (by omega), bnd2_s]
        have p1 := (pc_ok i (by omega)).1
        have p2 := (pc_ok s (by omega)).1
        unfold bqN
        rw [hq]
        dsimp only
        by_cases hc : pcN s ≤ pcN i
        · rw [if_pos ((nI_leI (by omega) (by omega)).mpr hc), if_pos hc]
          unfold f_X12_quench_j190
          rw [nI_1]
          exact okI ⟨_, rfl, b, rfl⟩
        · rw [if_neg (fun z => hc ((nI_leI (by omega) (by omega)).mp z)), if_neg hc]
          rw [show bqI (some s) = nI s from rfl] at e2
          rw [e2]
          refine okI ⟨_, rfl, b2, ?_⟩
          by_cases hp : P i = true
          · rw [if_pos hp, if_pos hp]; rfl
          · rw [if_neg hp, if_neg hp]; rfl
    · obtain ⟨b, rfl⟩ := ht
      unfold i_X12_quench_L42
      dsimp only
      unfold f_X12_quench_L42
      rw [if_pos tg57, if_pos i58_0, ix_0, st_58, hw.2.1, t1, if_pos (nI_le (Nat.le_refl _) (by omega))]
      exact okI ⟨_, rfl, b, rfl⟩
    · obtain ⟨b, rfl⟩ := hr
      refine OKM.sc (v := bqI (bqN P (2 ^ n))) fun a h60 h61 h67 => ?_
      show st (lb S) b (S 58) a = S a
      by_cases h58 : a = 58
      · subst h58
        exact st_58 _ _ _
      · rw [st_n h58 h67]
        exact wrow_n _ h61
  · rw [if_neg h1, if_neg h1]
    exact m_fin0
