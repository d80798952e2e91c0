/-! stuck and crosses by the class; when, stuck and crosses by the reference -/
theorem c_stuck {S A : Mem} {H : Nat} {f : Int32} (hI : INV S A H) (hH : H ≤ 40000) : okk (f_X11_stuck 0 f S) (OKC S H (sp_stuck f A)) := by
  unfold f_X11_stuck sp_stuck
  obtain ⟨n, hw, hsp, ⟨h, hh, e1⟩, hR⟩ := hI.1
  have hn := hw.1
  rw [if_pos tg0, c_noFire hR.1 hn, bnd2_s, b1n_if, nA_e hw.2.1 hn]
  by_cases h1 : isM 0 ((n : Int) - 1) f = true
  · obtain ⟨j, hj, rfl⟩ := isM_fire hn h1
    have hj8 : j < 8 := by omega
    rw [if_pos h1, if_pos h1, hw.2.1, ix_nI (show n < 2 ^ 31 by omega), ix_nI (show j < 2 ^ 31 by omega)]
    generalize hP : moreP n (fi j 6) (A 58) = P
    have hPk : ∀ k, P k = decide (A 58 (fi j 6) < hoursR n k (A 58) (fi j 6)) := fun k => by rw [← hP]; rfl
    refine okB2 (okk_mono (c_become t21 t9 (by omega) hn hR) fun x hx => ?_)
    obtain ⟨x1, x2⟩ := hx
    have p0 : P 0 = false := (hPk 0).trans (dec_f (Int32.lt_irrefl))
    refine okB (okk_mono (itr_ex (f := i_X11_stuck_L27) (fun i s => ∃ S2, s = (0, nI j, nI (i + 1), S2) ∧ Rl S2 21 n (hoursR n i (A 58)) ∧ Fr 21 S S2 ∧ ∀ q, q ≤ i → P q = false) (fun r => (∃ S2, r = .inr (0, S2) ∧ Fr 21 S S2 ∧ ∀ q, q < 101 → P q = false) ∨ ∃ k S2, r = .inl (nI k, S2) ∧ Fr 21 S S2 ∧ P k = true ∧ k < 101 ∧ ∀ q, q < k → P q = false) 100 (fun i hi s hs => ?_) ⟨x.2, rfl, x1, x2, fun q hq => by rw [show q = 0 by omega]; exact p0⟩ 300 (by omega)) fun r hr => ?_)
    · obtain ⟨S2, rfl, r1, r2, r3⟩ := hs
      show okk (f_X11_stuck_L27 0 (nI j) (nI (i + 1)) S2) _
      unfold f_X11_stuck_L27
      by_cases hi100 : i = 100
      · subst hi100
        rw [if_pos (by decide)]
        exact okI (Or.inr ⟨_, rfl, Or.inl ⟨S2, rfl, r2, fun q hq => r3 q (by omega)⟩⟩)
      · rw [if_neg (nI_lt100 (by omega)), if_pos tg0]
        refine okB2 (okk_mono (c_hour t21 (WF_hoursR hw i) r1 (hoursR_hour e1 i) (by omega)) fun y hy => ?_)
        obtain ⟨y1, y2⟩ := hy
        have hg2 : y.2 (fa 21 j) 6 = hoursR n (i + 1) (A 58) (fi j 6) := y1.2.2.2.2.2.2.1 j hj 6 (by decide)
        have hg1 : y.2 (fa 9 j) 6 = A 58 (fi j 6) := by
          rw [(r2.tr y2) (fa 9 j) (by unfold fa; omega)]
          exact hR.2.2.2.2.2.2.1 j hj 6 (by decide)
        rw [if_pos (rabT21 hj8), eadT21 hj8, if_pos (tg21 hj8), if_pos (rabT9 hj8), eadT9 hj8, if_pos (tg9 hj8), hg1, hg2]
        by_cases h4 : hoursR n (i + 1) (A 58) (fi j 6) ≤ A 58 (fi j 6)
        · rw [if_pos h4, nI_1]
          exact okI (Or.inl ⟨_, rfl, by omega, y.2, rfl, y1, r2.tr y2, fun q hq => by
            by_cases e : q = i + 1
            · subst e
              exact (hPk _).trans (dec_f (Int32.not_lt.mpr h4))
            · exact r3 q (by omega)⟩)
        · rw [if_neg h4]
          exact okI (Or.inr ⟨_, rfl, Or.inr ⟨i + 1, y.2, rfl, r2.tr y2, (hPk _).trans (dec_t (Int32.not_le.mp h4)), by omega, fun q hq => r3 q (by omega)⟩⟩)
    · rcases hr with ⟨S2, rfl, r2, r3⟩ | ⟨k, S2, rfl, r2, r3, r4, r5⟩
      · show okk (if tg 0 = 11 then bnd2 (f_X11_finding 0 3 S2) (fun r S3 => some (r, S3)) else none) _
        rw [if_pos tg0, fstN_none 101 r3]
        exact c_none hI r2
      · rw [fstN_some r3 r5 101 r4]
        exact OKC.trial hI r2
  · rw [if_neg h1, if_neg h1]
    exact c_fin0 hI
theorem c_crosses2 {S A : Mem} {H : Nat} (hI : INV S A H) (hH : H ≤ 40000) : okk (f_X11_crosses 0 S) (OKC S H (sp_crosses A)) := by
  unfold f_X11_crosses sp_crosses
  obtain ⟨n, hw, hsp, ⟨h, hh, e1⟩, hR⟩ := hI.1
  have hn := hw.1
  rw [if_pos tg0, hw.2.1, ix_nI (show n < 2 ^ 31 by omega)]
  generalize hP : moreP n 4 (A 58) = P
  have hPk : ∀ k, P k = decide (A 58 4 < hoursR n k (A 58) 4) := fun k => by rw [← hP]; rfl
  refine okB2 (okk_mono (c_become t21 t9 (by omega) hn hR) fun x hx => ?_)
  obtain ⟨x1, x2⟩ := hx
  have p0 : P 0 = false := (hPk 0).trans (dec_f (Int32.lt_irrefl))
  refine okB (okk_mono (itr_ex (f := i_X11_crosses_L13) (fun i s => ∃ S2, s = (0, nI (i + 1), S2) ∧ Rl S2 21 n (hoursR n i (A 58)) ∧ Fr 21 S S2 ∧ ∀ q, q ≤ i → P q = false) (fun r => (∃ S2, r = .inr (0, S2) ∧ Fr 21 S S2 ∧ ∀ q, q < 101 → P q = false) ∨ ∃ k S2, r = .inl (nI k, S2) ∧ Fr 21 S S2 ∧ P k = true ∧ k < 101 ∧ ∀ q, q < k → P q = false) 100 (fun i hi s hs => ?_) ⟨x.2, rfl, x1, x2, fun q hq => by rw [show q = 0 by omega]; exact p0⟩ 300 (by omega)) fun r hr => ?_)
  · obtain ⟨S2, rfl, r1, r2, r3⟩ := hs
    show okk (f_X11_crosses_L13 0 (nI (i + 1)) S2) _
    unfold f_X11_crosses_L13
    by_cases hi100 : i = 100
    · subst hi100
      rw [if_pos (by decide)]
      exact okI (Or.inr ⟨_, rfl, Or.inl ⟨S2, rfl, r2, fun q hq => r3 q (by omega)⟩⟩)
    · rw [if_neg (nI_lt100 (by omega)), if_pos tg0]
      refine okB2 (okk_mono (c_hour t21 (WF_hoursR hw i) r1 (hoursR_hour e1 i) (by omega)) fun y hy => ?_)
      obtain ⟨y1, y2⟩ := hy
      have hg1 : y.2 9 6 = A 58 4 := by
        rw [(r2.tr y2) 9 (by omega)]
        exact hR.2.2.1
      rw [y1.2.2.1, hg1]
      show okk (if hoursR n (i + 1) (A 58) 4 ≤ A 58 4 then _ else _) _
      by_cases h4 : hoursR n (i + 1) (A 58) 4 ≤ A 58 4
      · rw [if_pos h4, nI_1]
        exact okI (Or.inl ⟨_, rfl, by omega, y.2, rfl, y1, r2.tr y2, fun q hq => by
          by_cases e : q = i + 1
          · subst e
            exact (hPk _).trans (dec_f (Int32.not_lt.mpr h4))
          · exact r3 q (by omega)⟩)
      · rw [if_neg h4]
        exact okI (Or.inr ⟨_, rfl, Or.inr ⟨i + 1, y.2, rfl, r2.tr y2, (hPk _).trans (dec_t (Int32.not_le.mp h4)), by omega, fun q hq => r3 q (by omega)⟩⟩)
  · rcases hr with ⟨S2, rfl, r2, r3⟩ | ⟨k, S2, rfl, r2, r3, r4, r5⟩
    · show okk (if tg 0 = 11 then bnd2 (f_X11_finding 0 3 S2) (fun r S3 => some (r, S3)) else none) _
      rw [if_pos tg0, fstN_none 101 r3]
      exact c_none hI r2
    · rw [fstN_some r3 r5 101 r4]
      exact OKC.trial hI r2
/-- the reference: its row laid by, and brought back -/
def lb (S : Mem) : Mem := wrow S 61 (cpR (S 58) (S 61))
theorem lb58 (S : Mem) : lb S 58 = S 58 := wrow_n _ (by decide)
theorem lb0 (S : Mem) : st (lb S) (lb S 67) (S 58) = lb S := by
  have := st_id (lb S)
  rw [lb58] at this
  exact this
theorem m_lb (S : Mem) : f_X12_copyRow 58 61 S = some ((), lb S) := m_copyRow rfl rfl (by decide)
theorem m_back {n k : Nat} {S : Mem} {b : Row} (h : WF n (S 58)) : ∃ S7, f_X12_copyRow 61 58 (st (lb S) b (hoursR n k (S 58))) = some ((), S7) ∧ SC S S7 := by
  refine ⟨_, m_copyRow rfl rfl (by decide), ?_⟩
  have e61 : st (lb S) b (hoursR n k (S 58)) 61 = cpR (S 58) (S 61) := by
    rw [st_n (by decide) (by decide)]
    exact wrow_s _ _ _
  rw [st_58, e61, cpR_back (fun p hp => hoursR_hi h (by omega) k), st_w58]
  intro a h60 h61 h67
  by_cases h58 : a = 58
  · subst h58
    exact st_58 _ _ _
  · rw [st_n h58 h67]
    exact wrow_n _ h61
theorem OKM_scfin {S S7 : Mem} (h : SC S S7) : okk (bnd2 (f_X12_finds 57 (-1000004) S7) (fun r S3 => some (r, S3))) (OKM S (fin (mp S) 3)) := by
  have e62 : S7 62 = S 62 := h 62 (by decide) (by decide) (by decide)
  rw [m_f3, bnd2_s, e62]
  have e : ∀ p, p ≠ 60 → p ≠ 61 → p ≠ 67 → wrow S7 62 (fndR (S 62) 3) p = wrow S 62 (fndR (S 62) 3) p := fun p h1 h2 h3 => by
    unfold wrow
    by_cases q : p = 62
    · rw [if_pos q, if_pos q]
    · rw [if_neg q, if_neg q]; exact h p h1 h2 h3
  obtain ⟨p1, p2, p3, p4, p5, p6, p7, p8, p9⟩ := PE.row (S := S) (a := 62) (g := fndR (S 62) 3) (by decide)
  refine okI ⟨by show (-1000004 : Int32) = -1000001 - nI 3; decide, ⟨(congrFun (e 57 (by decide) (by decide) (by decide)) 4).trans p1, (congrFun (e 57 (by decide) (by decide) (by decide)) 7).trans p2, (e 58 (by decide) (by decide) (by decide)).trans p3, (e 59 (by decide) (by decide) (by decide)).trans p4, (e 62 (by decide) (by decide) (by decide)).trans p5, (e 63 (by decide) (by decide) (by decide)).trans p6, (e 64 (by decide) (by decide) (by decide)).trans p7, (e 65 (by decide) (by decide) (by decide)).trans p8, (e 66 (by decide) (by decide) (by decide)).trans p9⟩, fun a ha => ?_⟩
  show wrow S7 62 _ a = S a
  rw [wrow_n _ (by omega)]
  exact h a (by omega) (by omega) (by omega)
theorem m_hourS {n i : Nat} {S S1 : Mem} {b : Row} (hw : WF n (S 58)) : ∃ b2, f_X12_hour 57 (st S1 b (hoursR n i (S 58))) = some ((), st S1 b2 (hoursR n (i + 1) (S 58))) := by
  obtain ⟨b2, e2⟩ := m_hour (S := st S1 b (hoursR n i (S 58))) (n := n) (by rw [st_58]; exact WF_hoursR hw i)
  refine ⟨b2, ?_⟩
  rw [e2, st_58]
  congr 2
  unfold st
  rw [wrow_c _ _ (by decide : (58 : Nat) ≠ 67), wrow_w, wrow_w]
  rfl
/-- what comes of a search of the reference's -/
def Fnd (n : Nat) (S : Mem) (P : Nat → Bool) (k : Nat) (S2 : Mem) : Prop := (∃ b, S2 = st (lb S) b (hoursR n k (S 58))) ∧ (P k = true ∧ k < 101 ∨ k = 101) ∧ ∀ q, q < k → P q = false
theorem m_found {n k : Nat} {S S2 : Mem} {P : Nat → Bool} (hw : WF n (S 58)) (h : Fnd n S P k S2) : okk (bnd2 (f_X12_copyRow 61 58 S2) (fun _ S3 => if 100 < nI k then bnd2 (f_X12_finds 57 (-1000004) S3) (fun r S4 => some (r, S4)) else some (nI k, S3))) (OKM S (told (mp S) (fstN P 101))) := by
  obtain ⟨⟨b, rfl⟩, h2, h3⟩ := h
  obtain ⟨S7, e7, s7⟩ := m_back (b := b) (k := k) hw
  rw [e7, bnd2_s]
  rcases h2 with ⟨h4, h5⟩ | rfl
  · rw [if_neg (nI_lt100 (by omega)), fstN_some h4 h3 101 h5]
    exact OKM.sc s7
  · rw [if_pos (by decide), fstN_none 101 h3]
    exact OKM_scfin s7
theorem m_when {S : Mem} {n : Nat} {c v : Int32} (hw : WF n (S 58)) : okk (f_X12_when 57 c v S) (OKM S (sp_when c v (mp S))) := by
  unfold f_X12_when sp_when
  have hn := hw.1
  rw [m_isCell, bnd2_s, b1_if, if_pos tg57, mp58, hw.2.1, ix_nI (show n < 2 ^ 31 by omega)]
  by_cases h1 : isM 0 24 c = true
  · rw [if_pos h1, m_isIn (l := 0) (u := 9999) (by decide) (by decide), bnd2_s, b1_if, if_pos tg57, if_pos tg57]
    by_cases h2 : isM 0 9999 v = true
    · obtain ⟨j, hj, rfl⟩ := isM_t (hi := 24) h1
      obtain ⟨s1, s2⟩ := wood_ok j (by omega)
      rw [if_pos h2, if_pos (And.intro h1 h2), m_lb, bnd2_s, ix_nI (show j < 2 ^ 31 by omega)]
      generalize hP : (fun k => decide (v ≤ hoursR n k (S 58) (5 + j))) = P
      have hPk : ∀ k, P k = decide (v ≤ hoursR n k (S 58) (5 + j)) := fun k => by rw [← hP]
      refine okB (okk_mono (itr_ex (f := i_X12_when_L39) (fun i s => ∃ b, s = (57, nI j, v, nI i, st (lb S) b (hoursR n i (S 58))) ∧ ∀ q, q < i → P q = false) (fun r => ∃ k S2, r = (57, nI k, S2) ∧ Fnd n S P k S2) 101 (fun i hi s hs => ?_) ⟨lb S 67, by show _ = (57, nI j, v, nI 0, st (lb S) (lb S 67) (S 58)); rw [lb0]; rfl, fun q hq => absurd hq (by omega)⟩ 300 (by omega)) fun r hr => ?_)
      · obtain ⟨b, rfl, r3⟩ := hs
        show okk (f_X12_when_L39 57 (nI j) v (nI i) (st (lb S) b (hoursR n i (S 58)))) _
        unfold f_X12_when_L39
        by_cases hi101 : i = 101
        · subst hi101
          rw [if_pos (by decide)]
          exact okI (Or.inr ⟨_, rfl, 101, _, rfl, ⟨b, rfl⟩, Or.inr rfl, r3⟩)
        · rw [if_neg (nI_lt100 (by omega)), if_pos tg57, if_pos s2, s1, st_58]
          by_cases h4 : v ≤ hoursR n i (S 58) (5 + j)
          · rw [if_pos h4]
            exact okI (Or.inr ⟨_, rfl, i, _, rfl, ⟨b, rfl⟩, Or.inl ⟨(hPk _).trans (dec_t h4), by omega⟩, r3⟩)
          · obtain ⟨b2, e2⟩ := m_hourS (i := i) (S1 := lb S) (b := b) hw
            rw [if_neg h4, e2, bnd2_s, nI_1]
            exact okI (Or.inl ⟨_, rfl, by omega, b2, rfl, fun q hq => by
              by_cases e : q = i
              · subst e
                exact (hPk _).trans (dec_f h4)
              · exact r3 q (by omega)⟩)
      · obtain ⟨k, S2, rfl, hF⟩ := hr
        show okk (f_X12_when_j67 57 (nI k) S2) _
        unfold f_X12_when_j67
        rw [if_pos tg57]
        exact m_found hw hF
    · rw [if_neg h2, if_neg (nr h2)]
      exact m_fin0
  · rw [if_neg h1, if_neg (nl h1)]
    exact m_fin0
theorem m_whenMore {S : Mem} {n p : Nat} (hw : WF n (S 58)) (hp : p < 96) : okk (f_X12_whenMore 57 (nI p) S) (OKM S (told (mp S) (fstN (moreP n p (S 58)) 101))) := by
  unfold f_X12_whenMore
  have hn := hw.1
  have hpi : iab 58 (nI p) = true := iab_row (k := 96) rfl (by omega) hp
  rw [if_pos tg57, m_lb, bnd2_s, if_pos hpi, ix_nI (by omega), lb58]
  generalize hP : moreP n p (S 58) = P
  have hPk : ∀ k, P k = decide (S 58 p < hoursR n k (S 58) p) := fun k => by rw [← hP]; rfl
  refine okB (okk_mono (itr_ex (f := i_X12_whenMore_L20) (fun i s => ∃ b, s = (57, nI p, S 58 p, nI i, st (lb S) b (hoursR n i (S 58))) ∧ ∀ q, q < i → P q = false) (fun r => ∃ k S2, r = (57, nI k, S2) ∧ Fnd n S P k S2) 101 (fun i hi s hs => ?_) ⟨lb S 67, by show _ = (57, nI p, S 58 p, nI 0, st (lb S) (lb S 67) (S 58)); rw [lb0]; rfl, fun q hq => absurd hq (by omega)⟩ 300 (by omega)) fun r hr => ?_)
  · obtain ⟨b, rfl, r3⟩ := hs
    show okk (f_X12_whenMore_L20 57 (nI p) (S 58 p) (nI i) (st (lb S) b (hoursR n i (S 58)))) _
    unfold f_X12_whenMore_L20
    by_cases hi101 : i = 101
    · subst hi101
      rw [if_pos (by decide)]
      exact okI (Or.inr ⟨_, rfl, 101, _, rfl, ⟨b, rfl⟩, Or.inr rfl, r3⟩)
    · rw [if_neg (nI_lt100 (by omega)), if_pos tg57, if_pos hpi, ix_nI (by omega), st_58]
      by_cases h4 : S 58 p < hoursR n i (S 58) p
      · rw [if_pos h4]
        exact okI (Or.inr ⟨_, rfl, i, _, rfl, ⟨b, rfl⟩, Or.inl ⟨(hPk _).trans (dec_t h4), by omega⟩, r3⟩)
      · obtain ⟨b2, e2⟩ := m_hourS (i := i) (S1 := lb S) (b := b) hw
        rw [if_neg h4, e2, bnd2_s, nI_1]
        exact okI (Or.inl ⟨_, rfl, by omega, b2, rfl, fun q hq => by
          by_cases e : q = i
          · subst e
            exact (hPk _).trans (dec_f h4)
          · exact r3 q (by omega)⟩)
  · obtain ⟨k, S2, rfl, hF⟩ := hr
    show okk (f_X12_whenMore_j46 57 (nI k) S2) _
    unfold f_X12_whenMore_j46
    rw [if_pos tg57]
    exact m_found hw hF
theorem OKM_pass {S : Mem} {o : Option (Int32 × Mem)} {r : Int32 × Mem} (h : okk o (OKM S r)) : okk (bnd2 o (fun a S2 => some (a, S2))) (OKM S r) := okB2 (okk_mono h fun _ hx => okI hx)
theorem m_stuck {S : Mem} {n : Nat} {f : Int32} (hw : WF n (S 58)) : okk (f_X12_stuck 57 f S) (OKM S (sp_stuck f (mp S))) := by
  unfold f_X12_stuck sp_stuck
  have hn := hw.1
  rw [if_pos tg57, m_isFire hw.2.1 hn, bnd2_s, b1_if, nA_e (A := mp S) hw.2.1 hn, mp58, hw.2.1, ix_nI (show n < 2 ^ 31 by omega)]
  by_cases h1 : isM 0 ((n : Int) - 1) f = true
  · obtain ⟨j, hj, rfl⟩ := isM_fire hn h1
    have e : (30 : Int32) + 7 * nI j + 6 = nI (fi j 6) := by
      unfold fi
      rw [show (30 : Int32) = nI 30 by decide, show (7 : Int32) = nI 7 by decide, show (6 : Int32) = nI 6 by decide, pk_mul, nI_add, nI_add]
    rw [if_pos h1, if_pos h1, m_at, bnd2_s, e, ix_nI (by omega)]
    exact OKM_pass (m_whenMore hw (by unfold fi; omega))
  · rw [if_neg h1, if_neg h1]
    exact m_fin0
theorem m_crosses {S : Mem} {n : Nat} (hw : WF n (S 58)) : okk (f_X12_crosses 57 S) (OKM S (sp_crosses (mp S))) := by
  unfold f_X12_crosses sp_crosses
  have hn := hw.1
  rw [if_pos tg57, mp58, hw.2.1, ix_nI (show n < 2 ^ 31 by omega), show (4 : Int32) = nI 4 by decide]
  exact OKM_pass (m_whenMore hw (by decide))
