/-! go, winds, grown, ahead, odds -/
theorem rng_if {β : Type} (v M : Int32) (hi : Nat) {u : Int} (hu : (hi : Int) = u) (hM : M = nI hi) (h9 : hi < 2 ^ 31) (A B : β) : (if v < 1 then A else (if v ≤ M then B else A)) = if isM 1 u v = true then B else A := by
  subst hM
  subst hu
  have e := nI_toInt h9
  have e1 : (1 : Int32).toInt = 1 := by decide
  by_cases h1 : v < 1
  · have h2 := Int32.lt_iff_toInt_lt.mp h1
    rw [if_pos h1, if_neg]
    unfold isM
    simp only [Bool.and_eq_true, decide_eq_true_eq]
    omega
  · have h2 := Int32.le_iff_toInt_le.mp (Int32.not_lt.mp h1)
    rw [if_neg h1]
    by_cases h3 : v ≤ nI hi
    · have h4 := Int32.le_iff_toInt_le.mp h3
      rw [if_pos h3, if_pos]
      unfold isM
      simp only [Bool.and_eq_true, decide_eq_true_eq]
      omega
    · have h4 := Int32.lt_iff_toInt_lt.mp (Int32.not_le.mp h3)
      rw [if_neg h3, if_neg]
      unfold isM
      simp only [Bool.and_eq_true, decide_eq_true_eq]
      omega
theorem SP_hours {n : Nat} {g : Row} (hw : WF n g) (h : SP n g) (k : Nat) : SP n (hoursR n k g) := fun j hj => by
  rw [hoursR_hi hw (by omega)]; exact h j hj
theorem hour_le {h k : Nat} (h1 : h + k ≤ 99999) (hk : k ≤ 99999) : nI h ≤ 99999 - nI k := by
  rw [show (99999 : Int32) = nI 99999 by decide, pk_sub hk]
  exact nI_le (by omega) (by omega)
noncomputable def sp_go (k : Int32) (A : Mem) : Int32 × Mem := if isM 1 60 k = true then (woodS (hoursR (ix (A 58 0)) (ix k) (A 58)), wrow A 58 (hoursR (ix (A 58 0)) (ix k) (A 58))) else fin A 0
theorem c_go {S A : Mem} {H : Nat} {k : Int32} (hI : INV S A H) (hH : H ≤ 40000) : okk (f_X11_go 0 k S) (OKC S (H + 60) (sp_go k A)) := by
  unfold f_X11_go sp_go
  obtain ⟨n, hw, hsp, ⟨h, hh, e1⟩, hR⟩ := hI.1
  have hn := hw.1
  rw [rng_if k 60 60 (u := 60) (by decide) (by decide) (by decide), if_pos tg0, if_pos tg0]
  by_cases h1 : isM 1 60 k = true
  · obtain ⟨j, hj1, hj, rfl⟩ := isM_lo (lo := 1) (hi := 60) h1
    rw [if_pos h1, if_pos h1, hR.2.2.2.1, e1, if_pos (hour_le (by omega) (by omega)), hw.2.1, ix_nI (by omega), ix_nI (by omega)]
    refine okB2 (okk_mono (c_hours t9 hw hR e1 (by omega) (by omega)) fun x hx => ?_)
    obtain ⟨q1, q2⟩ := hx
    rw [c_allWood t9 q1, bnd2_s]
    exact OKC.town hI ⟨n, WF_hoursR hw j, SP_hours hw hsp j, ⟨h + j, by omega, hoursR_hour e1 j⟩, q1⟩ (by omega) (fun a ha => q2 a (by omega))
  · rw [if_neg h1, if_neg h1]
    exact okk_mono (c_fin0 hI) fun x hx => hx.mono (by omega)
theorem m_go {S : Mem} {n h : Nat} {k : Int32} (hw : WF n (S 58)) (e1 : S 58 1 = nI h) (hh : h ≤ 40000) : okk (f_X12_go 57 k S) (OKM S (sp_go k (mp S))) := by
  unfold f_X12_go sp_go
  have hn := hw.1
  rw [m_isIn (l := 1) (u := 60) (by decide) (by decide), bnd2_s, b1_if, if_pos tg57, if_pos tg57, mp58, hw.2.1, ix_nI (by omega)]
  by_cases h1 : isM 1 60 k = true
  · obtain ⟨j, hj1, hj, rfl⟩ := isM_lo (lo := 1) (hi := 60) h1
    obtain ⟨b, hb⟩ := m_goesA hw j (by omega)
    rw [if_pos h1, if_pos h1, if_pos i58_1, ix_1, e1, nI_add, if_pos (show nI (h + j) ≤ 99999 from nI_le (b := 99999) (by omega) (by omega)), hb, bnd2_s, m_woodAll, bnd2_s, st_58, ix_nI (by omega)]
    refine okI ⟨rfl, ?_, fun a ha => st_n (by omega) (by omega)⟩
    have e := PE.row (S := S) (a := 58) (g := hoursR n j (S 58)) (by decide)
    have e58 : st S b (hoursR n j (S 58)) 58 = wrow S 58 (hoursR n j (S 58)) 58 := by rw [st_58, wrow_s]
    have eo : ∀ p, p ≠ 58 → p ≠ 67 → st S b (hoursR n j (S 58)) p = wrow S 58 (hoursR n j (S 58)) p := fun p hp hq => by rw [st_n hp hq, wrow_n _ hp]
    obtain ⟨p1, p2, p3, p4, p5, p6, p7, p8, p9⟩ := e
    exact ⟨(congrFun (eo 57 (by decide) (by decide)) 4).trans p1, (congrFun (eo 57 (by decide) (by decide)) 7).trans p2, e58.trans p3, (eo 59 (by decide) (by decide)).trans p4, (eo 62 (by decide) (by decide)).trans p5, (eo 63 (by decide) (by decide)).trans p6, (eo 64 (by decide) (by decide)).trans p7, (eo 65 (by decide) (by decide)).trans p8, (eo 66 (by decide) (by decide)).trans p9⟩
  · rw [if_neg h1, if_neg h1]
    exact m_fin0
/-- winds -/
def drawZ (g : Row) : Int32 := g 2 * 1103515245 + 12345
noncomputable def windR (n : Nat) (g : Row) : Row := hourR n (upd (upd g 2 (drawZ g)) 3 (rmI (usI (drawZ g) 8) 5))
noncomputable def windsR (n : Nat) : Nat → Row → Row
  | 0, g => g
  | k + 1, g => windR n (windsR n k g)
theorem WF_wind0 {n : Nat} {g : Row} (h : WF n g) (v w : Int32) : WF n (upd (upd g 2 v) 3 w) := WF_low (WF_low h (by decide) (by decide)) (by decide) (by decide)
theorem WF_windsR {n : Nat} {g : Row} (h : WF n g) : ∀ k, WF n (windsR n k g)
  | 0 => h
  | k + 1 => WF_hourR (WF_wind0 (WF_windsR h k) _ _)
theorem windsR_hour {n h : Nat} {g : Row} (hh : g 1 = nI h) : ∀ k, windsR n k g 1 = nI (h + k)
  | 0 => hh
  | k + 1 => by
    show hourR n (upd (upd (windsR n k g) 2 _) 3 _) 1 = _
    rw [hourR_hour, upd_n (by decide), upd_n (by decide), windsR_hour hh k, nI_1]
    rfl
theorem windsR_hi {n p : Nat} {g : Row} (h : WF n g) (hp : 86 ≤ p) : ∀ k, windsR n k g p = g p
  | 0 => rfl
  | k + 1 => by
    show hourR n (upd (upd (windsR n k g) 2 _) 3 _) p = _
    rw [hourR_hi (WF_wind0 (WF_windsR h k) _ _) hp, upd_n (by omega), upd_n (by omega)]
    exact windsR_hi h hp k
noncomputable def sp_winds (k : Int32) (A : Mem) : Int32 × Mem := if isM 1 20 k = true then (woodS (windsR (ix (A 58 0)) (ix k) (A 58)), wrow A 58 (windsR (ix (A 58 0)) (ix k) (A 58))) else fin A 0
theorem c_windL {S : Mem} {n h k : Nat} {g : Row} (hw : WF n g) (hR : Rl S 9 n g) (e1 : g 1 = nI h) (hh : h + k < 99999) (hk : k ≤ 250) : okk (itr 300 i_X11_winds_L39 (0, nI k, 0, S)) (fun e => ∃ S2, e = (0, S2) ∧ Rl S2 9 n (windsR n k g) ∧ Fr 9 S S2) := by
  refine itr_for (f := i_X11_winds_L39) (fun j s => ∃ S2, s = (0, nI k, nI j, S2) ∧ Rl S2 9 n (windsR n j g) ∧ Fr 9 S S2) _ k (fun j hj s hs => ?_) (fun s hs => ?_) ⟨S, rfl, hR, Fr.rf⟩ 300 (by omega)
  · obtain ⟨S2, rfl, h2, h3⟩ := hs
    show okk (f_X11_winds_L39 0 (nI k) (nI j) S2) _
    unfold f_X11_winds_L39 f_X10_draw
    rw [if_neg (nI_ge hj (by omega)), if_pos tg0, if_pos (tgT t9).1, bnd2_s, h2.2.2.2.2.1, wr_s, upd_s]
    have q1 : Rl (wr (wr S2 9 8 (drawZ (windsR n j g))) 9 5 (rmI (usI (drawZ (windsR n j g)) 8) 5)) 9 n (upd (upd (windsR n j g) 2 (drawZ (windsR n j g))) 3 (rmI (usI (drawZ (windsR n j g)) 8) 5)) := (h2.self (k := 8) (j := 2) (by omega)).self (k := 5) (j := 3) (by omega)
    have q2 : Fr 9 S (wr (wr S2 9 8 (drawZ (windsR n j g))) 9 5 (rmI (usI (drawZ (windsR n j g)) 8) 5)) := (h3.wr (by omega) (by omega)).wr (by omega) (by omega)
    refine okB2 (okk_mono (c_hour (h := h + j) t9 (WF_wind0 (WF_windsR hw j) _ _) q1 (by rw [upd_n (by decide), upd_n (by decide)]; exact windsR_hour e1 j) (by omega)) fun x hx => ?_)
    refine okI ⟨_, rfl, x.2, ?_, hx.1, q2.tr hx.2⟩
    rw [nI_1]
  · obtain ⟨S2, rfl, h2, h3⟩ := hs
    show okk (f_X11_winds_L39 0 (nI k) (nI k) S2) _
    unfold f_X11_winds_L39
    rw [if_pos (nI_le (Nat.le_refl _) (by omega))]
    exact okI ⟨_, rfl, _, rfl, h2, h3⟩
theorem c_winds {S A : Mem} {H : Nat} {k : Int32} (hI : INV S A H) (hH : H ≤ 40000) : okk (f_X11_winds 0 k S) (OKC S (H + 60) (sp_winds k A)) := by
  unfold f_X11_winds sp_winds
  obtain ⟨n, hw, hsp, ⟨h, hh, e1⟩, hR⟩ := hI.1
  have hn := hw.1
  rw [rng_if k 20 20 (u := 20) (by decide) (by decide) (by decide), if_pos tg0, if_pos tg0]
  by_cases h1 : isM 1 20 k = true
  · obtain ⟨j, hj1, hj, rfl⟩ := isM_lo (lo := 1) (hi := 20) h1
    rw [if_pos h1, if_pos h1, hR.2.2.2.1, e1, if_pos (hour_le (by omega) (by omega)), hw.2.1, ix_nI (by omega), ix_nI (by omega)]
    refine okB (okk_mono (c_windL hw hR e1 (by omega) (by omega)) fun x hx => ?_)
    obtain ⟨S2, rfl, q1, q2⟩ := hx
    rw [if_pos tg0, c_allWood t9 q1, bnd2_s]
    exact OKC.town hI ⟨n, WF_windsR hw j, fun i hi => by rw [windsR_hi hw (by omega)]; exact hsp i hi, ⟨h + j, by omega, windsR_hour e1 j⟩, q1⟩ (by omega) (fun a ha => q2 a (by omega))
  · rw [if_neg h1, if_neg h1]
    exact okk_mono (c_fin0 hI) fun x hx => hx.mono (by omega)
theorem m_windL {S : Mem} {n k : Nat} (hw : WF n (S 58)) (hk : k ≤ 250) : okk (itr 300 i_X12_winds_L41 (57, nI k, 0, S)) (fun e => ∃ b, e = (57, st S b (windsR n k (S 58)))) := by
  refine itr_for (f := i_X12_winds_L41) (fun j s => ∃ b, s = (57, nI k, nI j, st S b (windsR n j (S 58)))) _ k (fun j hj s hs => ?_) (fun s hs => ?_) ⟨S 67, by show _ = (57, nI k, nI 0, st S (S 67) (S 58)); rw [st_id]; rfl⟩ 300 (by omega)
  · obtain ⟨b, rfl⟩ := hs
    show okk (f_X12_winds_L41 57 (nI k) (nI j) (st S b (windsR n j (S 58)))) _
    unfold f_X12_winds_L41 f_X12_draw
    rw [if_neg (nI_ge hj (by omega)), if_pos tg57, if_pos tg57, if_pos i58_2, ix_2, bnd2_s, if_pos i58_3, ix_3]
    simp only [wr_row, wrow_s, wrow_w, st_58, st_w58, upd_s]
    obtain ⟨b2, e2⟩ := m_hour (S := st S b (upd (upd (windsR n j (S 58)) 2 (drawZ (windsR n j (S 58)))) 3 (rmI (usI (drawZ (windsR n j (S 58))) 8) 5))) (n := n) (by rw [st_58]; exact WF_wind0 (WF_windsR hw j) _ _)
    have e3 : windsR n j (S 58) 2 * 1103515245 + 12345 = drawZ (windsR n j (S 58)) := rfl
    rw [e3, e2, bnd2_s, nI_1]
    refine okI ⟨_, rfl, b2, ?_⟩
    rw [st_58]
    unfold st
    rw [wrow_c _ _ (by decide : (58 : Nat) ≠ 67), wrow_w, wrow_w]
    rfl
  · obtain ⟨b, rfl⟩ := hs
    show okk (f_X12_winds_L41 57 (nI k) (nI k) _) _
    unfold f_X12_winds_L41
    rw [if_pos (nI_le (Nat.le_refl _) (by omega))]
    exact okI ⟨_, rfl, b, rfl⟩
theorem OKM_st {S : Mem} {b g : Row} {v : Int32} : okk (some (v, st S b g)) (OKM S (v, wrow (mp S) 58 g)) := by
  refine okI ⟨rfl, ?_, fun a ha => st_n (by omega) (by omega)⟩
  have e58 : st S b g 58 = wrow S 58 g 58 := by rw [st_58, wrow_s]
  have eo : ∀ p, p ≠ 58 → p ≠ 67 → st S b g p = wrow S 58 g p := fun p hp hq => by rw [st_n hp hq, wrow_n _ hp]
  obtain ⟨p1, p2, p3, p4, p5, p6, p7, p8, p9⟩ := PE.row (S := S) (a := 58) (g := g) (by decide)
  exact ⟨(congrFun (eo 57 (by decide) (by decide)) 4).trans p1, (congrFun (eo 57 (by decide) (by decide)) 7).trans p2, e58.trans p3, (eo 59 (by decide) (by decide)).trans p4, (eo 62 (by decide) (by decide)).trans p5, (eo 63 (by decide) (by decide)).trans p6, (eo 64 (by decide) (by decide)).trans p7, (eo 65 (by decide) (by decide)).trans p8, (eo 66 (by decide) (by decide)).trans p9⟩
theorem m_winds {S : Mem} {n h : Nat} {k : Int32} (hw : WF n (S 58)) (e1 : S 58 1 = nI h) (hh : h ≤ 40000) : okk (f_X12_winds 57 k S) (OKM S (sp_winds k (mp S))) := by
  unfold f_X12_winds sp_winds
  have hn := hw.1
  rw [m_isIn (l := 1) (u := 20) (by decide) (by decide), bnd2_s, b1_if, if_pos tg57, if_pos tg57, mp58, hw.2.1, ix_nI (by omega)]
  by_cases h1 : isM 1 20 k = true
  · obtain ⟨j, hj1, hj, rfl⟩ := isM_lo (lo := 1) (hi := 20) h1
    rw [if_pos h1, if_pos h1, if_pos i58_1, ix_1, e1, nI_add, if_pos (show nI (h + j) ≤ 99999 from nI_le (b := 99999) (by omega) (by omega)), ix_nI (by omega)]
    refine okB (okk_mono (m_windL hw (by omega)) fun x hx => ?_)
    obtain ⟨b, rfl⟩ := hx
    rw [if_pos tg57, m_woodAll, bnd2_s]
    have e58 : (57, st S b (windsR n j (S 58))).2 58 = windsR n j (S 58) := st_58 S b (windsR n j (S 58))
    rw [e58]
    exact OKM_st
  · rw [if_neg h1, if_neg h1]
    exact m_fin0
/-- grown -/
noncomputable def sp_grown (c k : Int32) (A : Mem) : Int32 × Mem := if isM 0 24 c = true ∧ isM 0 100 k = true then (hoursR (ix (A 58 0)) (ix k) (A 58) (5 + ix c), A) else fin A 0
theorem c_grown {S A : Mem} {H : Nat} {c k : Int32} (hI : INV S A H) (hH : H ≤ 40000) : okk (f_X11_grown 0 c k S) (OKC S H (sp_grown c k A)) := by
  unfold f_X11_grown sp_grown
  obtain ⟨n, hw, hsp, ⟨h, hh, e1⟩, hR⟩ := hI.1
  have hn := hw.1
  rw [c_out (hi := 24) (by decide), bnd2_s, b1n_if, if_pos tg0]
  by_cases h1 : isM 0 24 c = true
  · rw [if_pos h1, c_out (hi := 100) (by decide), bnd2_s, b1n_if, if_pos tg0, if_pos tg0]
    by_cases h2 : isM 0 100 k = true
    · obtain ⟨j, hj, rfl⟩ := isM_t (hi := 24) h1
      obtain ⟨i, hi, rfl⟩ := isM_t (hi := 100) h2
      rw [if_pos h2, if_pos (And.intro h1 h2), hw.2.1, ix_nI (by omega), ix_nI (by omega), ix_nI (by omega)]
      refine okB2 (okk_mono (c_become t21 t9 (by omega) hn hR) fun x hx => ?_)
      refine okB2 (okk_mono (c_hours t21 hw hx.1 e1 (by omega) (by omega)) fun y hy => ?_)
      have hg : y.2 22 j = hoursR n i (A 58) (5 + j) := hy.1.2.2.2.2.2.1 j (by omega)
      rw [if_pos (iabW t21 (by omega) : iab 22 (nI j) = true), hg]
      exact OKC.trial hI (hx.2.tr hy.2)
    · rw [if_neg h2, if_neg (nr h2)]
      exact c_fin0 hI
  · rw [if_neg h1, if_neg (nl h1)]
    exact c_fin0 hI
theorem m_grown {S : Mem} {n : Nat} {c k : Int32} (hw : WF n (S 58)) : okk (f_X12_grown 57 c k S) (OKM S (sp_grown c k (mp S))) := by
  unfold f_X12_grown sp_grown
  have hn := hw.1
  rw [m_isCell, bnd2_s, b1_if, if_pos tg57, mp58, hw.2.1, ix_nI (by omega)]
  by_cases h1 : isM 0 24 c = true
  · rw [if_pos h1, m_isIn (l := 0) (u := 100) (by decide) (by decide), bnd2_s, b1_if]
    by_cases h2 : isM 0 100 k = true
    · obtain ⟨j, hj, rfl⟩ := isM_t (hi := 24) h1
      obtain ⟨i, hi, rfl⟩ := isM_t (hi := 100) h2
      obtain ⟨S2, q1, q2⟩ := m_thenAt hw (p := 5 + j) (k := i) (by omega) (by omega)
      rw [if_pos h2, if_pos (And.intro h1 h2), if_pos tg57, show (5 : Int32) + nI j = nI (5 + j) from nI_add 5 j, q1, bnd2_s, ix_nI (by omega), ix_nI (by omega)]
      exact OKM.sc q2
    · rw [if_neg h2, if_neg (nr h2)]
      first
        | exact m_fin0
        | (rw [if_pos tg57]; exact m_fin0)
  · rw [if_neg h1, if_neg (nl h1)]
    exact m_fin0
