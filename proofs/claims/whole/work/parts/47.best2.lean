/-! build, kindFor -/
theorem least_if (a b : Int32) : mnI a b = if a ≤ b then a else b := by
  unfold mnI
  by_cases h : a ≤ b
  · rw [if_pos h]
    by_cases h2 : b ≤ a
    · rw [if_pos h2, Int32.le_antisymm h h2]
    · rw [if_neg h2]
  · rw [if_neg h, if_pos (Int32.le_of_lt (Int32.not_le.mp h))]
theorem upd_4 (g : Row) {p q : Nat} (a b c d : Int32) (h : p ≠ q) : upd (upd (upd (upd g p a) q b) p c) q d = upd (upd g p c) q d := by
  rw [upd_c _ _ _ h.symm, upd_uu, upd_uu]
noncomputable def buildF (n k f : Nat) (g : Row) (v : Nat) : Int32 := hoursR n k (upd (upd g (fi f 1) (nI v)) (fi f 4) (nI v)) (fi f 6)
noncomputable def sp_build (f k : Int32) (A : Mem) : Int32 × Mem := if isM 0 (nA A) f = true ∧ isM 0 40 k = true then ((bsm (buildF (ix (A 58 0)) (ix k) (ix f) (A 58)) 25).1, A) else fin A 0
theorem WF_build {n f v : Nat} {g : Row} (hw : WF n g) (hf : f < n) (hv : v < 25) : WF n (upd (upd g (fi f 1) (nI v)) (fi f 4) (nI v)) :=
  WF_change (w := 4) (WF_change (w := 1) hw hf (by decide) (isM_cell hv)) hf (by decide) (isM_cell hv)
theorem c_build {S A : Mem} {H : Nat} {f k : Int32} (hI : INV S A H) (hH : H ≤ 40000) : okk (f_X11_build 0 f k S) (OKC S H (sp_build f k A)) := by
  unfold f_X11_build sp_build
  obtain ⟨n, hw, hsp, ⟨h, hh, e1⟩, hR⟩ := hI.1
  have hn := hw.1
  rw [if_pos tg0, c_noFire hR.1 hn, bnd2_s, b1n_if, nA_e hw.2.1 hn]
  by_cases h1 : isM 0 ((n : Int) - 1) f = true
  · rw [if_pos h1, c_out (hi := 40) (by decide), bnd2_s, b1n_if]
    by_cases h3 : isM 0 40 k = true
    · obtain ⟨a, ha, rfl⟩ := isM_fire hn h1
      obtain ⟨j, hj, rfl⟩ := isM_t (hi := 40) h3
      have ha8 : a < 8 := by omega
      rw [if_pos h3, if_pos (And.intro h1 h3), hw.2.1, ix_nI (by omega), ix_nI (by omega), ix_nI (by omega)]
      generalize hF : buildF n j a (A 58) = F
      have hFk : ∀ v, F v = hoursR n j (upd (upd (A 58) (fi a 1) (nI v)) (fi a 4) (nI v)) (fi a 6) := fun v => by rw [← hF]; rfl
      obtain ⟨B, eB, b0, bs⟩ := bsm_ax F
      rw [eB]
      refine okB (okk_mono (itr_for (f := i_X11_build_L33) (fun i s => ∃ S2, s = (0, nI a, nI j, (B i).1, (B i).2, nI i, S2) ∧ Fr 21 S S2) (fun r => r.1 = (B 25).1 ∧ Fr 21 S r.2) 25 (fun i hi s hs => ?_) (fun s hs => ?_) ⟨S, by rw [b0]; rfl, Fr.rf⟩ 300 (by omega)) fun r hr => ?_)
      · obtain ⟨S2, rfl, r2⟩ := hs
        rw [bs]
        unfold i_X11_build_L33
        dsimp only
        unfold f_X11_build_L33 f_X11_build_j104
        rw [if_neg (show ¬ (24 : Int32) < nI i from nI_nlt (a := 24) (by omega) (by decide)), if_pos tg0]
        refine okB2 (okk_mono (c_tryWith (w := 1) (v := nI i) hn (hR.fr hn r2 (by omega)) ha (by decide)) fun x hx => ?_)
        rw [if_pos (rabT21 ha8), eadT21 ha8, if_pos (tg21 ha8)]
        have hr2 := hx.1.fire (w := 4) (v := nI i) hn ha (by decide)
        refine okB2 (okk_mono (c_hours (h := h) (k := j) t21 (WF_build hw ha (by omega)) hr2 (by rw [upd_n (by unfold fi; omega), upd_n (by unfold fi; omega)]; exact e1) (by omega) (by omega)) fun y hy => ?_)
        have hg : y.2 (fa 21 a) 6 = F i := by
          rw [hFk]
          exact hy.1.2.2.2.2.2.2.1 a ha 6 (by decide)
        rw [hg, nI_1]
        have hf : Fr 21 S y.2 := ((r2.tr hx.2).wr (by unfold fa; omega) (by unfold fa; omega)).tr hy.2
        by_cases c1 : (B i).2 ≤ F i
        · rw [if_pos c1, if_pos c1]
          exact okI ⟨_, rfl, _, rfl, hf⟩
        · rw [if_neg c1, if_neg c1]
          exact okI ⟨_, rfl, _, rfl, hf⟩
      · obtain ⟨S2, rfl, r2⟩ := hs
        unfold i_X11_build_L33
        dsimp only
        unfold f_X11_build_L33
        rw [if_pos (by decide)]
        exact okI ⟨_, rfl, rfl, r2⟩
      · obtain ⟨r1, r2⟩ := r
        obtain ⟨q1, q2⟩ := hr
        dsimp only at q1 q2 ⊢
        rw [← q1]
        exact OKC.trial hI q2
    · rw [if_neg h3, if_neg (nr h3)]
      exact c_fin0 hI
  · rw [if_neg h1, if_neg (nl h1)]
    exact c_fin0 hI
theorem m_build {S : Mem} {n : Nat} {f k : Int32} (hw : WF n (S 58)) : okk (f_X12_build 57 f k S) (OKM S (sp_build f k (mp S))) := by
  unfold f_X12_build sp_build
  have hn := hw.1
  rw [if_pos tg57, m_isAsked hw.2.1 hn, bnd2_s, b1_if, nA_e (A := mp S) hw.2.1 hn, mp58, hw.2.1, ix_nI (show n < 2 ^ 31 by omega)]
  by_cases h13 : (isM 0 ((n : Int) - 1) f && isM 0 40 k) = true
  · obtain ⟨h1, h3⟩ := and_b.mp h13
    obtain ⟨a, ha, rfl⟩ := isM_fire hn h1
    obtain ⟨j, hj, rfl⟩ := isM_t (hi := 40) h3
    have ha8 : a < 8 := by omega
    have hpq : fi a 1 ≠ fi a 4 := by unfold fi; omega
    rw [if_pos h13, if_pos (And.intro h1 h3), m_its1 ha8, bnd2_s, m_its4 ha8, bnd2_s, ix_nI (by omega), ix_nI (by omega)]
    generalize hF : buildF n j a (S 58) = F
    have hFk : ∀ v, F v = hoursR n j (upd (upd (S 58) (fi a 1) (nI v)) (fi a 4) (nI v)) (fi a 6) := fun v => by rw [← hF]; rfl
    obtain ⟨B, eB, b0, bs⟩ := bsm_ax F
    rw [eB]
    refine okB (okk_mono (itr_for (f := i_X12_build_L42) (fun i s => ∃ S2 y z, s = (57, nI a, nI j, S 58 (fi a 1), S 58 (fi a 4), (B i).1, (B i).2, nI i, S2) ∧ SG S S2 (upd (upd (S 58) (fi a 1) y) (fi a 4) z)) (fun r => ∃ S2 y z, r = (57, nI a, S 58 (fi a 1), S 58 (fi a 4), (B 25).1, S2) ∧ SG S S2 (upd (upd (S 58) (fi a 1) y) (fi a 4) z)) 25 (fun i hi s hs => ?_) (fun s hs => ?_) ⟨S, S 58 (fi a 1), S 58 (fi a 4), by rw [b0]; rfl, by rw [upd_id, upd_id]; exact SG.rf⟩ 300 (by omega)) fun r hr => ?_)
    · obtain ⟨S2, y, z, rfl, r2⟩ := hs
      rw [bs]
      unfold i_X12_build_L42
      dsimp only
      unfold f_X12_build_L42 f_X12_build_j100
      have q : SG S (wr (wr S2 58 (fi a 1) (nI i)) 58 (fi a 4) (nI i)) (upd (upd (S 58) (fi a 1) (nI i)) (fi a 4) (nI i)) := by
        have := (r2.wr (p := fi a 1) (v := nI i)).wr (p := fi a 4) (v := nI i)
        rwa [upd_4 _ _ _ _ _ hpq] at this
      obtain ⟨S3, e3, s3⟩ := m_thenAt (S := wr (wr S2 58 (fi a 1) (nI i)) 58 (fi a 4) (nI i)) (n := n) (p := fi a 6) (k := j) (by rw [q.1]; exact WF_build hw ha (by omega)) (by unfold fi; omega) (by omega)
      rw [q.1, ← hFk] at e3
      rw [if_neg (show ¬ (25 : Int32) ≤ nI i from nI_ge (b := 25) (by omega) (by decide)), if_pos tg57, m_at, bnd2_s, if_pos (s_1 ha8).2, (s_1 ha8).1]
      simp only [m_at, bnd2_s]
      rw [if_pos (s_4 ha8).2, (s_4 ha8).1, show (30 : Int32) + 7 * nI a + 6 = nI (fi a 6) from fi_nI a 6]
      simp only [e3, bnd2_s, m_least, least_if, nI_1]
      by_cases c1 : (B i).2 ≤ F i
      · rw [if_pos c1, if_pos c1, if_pos c1]
        exact okI ⟨_, rfl, S3, nI i, nI i, rfl, q.sc s3⟩
      · rw [if_neg c1, if_neg c1, if_neg c1]
        exact okI ⟨_, rfl, S3, nI i, nI i, rfl, q.sc s3⟩
    · obtain ⟨S2, y, z, rfl, r2⟩ := hs
      unfold i_X12_build_L42
      dsimp only
      unfold f_X12_build_L42
      rw [if_pos (by decide)]
      exact okI ⟨_, rfl, S2, y, z, rfl, r2⟩
    · obtain ⟨S2, y, z, rfl, r2⟩ := hr
      dsimp only
      rw [if_pos tg57, m_at, bnd2_s, if_pos (s_1 ha8).2, (s_1 ha8).1]
      simp only [m_at, bnd2_s]
      rw [if_pos (s_4 ha8).2, (s_4 ha8).1]
      have q := (r2.wr (p := fi a 1) (v := S 58 (fi a 1))).wr (p := fi a 4) (v := S 58 (fi a 4))
      rw [upd_4 _ _ _ _ _ hpq, upd_id, upd_id] at q
      exact OKM.sc q.fin
  · rw [if_neg h13, if_neg (fun z => h13 (and_b.mpr z))]
    exact m_fin0
noncomputable def kindF (n k f : Nat) (g : Row) (v : Nat) : Int32 := woodS (hoursR n k (upd g (fi f 0) (nI v)))
noncomputable def sp_kindFor (f k : Int32) (A : Mem) : Int32 × Mem := if isM 0 (nA A) f = true ∧ isM 0 40 k = true then ((bst (kindF (ix (A 58 0)) (ix k) (ix f) (A 58)) 7).1, A) else fin A 0
theorem isM_kind {v : Nat} (h : v < 7) : isM 0 6 (nI v) = true := isM_of (lo := 0) (hi := 6) (by omega) (by omega) (by omega)
theorem c_kindFor {S A : Mem} {H : Nat} {f k : Int32} (hI : INV S A H) (hH : H ≤ 40000) : okk (f_X11_kindFor 0 f k S) (OKC S H (sp_kindFor f k A)) := by
  unfold f_X11_kindFor sp_kindFor
  obtain ⟨n, hw, hsp, ⟨h, hh, e1⟩, hR⟩ := hI.1
  have hn := hw.1
  rw [if_pos tg0, c_noFire hR.1 hn, bnd2_s, b1n_if, nA_e hw.2.1 hn]
  by_cases h1 : isM 0 ((n : Int) - 1) f = true
  · rw [if_pos h1, c_out (hi := 40) (by decide), bnd2_s, b1n_if]
    by_cases h3 : isM 0 40 k = true
    · obtain ⟨a, ha, rfl⟩ := isM_fire hn h1
      obtain ⟨j, hj, rfl⟩ := isM_t (hi := 40) h3
      rw [if_pos h3, if_pos (And.intro h1 h3), hw.2.1, ix_nI (by omega), ix_nI (by omega), ix_nI (by omega)]
      generalize hF : kindF n j a (A 58) = F
      have hFk : ∀ v, F v = woodS (hoursR n j (upd (A 58) (fi a 0) (nI v))) := fun v => by rw [← hF]; rfl
      obtain ⟨B, eB, b0, bs⟩ := bst_ax F
      rw [eB]
      refine okB (okk_mono (itr_for (f := i_X11_kindFor_L31) (fun i s => ∃ S2, s = (0, nI a, nI j, (B i).1, (B i).2, nI i, S2) ∧ Fr 21 S S2) (fun r => r.1 = (B 7).1 ∧ Fr 21 S r.2) 7 (fun i hi s hs => ?_) (fun s hs => ?_) ⟨S, by rw [b0]; rfl, Fr.rf⟩ 300 (by omega)) fun r hr => ?_)
      · obtain ⟨S2, rfl, r2⟩ := hs
        rw [bs]
        unfold i_X11_kindFor_L31
        dsimp only
        unfold f_X11_kindFor_L31 f_X11_kindFor_j77
        rw [if_neg (show ¬ (6 : Int32) < nI i from nI_nlt (a := 6) (by omega) (by decide)), if_pos tg0]
        refine okB2 (okk_mono (c_tryWith (w := 0) (v := nI i) hn (hR.fr hn r2 (by omega)) ha (by decide)) fun x hx => ?_)
        refine okB2 (okk_mono (c_hours (h := h) (k := j) t21 (WF_change (w := 0) hw ha (by decide) (isM_kind (by omega))) hx.1 (by rw [upd_n (by unfold fi; omega)]; exact e1) (by omega) (by omega)) fun y hy => ?_)
        rw [c_allWood t21 hy.1, bnd2_s, nI_1, ← hFk]
        have hf : Fr 21 S y.2 := (r2.tr hx.2).tr hy.2
        by_cases c1 : F i ≤ (B i).2
        · rw [if_pos c1, if_pos c1]
          exact okI ⟨_, rfl, _, rfl, hf⟩
        · rw [if_neg c1, if_neg c1]
          exact okI ⟨_, rfl, _, rfl, hf⟩
      · obtain ⟨S2, rfl, r2⟩ := hs
        unfold i_X11_kindFor_L31
        dsimp only
        unfold f_X11_kindFor_L31
        rw [if_pos (by decide)]
        exact okI ⟨_, rfl, rfl, r2⟩
      · obtain ⟨r1, r2⟩ := r
        obtain ⟨q1, q2⟩ := hr
        dsimp only at q1 q2 ⊢
        rw [← q1]
        exact OKC.trial hI q2
    · rw [if_neg h3, if_neg (nr h3)]
      exact c_fin0 hI
  · rw [if_neg h1, if_neg (nl h1)]
    exact c_fin0 hI
theorem m_kindFor {S : Mem} {n : Nat} {f k : Int32} (hw : WF n (S 58)) : okk (f_X12_kindFor 57 f k S) (OKM S (sp_kindFor f k (mp S))) := by
  unfold f_X12_kindFor sp_kindFor
  have hn := hw.1
  rw [if_pos tg57, m_isAsked hw.2.1 hn, bnd2_s, b1_if, nA_e (A := mp S) hw.2.1 hn, mp58, hw.2.1, ix_nI (show n < 2 ^ 31 by omega)]
  by_cases h13 : (isM 0 ((n : Int) - 1) f && isM 0 40 k) = true
  · obtain ⟨h1, h3⟩ := and_b.mp h13
    obtain ⟨a, ha, rfl⟩ := isM_fire hn h1
    obtain ⟨j, hj, rfl⟩ := isM_t (hi := 40) h3
    have ha8 : a < 8 := by omega
    rw [if_pos h13, if_pos (And.intro h1 h3), m_its0 ha8, bnd2_s, ix_nI (by omega), ix_nI (by omega)]
    generalize hF : kindF n j a (S 58) = F
    have hFk : ∀ v, F v = woodS (hoursR n j (upd (S 58) (fi a 0) (nI v))) := fun v => by rw [← hF]; rfl
    obtain ⟨B, eB, b0, bs⟩ := bst_ax F
    rw [eB]
    refine okB (okk_mono (itr_for (f := i_X12_kindFor_L32) (fun i s => ∃ S2 y, s = (57, nI a, nI j, S 58 (fi a 0), (B i).1, (B i).2, nI i, S2) ∧ SG S S2 (upd (S 58) (fi a 0) y)) (fun r => ∃ S2 y, r = (57, nI a, S 58 (fi a 0), (B 7).1, S2) ∧ SG S S2 (upd (S 58) (fi a 0) y)) 7 (fun i hi s hs => ?_) (fun s hs => ?_) ⟨S, S 58 (fi a 0), by rw [b0]; rfl, by rw [upd_id]; exact SG.rf⟩ 300 (by omega)) fun r hr => ?_)
    · obtain ⟨S2, y, rfl, r2⟩ := hs
      rw [bs]
      unfold i_X12_kindFor_L32
      dsimp only
      unfold f_X12_kindFor_L32 f_X12_kindFor_j72
      have q : SG S (wr S2 58 (fi a 0) (nI i)) (upd (S 58) (fi a 0) (nI i)) := by
        have := r2.wr (p := fi a 0) (v := nI i)
        rwa [upd_uu] at this
      obtain ⟨S3, e3, s3⟩ := m_woodThen (S := wr S2 58 (fi a 0) (nI i)) (n := n) (k := j) (by rw [q.1]; exact WF_change (w := 0) hw ha (by decide) (isM_kind (by omega))) (by omega)
      rw [q.1, ← hFk] at e3
      rw [if_neg (show ¬ (6 : Int32) < nI i from nI_nlt (a := 6) (by omega) (by decide)), if_pos tg57, m_at, bnd2_s, if_pos (s_0 ha8).2, (s_0 ha8).1]
      simp only [e3, bnd2_s, m_great, nI_1]
      by_cases c1 : F i ≤ (B i).2
      · rw [if_pos c1, if_pos c1, if_pos c1]
        exact okI ⟨_, rfl, S3, nI i, rfl, q.sc s3⟩
      · rw [if_neg c1, if_neg c1, if_neg c1]
        exact okI ⟨_, rfl, S3, nI i, rfl, q.sc s3⟩
    · obtain ⟨S2, y, rfl, r2⟩ := hs
      unfold i_X12_kindFor_L32
      dsimp only
      unfold f_X12_kindFor_L32
      rw [if_pos (by decide)]
      exact okI ⟨_, rfl, S2, y, rfl, r2⟩
    · obtain ⟨S2, y, rfl, r2⟩ := hr
      dsimp only
      rw [if_pos tg57, m_at, bnd2_s, if_pos (s_0 ha8).2, (s_0 ha8).1]
      have q := r2.wr (p := fi a 0) (v := S 58 (fi a 0))
      rw [upd_uu, upd_id] at q
      exact OKM.sc q.fin
  · rw [if_neg h13, if_neg (fun z => h13 (and_b.mpr z))]
    exact m_fin0
