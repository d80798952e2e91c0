/-! fits, kinds by the reference -/
theorem b1_01 {β : Type} (b : Bool) (X Y : β) : (if b1 b = 0 ∨ b1 b = 1 then X else Y) = X := by cases b <;> rfl
theorem m_isTold {S : Mem} {n a f z : Nat} (hw : WF n (S 58)) (ha4 : a < 4) (hf : f < n) (hz : z ≤ 40) (h6 : S 65 a = nI z) : ∃ S2, f_X12_isTold 57 (nI a) (nI f) S = some (b1 (foP n z f (fun i => S 66 (40 * a + i)) (S 58)), S2) ∧ SC S S2 := by
  have hn := hw.1
  have hf8 : f < 8 := by omega
  generalize hN : (fun i => S 66 (40 * a + i)) = N
  have hNk : ∀ i, S 66 (40 * a + i) = N i := fun i => by rw [← hN]
  have l65 : ∀ b g, st (lb S) b g 65 a = nI z := fun b g => by rw [st_n (by decide) (by decide)]; exact h6
  have l66 : ∀ b g, st (lb S) b g 66 = S 66 := fun b g => by rw [st_n (by decide) (by decide)]; rfl
  have key := itr_ex (f := i_X12_isTold_L16) (fun i t => ∃ b ok, t = (57, nI a, nI f, b1 ok, nI i, st (lb S) b (hoursR n i (S 58))) ∧ (ok = true → ∀ q, q < i → alwQ z (N q) (hoursR n q (S 58) (fi f 4)) q = true) ∧ (ok = false → foP n z f N (S 58) = false)) (fun r => ∃ b k, r = (57, b1 (foP n z f N (S 58)), st (lb S) b (hoursR n k (S 58)))) 41 (fun i hi t ht => by
    obtain ⟨b, ok, rfl, r5, r6⟩ := ht
    unfold i_X12_isTold_L16
    dsimp only
    unfold f_X12_isTold_L16 f_X12_isTold_j62 f_X12_isTold_j67
    rw [if_pos tg57, if_pos (iab65 ha4), ix_nI (show a < 2 ^ 31 by omega), l65]
    by_cases hzi : z ≤ i
    · rw [if_pos (nI_le hzi (by omega))]
      refine okI (Or.inr ⟨_, rfl, b, i, ?_⟩)
      have : ok = foP n z f N (S 58) := by
        cases ok
        · exact (r6 rfl).symm
        · exact (foP_t fun q hq => r5 rfl q (by omega)).symm
      rw [this]
    · rw [if_neg (nI_ge (by omega) (by omega)), b1_if]
      cases ok
      · rw [if_neg (by decide)]
        refine okI (Or.inr ⟨_, rfl, b, i, ?_⟩)
        rw [r6 rfl]
      · obtain ⟨b2, e2⟩ := m_hourS (i := i) (S1 := lb S) (b := b) hw
        have hst : st (lb S) b (hoursR n i (S 58)) 58 (fi f 4) = hoursR n i (S 58) (fi f 4) := by rw [st_58]
        rw [if_pos rfl, pl66, if_pos (iab66 (by omega)), l66, ix_nI (by omega), hNk, m_its4 hf8]
        simp only [bnd2_s, hst, e2, if_pos tg57, nI_1]
        have hcase : alwQ z (N i) (hoursR n i (S 58) (fi f 4)) i = (decide (N i = -1) || decide (N i = hoursR n i (S 58) (fi f 4))) := by
          unfold alwQ
          rw [dec_f hzi, Bool.false_or]
        have good : alwQ z (N i) (hoursR n i (S 58) (fi f 4)) i = true → okk (some (Sum.inl (57, nI a, nI f, (1 : Int32), nI (i + 1), st (lb S) b2 (hoursR n (i + 1) (S 58)))) : Option ((Nat × Int32 × Int32 × Int32 × Int32 × Mem) ⊕ (Nat × Int32 × Mem))) (fun x => (∃ s2, x = Sum.inl s2 ∧ i < 41 ∧ ∃ b ok, s2 = (57, nI a, nI f, b1 ok, nI (i + 1), st (lb S) b (hoursR n (i + 1) (S 58))) ∧ (ok = true → ∀ q, q < i + 1 → alwQ z (N q) (hoursR n q (S 58) (fi f 4)) q = true) ∧ (ok = false → foP n z f N (S 58) = false)) ∨ ∃ r, x = Sum.inr r ∧ ∃ b k, r = (57, b1 (foP n z f N (S 58)), st (lb S) b (hoursR n k (S 58)))) := fun hg => by
          refine okI (Or.inl ⟨_, rfl, by omega, b2, true, rfl, fun _ q hq => ?_, fun q => absurd q (by decide)⟩)
          by_cases e : q = i
          · rw [e]; exact hg
          · exact r5 rfl q (by omega)
        by_cases c1 : N i = -1
        · rw [if_pos c1]
          exact good (by rw [hcase, dec_t c1]; rfl)
        · rw [if_neg c1]
          by_cases c2 : N i = hoursR n i (S 58) (fi f 4)
          · rw [if_pos c2]
            exact good (by rw [hcase, dec_t c2, Bool.or_true])
          · rw [if_neg c2]
            exact okI (Or.inl ⟨_, rfl, by omega, b2, false, rfl, fun q => absurd q (by decide), fun _ => foP_f (i := i) (by rw [hcase, dec_f c1, dec_f c2]; rfl)⟩)) (s := (57, nI a, nI f, 1, 0, lb S)) ⟨lb S 67, true, by show _ = (57, nI a, nI f, (1 : Int32), nI 0, st (lb S) (lb S 67) (S 58)); rw [lb0]; rfl, fun _ q hq => absurd hq (by omega), fun q => absurd q (by decide)⟩ 300 (by omega)
  obtain ⟨e, he, b, k, rfl⟩ := key
  obtain ⟨S7, e7, s7⟩ := m_back (k := k) (b := b) hw
  refine ⟨S7, ?_, s7⟩
  unfold f_X12_isTold
  rw [if_pos tg57, m_lb, bnd2_s, he, bnd_s]
  dsimp only
  rw [if_pos tg57, e7, bnd2_s, b1_01]
theorem m_follow {S T : Mem} {n w : Nat} {s f : Int32} (hw : WF n (S 58)) (hS : SH T S) (hw2 : w = 0 ∨ w = 2) : okk (f_X12_couldBe 57 s f (nI w) S) (OKM S (sp_follow w s f (mp S))) := by
  unfold f_X12_couldBe sp_follow wantS
  have hn := hw.1
  have hw7 : w < 7 := by omega
  have hmost := mostN_le hw2
  rw [if_pos tg57, m_wants, bnd2_s, m_wants, bnd2_s, show mp S 64 = S 64 from rfl]
  by_cases h1 : isM 0 3 s = true
  · rw [if_pos h1, if_pos h1]
    by_cases hm : S 64 (ix s) < 0
    · rw [if_pos hm, if_pos hm, if_neg (by decide)]
      unfold f_X12_couldBe_j30
      rw [if_neg (by decide), if_pos tg57]
      exact m_fin (k := 5) (by decide) (by decide)
    · obtain ⟨a, ha, rfl⟩ := isM_t (hi := 3) h1
      have ha4 : a < 4 := by omega
      obtain ⟨b, z, hb, hz, h3, h4, h5, h6, h7⟩ := hS a ha4
      rw [if_neg hm, if_neg hm, if_pos rfl, m_isFire hw.2.1 hn, bnd2_s, b1_if, nA_e (A := mp S) hw.2.1 hn]
      unfold f_X12_couldBe_j30
      by_cases h2 : isM 0 ((n : Int) - 1) f = true
      · obtain ⟨f, hf, rfl⟩ := isM_fire hn h2
        have hf8 : f < 8 := by omega
        obtain ⟨sl1, sl2⟩ := slot_ok f hf8 w hw7
        rw [if_pos h2, if_pos h2, if_pos rfl, if_pos tg57, m_its hf8 hw7, bnd2_s, ix_nI (show a < 2 ^ 31 by omega), show mp S 65 a = S 65 a from rfl, h6, mp58, hw.2.1, show mp S 66 = S 66 from rfl, ix_nI (show z < 2 ^ 31 by omega), ix_nI (show n < 2 ^ 31 by omega), ix_nI (show f < 2 ^ 31 by omega)]
        generalize hN : (fun i => S 66 (40 * a + i)) = N
        refine okB (okk_mono (itr_for (f := i_X12_couldBe_L58) (fun v t => ∃ S2 y, t = (57, nI a, nI f, nI w, S 58 (fi f w), orF (foF n z f w N (S 58)) v, nI v, S2) ∧ SG S S2 (upd (S 58) (fi f w) y)) (fun r => ∃ S2 y, r = (57, nI f, nI w, S 58 (fi f w), orF (foF n z f w N (S 58)) (mostN w + 1), S2) ∧ SG S S2 (upd (S 58) (fi f w) y)) (mostN w + 1) (fun v hv t ht => ?_) (fun t ht => ?_) ⟨S, S 58 (fi f w), rfl, by rw [upd_id]; exact SG.rf⟩ 300 (by omega)) fun r hr => ?_)
        · obtain ⟨S2, y, rfl, r2⟩ := ht
          unfold i_X12_couldBe_L58
          dsimp only
          unfold f_X12_couldBe_L58 f_X12_couldBe_j98
          have q : SG S (wr S2 58 (fi f w) (nI v)) (upd (S 58) (fi f w) (nI v)) := by
            have := r2.wr (p := fi f w) (v := nI v)
            rwa [upd_uu] at this
          have hgw : WF n (upd (S 58) (fi f w) (nI v)) := WF_change (w := w) hw hf hw7 (isM_most (by omega) hmost)
          obtain ⟨S3, e3, s3⟩ := m_isTold (S := wr S2 58 (fi f w) (nI v)) (n := n) (a := a) (f := f) (z := z) (by rw [q.1]; exact hgw) ha4 hf hz (by rw [q.2 65 (by decide) (by decide) (by decide) (by decide)]; exact h6)
          rw [q.1, q.2 66 (by decide) (by decide) (by decide) (by decide), hN] at e3
          have hFe : foF n z f w N (S 58) v = if foP n z f N (upd (S 58) (fi f w) (nI v)) = true then shI 1 (nI v) else 0 := rfl
          have hor : orF (foF n z f w N (S 58)) (v + 1) = orF (foF n z f w N (S 58)) v ||| foF n z f w N (S 58) v := rfl
          rw [hor, hFe, m_greatestOf hw7, bnd2_s, if_neg (fun q => absurd ((nI_ltI (by omega) (by omega)).mp q) (by omega)), if_pos tg57, m_at, bnd2_s, if_pos sl2, sl1]
          simp only [e3, bnd2_s]
          rw [b1_if, nI_1]
          by_cases hp : foP n z f N (upd (S 58) (fi f w) (nI v)) = true
          · rw [if_pos hp, if_pos hp]
            exact okI ⟨_, rfl, S3, nI v, rfl, q.sc s3⟩
          · rw [if_neg hp, if_neg hp]
            exact okI ⟨_, rfl, S3, nI v, rfl, q.sc s3⟩
        · obtain ⟨S2, y, rfl, r2⟩ := ht
          unfold i_X12_couldBe_L58
          dsimp only
          unfold f_X12_couldBe_L58
          rw [m_greatestOf hw7, bnd2_s, if_pos ((nI_ltI (by omega) (by omega)).mpr (by omega))]
          exact okI ⟨_, rfl, S2, y, rfl, r2⟩
        · obtain ⟨S2, y, rfl, r2⟩ := hr
          dsimp only
          rw [if_pos tg57, m_at, bnd2_s, if_pos sl2, sl1]
          have q := r2.wr (p := fi f w) (v := S 58 (fi f w))
          rw [upd_uu, upd_id] at q
          exact OKM.sc q.fin
      · rw [if_neg h2, if_neg h2, if_neg (by decide), if_pos tg57]
        exact m_fin0
  · rw [if_neg h1, if_neg h1, if_neg (by decide)]
    unfold f_X12_couldBe_j30
    rw [if_neg (by decide), if_pos tg57]
    exact m_fin0
theorem m_fits {S T : Mem} {n : Nat} {s f : Int32} (hw : WF n (S 58)) (hS : SH T S) : okk (f_X12_fits 57 s f S) (OKM S (sp_follow 2 s f (mp S))) := by
  unfold f_X12_fits
  rw [if_pos tg57]
  exact OKM_pass (m_follow (w := 2) hw hS (Or.inr rfl))
theorem m_kinds {S T : Mem} {n : Nat} {s f : Int32} (hw : WF n (S 58)) (hS : SH T S) : okk (f_X12_kinds 57 s f S) (OKM S (sp_follow 0 s f (mp S))) := by
  unfold f_X12_kinds
  rw [if_pos tg57]
  exact OKM_pass (m_follow (w := 0) hw hS (Or.inl rfl))
