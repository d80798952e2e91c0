/-! feed -/
def fdR (w : Int32) (m tp t : Nat) (g : Row) : Row := fun i => if tp ≤ i ∧ i < tp + t then srI w (8 * nI (m - 1 - (i - tp))) &&& 255 else g i
def fdA (w : Int32) (m tp t : Nat) (A : Mem) : Mem := wr (wrow A 63 (fdR w m tp t (A 63))) 57 7 (nI (tp + t))
def sp_feed (w n : Int32) (A : Mem) : Int32 × Mem := if isM 1 4 n = true then (if A 57 7 + n ≤ 120 then (nI (ix (A 57 7) + ix n), fdA w (ix n) (ix (A 57 7)) (ix n) A) else fin A 1) else fin A 0
theorem fdR_step {w : Int32} {m tp t : Nat} {g : Row} : upd (fdR w m tp t g) (tp + t) (srI w (8 * nI (m - 1 - t)) &&& 255) = fdR w m tp (t + 1) g := by
  funext i
  unfold fdR
  by_cases h : i = tp + t
  · subst h
    rw [upd_s, if_pos (by omega), show m - 1 - (tp + t - tp) = m - 1 - t by omega]
  · rw [upd_n h]
    by_cases h2 : tp ≤ i ∧ i < tp + t
    · rw [if_pos h2, if_pos (by omega)]
    · rw [if_neg h2, if_neg (by omega)]
theorem fdR_0 {w : Int32} {m tp : Nat} {g : Row} : fdR w m tp 0 g = g := by
  funext i
  unfold fdR
  rw [if_neg (by omega)]
theorem isM14 {n : Int32} : isM 1 4 n = true ↔ ¬ n < 1 ∧ n ≤ 4 := by
  unfold isM
  rw [Int32.lt_iff_toInt_lt, Int32.le_iff_toInt_le, i_1, show (4 : Int32).toInt = 4 by decide]
  simp only [Bool.and_eq_true, decide_eq_true_eq]
  omega
theorem tp_le : ∀ m, m ≤ 4 → (120 : Int32) - nI m = nI (120 - m) := by decide +kernel
theorem c_put7 {tp : Nat} {v : Int32} {S : Mem} (h : tp < 120) (h1 : S 45 1 = nI tp) : f_X7_put 45 v S = some ((), wr (wr S 46 tp v.toInt8.toInt32) 45 1 (nI (tp + 1))) := by
  unfold f_X7_put
  rw [if_pos tg45, h1, if_pos (bab46 h), ix_nI (by omega)]
  dsimp only
  rw [wr_n (by decide), h1, nI_1]
theorem neg1_lt : (nI 0 - 1 : Int32) < 0 := by decide
theorem c_feed {S A : Mem} {H : Nat} {w n : Int32} (hI : INV S A H) : okk (f_X11_feed 0 w n S) (OKC S H (sp_feed w n A)) := by
  unfold f_X11_feed sp_feed
  obtain ⟨tp, ht, s1, a7, hby⟩ := hI.2.2.2.2.1
  rw [if_pos tg0, if_pos tg0, a7, s1]
  by_cases h1 : n < 1
  · rw [if_pos h1, if_neg (fun z => (isM14.mp z).1 h1)]
    exact c_fin0 hI
  rw [if_neg h1]
  by_cases h2 : n ≤ 4
  · have h3 := isM14.mpr ⟨h1, h2⟩
    obtain ⟨m, hm1, hm4, rfl⟩ := isM_lo (lo := 1) (hi := 4) h3
    rw [if_pos h2, if_pos h3, tp_le m hm4, nI_add]
    by_cases hle : tp + m ≤ 120
    · rw [if_pos (nI_le (by omega) (by omega)), if_pos (show nI (tp + m) ≤ (120 : Int32) from nI_le (b := 120) hle (by omega)), ix_nI (by omega), ix_nI (by omega)]
      refine okB (okk_mono (itr_for (f := i_X11_feed_L40) (fun t s => ∃ S2, s = (0, w, nI (m - t) - 1, S2) ∧ S2 45 1 = nI (tp + t) ∧ (∀ a, a ≠ 45 → a ≠ 46 → S2 a = S a) ∧ (∀ i, i < tp → S2 46 i = S 46 i) ∧ ∀ k, k < t → S2 46 (tp + k) = (usI w (8 * nI (m - 1 - k))).toInt8.toInt32) (fun r => ∃ S2, r = (0, S2) ∧ S2 45 1 = nI (tp + m) ∧ (∀ a, a ≠ 45 → a ≠ 46 → S2 a = S a) ∧ (∀ i, i < tp → S2 46 i = S 46 i) ∧ ∀ k, k < m → S2 46 (tp + k) = (usI w (8 * nI (m - 1 - k))).toInt8.toInt32) m (fun t htm s hs => ?_) (fun s hs => ?_) ⟨S, rfl, s1, fun _ _ _ => rfl, fun _ _ => rfl, fun k hk => absurd hk (by omega)⟩ 300 (by omega)) fun r hr => ?_)
      · obtain ⟨S2, rfl, r1, r2, r3, r4⟩ := hs
        unfold i_X11_feed_L40
        dsimp only
        unfold f_X11_feed_L40
        have e : nI (m - t) - 1 = nI (m - 1 - t) := by
          rw [show m - t = (m - 1 - t) + 1 by omega]
          exact nI_pred _
        rw [e, if_neg (nI_neg0 (by omega)), if_pos tg0, c_put7 (by omega) r1, bnd2_s]
        have e2 : nI (m - 1 - t) + -1 = nI (m - (t + 1)) - 1 := by
          rw [show m - (t + 1) = m - 1 - t by omega]
          exact (Int32.sub_eq_add_neg _ _).symm
        rw [e2]
        refine okI ⟨_, rfl, _, rfl, ?_, fun a h1 h2 => ?_, fun i hi => ?_, fun k hk => ?_⟩
        · rw [wr_s, upd_s]; rfl
        · rw [wr_n h1, wr_n h2]; exact r2 a h1 h2
        · rw [wr_n (by decide), wr_s, upd_n (by omega)]; exact r3 i hi
        · rw [wr_n (by decide), wr_s]
          by_cases ek : k = t
          · rw [ek, upd_s]
          · rw [upd_n (by omega)]; exact r4 k (by omega)
      · obtain ⟨S2, rfl, r1, r2, r3, r4⟩ := hs
        unfold i_X11_feed_L40
        dsimp only
        unfold f_X11_feed_L40
        rw [Nat.sub_self, if_pos neg1_lt]
        exact okI ⟨_, rfl, S2, rfl, r1, r2, r3, r4⟩
      · obtain ⟨S2, rfl, r1, r2, r3, r4⟩ := hr
        dsimp only
        rw [if_pos tg0, r1]
        refine okI ⟨rfl, ?_, fun a ha => r2 a (by omega) (by omega)⟩
        obtain ⟨h1', h2', h3', h4', h5', h6'⟩ := hI
        have wA : ∀ b, b ≠ 57 → b ≠ 63 → fdA w m tp m A b = A b := fun b hb hb2 => by unfold fdA; rw [wr_n hb, wrow_n _ hb2]
        have w57 : ∀ k, k ≠ 7 → fdA w m tp m A 57 k = A 57 k := fun k hk => by unfold fdA; rw [wr_s, upd_n hk, wrow_n _ (by decide)]
        have w577 : fdA w m tp m A 57 7 = nI (tp + m) := by unfold fdA; rw [wr_s, upd_s]
        have w63 : fdA w m tp m A 63 = fdR w m tp m (A 63) := by unfold fdA; rw [wr_n (by decide), wrow_s]
        unfold INV FI TP SH
        dsimp only
        rw [wA 58 (by decide) (by decide), wA 59 (by decide) (by decide), wA 62 (by decide) (by decide), w63, wA 64 (by decide) (by decide), wA 65 (by decide) (by decide), wA 66 (by decide) (by decide), w57 4 (by decide), w577, r2 0 (by decide) (by decide), r2 56 (by decide) (by decide), r1]
        refine ⟨h1'.same fun a _ _ => r2 a (by omega) (by omega), h2', h3'.imp id fun x => ⟨x.1, x.2.same fun a _ _ => r2 a (by omega) (by omega)⟩, h4', ⟨tp + m, hle, rfl, rfl, fun i hi => ?_⟩, fun s hs => ?_⟩
        · unfold fdR
          by_cases hlt : i < tp
          · obtain ⟨q, hq, e2, e3⟩ := hby i hlt
            exact ⟨q, hq, by rw [if_neg (by omega)]; exact e2, (r3 i hlt).trans e3⟩
          · obtain ⟨q, hq, e2, e3⟩ := byte_ok w (m - 1 - (i - tp)) (by omega)
            refine ⟨q, hq, by rw [if_pos (by omega)]; exact e2, ?_⟩
            have := r4 (i - tp) (by omega)
            rw [show tp + (i - tp) = i by omega] at this
            rw [this, e3]
        · rw [r2 _ (by omega) (by omega), r2 _ (by omega) (by omega)]
          exact h6' s hs
    · rw [if_neg (nI_ge (by omega) (by omega)), if_neg (show ¬ nI (tp + m) ≤ (120 : Int32) from nI_ge (a := 120) (by omega) (by omega))]
      exact c_fin (k := 1) hI (by decide) rfl
  · rw [if_neg h2, if_neg (fun z => h2 (isM14.mp z).2)]
    exact c_fin0 hI
theorem m_feed {S T : Mem} {w n : Int32} (hT : TP T S) : okk (f_X12_feed 57 w n S) (OKM S (sp_feed w n (mp S))) := by
  unfold f_X12_feed sp_feed
  obtain ⟨tp, ht, s1, a7, hby⟩ := hT
  rw [m_isIn (l := 1) (u := 4) (by decide) (by decide), bnd2_s, b1_if, if_pos tg57, if_pos tg57, show mp S 57 = S 57 from rfl, a7]
  by_cases h3 : isM 1 4 n = true
  · obtain ⟨m, hm1, hm4, rfl⟩ := isM_lo (lo := 1) (hi := 4) h3
    rw [if_pos h3, if_pos h3, nI_add]
    by_cases hle : tp + m ≤ 120
    · have hle2 : nI (tp + m) ≤ (120 : Int32) := nI_le (b := 120) hle (by omega)
      rw [if_pos hle2, if_pos hle2, ix_nI (by omega), ix_nI (by omega)]
      have key := itr_run (f := i_X12_feed_L41) (r := (57, fdA w m tp m S)) (fun t => (57, w, nI (m - t) - 1, fdA w m tp t S)) m (fun t htm => by
        show f_X12_feed_L41 57 w (nI (m - t) - 1) (fdA w m tp t S) = _
        unfold f_X12_feed_L41
        have e : nI (m - t) - 1 = nI (m - 1 - t) := by
          rw [show m - t = (m - 1 - t) + 1 by omega]
          exact nI_pred _
        have e7 : fdA w m tp t S 57 7 = nI (tp + t) := by unfold fdA; rw [wr_s, upd_s]
        have e63 : fdA w m tp t S 63 = fdR w m tp t (S 63) := by unfold fdA; rw [wr_n (by decide), wrow_s]
        rw [e, if_neg (nI_neg0 (by omega)), if_pos tg57, e7, if_pos (iab63 (by omega)), ix_nI (by omega)]
        dsimp only
        rw [wr_n (by decide), e7, nI_1]
        have e2 : nI (m - 1 - t) + -1 = nI (m - (t + 1)) - 1 := by
          rw [show m - (t + 1) = m - 1 - t by omega]
          exact (Int32.sub_eq_add_neg _ _).symm
        rw [e2]
        have e9 : wr (wr (fdA w m tp t S) 63 (tp + t) (srI w (8 * nI (m - 1 - t)) &&& 255)) 57 7 (nI (tp + t + 1)) = fdA w m tp (t + 1) S := by
          rw [wr_row (fdA w m tp t S), e63, fdR_step]
          unfold fdA
          rw [wr_row, wr_row (wrow S 63 _), wrow_c _ _ (by decide : (57 : Nat) ≠ 63), wrow_w, wrow_w, wrow_s, upd_uu, wr_row]
          rfl
        rw [e9]) (by
        show f_X12_feed_L41 57 w (nI (m - m) - 1) (fdA w m tp m S) = _
        unfold f_X12_feed_L41
        rw [Nat.sub_self, if_pos neg1_lt]) 300 (by omega)
      have e0 : fdA w m tp 0 S = S := by
        unfold fdA
        rw [fdR_0, wrow_id, Nat.add_zero, ← a7, wr_row, upd_id, wrow_id]
      rw [e0] at key
      rw [show nI m - 1 = nI (m - 0) - 1 from rfl, key, bnd_s]
      dsimp only
      rw [if_pos tg57]
      have e7 : fdA w m tp m S 57 7 = nI (tp + m) := by unfold fdA; rw [wr_s, upd_s]
      rw [e7]
      exact OKM.hi (hi_wr (hi_row (hi_mp S) _ _) _ _ _ (by omega)) (fun q hq => by unfold fdA; rw [wr_n (by omega), wrow_n _ (by omega)])
    · have hle2 : ¬ nI (tp + m) ≤ (120 : Int32) := nI_ge (a := 120) (by omega) (by omega)
      rw [if_neg hle2, if_neg hle2]
      exact m_fin (k := 1) (by decide) (by decide)
  · rw [if_neg h3, if_neg h3]
    exact m_fin0
