/-! fits, kinds -/
def alwQ (z : Nat) (N at_ : Int32) (i : Nat) : Bool := decide (z ≤ i) || (decide (N = -1) || decide (N = at_))
noncomputable def foP (n z f : Nat) (N : Nat → Int32) (g : Row) : Bool := by
  classical
  exact decide (∀ i, i < z → N i = -1 ∨ N i = hoursR n i g (fi f 4))
theorem foP_t {n z f : Nat} {N : Nat → Int32} {g : Row} (h : ∀ i, i < z → alwQ z (N i) (hoursR n i g (fi f 4)) i = true) : foP n z f N g = true := by
  unfold foP
  refine decide_eq_true fun i hi => ?_
  have := h i hi
  unfold alwQ at this
  rw [dec_f (by omega), Bool.false_or, Bool.or_eq_true, decide_eq_true_eq, decide_eq_true_eq] at this
  exact this
theorem foP_f {n z f i : Nat} {N : Nat → Int32} {g : Row} (h : alwQ z (N i) (hoursR n i g (fi f 4)) i = false) : foP n z f N g = false := by
  unfold foP
  refine decide_eq_false fun z => ?_
  unfold alwQ at h
  rw [Bool.or_eq_false_iff, Bool.or_eq_false_iff, decide_eq_false_iff_not, decide_eq_false_iff_not, decide_eq_false_iff_not] at h
  rcases z i (by omega) with e | e
  · exact h.2.1 e
  · exact h.2.2 e
theorem c_allows {s z i : Nat} {c : Int32} {S : Mem} (hs : s < 4) (hz : z ≤ 40) (hi : i < 2 ^ 31) (h5 : S (48 + 2 * s) 2 = nI z) : f_X8_allows (48 + 2 * s) (nI i) c S = some (b1 (alwQ z (S (48 + 2 * s + 1) i) c i), S) := by
  unfold f_X8_allows f_X8_allows_j28 alwQ
  rw [if_pos (tgS s hs).1, h5]
  by_cases h : z ≤ i
  · rw [if_pos (nI_le h hi), dec_t h]; rfl
  · rw [if_neg (nI_ge (by omega) (by omega)), dec_f h, if_pos (iabN hs (by omega)), ix_nI hi]
    by_cases h1 : S (48 + 2 * s + 1) i = -1
    · rw [if_pos h1, dec_t h1]; rfl
    · rw [if_neg h1, dec_f h1]
      by_cases h2 : S (48 + 2 * s + 1) i = c
      · rw [if_pos h2, dec_t h2]; rfl
      · rw [if_neg h2, dec_f h2]; rfl
noncomputable def foF (n z f w : Nat) (N : Nat → Int32) (g : Row) (v : Nat) : Int32 := if foP n z f N (upd g (fi f w) (nI v)) = true then shI 1 (nI v) else 0
noncomputable def sp_follow (w : Nat) (s f : Int32) (A : Mem) : Int32 × Mem := wantS s A (if isM 0 (nA A) f = true then (orF (foF (ix (A 58 0)) (ix (A 65 (ix s))) (ix f) w (fun i => A 66 (40 * ix s + i)) (A 58)) (mostN w + 1), A) else fin A 0)
theorem b1_0 (b : Bool) : (b1 b = 0) ↔ ¬ b = true := by cases b <;> decide
theorem mostN_le {w : Nat} (h : w = 0 ∨ w = 2) : mostN w ≤ 24 := by rcases h with rfl | rfl <;> decide
theorem isM_most {w v : Nat} (h : v ≤ mostN w) (h2 : mostN w ≤ 24) : isM 0 (mostN w) (nI v) = true := isM_of (lo := 0) (hi := mostN w) (by omega) (by omega) h
theorem c_follow {S A : Mem} {H w : Nat} {s f : Int32} (hI : INV S A H) (hH : H ≤ 40000) (hw2 : w = 0 ∨ w = 2) : okk (f_X11_followers 0 s f (nI w) S) (OKC S H (sp_follow w s f A)) := by
  unfold f_X11_followers sp_follow wantS
  rw [c_out (hi := 3) (by decide), bnd2_s, b1n_if, if_pos tg0, if_pos tg0]
  have hw7 : w < 7 := by omega
  have hmost := mostN_le hw2
  by_cases h1 : isM 0 3 s = true
  · obtain ⟨a, ha, rfl⟩ := isM_t (hi := 3) h1
    have ha4 : a < 4 := by omega
    obtain ⟨b, z, hb, hz, h3, h4, h5, h6, h7⟩ := hI.2.2.2.2.2 a ha4
    obtain ⟨k1, k2, k3⟩ := SH.mis hb h3 h4
    rw [if_pos h1, if_pos h1, if_pos (rabS a ha4), eadS ha4, if_pos (tgS a ha4).1, c_isMissing (tgS a ha4).1, bnd2_s, b1_if, ix_nI (show a < 2 ^ 31 by omega)]
    by_cases hm : A 64 a < 0
    · rw [if_pos (dec_t (k1.mpr hm)), if_pos hm]
      exact c_fin hI (by decide) rfl
    · obtain ⟨n, hw, hsp, ⟨h, hh, e1⟩, hR⟩ := hI.1
      have hn := hw.1
      rw [if_neg (by rw [dec_f (fun z => hm (k1.mp z))]; decide), if_neg hm, c_noFire hR.1 hn, bnd2_s, b1n_if, nA_e hw.2.1 hn]
      by_cases h2 : isM 0 ((n : Int) - 1) f = true
      · obtain ⟨f, hf, rfl⟩ := isM_fire hn h2
        have hf8 : f < 8 := by omega
        rw [if_pos h2, if_pos h2, h6, hw.2.1, ix_nI (show z < 2 ^ 31 by omega), ix_nI (show n < 2 ^ 31 by omega), ix_nI (show f < 2 ^ 31 by omega)]
        generalize hN : (fun i => A 66 (40 * a + i)) = N
        have hNk : ∀ i, i < 40 → S (48 + 2 * a + 1) i = N i := fun i hi => by
          rw [← hN, show 48 + 2 * a + 1 = 49 + 2 * a by omega]
          exact h7 i hi
        refine okB (okk_mono (itr_for (f := i_X11_followers_L52) (fun v t => ∃ S2, t = (0, nI a, nI f, nI w, orF (foF n z f w N (A 58)) v, nI v, S2) ∧ Fr 21 S S2) (fun r => ∃ S2, r = (orF (foF n z f w N (A 58)) (mostN w + 1), S2) ∧ Fr 21 S S2) (mostN w + 1) (fun v hv t ht => ?_) (fun t ht => ?_) ⟨S, rfl, Fr.rf⟩ 300 (by omega)) fun r hr => ?_)
        · obtain ⟨S2, rfl, r2⟩ := ht
          unfold i_X11_followers_L52
          dsimp only
          unfold f_X11_followers_L52
          rw [c_mostOf hw7, bnd2_s, if_neg (fun q => absurd ((nI_ltI (by omega) (by omega)).mp q) (by omega)), if_pos tg0]
          refine okB2 (okk_mono (c_tryWith (w := w) (v := nI v) hn (hR.fr hn r2 (by omega)) hf hw7) fun x hx => ?_)
          have hgw : WF n (upd (A 58) (fi f w) (nI v)) := WF_change (w := w) hw hf hw7 (isM_most (by omega) hmost)
          have hg1 : upd (A 58) (fi f w) (nI v) 1 = nI h := by rw [upd_n (lo_ne (by omega))]; exact e1
          have hFe : foF n z f w N (A 58) v = if foP n z f N (upd (A 58) (fi f w) (nI v)) = true then shI 1 (nI v) else 0 := rfl
          have hor : orF (foF n z f w N (A 58)) (v + 1) = orF (foF n z f w N (A 58)) v ||| foF n z f w N (A 58) v := rfl
          rw [hor, hFe]
          generalize upd (A 58) (fi f w) (nI v) = G at hx hgw hg1 ⊢
          have rx := r2.tr hx.2
          have x5 : x.2 (48 + 2 * a) 2 = nI z := by rw [rx _ (by omega)]; exact h5
          have hal : ∀ (i : Nat) (c : Int32) (S3 : Mem), Fr 21 S S3 → i ≤ 40 → f_X8_allows (48 + 2 * a) (nI i) c S3 = some (b1 (alwQ z (N i) c i), S3) := fun i c S3 r3 hi => by
            rw [c_allows ha4 hz (by omega) (by rw [r3 _ (by omega)]; exact h5)]
            by_cases hi40 : i < 40
            · rw [r3 _ (by omega), hNk i hi40]
            · have e : ∀ y, alwQ z y c i = true := fun y => by
                unfold alwQ
                rw [dec_t (by omega)]; rfl
              rw [e, e]
          have hat : x.2 (fa 21 f) 4 = hoursR n 0 G (fi f 4) := hx.1.2.2.2.2.2.2.1 f hf 4 (by decide)
          rw [if_pos (rabS a ha4), if_pos (rabT21 hf8), eadT21 hf8, if_pos (tg21 hf8), eadS ha4, if_pos (tgS a ha4).1, hat, show (0 : Int32) = nI 0 from rfl, hal 0 _ _ rx (by omega), bnd2_s]
          refine okB (okk_mono (itr_ex (f := i_X11_followers_L96) (fun i t => ∃ S3 ok, t = (0, nI a, nI f, nI w, orF (foF n z f w N (A 58)) v, nI v, b1 ok, nI (i + 1), S3) ∧ Rl S3 21 n (hoursR n i G) ∧ Fr 21 S S3 ∧ (ok = true → ∀ q, q ≤ i → alwQ z (N q) (hoursR n q G (fi f 4)) q = true) ∧ (ok = false → foP n z f N G = false)) (fun r => ∃ S3, r = (0, nI a, nI f, nI w, orF (foF n z f w N (A 58)) v, nI v, b1 (foP n z f N G), S3) ∧ Fr 21 S S3) 40 (fun i hi t ht => ?_) ⟨x.2, alwQ z (N 0) (hoursR n 0 G (fi f 4)) 0, rfl, hx.1, rx, fun q k hk => by rw [show k = 0 by omega]; exact q, fun q => foP_f q⟩ 300 (by omega)) fun r hr => ?_)
          · obtain ⟨S3, ok, rfl, r3, r4, r5, r6⟩ := ht
            unfold i_X11_followers_L96
            dsimp only
            unfold f_X11_followers_L96
            rw [if_pos tg0, if_pos (rabS a ha4), eadS ha4, if_pos (tgS a ha4).1, r4 (48 + 2 * a) (by omega), h5]
            by_cases hzi : z ≤ i + 1
            · rw [if_pos (nI_le hzi (by omega))]
              refine okI (Or.inr ⟨_, rfl, S3, ?_, r4⟩)
              have : ok = foP n z f N G := by
                cases ok
                · exact (r6 rfl).symm
                · exact (foP_t fun q hq => r5 rfl q (by omega)).symm
              rw [this]
            · rw [if_neg (nI_ge (by omega) (by omega)), b1_if]
              cases ok
              · rw [if_neg (by decide)]
                refine okI (Or.inr ⟨_, rfl, S3, ?_, r4⟩)
                rw [r6 rfl]
              · rw [if_pos rfl]
                refine okB2 (okk_mono (c_hour t21 (WF_hoursR hgw i) r3 (hoursR_hour hg1 i) (by omega)) fun y hy => ?_)
                have hat2 : y.2 (fa 21 f) 4 = hoursR n (i + 1) G (fi f 4) := hy.1.2.2.2.2.2.2.1 f hf 4 (by decide)
                have ry := r4.tr hy.2
                rw [if_pos (rabT21 hf8), eadT21 hf8, if_pos (tg21 hf8), hat2, hal (i + 1) _ _ ry (by omega), bnd2_s, nI_1]
                refine okI (Or.inl ⟨_, rfl, by omega, y.2, _, rfl, hy.1, ry, fun q k hk => ?_, fun q => foP_f q⟩)
                by_cases e : k = i + 1
                · rw [e]; exact q
                · exact r5 rfl k (by omega)
          · obtain ⟨S3, rfl, r4⟩ := hr
            dsimp only
            unfold f_X11_followers_j153 f_X11_followers_j168
            rw [b1_if, nI_1]
            by_cases hp : foP n z f N G = true
            · rw [if_pos hp, if_pos hp]
              exact okI ⟨_, rfl, S3, rfl, r4⟩
            · rw [if_neg hp, if_neg hp]
              exact okI ⟨_, rfl, S3, rfl, r4⟩
        · obtain ⟨S2, rfl, r2⟩ := ht
          unfold i_X11_followers_L52
          dsimp only
          unfold f_X11_followers_L52
          rw [c_mostOf hw7, bnd2_s, if_pos ((nI_ltI (by omega) (by omega)).mpr (by omega))]
          exact okI ⟨_, rfl, S2, rfl, r2⟩
        · obtain ⟨S2, rfl, r2⟩ := hr
          exact OKC.trial hI r2
      · rw [if_neg h2, if_neg h2]
        exact c_fin0 hI
  · rw [if_neg h1, if_neg h1]
    exact c_fin0 hI
theorem OKC_pass {S : Mem} {H : Nat} {o : Option (Int32 × Mem)} {r : Int32 × Mem} (h : okk o (OKC S H r)) : okk (bnd2 o (fun a S2 => some (a, S2))) (OKC S H r) := okB2 (okk_mono h fun _ hx => okI hx)
theorem c_fits {S A : Mem} {H : Nat} {s f : Int32} (hI : INV S A H) (hH : H ≤ 40000) : okk (f_X11_fits 0 s f S) (OKC S H (sp_follow 2 s f A)) := by
  unfold f_X11_fits
  rw [if_pos tg0]
  exact OKC_pass (c_follow (w := 2) hI hH (Or.inr rfl))
theorem c_kinds {S A : Mem} {H : Nat} {s f : Int32} (hI : INV S A H) (hH : H ≤ 40000) : okk (f_X11_kinds 0 s f S) (OKC S H (sp_follow 0 s f A)) := by
  unfold f_X11_kinds
  rw [if_pos tg0]
  exact OKC_pass (c_follow (w := 0) hI hH (Or.inl rfl))
