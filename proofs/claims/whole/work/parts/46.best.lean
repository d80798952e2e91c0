/-! windFor, homeFor, build, kindFor -/
def bst (F : Nat → Int32) : Nat → Int32 × Int32
  | 0 => (0, -1)
  | k + 1 => if F k ≤ (bst F k).2 then bst F k else (nI k, F k)
def bsm (F : Nat → Int32) : Nat → Int32 × Int32
  | 0 => (0, 10000)
  | k + 1 => if (bsm F k).2 ≤ F k then bsm F k else (nI k, F k)
theorem bst_ax (F : Nat → Int32) : ∃ B : Nat → Int32 × Int32, bst F = B ∧ B 0 = (0, -1) ∧ ∀ k, B (k + 1) = if F k ≤ (B k).2 then B k else (nI k, F k) := ⟨bst F, rfl, rfl, fun _ => rfl⟩
theorem bsm_ax (F : Nat → Int32) : ∃ B : Nat → Int32 × Int32, bsm F = B ∧ B 0 = (0, 10000) ∧ ∀ k, B (k + 1) = if (B k).2 ≤ F k then B k else (nI k, F k) := ⟨bsm F, rfl, rfl, fun _ => rfl⟩
theorem m_great (a b : Int32) (S : Mem) : f_X12_greatest a b S = some ((if b ≤ a then a else b), S) := by
  unfold f_X12_greatest
  by_cases h : a ≤ b
  · rw [if_pos h]
    by_cases h2 : b ≤ a
    · rw [if_pos h2, Int32.le_antisymm h h2]
    · rw [if_neg h2]
  · rw [if_neg h, if_pos (Int32.le_of_lt (Int32.not_le.mp h))]
theorem upd_uu (g : Row) (k : Nat) (v w : Int32) : upd (upd g k v) k w = upd g k w := by
  funext j
  by_cases h : j = k
  · subst h; rw [upd_s, upd_s]
  · rw [upd_n h, upd_n h, upd_n h]
theorem upd_id (g : Row) (k : Nat) : upd g k (g k) = g := by
  funext j
  by_cases h : j = k
  · subst h; rw [upd_s]
  · rw [upd_n h]
theorem upd_c (g : Row) {k j : Nat} (v w : Int32) (h : k ≠ j) : upd (upd g k v) j w = upd (upd g j w) k v := by
  funext i
  by_cases h1 : i = k
  · subst h1; rw [upd_n h, upd_s, upd_s]
  · by_cases h2 : i = j
    · subst h2; rw [upd_s, upd_n h1, upd_s]
    · rw [upd_n h2, upd_n h1, upd_n h1, upd_n h2]
/-- a memory that is S but for row 58, which is g, and the reference's marks -/
def SG (S S2 : Mem) (g : Row) : Prop := S2 58 = g ∧ ∀ a, a ≠ 58 → a ≠ 60 → a ≠ 61 → a ≠ 67 → S2 a = S a
theorem SG.rf {S : Mem} : SG S S (S 58) := ⟨rfl, fun _ _ _ _ _ => rfl⟩
theorem SG.wr {S S2 : Mem} {g : Row} {p : Nat} {v : Int32} (h : SG S S2 g) : SG S (wr S2 58 p v) (upd g p v) := ⟨by rw [wr_s, h.1], fun a h1 h2 h3 h4 => by rw [wr_n h1]; exact h.2 a h1 h2 h3 h4⟩
theorem SG.sc {S S2 S3 : Mem} {g : Row} (h : SG S S2 g) (h2 : SC S2 S3) : SG S S3 g := ⟨(h2 58 (by decide) (by decide) (by decide)).trans h.1, fun a q1 q2 q3 q4 => (h2 a q2 q3 q4).trans (h.2 a q1 q2 q3 q4)⟩
theorem SG.fin {S S2 : Mem} (h : SG S S2 (S 58)) : SC S S2 := fun a h1 h2 h3 => by
  by_cases e : a = 58
  · subst e; exact h.1
  · exact h.2 a e h1 h2 h3
theorem c_tryWith {S : Mem} {n f w : Nat} {g : Row} {v : Int32} (hn : n ≤ 8) (hR : Rl S 9 n g) (hf : f < n) (hw : w < 7) : okk (f_X11_tryWith 0 (nI f) (nI w) v S) (fun x => Rl x.2 21 n (upd g (fi f w) v) ∧ Fr 21 S x.2) := by
  unfold f_X11_tryWith
  have hf8 : f < 8 := by omega
  rw [if_pos tg0]
  refine okB2 (okk_mono (c_become t21 t9 (by omega) hn hR) fun x hx => ?_)
  rw [if_pos (rabT21 hf8), eadT21 hf8, if_pos (tg21 hf8), c_put (tg21 hf8) hw, bnd2_s]
  exact okI ⟨hx.1.fire hn hf hw, hx.2.wr (by unfold fa; omega) (by unfold fa; omega)⟩
/-- windFor -/
noncomputable def windF (n k : Nat) (g : Row) (v : Nat) : Int32 := woodS (hoursR n k (upd g 3 (nI v)))
noncomputable def sp_windFor (k : Int32) (A : Mem) : Int32 × Mem := if isM 0 40 k = true then ((bst (windF (ix (A 58 0)) (ix k) (A 58)) 5).1, A) else fin A 0
theorem c_windFor {S A : Mem} {H : Nat} {k : Int32} (hI : INV S A H) (hH : H ≤ 40000) : okk (f_X11_windFor 0 k S) (OKC S H (sp_windFor k A)) := by
  unfold f_X11_windFor sp_windFor
  obtain ⟨n, hw, hsp, ⟨h, hh, e1⟩, hR⟩ := hI.1
  have hn := hw.1
  rw [c_out (hi := 40) (by decide), bnd2_s, b1n_if, if_pos tg0]
  by_cases h1 : isM 0 40 k = true
  · obtain ⟨j, hj, rfl⟩ := isM_t (hi := 40) h1
    rw [if_pos h1, if_pos h1, hw.2.1, ix_nI (by omega), ix_nI (by omega)]
    generalize hF : windF n j (A 58) = F
    have hFk : ∀ v, F v = woodS (hoursR n j (upd (A 58) 3 (nI v))) := fun v => by rw [← hF]; rfl
    obtain ⟨B, eB, b0, bs⟩ := bst_ax F
    rw [eB]
    refine okB (okk_mono (itr_for (f := i_X11_windFor_L22) (fun i s => ∃ S2, s = (0, nI j, (B i).1, (B i).2, nI i, S2) ∧ Fr 21 S S2) (fun r => r.1 = (B 5).1 ∧ Fr 21 S r.2) 5 (fun i hi s hs => ?_) (fun s hs => ?_) ⟨S, by rw [b0]; rfl, Fr.rf⟩ 300 (by omega)) fun r hr => ?_)
    · obtain ⟨S2, rfl, r2⟩ := hs
      rw [bs]
      unfold i_X11_windFor_L22
      dsimp only
      unfold f_X11_windFor_L22 f_X11_windFor_j77
      rw [if_neg (show ¬ (4 : Int32) < nI i from nI_nlt (a := 4) (by omega) (by decide)), if_pos tg0]
      refine okB2 (okk_mono (c_become t21 t9 (by omega) hn (hR.fr hn r2 (by omega))) fun x hx => ?_)
      refine okB2 (okk_mono (c_hours (h := h) (k := j) t21 (WF_low hw (k := 3) (v := nI i) (by decide) (by decide)) (hx.1.self (k := 5) (j := 3) (v := nI i) (by omega)) (by rw [upd_n (by decide)]; exact e1) (by omega) (by omega)) fun y hy => ?_)
      rw [c_allWood t21 hy.1, bnd2_s, nI_1, ← hFk]
      have hf : Fr 21 S y.2 := (r2.tr (hx.2.wr (by omega) (by omega))).tr hy.2
      by_cases c1 : F i ≤ (B i).2
      · rw [if_pos c1, if_pos c1]
        exact okI ⟨_, rfl, _, rfl, hf⟩
      · rw [if_neg c1, if_neg c1]
        exact okI ⟨_, rfl, _, rfl, hf⟩
    · obtain ⟨S2, rfl, r2⟩ := hs
      unfold i_X11_windFor_L22
      dsimp only
      unfold f_X11_windFor_L22
      rw [if_pos (by decide)]
      exact okI ⟨_, rfl, rfl, r2⟩
    · obtain ⟨r1, r2⟩ := r
      obtain ⟨q1, q2⟩ := hr
      dsimp only at q1 q2 ⊢
      rw [← q1]
      exact OKC.trial hI q2
  · rw [if_neg h1, if_neg h1]
    exact c_fin0 hI
theorem m_windFor {S : Mem} {n : Nat} {k : Int32} (hw : WF n (S 58)) : okk (f_X12_windFor 57 k S) (OKM S (sp_windFor k (mp S))) := by
  unfold f_X12_windFor sp_windFor
  have hn := hw.1
  rw [m_isIn (l := 0) (u := 40) (by decide) (by decide), bnd2_s, b1_if, if_pos tg57, if_pos tg57, mp58, hw.2.1, ix_nI (show n < 2 ^ 31 by omega)]
  by_cases h1 : isM 0 40 k = true
  · obtain ⟨j, hj, rfl⟩ := isM_t (hi := 40) h1
    rw [if_pos h1, if_pos h1, if_pos i58_3, ix_3, ix_nI (by omega)]
    generalize hF : windF n j (S 58) = F
    have hFk : ∀ v, F v = woodS (hoursR n j (upd (S 58) 3 (nI v))) := fun v => by rw [← hF]; rfl
    obtain ⟨B, eB, b0, bs⟩ := bst_ax F
    rw [eB]
    refine okB (okk_mono (itr_for (f := i_X12_windFor_L34) (fun i s => ∃ S2 y, s = (57, nI j, S 58 3, (B i).1, (B i).2, nI i, S2) ∧ SG S S2 (upd (S 58) 3 y)) (fun r => ∃ S2 y, r = (57, S 58 3, (B 5).1, S2) ∧ SG S S2 (upd (S 58) 3 y)) 5 (fun i hi s hs => ?_) (fun s hs => ?_) ⟨S, S 58 3, by rw [b0]; rfl, by rw [upd_id]; exact SG.rf⟩ 300 (by omega)) fun r hr => ?_)
    · obtain ⟨S2, y, rfl, r2⟩ := hs
      rw [bs]
      unfold i_X12_windFor_L34
      dsimp only
      unfold f_X12_windFor_L34 f_X12_windFor_j68
      rw [if_neg (show ¬ (4 : Int32) < nI i from nI_nlt (a := 4) (by omega) (by decide)), if_pos tg57, if_pos i58_3, ix_3]
      have q : SG S (wr S2 58 3 (nI i)) (upd (S 58) 3 (nI i)) := by
        have := r2.wr (p := 3) (v := nI i)
        rwa [upd_uu] at this
      obtain ⟨S3, e3, s3⟩ := m_woodThen (S := wr S2 58 3 (nI i)) (n := n) (k := j) (by rw [q.1]; exact WF_low hw (by decide) (by decide)) (by omega)
      rw [q.1, ← hFk] at e3
      simp only [e3, bnd2_s, m_great, nI_1]
      by_cases c1 : F i ≤ (B i).2
      · rw [if_pos c1, if_pos c1, if_pos c1]
        exact okI ⟨_, rfl, S3, nI i, rfl, q.sc s3⟩
      · rw [if_neg c1, if_neg c1, if_neg c1]
        exact okI ⟨_, rfl, S3, nI i, rfl, q.sc s3⟩
    · obtain ⟨S2, y, rfl, r2⟩ := hs
      unfold i_X12_windFor_L34
      dsimp only
      unfold f_X12_windFor_L34
      rw [if_pos (by decide)]
      exact okI ⟨_, rfl, S2, y, rfl, r2⟩
    · obtain ⟨S2, y, rfl, r2⟩ := hr
      rw [if_pos tg57, if_pos i58_3]
      have q := r2.wr (p := 3) (v := S 58 3)
      rw [upd_uu, upd_id] at q
      exact OKM.sc q.fin
  · rw [if_neg h1, if_neg h1]
    exact m_fin0
/-- homeFor -/
noncomputable def homeF (n k f c : Nat) (g : Row) (v : Nat) : Int32 := hoursR n k (upd g (fi f 2) (nI v)) (5 + c)
noncomputable def sp_homeFor (f c k : Int32) (A : Mem) : Int32 × Mem := if isM 0 (nA A) f = true ∧ isM 0 24 c = true ∧ isM 0 40 k = true then ((bst (homeF (ix (A 58 0)) (ix k) (ix f) (ix c) (A 58)) 25).1, A) else fin A 0
theorem isM_cell {v : Nat} (h : v < 25) : isM 0 24 (nI v) = true := isM_of (lo := 0) (hi := 24) (by omega) (by omega) (by omega)
theorem c_homeFor {S A : Mem} {H : Nat} {f c k : Int32} (hI : INV S A H) (hH : H ≤ 40000) : okk (f_X11_homeFor 0 f c k S) (OKC S H (sp_homeFor f c k A)) := by
  unfold f_X11_homeFor sp_homeFor
  obtain ⟨n, hw, hsp, ⟨h, hh, e1⟩, hR⟩ := hI.1
  have hn := hw.1
  rw [if_pos tg0, c_noFire hR.1 hn, bnd2_s, b1n_if, nA_e hw.2.1 hn]
  by_cases h1 : isM 0 ((n : Int) - 1) f = true
  · rw [if_pos h1, c_out (hi := 24) (by decide), bnd2_s, b1n_if]
    by_cases h2 : isM 0 24 c = true
    · rw [if_pos h2, c_out (hi := 40) (by decide), bnd2_s, b1n_if]
      by_cases h3 : isM 0 40 k = true
      · obtain ⟨a, ha, rfl⟩ := isM_fire hn h1
        obtain ⟨b, hb, rfl⟩ := isM_t (hi := 24) h2
        obtain ⟨j, hj, rfl⟩ := isM_t (hi := 40) h3
        rw [if_pos h3, if_pos (And.intro h1 (And.intro h2 h3)), hw.2.1, ix_nI (by omega), ix_nI (by omega), ix_nI (by omega), ix_nI (by omega)]
        generalize hF : homeF n j a b (A 58) = F
        have hFk : ∀ v, F v = hoursR n j (upd (A 58) (fi a 2) (nI v)) (5 + b) := fun v => by rw [← hF]; rfl
        obtain ⟨B, eB, b0, bs⟩ := bst_ax F
        rw [eB]
        refine okB (okk_mono (itr_for (f := i_X11_homeFor_L41) (fun i s => ∃ S2, s = (0, nI a, nI b, nI j, (B i).1, (B i).2, nI i, S2) ∧ Fr 21 S S2) (fun r => r.1 = (B 25).1 ∧ Fr 21 S r.2) 25 (fun i hi s hs => ?_) (fun s hs => ?_) ⟨S, by rw [b0]; rfl, Fr.rf⟩ 300 (by omega)) fun r hr => ?_)
        · obtain ⟨S2, rfl, r2⟩ := hs
          rw [bs]
          unfold i_X11_homeFor_L41
          dsimp only
          unfold f_X11_homeFor_L41 f_X11_homeFor_j93
          rw [if_neg (show ¬ (24 : Int32) < nI i from nI_nlt (a := 24) (by omega) (by decide)), if_pos tg0]
          refine okB2 (okk_mono (c_tryWith (w := 2) (v := nI i) hn (hR.fr hn r2 (by omega)) ha (by decide)) fun x hx => ?_)
          refine okB2 (okk_mono (c_hours (h := h) (k := j) t21 (WF_change (w := 2) hw ha (by decide) (isM_cell (by omega))) hx.1 (by rw [upd_n (by unfold fi; omega)]; exact e1) (by omega) (by omega)) fun y hy => ?_)
          have hg : y.2 22 b = F i := by
            rw [hFk]
            exact hy.1.2.2.2.2.2.1 b (by omega)
          rw [if_pos (iabW t21 (by omega) : iab 22 (nI b) = true), ix_nI (by omega), hg, nI_1]
          have hf : Fr 21 S y.2 := (r2.tr hx.2).tr hy.2
          by_cases c1 : F i ≤ (B i).2
          · rw [if_pos c1, if_pos c1]
            exact okI ⟨_, rfl, _, rfl, hf⟩
          · rw [if_neg c1, if_neg c1]
            exact okI ⟨_, rfl, _, rfl, hf⟩
        · obtain ⟨S2, rfl, r2⟩ := hs
          unfold i_X11_homeFor_L41
          dsimp only
          unfold f_X11_homeFor_L41
          rw [if_pos (by decide)]
          exact okI ⟨_, rfl, rfl, r2⟩
        · obtain ⟨r1, r2⟩ := r
          obtain ⟨q1, q2⟩ := hr
          dsimp only at q1 q2 ⊢
          rw [← q1]
          exact OKC.trial hI q2
      · rw [if_neg h3, if_neg (nr (nr h3))]
        exact c_fin0 hI
    · rw [if_neg h2, if_neg (nr (nl h2))]
      exact c_fin0 hI
  · rw [if_neg h1, if_neg (nl h1)]
    exact c_fin0 hI
theorem m_isAsked {S : Mem} {n : Nat} {f k : Int32} (h0 : S 58 0 = nI n) (hn : n ≤ 8) : f_X12_isAsked 57 f k S = some (b1 (isM 0 ((n : Int) - 1) f && isM 0 40 k), S) := by
  unfold f_X12_isAsked
  rw [if_pos tg57, m_isFire h0 hn, bnd2_s, b1_if]
  by_cases h1 : isM 0 ((n : Int) - 1) f = true
  · rw [if_pos h1, m_isIn (l := 0) (u := 40) (by decide) (by decide), bnd2_s, b1_if, h1, Bool.true_and]
    by_cases h2 : isM 0 40 k = true
    · rw [if_pos h2, h2]; rfl
    · rw [if_neg h2, Bool.eq_false_iff.mpr h2]; rfl
  · rw [if_neg h1, Bool.eq_false_iff.mpr h1]; rfl
theorem fi_nI (f w : Nat) : (30 : Int32) + 7 * nI f + nI w = nI (fi f w) := by
  unfold fi
  rw [show (30 : Int32) = nI 30 by decide, show (7 : Int32) = nI 7 by decide, pk_mul, nI_add, nI_add]
theorem and_b {a b : Bool} : (a && b) = true ↔ a = true ∧ b = true := Bool.and_eq_true_iff
theorem m_homeFor {S : Mem} {n : Nat} {f c k : Int32} (hw : WF n (S 58)) : okk (f_X12_homeFor 57 f c k S) (OKM S (sp_homeFor f c k (mp S))) := by
  unfold f_X12_homeFor sp_homeFor
  have hn := hw.1
  rw [if_pos tg57, m_isAsked hw.2.1 hn, bnd2_s, b1_if, nA_e (A := mp S) hw.2.1 hn, mp58, hw.2.1, ix_nI (show n < 2 ^ 31 by omega)]
  by_cases h13 : (isM 0 ((n : Int) - 1) f && isM 0 40 k) = true
  · obtain ⟨h1, h3⟩ := and_b.mp h13
    rw [if_pos h13, m_isCell, bnd2_s, b1_if]
    by_cases h2 : isM 0 24 c = true
    · obtain ⟨a, ha, rfl⟩ := isM_fire hn h1
      obtain ⟨b, hb, rfl⟩ := isM_t (hi := 24) h2
      obtain ⟨j, hj, rfl⟩ := isM_t (hi := 40) h3
      have ha8 : a < 8 := by omega
      rw [if_pos h2, if_pos (And.intro h1 (And.intro h2 h3)), m_its2 ha8, bnd2_s, ix_nI (by omega), ix_nI (by omega), ix_nI (by omega)]
      generalize hF : homeF n j a b (S 58) = F
      have hFk : ∀ v, F v = hoursR n j (upd (S 58) (fi a 2) (nI v)) (5 + b) := fun v => by rw [← hF]; rfl
      obtain ⟨B, eB, b0, bs⟩ := bst_ax F
      rw [eB]
      refine okB (okk_mono (itr_for (f := i_X12_homeFor_L40) (fun i s => ∃ S2 y, s = (57, nI a, nI b, nI j, S 58 (fi a 2), (B i).1, (B i).2, nI i, S2) ∧ SG S S2 (upd (S 58) (fi a 2) y)) (fun r => ∃ S2 y, r = (57, nI a, S 58 (fi a 2), (B 25).1, S2) ∧ SG S S2 (upd (S 58) (fi a 2) y)) 25 (fun i hi s hs => ?_) (fun s hs => ?_) ⟨S, S 58 (fi a 2), by rw [b0]; rfl, by rw [upd_id]; exact SG.rf⟩ 300 (by omega)) fun r hr => ?_)
      · obtain ⟨S2, y, rfl, r2⟩ := hs
        rw [bs]
        unfold i_X12_homeFor_L40
        dsimp only
        unfold f_X12_homeFor_L40 f_X12_homeFor_j83
        have q : SG S (wr S2 58 (fi a 2) (nI i)) (upd (S 58) (fi a 2) (nI i)) := by
          have := r2.wr (p := fi a 2) (v := nI i)
          rwa [upd_uu] at this
        obtain ⟨S3, e3, s3⟩ := m_thenAt (S := wr S2 58 (fi a 2) (nI i)) (n := n) (p := 5 + b) (k := j) (by rw [q.1]; exact WF_change (w := 2) hw ha (by decide) (isM_cell (by omega))) (by omega) (by omega)
        rw [q.1, ← hFk] at e3
        rw [if_neg (show ¬ (25 : Int32) ≤ nI i from nI_ge (b := 25) (by omega) (by decide)), if_pos tg57, m_at, bnd2_s, if_pos (s_2 ha8).2, (s_2 ha8).1, show (5 : Int32) + nI b = nI (5 + b) from nI_add 5 b]
        simp only [e3, bnd2_s, m_great, nI_1]
        by_cases c1 : F i ≤ (B i).2
        · rw [if_pos c1, if_pos c1, if_pos c1]
          exact okI ⟨_, rfl, S3, nI i, rfl, q.sc s3⟩
        · rw [if_neg c1, if_neg c1, if_neg c1]
          exact okI ⟨_, rfl, S3, nI i, rfl, q.sc s3⟩
      · obtain ⟨S2, y, rfl, r2⟩ := hs
        unfold i_X12_homeFor_L40
        dsimp only
        unfold f_X12_homeFor_L40
        rw [if_pos (by decide)]
        exact okI ⟨_, rfl, S2, y, rfl, r2⟩
      · obtain ⟨S2, y, rfl, r2⟩ := hr
        rw [if_pos tg57, m_at, bnd2_s, if_pos (s_2 ha8).2, (s_2 ha8).1]
        have q := r2.wr (p := fi a 2) (v := S 58 (fi a 2))
        rw [upd_uu, upd_id] at q
        exact OKM.sc q.fin
    · rw [if_neg h2, if_neg (nr (nl h2))]
      exact m_fin0
  · rw [if_neg h13, if_neg (fun z => h13 (and_b.mpr ⟨z.1, z.2.2⟩))]
    exact m_fin0
