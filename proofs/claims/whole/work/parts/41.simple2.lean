/-! of, change, now, count, status, hold, as, image, undo, tear, wipe -/
def abK (x : Int32) : Int32 := if 0 ≤ x then x else -x
def farK (a h : Int32) : Int32 := abK (a / 5 - h / 5) + abK (rmI a 5 - rmI h 5)
theorem c_abs (x : Int32) (S : Mem) : f_J9_abs_0f7a4 x S = some (abK x, S) := by
  unfold f_J9_abs_0f7a4 abK
  rw [Int32.zero_sub]
theorem m_far (a h : Int32) (S : Mem) : f_X12_far a h S = some (farK a h, S) := by
  unfold f_X12_far f_X12_far_j26 farK abK
  by_cases h1 : 0 ≤ a / 5 - h / 5
  · rw [if_pos h1, if_pos h1]
    split <;> rfl
  · rw [if_neg h1, if_neg h1]
    split <;> rfl
def ofK (g : Row) (f : Nat) (w : Int32) : Int32 := if w = 7 then burnsK (g 1) (g (fi f 0)) else if w = 8 then nI (stepsK (g 1) (g (fi f 6)) (g (fi f 0))) else if w = 9 then farK (g (fi f 4)) (g (fi f 2)) else g (fi f (ix w))
def sp_of (f w : Int32) (A : Mem) : Int32 × Mem := if isM 0 (nA A) f = true ∧ isM 0 9 w = true then (ofK (A 58) (ix f) w, A) else fin A 0
theorem w10 {w : Int32} (h : isM 0 9 w = true) : w = 7 ∨ w = 8 ∨ w = 9 ∨ ∃ j, j < 7 ∧ w = nI j := by
  obtain ⟨j, hj, rfl⟩ := isM_t (hi := 9) h
  have : j = 7 ∨ j = 8 ∨ j = 9 ∨ j < 7 := by omega
  rcases this with rfl | rfl | rfl | h7
  · exact Or.inl rfl
  · exact Or.inr (Or.inl rfl)
  · exact Or.inr (Or.inr (Or.inl rfl))
  · exact Or.inr (Or.inr (Or.inr ⟨j, h7, rfl⟩))
theorem j7_ne : ∀ j, j < 7 → ¬ nI j = 7 ∧ ¬ nI j = 8 ∧ ¬ nI j = 9 := by decide +kernel
theorem eadT9 {f : Nat} (hf : f < 8) : eadr 3008 11 (ix (nI f)) = fa 9 f := eadT (t := 9) hf
theorem eadT21 {f : Nat} (hf : f < 8) : eadr 3008 23 (ix (nI f)) = fa 21 f := eadT (t := 21) hf
theorem rabT9 {f : Nat} (hf : f < 8) : rab 3008 11 (nI f) = true := rabT t9 hf
theorem rabT21 {f : Nat} (hf : f < 8) : rab 3008 23 (nI f) = true := rabT t21 hf
theorem tg9 {f : Nat} (hf : f < 8) : tg (fa 9 f) = 1 := (tgT t9).2.2.2.2 f hf
theorem tg21 {f : Nat} (hf : f < 8) : tg (fa 21 f) = 1 := (tgT t21).2.2.2.2 f hf
theorem c_of {S A : Mem} {H : Nat} {f w : Int32} (hI : INV S A H) : okk (f_X11_of 0 f w S) (OKC S H (sp_of f w A)) := by
  unfold f_X11_of sp_of
  obtain ⟨n, hw, hsp, ⟨h, hh, e1⟩, hR⟩ := hI.1
  have hn := hw.1
  rw [if_pos tg0, c_noFire hR.1 hn, bnd2_s, b1n_if, nA_e hw.2.1 hn]
  by_cases h1 : isM 0 ((n : Int) - 1) f = true
  · rw [if_pos h1, c_out (hi := 9) (by decide), bnd2_s, b1n_if]
    by_cases h2 : isM 0 9 w = true
    · obtain ⟨j, hj, rfl⟩ := isM_fire hn h1
      have hj8 : j < 8 := by omega
      have hF := hR.2.2.2.2.2.2.1 j hj
      obtain ⟨⟨kd, hkd, e0⟩, -⟩ := hw.2.2 j hj
      rw [if_pos h2, if_pos (And.intro h1 h2), if_pos (rabT9 hj8), eadT9 hj8, c_kindOf t9 hj8 hkd ((hF 0 (by decide)).trans e0), if_pos (tg9 hj8), if_pos (tg9 hj8), ix_nI (by omega)]
      simp only [bnd2_s, if_pos (tg9 hj8)]
      rw [d_burns hkd, d_steps hkd, bnd2_s, bnd2_s, hR.2.2.2.1, hF 6 (by decide)]
      unfold f_X1_stepsFromHome ofK
      rw [if_pos (tg9 hj8), c_abs, bnd2_s, c_abs, bnd2_s, hF 4 (by decide), hF 2 (by decide), e0]
      rcases w10 h2 with rfl | rfl | rfl | ⟨i, hi, rfl⟩
      · exact OKC.id hI
      · exact OKC.id hI
      · exact OKC.id hI
      · obtain ⟨a1, a2, a3⟩ := j7_ne i hi
        rw [if_neg a1, if_neg a2, if_neg a3, if_neg a1, if_neg a2, if_neg a3, c_value (tg9 hj8) hi, bnd2_s, ix_nI (by omega), hF i hi]
        exact OKC.id hI
    · rw [if_neg h2, if_neg (nr h2)]
      exact c_fin0 hI
  · rw [if_neg h1, if_neg (nl h1)]
    exact c_fin0 hI
theorem m_of {S : Mem} {n : Nat} {f w : Int32} (h0 : S 58 0 = nI n) (hn : n ≤ 8) : okk (f_X12_of 57 f w S) (OKM S (sp_of f w (mp S))) := by
  unfold f_X12_of sp_of
  rw [if_pos tg57, m_isFire h0 hn, bnd2_s, b1_if, nA_e (A := mp S) h0 hn]
  by_cases h1 : isM 0 ((n : Int) - 1) f = true
  · rw [if_pos h1, m_isIn (l := 0) (u := 9) (by decide) (by decide), bnd2_s, b1_if]
    by_cases h2 : isM 0 9 w = true
    · obtain ⟨j, hj, rfl⟩ := isM_fire hn h1
      have hj8 : j < 8 := by omega
      rw [if_pos h2, if_pos (And.intro h1 h2), m_burns hj8, m_steps hj8, m_its4 hj8, ix_nI (by omega)]
      simp only [bnd2_s, m_its2 hj8, m_far]
      unfold ofK
      rcases w10 h2 with rfl | rfl | rfl | ⟨i, hi, rfl⟩
      · exact OKM.id
      · exact OKM.id
      · exact OKM.id
      · obtain ⟨a1, a2, a3⟩ := j7_ne i hi
        rw [if_neg a1, if_neg a2, if_neg a3, if_neg a1, if_neg a2, if_neg a3, m_its hj8 hi, bnd2_s, ix_nI (by omega)]
        exact OKM.id
    · rw [if_neg h2, if_neg (nr h2)]
      exact m_fin0
  · rw [if_neg h1, if_neg (nl h1)]
    exact m_fin0
/-- change -/
def mostN (w : Nat) : Nat := if w = 0 then 6 else if w = 3 ∨ w = 5 then 999 else if w = 6 then 9999 else 24
theorem c_mostOf {w : Nat} (hw : w < 7) (S : Mem) : f_X11_mostOf (nI w) S = some (nI (mostN w), S) := by
  unfold f_X11_mostOf mostN
  rcases k7 hw with rfl | rfl | rfl | rfl | rfl | rfl | rfl <;> rfl
theorem m_greatestOf {w : Nat} (hw : w < 7) (S : Mem) : f_X12_greatestOf (nI w) S = some (nI (mostN w), S) := by
  unfold f_X12_greatestOf mostN
  rcases k7 hw with rfl | rfl | rfl | rfl | rfl | rfl | rfl <;> rfl
theorem mostN_t {w : Nat} (hw : w < 7) : (nI (mostN w)).toInt = (mostN w : Int) ∧ mostN w < 2 ^ 31 := by
  have : ∀ w, w < 7 → (nI (mostN w)).toInt = (mostN w : Int) ∧ mostN w < 2 ^ 31 := by decide +kernel
  exact this w hw
def sp_change (f w v : Int32) (A : Mem) : Int32 × Mem := if isM 0 (nA A) f = true ∧ isM 0 6 w = true ∧ isM 0 (mostN (ix w)) v = true then (A 58 (fi (ix f) (ix w)), wrow A 58 (upd (A 58) (fi (ix f) (ix w)) v)) else fin A 0
theorem WF_change {n f w : Nat} {g : Row} {v : Int32} (h : WF n g) (hf : f < n) (hw : w < 7) (hv : isM 0 (mostN w) v = true) : WF n (upd g (fi f w) v) := by
  obtain ⟨j, hj, rfl⟩ := isM_t hv
  refine ⟨h.1, by rw [upd_n (by unfold fi; omega)]; exact h.2.1, fun i hi => ?_⟩
  obtain ⟨q1, q2, q3, q4⟩ := h.2.2 i hi
  by_cases e : i = f
  · subst e
    have d : ∀ x, x ≠ w → upd g (fi i w) (nI j) (fi i x) = g (fi i x) := fun x hx => upd_n (by unfold fi; omega)
    rcases k7 hw with rfl | rfl | rfl | rfl | rfl | rfl | rfl
    · rw [upd_s, d 1 (by decide), d 2 (by decide), d 4 (by decide)]
      exact ⟨⟨j, by have : mostN 0 = 6 := rfl; omega, rfl⟩, q2, q3, q4⟩
    · rw [upd_s, d 0 (by decide), d 2 (by decide), d 4 (by decide)]
      exact ⟨q1, ⟨j, by have : mostN 1 = 24 := rfl; omega, rfl⟩, q3, q4⟩
    · rw [upd_s, d 0 (by decide), d 1 (by decide), d 4 (by decide)]
      exact ⟨q1, q2, ⟨j, by have : mostN 2 = 24 := rfl; omega, rfl⟩, q4⟩
    · rw [d 0 (by decide), d 1 (by decide), d 2 (by decide), d 4 (by decide)]
      exact ⟨q1, q2, q3, q4⟩
    · rw [upd_s, d 0 (by decide), d 1 (by decide), d 2 (by decide)]
      exact ⟨q1, q2, q3, ⟨j, by have : mostN 4 = 24 := rfl; omega, rfl⟩⟩
    · rw [d 0 (by decide), d 1 (by decide), d 2 (by decide), d 4 (by decide)]
      exact ⟨q1, q2, q3, q4⟩
    · rw [d 0 (by decide), d 1 (by decide), d 2 (by decide), d 4 (by decide)]
      exact ⟨q1, q2, q3, q4⟩
  · have d : ∀ x, x < 7 → upd g (fi f w) (nI j) (fi i x) = g (fi i x) := fun x hx => upd_n (by unfold fi; omega)
    rw [d 0 (by decide), d 1 (by decide), d 2 (by decide), d 4 (by decide)]
    exact ⟨q1, q2, q3, q4⟩
theorem SP_fire {n f w : Nat} {g : Row} {v : Int32} (h : SP n g) (hf : f < 8) (hw : w < 7) : SP n (upd g (fi f w) v) := h.upd (by unfold fi; omega)
theorem c_change {S A : Mem} {H : Nat} {f w v : Int32} (hI : INV S A H) : okk (f_X11_change 0 f w v S) (OKC S H (sp_change f w v A)) := by
  unfold f_X11_change sp_change
  obtain ⟨n, hw, hsp, ⟨h, hh, e1⟩, hR⟩ := hI.1
  have hn := hw.1
  rw [if_pos tg0, c_noFire hR.1 hn, bnd2_s, b1n_if, nA_e hw.2.1 hn]
  by_cases h1 : isM 0 ((n : Int) - 1) f = true
  · rw [if_pos h1, c_out (hi := 6) (by decide), bnd2_s, b1n_if]
    by_cases h2 : isM 0 6 w = true
    · obtain ⟨i, hi, rfl⟩ := isM_t (hi := 6) h2
      rw [if_pos h2, c_mostOf (by omega), bnd2_s, c_out (mostN_t (by omega)).1, bnd2_s, b1n_if, ix_nI (show i < 2 ^ 31 by omega)]
      by_cases h3 : isM 0 (mostN i) v = true
      · obtain ⟨j, hj, rfl⟩ := isM_fire hn h1
        have hj8 : j < 8 := by omega
        rw [if_pos h3, if_pos (And.intro h1 (And.intro h2 h3)), if_pos (rabT9 hj8), eadT9 hj8, if_pos (tg9 hj8), c_value (tg9 hj8) (by omega), bnd2_s, c_put (tg9 hj8) (by omega), bnd2_s, ix_nI (by omega), hR.2.2.2.2.2.2.1 j hj i (by omega)]
        exact OKC.town hI ⟨n, WF_change hw hj (by omega) h3, SP_fire hsp hj8 (by omega), ⟨h, hh, by rw [upd_n (by unfold fi; omega)]; exact e1⟩, hR.fire hn hj (by omega)⟩ (Nat.le_refl _) (fun a ha => wr_n (by unfold fa; omega))
      · rw [if_neg h3, if_neg (nr (nr h3))]
        exact c_fin0 hI
    · rw [if_neg h2, if_neg (nr (nl h2))]
      exact c_fin0 hI
  · rw [if_neg h1, if_neg (nl h1)]
    exact c_fin0 hI
theorem m_change {S : Mem} {n : Nat} {f w v : Int32} (h0 : S 58 0 = nI n) (hn : n ≤ 8) : okk (f_X12_change 57 f w v S) (OKM S (sp_change f w v (mp S))) := by
  unfold f_X12_change f_X12_change_j38 sp_change
  have e39 : ∀ S2, f_X12_change_j39 57 f w v 0 S2 = bnd2 (f_X12_finds 57 (-1000001) S2) (fun r S3 => some (r, S3)) := fun S2 => by
    unfold f_X12_change_j39
    rw [if_pos rfl, if_pos tg57]
  rw [if_pos tg57, m_isFire h0 hn, bnd2_s, b1_if, nA_e (A := mp S) h0 hn, e39]
  by_cases h1 : isM 0 ((n : Int) - 1) f = true
  · rw [if_pos h1, m_isIn (l := 0) (u := 6) (by decide) (by decide), bnd2_s, b1_if, e39]
    by_cases h2 : isM 0 6 w = true
    · obtain ⟨i, hi, rfl⟩ := isM_t (hi := 6) h2
      have hm := mostN_t (show i < 7 by omega)
      rw [if_pos h2, m_greatestOf (by omega), bnd2_s, m_isIn (l := 0) (u := mostN i) (by decide) (by rw [nI_l hm.2]; exact lN_toInt hm.2), bnd2_s, b1_if, e39, ix_nI (show i < 2 ^ 31 by omega)]
      by_cases h3 : isM 0 (mostN i) v = true
      · obtain ⟨j, hj, rfl⟩ := isM_fire hn h1
        have hj8 : j < 8 := by omega
        obtain ⟨s1, s2⟩ := slot_ok j hj8 i (by omega)
        unfold f_X12_change_j39
        rw [if_pos h3, if_pos (And.intro h1 (And.intro h2 h3)), if_neg (by decide), m_at, bnd2_s, if_pos tg57]
        unfold f_X12_becomes
        rw [if_pos tg57, if_pos s2, s1, bnd2_s, ix_nI (by omega)]
        exact OKM.put
      · rw [if_neg h3, if_neg (nr (nr h3))]
        exact m_fin0
    · rw [if_neg h2, if_neg (nr (nl h2))]
      exact m_fin0
  · rw [if_neg h1, if_neg (nl h1)]
    exact m_fin0
/-- now -/
def sp_now (w : Int32) (A : Mem) : Int32 × Mem := if w = 0 then (A 58 1, A) else if w = 1 then (woodS (A 58), A) else if w = 2 then (fireS (A 58) (ix (A 58 0)) 5, A) else if w = 3 then (A 58 4, A) else if w = 4 then (fireS (A 58) (ix (A 58 0)) 3, A) else if w = 5 then (woodQ (A 58), A) else if w = 6 then (smokeQ (A 58) (ix (A 58 0)), A) else fin A 0
theorem okIf {α : Type} {c : Prop} [Decidable c] {a b : Option α} {P Q : α → Prop} (ha : okk a P) (hb : okk b Q) : okk (if c then a else b) (if c then P else Q) := by
  by_cases h : c
  · rw [if_pos h, if_pos h]; exact ha
  · rw [if_neg h, if_neg h]; exact hb
theorem OKC_if {c : Prop} [Decidable c] {S : Mem} {H : Nat} {a b : Int32 × Mem} : OKC S H (if c then a else b) = if c then OKC S H a else OKC S H b := by
  split <;> rfl
theorem OKM_if {c : Prop} [Decidable c] {S : Mem} {a b : Int32 × Mem} : OKM S (if c then a else b) = if c then OKM S a else OKM S b := by
  split <;> rfl
theorem c_now {S A : Mem} {H : Nat} {w : Int32} (hI : INV S A H) : okk (f_X11_now 0 w S) (OKC S H (sp_now w A)) := by
  unfold f_X11_now sp_now
  obtain ⟨n, hw, hsp, ⟨h, hh, e1⟩, hR⟩ := hI.1
  have hn := hw.1
  simp only [if_pos tg0, c_allWood t9 hR, c_allSmoke t9 hn hR, c_allLogs t9 hn hR, c_woodQ t9 hR, c_smokeQ t9 hn hR, bnd2_s, hR.2.2.1, hR.2.2.2.1, hw.2.1, ix_nI (show n < 2 ^ 31 by omega), OKC_if]
  exact okIf (OKC.id hI) (okIf (OKC.id hI) (okIf (OKC.id hI) (okIf (OKC.id hI) (okIf (OKC.id hI) (okIf (OKC.id hI) (okIf (OKC.id hI) (c_fin0 hI)))))))
theorem m_now {S : Mem} {n : Nat} {w : Int32} (h0 : S 58 0 = nI n) (hn : n ≤ 8) : okk (f_X12_now 57 w S) (OKM S (sp_now w (mp S))) := by
  unfold f_X12_now sp_now
  simp only [if_pos tg57, if_pos i58_1, if_pos i58_4, ix_1, ix_4, m_woodAll, m_sum5 h0 hn, m_sum3 h0 hn, m_wooded, m_smoking h0 hn, bnd2_s, mp58, h0, ix_nI (show n < 2 ^ 31 by omega), OKM_if]
  exact okIf OKM.id (okIf OKM.id (okIf OKM.id (okIf OKM.id (okIf OKM.id (okIf OKM.id (okIf OKM.id m_fin0))))))
/-- count -/
def sp_count (w : Int32) (A : Mem) : Int32 × Mem := if w = 0 then (A 58 1, A) else if w = 1 then (A 58 0, A) else if w = 2 then (fireS (A 58) (ix (A 58 0)) 5, A) else if w = 3 then (A 58 4, A) else if w = 4 then (woodS (A 58), A) else if w = 5 then (A 57 7, A) else if w = 6 then (A 58 2, A) else if w = 7 then (spotS (A 58), A) else fin A 0
theorem c_count {S A : Mem} {H : Nat} {w : Int32} (hI : INV S A H) : okk (f_X11_count 0 w S) (OKC S H (sp_count w A)) := by
  unfold f_X11_count sp_count
  obtain ⟨n, hw, hsp, ⟨h, hh, e1⟩, hR⟩ := hI.1
  have hn := hw.1
  obtain ⟨tp, -, q2, q3, -⟩ := hI.2.2.2.2.1
  simp only [if_pos tg0, c_allWood t9 hR, c_allSmoke t9 hn hR, c_spots t9 hR, bnd2_s, hR.1, hR.2.2.1, hR.2.2.2.1, hR.2.2.2.2.1, hw.2.1, ix_nI (show n < 2 ^ 31 by omega), OKC_if, q2, q3]
  exact okIf (OKC.id hI) (okIf (OKC.id hI) (okIf (OKC.id hI) (okIf (OKC.id hI) (okIf (OKC.id hI) (okIf (OKC.id hI) (okIf (OKC.id hI) (okIf (OKC.id hI) (c_fin0 hI))))))))
theorem spot_ix : ∀ k, k < 10 → ix (86 + nI k) = 86 + k ∧ iab 58 (86 + nI k) = true := by decide +kernel
theorem m_spots {S : Mem} {n : Nat} (hn : n ≤ 8) (hs : SP n (S 58)) : itr 300 i_X12_count_L94 (57, 0, 0, S) = some (spotS (S 58), S) := by
  refine itr_run (f := i_X12_count_L94) (fun j => (57, sumF (fun k => if S 58 (86 + k) = -1 then 0 else 1) j, nI j, S)) 10 (r := (spotS (S 58), S)) (fun k hk => ?_) ?_ 300 (by decide)
  · show f_X12_count_L94 57 _ (nI k) S = some (Sum.inl (57, sumF (fun k => if S 58 (86 + k) = -1 then 0 else 1) k + (if S 58 (86 + k) = -1 then 0 else 1), nI (k + 1), S))
    unfold f_X12_count_L94 f_X12_count_j118
    obtain ⟨e1, e2⟩ := spot_ix k hk
    rw [if_neg (show ¬ (10 : Int32) ≤ nI k from nI_ge (b := 10) hk (by decide)), if_pos tg57, if_pos e2, e1, nI_1]
    rcases hs k hk with e | ⟨f, hf, e⟩
    · rw [e, if_neg (by decide), if_pos rfl]
    · rw [e, if_pos (nI_pos' (by omega)), if_neg]
      intro z
      have := congrArg Int32.toInt z
      rw [nI_toInt (by omega)] at this
      have d : (-1 : Int32).toInt = -1 := by decide
      omega
  · show f_X12_count_L94 57 _ (nI 10) S = _
    unfold f_X12_count_L94
    rw [if_pos (show (10 : Int32) ≤ nI 10 by decide)]
    rfl
theorem m_count {S : Mem} {n : Nat} {w : Int32} (h0 : S 58 0 = nI n) (hn : n ≤ 8) (hs : SP n (S 58)) : okk (f_X12_count 57 w S) (OKM S (sp_count w (mp S))) := by
  unfold f_X12_count sp_count
  simp only [if_pos tg57, if_pos i58_0, if_pos i58_1, if_pos i58_2, if_pos i58_4, ix_0, ix_1, ix_2, ix_4, m_woodAll, m_sum5 h0 hn, m_spots hn hs, bnd2_s, bnd_s, mp58, mp57, h0, ix_nI (show n < 2 ^ 31 by omega), OKM_if]
  exact okIf OKM.id (okIf OKM.id (okIf OKM.id (okIf OKM.id (okIf OKM.id (okIf OKM.id (okIf OKM.id (okIf OKM.id m_fin0)))))))
