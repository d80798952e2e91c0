/-! status, hold, as, image, undo, tear, wipe -/
theorem PE.hi {B C : Mem} (h : ∀ a, 57 ≤ a → B a = C a) : PE B C := ⟨congrFun (h 57 (by decide)) 4, congrFun (h 57 (by decide)) 7, h 58 (by decide), h 59 (by decide), h 62 (by decide), h 63 (by decide), h 64 (by decide), h 65 (by decide), h 66 (by decide)⟩
theorem hi_mp (S : Mem) : ∀ a, 57 ≤ a → S a = mp S a := fun a ha => by
  unfold mp
  rw [if_neg (by omega)]
theorem hi_row {B C : Mem} (h : ∀ a, 57 ≤ a → B a = C a) (p : Nat) (g : Row) : ∀ a, 57 ≤ a → wrow B p g a = wrow C p g a := fun a ha => by
  unfold wrow
  by_cases e : a = p
  · rw [if_pos e, if_pos e]
  · rw [if_neg e, if_neg e]; exact h a ha
theorem hi_wr {B C : Mem} (h : ∀ a, 57 ≤ a → B a = C a) (p k : Nat) (v : Int32) (hp : 57 ≤ p) : ∀ a, 57 ≤ a → wr B p k v a = wr C p k v a := fun a ha => by
  unfold wr
  by_cases e : a = p
  · rw [if_pos e, if_pos e, h p hp]
  · rw [if_neg e, if_neg e]; exact h a ha
theorem OKM.hi {S S2 B : Mem} {v : Int32} (h : ∀ a, 57 ≤ a → S2 a = B a) (hl : ∀ a, a < 57 → S2 a = S a) : okk (some (v, S2)) (OKM S (v, B)) := okI ⟨rfl, PE.hi h, hl⟩
/-- status -/
def sp_status (w : Int32) (A : Mem) : Int32 × Mem := if isM (-1) 6 w = true then (A 62 (ix (w + 1)), A) else fin A 0
theorem isM_m1 {w : Int32} (h : isM (-1) 6 w = true) (hne : ¬ w = -1) : ∃ j, j ≤ 6 ∧ w = nI j := by
  unfold isM at h
  simp only [Bool.and_eq_true, decide_eq_true_eq] at h
  have d : (-1 : Int32).toInt = -1 := by decide
  have : w.toInt ≠ -1 := fun z => hne (Int32.toInt_inj.mp (z.trans d.symm))
  refine ⟨w.toInt.toNat, by omega, ?_⟩
  apply Int32.toInt_inj.mp
  rw [nI_toInt (by omega)]
  omega
theorem isM_06 {w : Int32} (hne : ¬ w = -1) : isM 0 6 w = isM (-1) 6 w := by
  unfold isM
  have d : (-1 : Int32).toInt = -1 := by decide
  have h1 : w.toInt ≠ -1 := fun z => hne (Int32.toInt_inj.mp (z.trans d.symm))
  have : decide ((0 : Int) ≤ w.toInt) = decide ((-1 : Int) ≤ w.toInt) := decide_eq_decide.mpr (by omega)
  rw [this]
theorem c_sumF {S A : Mem} (h : FI S A) : itr 300 i_X11_status_L9 (0, 0, 0, S) = some (A 62 0, S) := by
  have h7 : sumF (S 56) 7 = A 62 0 := by
    rw [h.2, ← h.1 0 (by decide), ← h.1 1 (by decide), ← h.1 2 (by decide), ← h.1 3 (by decide), ← h.1 4 (by decide), ← h.1 5 (by decide), ← h.1 6 (by decide)]
    show 0 + S 56 0 + S 56 1 + S 56 2 + S 56 3 + S 56 4 + S 56 5 + S 56 6 = _
    rw [Int32.zero_add]
  rw [← h7]
  refine itr_run (f := i_X11_status_L9) (fun k => (0, sumF (S 56) k, nI k, S)) 7 (r := (sumF (S 56) 7, S)) (fun k hk => ?_) ?_ 300 (by decide)
  · show f_X11_status_L9 0 _ (nI k) S = _
    unfold f_X11_status_L9
    rw [if_neg (show ¬ (7 : Int32) ≤ nI k from nI_ge (b := 7) hk (by decide)), if_pos tg0, if_pos (iab_row (k := 7) rfl (by omega) hk), ix_nI (by omega), nI_1]
    rfl
  · show f_X11_status_L9 0 _ (nI 7) S = _
    unfold f_X11_status_L9
    rw [if_pos (show (7 : Int32) ≤ nI 7 by decide)]
theorem c_status {S A : Mem} {H : Nat} {w : Int32} (hI : INV S A H) : okk (f_X11_status 0 w S) (OKC S H (sp_status w A)) := by
  unfold f_X11_status sp_status
  have hF := hI.2.2.2.1
  by_cases hm : w = -1
  · subst hm
    rw [if_pos rfl, c_sumF hF, bnd_s, if_pos (by decide), show ix (-1 + 1) = 0 by decide]
    exact OKC.id hI
  · rw [if_neg hm, c_out (hi := 6) (by decide), bnd2_s, b1n_if, isM_06 hm]
    by_cases h1 : isM (-1) 6 w = true
    · obtain ⟨j, hj, rfl⟩ := isM_m1 h1 hm
      rw [if_pos h1, if_pos h1, if_pos tg0, if_pos (iab_row (k := 7) rfl (by omega) (by omega)), nI_1, ix_nI (by omega), ix_nI (by omega), hF.1 j (by omega)]
      exact OKC.id hI
    · rw [if_neg h1, if_neg h1, if_pos tg0]
      exact c_fin0 hI
theorem m_status {S : Mem} {w : Int32} : okk (f_X12_status 57 w S) (OKM S (sp_status w (mp S))) := by
  unfold f_X12_status sp_status
  rw [m_isIn (l := -1) (u := 6) (by decide) (by decide), bnd2_s, b1_if]
  by_cases h1 : isM (-1) 6 w = true
  · rw [if_pos h1, if_pos h1, if_pos tg57]
    by_cases hm : w = -1
    · subst hm
      rw [if_pos (by decide +kernel)]
      exact OKM.id
    · obtain ⟨j, hj, rfl⟩ := isM_m1 h1 hm
      rw [nI_1, if_pos (iab_row (k := 8) rfl (by omega) (by omega))]
      exact OKM.id
  · rw [if_neg h1, if_neg h1, if_pos tg57]
    exact m_fin0
/-- hold -/
def sp_hold (s f : Int32) (A : Mem) : Int32 × Mem := if isM 0 9 s = true ∧ (f = -1 ∨ isM 0 (nA A) f = true) then (1, wrow A 58 (upd (A 58) (86 + ix s) f)) else fin A 0
theorem Rl.spot {S : Mem} {t n k : Nat} {g : Row} {v : Int32} (h : Rl S t n g) (hn : n ≤ 8) (hk : k < 10) : Rl (wr S (t + 11) k v) t n (upd g (86 + k) v) := by
  obtain ⟨h1, h2, h3, h4, h5, h6, h7, h8⟩ := h
  have e : t ≠ t + 11 := by omega
  refine ⟨?_, ?_, ?_, ?_, ?_, fun j hj => ?_, fun j hj x hx => ?_, fun i hi => ?_⟩
  · rw [wr_n e]; exact h1
  · rw [wr_n e, upd_n (by omega)]; exact h2
  · rw [wr_n e, upd_n (by omega)]; exact h3
  · rw [wr_n e, upd_n (by omega)]; exact h4
  · rw [wr_n e, upd_n (by omega)]; exact h5
  · rw [wr_n (by omega), upd_n (by omega)]; exact h6 j hj
  · rw [wr_n (by unfold fa; omega), upd_n (by unfold fi; omega)]; exact h7 j hj x hx
  · rw [wr_s]
    by_cases e2 : i = k
    · subst e2; rw [upd_s, upd_s]
    · rw [upd_n e2, upd_n (by omega)]; exact h8 i hi
theorem WF_hi {n p : Nat} {g : Row} {v : Int32} (h : WF n g) (hp : 86 ≤ p) : WF n (upd g p v) := by
  have hn := h.1
  refine WF_upd h (by omega) fun f hf => ?_
  unfold fi
  omega
theorem SP_hold {n k : Nat} {g : Row} {v : Int32} (h : SP n g) (hv : v = -1 ∨ ∃ f, f < n ∧ v = nI f) : SP n (upd g (86 + k) v) := fun j hj => by
  by_cases e : j = k
  · subst e
    rw [upd_s]; exact hv
  · rw [upd_n (by omega)]; exact h j hj
theorem m1_fire {n : Nat} : ∀ f, isM 0 ((n : Int) - 1) f = true → ¬ f = -1 := fun f h z => by
  subst z
  unfold isM at h
  simp only [Bool.and_eq_true, decide_eq_true_eq] at h
  have d : (-1 : Int32).toInt = -1 := by decide
  omega
theorem c_hold {S A : Mem} {H : Nat} {s f : Int32} (hI : INV S A H) : okk (f_X11_hold 0 s f S) (OKC S H (sp_hold s f A)) := by
  unfold f_X11_hold sp_hold
  obtain ⟨n, hw, hsp, ⟨h, hh, e1⟩, hR⟩ := hI.1
  have hn := hw.1
  rw [c_out (hi := 9) (by decide), bnd2_s, b1n_if, nA_e hw.2.1 hn]
  by_cases h1 : isM 0 9 s = true
  · obtain ⟨j, hj, rfl⟩ := isM_t (hi := 9) h1
    have done : ∀ v, (v = -1 ∨ isM 0 ((n : Int) - 1) v = true) → okk (f_X11_hold_j28 0 (nI j) v S) (OKC S H (1, wrow A 58 (upd (A 58) (86 + ix (nI j)) v))) := fun v hv => by
      unfold f_X11_hold_j28
      rw [if_pos tg0, if_pos (iabS t9 (by omega) : iab 20 (nI j) = true), ix_nI (by omega)]
      exact OKC.town hI ⟨n, WF_hi hw (by omega), SP_hold hsp (hv.imp id (isM_fire hn)), ⟨h, hh, by rw [upd_n (by omega)]; exact e1⟩, hR.spot hn (by omega)⟩ (Nat.le_refl _) (fun a ha => wr_n (by omega))
    rw [if_pos h1]
    by_cases h2 : f = -1
    · rw [if_pos h2, if_pos (And.intro h1 (Or.inl h2))]
      exact done f (Or.inl h2)
    · rw [if_neg h2, if_pos tg0, c_noFire hR.1 hn, bnd2_s, b1n_if]
      by_cases h3 : isM 0 ((n : Int) - 1) f = true
      · rw [if_pos h3, if_pos (And.intro h1 (Or.inr h3))]
        exact done f (Or.inr h3)
      · rw [if_neg h3, if_neg (nr (fun z => z.elim h2 h3))]
        exact c_fin0 hI
  · rw [if_neg h1, if_pos tg0, if_neg (nl h1)]
    exact c_fin0 hI
theorem m_hold {S : Mem} {n : Nat} {s f : Int32} (h0 : S 58 0 = nI n) (hn : n ≤ 8) : okk (f_X12_hold 57 s f S) (OKM S (sp_hold s f (mp S))) := by
  unfold f_X12_hold sp_hold
  rw [m_isIn (l := 0) (u := 9) (by decide) (by decide), bnd2_s, b1_if, nA_e (A := mp S) h0 hn]
  by_cases h1 : isM 0 9 s = true
  · obtain ⟨j, hj, rfl⟩ := isM_t (hi := 9) h1
    have done : ∀ v, okk (f_X12_hold_j32 57 (nI j) v S) (OKM S (1, wrow (mp S) 58 (upd (mp S 58) (86 + ix (nI j)) v))) := fun v => by
      unfold f_X12_hold_j32
      obtain ⟨e1, e2⟩ := spot_ix j (by omega)
      rw [if_pos tg57, if_pos e2, e1, ix_nI (by omega)]
      exact OKM.put
    rw [if_pos h1]
    by_cases h2 : f = -1
    · rw [if_pos h2, if_pos (And.intro h1 (Or.inl h2))]
      exact done f
    · rw [if_neg h2, if_pos tg57, m_isFire h0 hn, bnd2_s, b1_if]
      by_cases h3 : isM 0 ((n : Int) - 1) f = true
      · rw [if_pos h3, if_pos (And.intro h1 (Or.inr h3))]
        exact done f
      · rw [if_neg h3, if_neg (nr (fun z => z.elim h2 h3))]
        exact m_fin0
  · rw [if_neg h1, if_pos tg57, if_neg (nl h1)]
    exact m_fin0
/-- as -/
def undK (a b : Int32) : Bool := decide (b = 0) || decide (a = b) || (decide (b = 2) && (decide (a = 3) || decide (a = 4))) || (decide (b = 3) && decide (a = 4)) || (decide (b = 1) && decide (a = 6))
theorem m_isUnder (a b : Int32) (S : Mem) : f_X12_isUnder a b S = some (b1 (undK a b), S) := by
  unfold f_X12_isUnder f_X12_isUnder_j24 f_X12_isUnder_j34 f_X12_isUnder_j45 undK
  by_cases h0 : b = 0
  · subst h0; simp [b1]
  · by_cases hab : a = b
    · subst hab; simp [b1, h0]
    · by_cases h2 : b = 2
      · subst h2
        by_cases h3 : a = 3
        · subst h3; simp [b1]
        · by_cases h4 : a = 4
          · subst h4; simp [b1]
          · simp [b1, hab, h3, h4]
      · by_cases h3 : b = 3
        · subst h3
          by_cases h4 : a = 4
          · subst h4; simp [b1]
          · simp [b1, hab, h4]
        · by_cases h1 : b = 1
          · subst h1
            by_cases h6 : a = 6
            · subst h6; simp [b1]
            · simp [b1, hab, h6]
          · simp [b1, h0, hab, h1, h2, h3]
theorem d_isUnder {k : Nat} {b : Int32} {S : Mem} (hk : k < 7) : dv_isUnder (2 + k) b S = some (b1 (undK (nI k) b), S) := by
  obtain ⟨t0, t1, t2, t3, t4, t5, t6⟩ := tgK
  unfold dv_isUnder f_X4_isUnder f_X9_isUnder f_X6_isUnder f_X5_isUnder f_X3_isUnder f_X2_isUnder f_X0_isUnder f_X9_isUnder_j13 f_X6_isUnder_j13 f_X5_isUnder_j13 f_X3_isUnder_j13 f_X2_isUnder_j13 f_X0_isUnder_j14 f_X9_isUnder f_X6_isUnder f_X5_isUnder undK
  have z : ∀ j, j < 7 → (b = nI j ∨ ¬ b = nI j) := fun j _ => Decidable.em _
  rcases k_cases hk with rfl | rfl | rfl | rfl | rfl | rfl | rfl
  · simp only [t0]
    by_cases h0 : b = 0
    · subst h0; rfl
    · have : ¬ nI 0 = b := fun e => h0 (e.symm.trans (by decide))
      simp [h0, this, b1, show ¬ nI 0 = 3 by decide, show ¬ nI 0 = 4 by decide, show ¬ nI 0 = 6 by decide]
  · simp only [t1]
    by_cases h0 : b = 0
    · subst h0; rfl
    · by_cases h1 : b = 1
      · subst h1; rfl
      · have : ¬ nI 1 = b := fun e => h1 (e.symm.trans (by decide))
        simp [h0, h1, this, b1, bnd2_s, f_X4_isUnder, f_X6_isUnder, f_X6_isUnder_j13, f_X9_isUnder, f_X9_isUnder_j13, f_X5_isUnder, f_X5_isUnder_j13, t1, show ¬ nI 1 = 3 by decide, show ¬ nI 1 = 4 by decide, show ¬ nI 1 = 6 by decide]
  · simp only [t2]
    by_cases h0 : b = 0
    · subst h0; rfl
    · by_cases h1 : b = 2
      · subst h1; rfl
      · have : ¬ nI 2 = b := fun e => h1 (e.symm.trans (by decide))
        simp [h0, h1, this, b1, bnd2_s, f_X4_isUnder, f_X6_isUnder, f_X6_isUnder_j13, f_X9_isUnder, f_X9_isUnder_j13, f_X5_isUnder, f_X5_isUnder_j13, t2, show ¬ nI 2 = 3 by decide, show ¬ nI 2 = 4 by decide, show ¬ nI 2 = 6 by decide]
  · simp only [t3]
    by_cases h0 : b = 0
    · subst h0; rfl
    · by_cases h1 : b = 2
      · subst h1; rfl
      · by_cases h3 : b = 3
        · subst h3; rfl
        · have : ¬ nI 3 = b := fun e => h3 (e.symm.trans (by decide))
          simp [h0, h1, h3, this, b1, bnd2_s, f_X4_isUnder, f_X6_isUnder, f_X6_isUnder_j13, f_X9_isUnder, f_X9_isUnder_j13, f_X5_isUnder, f_X5_isUnder_j13, t3, show ¬ nI 3 = 4 by decide, show ¬ nI 3 = 6 by decide]
  · simp only [t4]
    by_cases h0 : b = 0
    · subst h0; rfl
    · by_cases h1 : b = 2
      · subst h1; rfl
      · by_cases h3 : b = 3
        · subst h3; rfl
        · by_cases h4 : b = 4
          · subst h4; rfl
          · have : ¬ nI 4 = b := fun e => h4 (e.symm.trans (by decide))
            simp [h0, h1, h3, h4, this, b1, bnd2_s, f_X4_isUnder, f_X6_isUnder, f_X6_isUnder_j13, f_X9_isUnder, f_X9_isUnder_j13, f_X5_isUnder, f_X5_isUnder_j13, t4, show ¬ nI 4 = 6 by decide]
  · simp only [t5]
    by_cases h0 : b = 0
    · subst h0; rfl
    · by_cases h1 : b = 5
      · subst h1; rfl
      · have : ¬ nI 5 = b := fun e => h1 (e.symm.trans (by decide))
        simp [h0, h1, this, b1, bnd2_s, f_X4_isUnder, f_X6_isUnder, f_X6_isUnder_j13, f_X9_isUnder, f_X9_isUnder_j13, f_X5_isUnder, f_X5_isUnder_j13, t5, show ¬ nI 5 = 3 by decide, show ¬ nI 5 = 4 by decide, show ¬ nI 5 = 6 by decide]
  · simp only [t6]
    by_cases h0 : b = 0
    · subst h0; rfl
    · by_cases h1 : b = 1
      · subst h1; rfl
      · by_cases h6 : b = 6
        · subst h6; rfl
        · have : ¬ nI 6 = b := fun e => h6 (e.symm.trans (by decide))
          simp [h0, h1, h6, this, b1, bnd2_s, f_X4_isUnder, f_X6_isUnder, f_X6_isUnder_j13, f_X9_isUnder, f_X9_isUnder_j13, f_X5_isUnder, f_X5_isUnder_j13, t6, show ¬ nI 6 = 3 by decide, show ¬ nI 6 = 4 by decide]
def sp_as (s k : Int32) (A : Mem) : Int32 × Mem := if isM 0 9 s = true ∧ isM 0 6 k = true then (if A 58 (86 + ix s) = -1 then fin A 5 else if undK (A 58 (fi (ix (A 58 (86 + ix s))) 0)) k = true then (A 58 (86 + ix s), A) else fin A 2) else fin A 0
theorem nI_nm1 {f : Nat} (h : f < 2 ^ 31) : ¬ nI f = -1 := fun z => by
  have := congrArg Int32.toInt z
  rw [nI_toInt h] at this
  have d : (-1 : Int32).toInt = -1 := by decide
  omega
theorem c_as {S A : Mem} {H : Nat} {s k : Int32} (hI : INV S A H) : okk (f_X11_as 0 s k S) (OKC S H (sp_as s k A)) := by
  unfold f_X11_as sp_as
  obtain ⟨n, hw, hsp, ⟨h, hh, e1⟩, hR⟩ := hI.1
  have hn := hw.1
  rw [c_out (hi := 9) (by decide), bnd2_s, b1n_if]
  by_cases h1 : isM 0 9 s = true
  · rw [if_pos h1, c_out (hi := 6) (by decide), bnd2_s, b1n_if]
    by_cases h2 : isM 0 6 k = true
    · obtain ⟨j, hj, rfl⟩ := isM_t (hi := 9) h1
      have hg : S 20 j = A 58 (86 + j) := hR.2.2.2.2.2.2.2 j (by omega)
      rw [if_pos h2, if_pos tg0, if_pos (iabS t9 (by omega) : iab 20 (nI j) = true), ix_nI (by omega), hg, c_noFire hR.1 hn, bnd2_s, b1n_if, if_pos (And.intro h1 h2)]
      rcases hsp j (by omega) with e | ⟨f, hf, e⟩
      · rw [e, if_neg (fun z => m1_fire _ z rfl), if_pos rfl]
        exact c_fin hI (by decide) rfl
      · have hf8 : f < 8 := by omega
        have hF := hR.2.2.2.2.2.2.1 f hf
        obtain ⟨⟨kd, hkd, e0⟩, -⟩ := hw.2.2 f hf
        have hfi : isM 0 ((n : Int) - 1) (nI f) = true := by
          unfold isM
          rw [nI_toInt (by omega)]
          simp only [Bool.and_eq_true, decide_eq_true_eq]
          omega
        rw [e, if_pos hfi, if_pos (rabT9 hf8), eadT9 hf8, c_kindOf t9 hf8 hkd ((hF 0 (by decide)).trans e0), bnd2_s, d_isUnder hkd, bnd2_s, b1_if, if_neg (nI_nm1 (by omega)), ix_nI (by omega), e0]
        by_cases h3 : undK (nI kd) k = true
        · rw [if_pos h3, if_pos h3]
          exact OKC.id hI
        · rw [if_neg h3, if_neg h3]
          exact c_fin hI (by decide) rfl
    · rw [if_neg h2, if_pos tg0, if_neg (nr h2)]
      exact c_fin0 hI
  · rw [if_neg h1, if_pos tg0, if_neg (nl h1)]
    exact c_fin0 hI
theorem m_as {S : Mem} {n : Nat} {s k : Int32} (hn : n ≤ 8) (hs : SP n (S 58)) : okk (f_X12_as 57 s k S) (OKM S (sp_as s k (mp S))) := by
  unfold f_X12_as sp_as
  rw [m_isIn (l := 0) (u := 9) (by decide) (by decide), bnd2_s, b1_if]
  by_cases h1 : isM 0 9 s = true
  · rw [if_pos h1, m_isIn (l := 0) (u := 6) (by decide) (by decide), bnd2_s, b1_if]
    by_cases h2 : isM 0 6 k = true
    · obtain ⟨j, hj, rfl⟩ := isM_t (hi := 9) h1
      obtain ⟨e1, e2⟩ := spot_ix j (by omega)
      rw [if_pos h2, if_pos tg57, if_pos e2, e1, if_pos (And.intro h1 h2), mp58, ix_nI (by omega)]
      rcases hs j (by omega) with e | ⟨f, hf, e⟩
      · rw [e, if_neg (by decide), if_pos rfl]
        exact m_fin (k := 5) (by decide) (by decide)
      · rw [e, if_pos (nI_pos' (by omega)), if_neg (nI_nm1 (by omega)), m_its0 (by omega), bnd2_s, m_isUnder, bnd2_s, b1_if, ix_nI (by omega)]
        by_cases h3 : undK (S 58 (fi f 0)) k = true
        · rw [if_pos h3, if_pos h3]
          exact OKM.id
        · rw [if_neg h3, if_neg h3]
          exact m_fin (k := 2) (by decide) (by decide)
    · rw [if_neg h2, if_pos tg57, if_neg (nr h2)]
      exact m_fin0
  · rw [if_neg h1, if_pos tg57, if_neg (nl h1)]
    exact m_fin0

/-- image, undo, tear, wipe -/
def sp_image (A : Mem) : Int32 × Mem := (1, wr (wrow A 59 (cpR (A 58) (A 59))) 57 4 1)
def sp_undo (A : Mem) : Int32 × Mem := if A 57 4 = 0 then fin A 3 else (A 59 1, wrow A 58 (cpR (A 59) (A 58)))
def sp_tear (A : Mem) : Int32 × Mem := (if A 57 4 = 0 then 0 else 1, wr A 57 4 0)
def sp_wipe (A : Mem) : Int32 × Mem := (A 57 7, wr A 57 7 0)
theorem cpR_lo {f g : Row} {k : Nat} (h : k < 96) : cpR f g k = f k := if_pos h
theorem Rl.cp {S : Mem} {t n : Nat} {g x : Row} (h : Rl S t n g) (hn : n ≤ 8) : Rl S t n (cpR g x) := by
  obtain ⟨h1, h2, h3, h4, h5, h6, h7, h8⟩ := h
  refine ⟨h1, by rw [cpR_lo (by decide)]; exact h2, by rw [cpR_lo (by decide)]; exact h3, by rw [cpR_lo (by decide)]; exact h4, by rw [cpR_lo (by decide)]; exact h5, fun c hc => ?_, fun f hf w hw => ?_, fun k hk => ?_⟩
  · rw [cpR_lo (by omega)]; exact h6 c hc
  · rw [cpR_lo (by unfold fi; omega)]; exact h7 f hf w hw
  · rw [cpR_lo (by omega)]; exact h8 k hk
theorem WF_cp {n : Nat} {g x : Row} (h : WF n g) : WF n (cpR g x) := by
  have hn := h.1
  refine ⟨hn, by rw [cpR_lo (by decide)]; exact h.2.1, fun f hf => ?_⟩
  rw [cpR_lo (by unfold fi; omega), cpR_lo (by unfold fi; omega), cpR_lo (by unfold fi; omega), cpR_lo (by unfold fi; omega)]
  exact h.2.2 f hf
theorem SP_cp {n : Nat} {g x : Row} (h : SP n g) : SP n (cpR g x) := fun k hk => by
  rw [cpR_lo (by omega)]; exact h k hk
theorem c_image {S A : Mem} {H : Nat} (hI : INV S A H) : okk (f_X11_image 0 S) (OKC S H (sp_image A)) := by
  unfold f_X11_image sp_image
  obtain ⟨n, hw, hsp, ⟨h, hh, e1⟩, hR⟩ := hI.1
  have hn := hw.1
  rw [if_pos tg0]
  refine okB2 (okk_mono (c_become t33 t9 (by omega) hn hR) fun x hx => ?_)
  obtain ⟨q1, q2⟩ := hx
  obtain ⟨h1, h2, h3, h4, h5, h6⟩ := hI
  have hl : ∀ a, (a < 33 ∨ 45 ≤ a) → a ≠ 0 → wr x.2 0 6 1 a = S a := fun a ha h0 => by
    rw [wr_n h0]
    exact q2 a (by omega)
  have hA : ∀ b, b ≠ 59 → b ≠ 57 → wr (wrow A 59 (cpR (A 58) (A 59))) 57 4 1 b = A b := fun b hb hc => by
    rw [wr_n hc, wrow_n _ hb]
  have h57 : wr (wrow A 59 (cpR (A 58) (A 59))) 57 4 1 57 = upd (A 57) 4 1 := by rw [wr_s, wrow_n _ (by decide)]
  have h59 : wr (wrow A 59 (cpR (A 58) (A 59))) 57 4 1 59 = cpR (A 58) (A 59) := by rw [wr_n (by decide), wrow_s]
  refine okI ⟨rfl, ?_, fun a ha => hl a (by omega) (by omega)⟩
  show INV (wr x.2 0 6 1) (wr (wrow A 59 (cpR (A 58) (A 59))) 57 4 1) H
  unfold INV FI TP SH
  rw [h57, h59, hA 58 (by decide) (by decide), hA 62 (by decide) (by decide), hA 63 (by decide) (by decide), hA 64 (by decide) (by decide), hA 65 (by decide) (by decide), hA 66 (by decide) (by decide), hl 45 (by decide) (by decide), hl 46 (by decide) (by decide), hl 56 (by decide) (by decide), wr_s, upd_s, upd_s, upd_n (by decide)]
  refine ⟨h1.same fun a _ _ => hl a (by omega) (by omega), rfl, Or.inr ⟨rfl, n, WF_cp hw, SP_cp hsp, ⟨h, hh, by rw [cpR_lo (by decide)]; exact e1⟩, (q1.cp hn).same hn fun a _ _ => wr_n (by omega)⟩, h4, h5, fun s hs => ?_⟩
  rw [hl _ (by omega) (by omega), hl _ (by omega) (by omega)]
  exact h6 s hs
theorem m_image {S : Mem} : okk (f_X12_image 57 S) (OKM S (sp_image (mp S))) := by
  unfold f_X12_image sp_image
  rw [if_pos tg57, m_copyRow rfl rfl (by decide), bnd2_s]
  exact OKM.hi (hi_wr (hi_row (hi_mp S) _ _) _ _ _ (by decide)) (fun a ha => by rw [wr_n (by omega), wrow_n _ (by omega)])
theorem c_undo {S A : Mem} {H : Nat} (hI : INV S A H) : okk (f_X11_undo 0 S) (OKC S H (sp_undo A)) := by
  unfold f_X11_undo sp_undo
  rw [if_pos tg0, hI.2.1]
  rcases hI.2.2.1 with h0 | ⟨hk1, n, hw, hsp, ⟨h, hh, e1⟩, hR⟩
  · rw [if_pos h0, if_pos h0]
    exact c_fin hI (by decide) rfl
  · have hne : ¬ A 57 4 = 0 := by rw [hk1]; decide
    have hn := hw.1
    rw [if_neg hne, if_neg hne]
    refine okB2 (okk_mono (c_become t9 t33 (by omega) hn hR) fun x hx => ?_)
    obtain ⟨q1, q2⟩ := hx
    rw [q1.2.2.2.1]
    exact OKC.town hI ⟨n, WF_cp hw, SP_cp hsp, ⟨h, hh, by rw [cpR_lo (by decide)]; exact e1⟩, q1.cp hn⟩ (Nat.le_refl _) (fun a ha => q2 a (by omega))
theorem m_undo {S : Mem} : okk (f_X12_undo 57 S) (OKM S (sp_undo (mp S))) := by
  unfold f_X12_undo sp_undo
  rw [if_pos tg57, mp57, mp59, mp58]
  by_cases h0 : S 57 4 = 0
  · rw [if_pos h0, if_pos h0]
    exact m_fin (k := 3) (by decide) (by decide)
  · rw [if_neg h0, if_neg h0, m_copyRow rfl rfl (by decide), bnd2_s, if_pos i58_1, ix_1, wrow_s, cpR_lo (by decide)]
    exact OKM.put
theorem INV.own {S A : Mem} {H : Nat} (hI : INV S A H) : INV (wr S 0 6 0) (wr A 57 4 0) H := by
  obtain ⟨h1, h2, h3, h4, h5, h6⟩ := hI
  have hl : ∀ a, a ≠ 0 → wr S 0 6 0 a = S a := fun a ha => wr_n ha
  have hA : ∀ b, b ≠ 57 → wr A 57 4 0 b = A b := fun b hb => wr_n hb
  unfold INV FI TP SH
  rw [hA 58 (by decide), hA 59 (by decide), hA 62 (by decide), hA 63 (by decide), hA 64 (by decide), hA 65 (by decide), hA 66 (by decide), hl 45 (by decide), hl 46 (by decide), hl 56 (by decide), wr_s, wr_s, upd_s, upd_s, upd_n (by decide)]
  refine ⟨h1.same fun a _ _ => hl a (by omega), rfl, Or.inl rfl, h4, h5, fun s hs => ?_⟩
  rw [hl _ (by omega), hl _ (by omega)]
  exact h6 s hs
theorem c_tear {S A : Mem} {H : Nat} (hI : INV S A H) : okk (f_X11_tear 0 S) (OKC S H (sp_tear A)) := by
  unfold f_X11_tear sp_tear
  rw [if_pos tg0, hI.2.1]
  by_cases h0 : A 57 4 = 0
  · rw [if_pos h0, if_pos h0]
    exact okI ⟨rfl, hI.own, fun a ha => wr_n (by omega)⟩
  · rw [if_neg h0, if_neg h0]
    exact okI ⟨rfl, hI.own, fun a ha => wr_n (by omega)⟩
theorem m_tear {S : Mem} : okk (f_X12_tear 57 S) (OKM S (sp_tear (mp S))) := by
  unfold f_X12_tear sp_tear
  rw [if_pos tg57, mp57]
  by_cases h0 : S 57 4 = 0
  · rw [if_pos h0, if_pos h0]
    exact OKM.hi (hi_wr (hi_mp S) _ _ _ (by decide)) (fun a ha => wr_n (by omega))
  · rw [if_neg h0, if_neg h0]
    exact OKM.hi (hi_wr (hi_mp S) _ _ _ (by decide)) (fun a ha => wr_n (by omega))
theorem INV.tape0 {S A : Mem} {H : Nat} (hI : INV S A H) : INV (wr S 45 1 0) (wr A 57 7 0) H := by
  obtain ⟨h1, h2, h3, h4, h5, h6⟩ := hI
  have hl : ∀ a, a ≠ 45 → wr S 45 1 0 a = S a := fun a ha => wr_n ha
  have hA : ∀ b, b ≠ 57 → wr A 57 7 0 b = A b := fun b hb => wr_n hb
  unfold INV FI TP SH
  rw [hA 58 (by decide), hA 59 (by decide), hA 62 (by decide), hA 63 (by decide), hA 64 (by decide), hA 65 (by decide), hA 66 (by decide), hl 0 (by decide), hl 46 (by decide), hl 56 (by decide), wr_s, wr_s, upd_s, upd_s, upd_n (by decide)]
  refine ⟨h1.same fun a _ _ => hl a (by omega), h2, h3.imp id fun x => ⟨x.1, x.2.same fun a _ _ => hl a (by omega)⟩, h4, ⟨0, by omega, rfl, rfl, fun i hi => absurd hi (by omega)⟩, fun s hs => ?_⟩
  rw [hl _ (by omega), hl _ (by omega)]
  exact h6 s hs
theorem c_wipe {S A : Mem} {H : Nat} (hI : INV S A H) : okk (f_X11_wipe 0 S) (OKC S H (sp_wipe A)) := by
  unfold f_X11_wipe sp_wipe
  obtain ⟨tp, -, q2, q3, -⟩ := hI.2.2.2.2.1
  rw [if_pos tg0, q2, q3]
  exact okI ⟨rfl, hI.tape0, fun a ha => wr_n (by omega)⟩
theorem m_wipe {S : Mem} : okk (f_X12_wipe 57 S) (OKM S (sp_wipe (mp S))) := by
  unfold f_X12_wipe sp_wipe
  rw [if_pos tg57]
  exact OKM.hi (hi_wr (hi_mp S) _ _ _ (by decide)) (fun a ha => wr_n (by omega))
