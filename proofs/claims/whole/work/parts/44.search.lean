/-! ahead, odds, when, stuck, crosses -/
noncomputable def sp_ahead (f w k : Int32) (A : Mem) : Int32 × Mem := if isM 0 (nA A) f = true ∧ isM 3 6 w = true ∧ isM 0 100 k = true then (hoursR (ix (A 58 0)) (ix k) (A 58) (fi (ix f) (ix w)), A) else fin A 0
theorem if_36 {β : Type} (w : Int32) (A B : β) : (if w < 3 then A else (if 6 < w then A else B)) = if isM 3 6 w = true then B else A := by
  have e3 : (3 : Int32).toInt = 3 := by decide
  have e6 : (6 : Int32).toInt = 6 := by decide
  by_cases h1 : w < 3
  · have h2 := Int32.lt_iff_toInt_lt.mp h1
    rw [if_pos h1, if_neg]
    unfold isM
    simp only [Bool.and_eq_true, decide_eq_true_eq]
    omega
  · have h2 := Int32.le_iff_toInt_le.mp (Int32.not_lt.mp h1)
    rw [if_neg h1]
    by_cases h3 : 6 < w
    · have h4 := Int32.lt_iff_toInt_lt.mp h3
      rw [if_pos h3, if_neg]
      unfold isM
      simp only [Bool.and_eq_true, decide_eq_true_eq]
      omega
    · have h4 := Int32.le_iff_toInt_le.mp (Int32.not_lt.mp h3)
      rw [if_neg h3, if_pos]
      unfold isM
      simp only [Bool.and_eq_true, decide_eq_true_eq]
      omega
theorem c_ahead {S A : Mem} {H : Nat} {f w k : Int32} (hI : INV S A H) (hH : H ≤ 40000) : okk (f_X11_ahead 0 f w k S) (OKC S H (sp_ahead f w k A)) := by
  unfold f_X11_ahead sp_ahead
  obtain ⟨n, hw, hsp, ⟨h, hh, e1⟩, hR⟩ := hI.1
  have hn := hw.1
  rw [if_pos tg0, c_noFire hR.1 hn, bnd2_s, b1n_if, if_36, nA_e hw.2.1 hn]
  by_cases h1 : isM 0 ((n : Int) - 1) f = true
  · rw [if_pos h1]
    by_cases h2 : isM 3 6 w = true
    · rw [if_pos h2, c_out (hi := 100) (by decide), bnd2_s, b1n_if]
      by_cases h3 : isM 0 100 k = true
      · obtain ⟨j, hj, rfl⟩ := isM_fire hn h1
        obtain ⟨i, hi1, hi2, rfl⟩ := isM_lo (lo := 3) (hi := 6) h2
        obtain ⟨q, hq, rfl⟩ := isM_t (hi := 100) h3
        have hj8 : j < 8 := by omega
        rw [if_pos h3, if_pos (And.intro h1 (And.intro h2 h3)), hw.2.1, ix_nI (by omega), ix_nI (by omega), ix_nI (by omega), ix_nI (by omega)]
        refine okB2 (okk_mono (c_become t21 t9 (by omega) hn hR) fun x hx => ?_)
        refine okB2 (okk_mono (c_hours t21 hw hx.1 e1 (by omega) (by omega)) fun y hy => ?_)
        rw [if_pos (rabT21 hj8), show eadr 3008 23 j = fa 21 j from by rw [← eadT21 hj8, ix_nI (by omega)], if_pos (tg21 hj8), c_value (tg21 hj8) (by omega), bnd2_s, hy.1.2.2.2.2.2.2.1 j hj i (by omega)]
        exact OKC.trial hI (hx.2.tr hy.2)
      · rw [if_neg h3, if_neg (nr (nr h3))]
        exact c_fin0 hI
    · rw [if_neg h2, if_neg (nr (nl h2))]
      exact c_fin0 hI
  · rw [if_neg h1, if_neg (nl h1)]
    exact c_fin0 hI
theorem m_ahead {S : Mem} {n : Nat} {f w k : Int32} (hw : WF n (S 58)) : okk (f_X12_ahead 57 f w k S) (OKM S (sp_ahead f w k (mp S))) := by
  unfold f_X12_ahead sp_ahead
  have hn := hw.1
  rw [if_pos tg57, m_isFire hw.2.1 hn, bnd2_s, b1_if, nA_e (A := mp S) hw.2.1 hn, mp58, hw.2.1, ix_nI (show n < 2 ^ 31 by omega)]
  by_cases h1 : isM 0 ((n : Int) - 1) f = true
  · rw [if_pos h1, m_isIn (l := 3) (u := 6) (by decide) (by decide), bnd2_s, b1_if]
    by_cases h2 : isM 3 6 w = true
    · rw [if_pos h2, m_isIn (l := 0) (u := 100) (by decide) (by decide), bnd2_s, b1_if]
      by_cases h3 : isM 0 100 k = true
      · obtain ⟨j, hj, rfl⟩ := isM_fire hn h1
        obtain ⟨i, hi1, hi2, rfl⟩ := isM_lo (lo := 3) (hi := 6) h2
        obtain ⟨q, hq, rfl⟩ := isM_t (hi := 100) h3
        obtain ⟨S2, q1, q2⟩ := m_thenAt hw (p := fi j i) (k := q) (by unfold fi; omega) (by omega)
        have e : (30 : Int32) + 7 * nI j + nI i = nI (fi j i) := by
          unfold fi
          rw [show (30 : Int32) = nI 30 by decide, show (7 : Int32) = nI 7 by decide, pk_mul, nI_add, nI_add]
        rw [if_pos h3, if_pos (And.intro h1 (And.intro h2 h3)), m_at, bnd2_s, e, q1, bnd2_s, ix_nI (by omega), ix_nI (by omega), ix_nI (by omega)]
        exact OKM.sc q2
      · rw [if_neg h3, if_neg (nr (nr h3))]
        exact m_fin0
    · rw [if_neg h2, if_neg (nr (nl h2))]
      exact m_fin0
  · rw [if_neg h1, if_neg (nl h1)]
    exact m_fin0
/-- odds: a long -/
def OKCL (S : Mem) (H : Nat) (r : Int64 × Mem) : Int64 × Mem → Prop := fun x => x.1 = r.1 ∧ INV x.2 r.2 H ∧ ∀ a, 57 ≤ a → x.2 a = S a
def OKML (S : Mem) (r : Int64 × Mem) : Int64 × Mem → Prop := fun x => x.1 = r.1 ∧ PE x.2 r.2 ∧ ∀ a, a < 57 → x.2 a = S a
def powL (p : Int64) : Nat → Int64
  | 0 => 1
  | k + 1 => powL p k * p
def sp_odds (f k w : Int32) (A : Mem) : Int64 × Mem := if isM 0 (nA A) f = true ∧ isM 0 26 k = true ∧ isM 0 1 w = true then ((if A 58 (fi (ix f) 1) = A 58 (fi (ix f) 2) then 1 else powL (if w = 0 then 4 else 5) (ix k)), A) else ((fin A 0).1.toInt64, (fin A 0).2)
theorem c_finL {S A : Mem} {H : Nat} (hI : INV S A H) : okk (bnd2 (f_X11_finding 0 0 S) (fun r S2 => some (r.toInt64, S2))) (OKCL S H ((fin A 0).1.toInt64, (fin A 0).2)) := okB2 (okk_mono (c_finding hI (k := 0) (by decide) rfl) fun x hx => okI ⟨congrArg Int32.toInt64 hx.1, hx.2⟩)
theorem m_finL {S : Mem} : okk (bnd2 (f_X12_finds 57 (-1000001) S) (fun r S2 => some (r.toInt64, S2))) (OKML S ((fin (mp S) 0).1.toInt64, (fin (mp S) 0).2)) := by
  rw [m_f0, bnd2_s]
  exact okI ⟨congrArg Int32.toInt64 (show (-1000001 : Int32) = -1000001 - nI 0 by decide), PE.row (by decide), low_row (by decide)⟩
theorem c_oddsL {S : Mem} {p : Int64} {k : Nat} (hk : k ≤ 250) : f_X11_odds_j74 (nI k) p S = some (powL p k, S) := by
  have := itr_run (f := i_X11_odds_L82) (fun j => (nI k, p, powL p j, nI j, S)) k (r := (powL p k, S)) (fun j hj => by
    show f_X11_odds_L82 (nI k) p _ (nI j) S = _
    unfold f_X11_odds_L82
    rw [if_neg (nI_ge hj (by omega)), nI_1]
    rfl) (by
    show f_X11_odds_L82 (nI k) p _ (nI k) S = _
    unfold f_X11_odds_L82
    rw [if_pos (nI_le (Nat.le_refl _) (by omega))]) 300 (by omega)
  unfold f_X11_odds_j74
  show bnd (itr 300 i_X11_odds_L82 (nI k, p, powL p 0, nI 0, S)) _ = _
  rw [this, bnd_s]
theorem c_odds {S A : Mem} {H : Nat} {f k w : Int32} (hI : INV S A H) : okk (f_X11_odds 0 f k w S) (OKCL S H (sp_odds f k w A)) := by
  unfold f_X11_odds sp_odds
  obtain ⟨n, hw, hsp, ⟨h, hh, e1⟩, hR⟩ := hI.1
  have hn := hw.1
  rw [if_pos tg0, c_noFire hR.1 hn, bnd2_s, b1n_if, nA_e hw.2.1 hn]
  by_cases h1 : isM 0 ((n : Int) - 1) f = true
  · rw [if_pos h1, c_out (hi := 26) (by decide), bnd2_s, b1n_if]
    by_cases h2 : isM 0 26 k = true
    · rw [if_pos h2, c_out (hi := 1) (by decide), bnd2_s, b1n_if]
      by_cases h3 : isM 0 1 w = true
      · obtain ⟨j, hj, rfl⟩ := isM_fire hn h1
        obtain ⟨i, hi, rfl⟩ := isM_t (hi := 26) h2
        have hj8 : j < 8 := by omega
        have hF := hR.2.2.2.2.2.2.1 j hj
        rw [if_pos h3, if_pos (And.intro h1 (And.intro h2 h3)), if_pos (rabT9 hj8), eadT9 hj8, if_pos (tg9 hj8), hF 1 (by decide), hF 2 (by decide), c_oddsL (by omega), c_oddsL (by omega), ix_nI (by omega), ix_nI (by omega)]
        by_cases q : A 58 (fi j 1) = A 58 (fi j 2)
        · rw [if_pos q, if_pos q]
          exact okI ⟨rfl, hI, fun _ _ => rfl⟩
        · rw [if_neg q, if_neg q]
          by_cases z : w = 0
          · rw [if_pos z, if_pos z]
            exact okI ⟨rfl, hI, fun _ _ => rfl⟩
          · rw [if_neg z, if_neg z]
            exact okI ⟨rfl, hI, fun _ _ => rfl⟩
      · rw [if_neg h3, if_neg (nr (nr h3))]
        exact c_finL hI
    · rw [if_neg h2, if_neg (nr (nl h2))]
      exact c_finL hI
  · rw [if_neg h1, if_neg (nl h1)]
    exact c_finL hI
theorem m_oddsL {S : Mem} {j k : Nat} {w : Int32} (hj : j < 8) (hk : k ≤ 250) : itr 300 i_X12_odds_L44 (57, nI j, nI k, w, 1, 0, S) = some ((if S 58 (fi j 1) = S 58 (fi j 2) then 1 else powL (if w = 0 then 4 else 5) k), S) := by
  by_cases q : S 58 (fi j 1) = S 58 (fi j 2)
  · rw [if_pos q]
    show bnd (f_X12_odds_L44 57 (nI j) (nI k) w 1 0 S) _ = _
    unfold f_X12_odds_L44
    rw [if_pos tg57, m_its1 hj, bnd2_s, m_its2 hj, bnd2_s, if_pos q]
    by_cases hk0 : nI k ≤ 0
    · rw [if_pos hk0, bnd_s]
      rfl
    · rw [if_neg hk0, bnd_s]
      rfl
  · rw [if_neg q]
    refine itr_run (f := i_X12_odds_L44) (fun i => (57, nI j, nI k, w, powL (if w = 0 then 4 else 5) i, nI i, S)) k (r := (powL (if w = 0 then 4 else 5) k, S)) (fun i hi => ?_) ?_ 300 (by omega)
    · show f_X12_odds_L44 57 (nI j) (nI k) w _ (nI i) S = _
      unfold f_X12_odds_L44 f_X12_odds_j80
      rw [if_neg (nI_ge hi (by omega)), if_pos tg57, m_its1 hj, bnd2_s, m_its2 hj, bnd2_s, if_neg q, nI_1]
      by_cases z : w = 0
      · rw [if_pos z]
        show _ = some (Sum.inl (57, nI j, nI k, w, powL (if w = 0 then 4 else 5) i * (if w = 0 then 4 else 5), nI (i + 1), S))
        rw [if_pos z]
      · rw [if_neg z]
        show _ = some (Sum.inl (57, nI j, nI k, w, powL (if w = 0 then 4 else 5) i * (if w = 0 then 4 else 5), nI (i + 1), S))
        rw [if_neg z]
    · show f_X12_odds_L44 57 (nI j) (nI k) w _ (nI k) S = _
      unfold f_X12_odds_L44
      rw [if_pos (nI_le (Nat.le_refl _) (by omega))]
theorem m_odds {S : Mem} {n : Nat} {f k w : Int32} (h0 : S 58 0 = nI n) (hn : n ≤ 8) : okk (f_X12_odds 57 f k w S) (OKML S (sp_odds f k w (mp S))) := by
  unfold f_X12_odds sp_odds
  rw [if_pos tg57, m_isFire h0 hn, bnd2_s, b1_if, nA_e (A := mp S) h0 hn]
  by_cases h1 : isM 0 ((n : Int) - 1) f = true
  · rw [if_pos h1, m_isIn (l := 0) (u := 26) (by decide) (by decide), bnd2_s, b1_if]
    by_cases h2 : isM 0 26 k = true
    · rw [if_pos h2, m_isIn (l := 0) (u := 1) (by decide) (by decide), bnd2_s, b1_if]
      by_cases h3 : isM 0 1 w = true
      · obtain ⟨j, hj, rfl⟩ := isM_fire hn h1
        obtain ⟨i, hi, rfl⟩ := isM_t (hi := 26) h2
        rw [if_pos h3, if_pos (And.intro h1 (And.intro h2 h3)), m_oddsL (by omega) (by omega), bnd_s, ix_nI (by omega), ix_nI (by omega)]
        exact okI ⟨rfl, PE.of, fun _ _ => rfl⟩
      · rw [if_neg h3, if_neg (nr (nr h3))]
        exact m_finL
    · rw [if_neg h2, if_neg (nr (nl h2))]
      exact m_finL
  · rw [if_neg h1, if_neg (nl h1)]
    exact m_finL
/-- the first k below m with P -/
def fstN (P : Nat → Bool) : Nat → Option Nat
  | 0 => none
  | m + 1 => match fstN P m with
    | some k => some k
    | none => if P m = true then some m else none
theorem fstN_none {P : Nat → Bool} : ∀ m, (∀ j, j < m → P j = false) → fstN P m = none
  | 0, _ => rfl
  | m + 1, h => by
    unfold fstN
    rw [fstN_none m fun j hj => h j (by omega)]
    simp [h m (by omega)]
theorem fstN_some {P : Nat → Bool} {k : Nat} (hk : P k = true) (h : ∀ j, j < k → P j = false) : ∀ m, k < m → fstN P m = some k
  | m + 1, hm => by
    unfold fstN
    by_cases e : k = m
    · subst e
      rw [fstN_none k h]
      simp [hk]
    · rw [fstN_some hk h m (by omega)]
def told (A : Mem) (o : Option Nat) : Int32 × Mem := match o with
  | some k => (nI k, A)
  | none => fin A 3
/-- the class's search, whatever its loop: the trial's row behind k hours, and nothing of P before -/
noncomputable def sp_when (c v : Int32) (A : Mem) : Int32 × Mem := if isM 0 24 c = true ∧ isM 0 9999 v = true then told A (fstN (fun k => decide (v ≤ hoursR (ix (A 58 0)) k (A 58) (5 + ix c))) 101) else fin A 0
noncomputable def moreP (n p : Nat) (g : Row) (k : Nat) : Bool := decide (g p < hoursR n k g p)
noncomputable def sp_stuck (f : Int32) (A : Mem) : Int32 × Mem := if isM 0 (nA A) f = true then told A (fstN (moreP (ix (A 58 0)) (fi (ix f) 6) (A 58)) 101) else fin A 0
noncomputable def sp_crosses (A : Mem) : Int32 × Mem := told A (fstN (moreP (ix (A 58 0)) 4 (A 58)) 101)
theorem dec_f {c : Prop} [Decidable c] (h : ¬ c) : decide c = false := decide_eq_false h
theorem dec_t {c : Prop} [Decidable c] (h : c) : decide c = true := decide_eq_true h
theorem nI_lt100 {k : Nat} (h : k ≤ 100) : ¬ (100 : Int32) < nI k := nI_nlt (a := 100) h (by decide)
theorem INV.trial {S S2 A : Mem} {H : Nat} (hI : INV S A H) (he : Fr 21 S S2) : INV S2 A H := hI.same (fun a _ h2 _ => he a (by omega)) (congrFun (he 45 (by omega)) 1)
/-- behind a search that found nothing -/
theorem c_none {S S2 A : Mem} {H : Nat} (hI : INV S A H) (he : Fr 21 S S2) : okk (bnd2 (f_X11_finding 0 3 S2) (fun r S3 => some (r, S3))) (OKC S H (fin A 3)) := okk_mono (c_fin (hI.trial he) (by decide) rfl) fun x hx => ⟨hx.1, hx.2.1, fun a ha => (hx.2.2 a ha).trans (he a (by omega))⟩
theorem c_when {S A : Mem} {H : Nat} {c v : Int32} (hI : INV S A H) (hH : H ≤ 40000) : okk (f_X11_when 0 c v S) (OKC S H (sp_when c v A)) := by
  unfold f_X11_when sp_when
  obtain ⟨n, hw, hsp, ⟨h, hh, e1⟩, hR⟩ := hI.1
  have hn := hw.1
  rw [c_out (hi := 24) (by decide), bnd2_s, b1n_if, if_pos tg0]
  by_cases h1 : isM 0 24 c = true
  · rw [if_pos h1, c_out (hi := 9999) (by decide), bnd2_s, b1n_if, if_pos tg0, if_pos tg0]
    by_cases h2 : isM 0 9999 v = true
    · obtain ⟨j, hj, rfl⟩ := isM_t (hi := 24) h1
      rw [if_pos h2, if_pos (And.intro h1 h2), hw.2.1, ix_nI (show n < 2 ^ 31 by omega), ix_nI (show j < 2 ^ 31 by omega)]
      generalize hP : (fun k => decide (v ≤ hoursR n k (A 58) (5 + j))) = P
      have hPk : ∀ k, P k = decide (v ≤ hoursR n k (A 58) (5 + j)) := fun k => by rw [← hP]
      refine okB2 (okk_mono (c_become t21 t9 (by omega) hn hR) fun x hx => ?_)
      obtain ⟨x1, x2⟩ := hx
      have hg : x.2 22 j = A 58 (5 + j) := x1.2.2.2.2.2.1 j (by omega)
      rw [if_pos (iabW t21 (by omega) : iab 22 (nI j) = true), hg]
      by_cases h3 : A 58 (5 + j) < v
      · rw [if_pos h3]
        have p0 : P 0 = false := (hPk 0).trans (dec_f (Int32.not_le.mpr h3))
        refine okB (okk_mono (itr_ex (f := i_X11_when_L53) (fun i s => ∃ S2, s = (0, nI j, v, nI (i + 1), S2) ∧ Rl S2 21 n (hoursR n i (A 58)) ∧ Fr 21 S S2 ∧ ∀ q, q ≤ i → P q = false) (fun r => (∃ S2, r = .inr (0, S2) ∧ Fr 21 S S2 ∧ ∀ q, q < 101 → P q = false) ∨ ∃ k S2, r = .inl (nI k, S2) ∧ Fr 21 S S2 ∧ P k = true ∧ k < 101 ∧ ∀ q, q < k → P q = false) 100 (fun i hi s hs => ?_) ⟨x.2, rfl, x1, x2, fun q hq => by rw [show q = 0 by omega]; exact p0⟩ 300 (by omega)) fun r hr => ?_)
        · obtain ⟨S2, rfl, r1, r2, r3⟩ := hs
          show okk (f_X11_when_L53 0 (nI j) v (nI (i + 1)) S2) _
          unfold f_X11_when_L53
          by_cases hi100 : i = 100
          · subst hi100
            rw [if_pos (by decide)]
            exact okI (Or.inr ⟨_, rfl, Or.inl ⟨S2, rfl, r2, fun q hq => r3 q (by omega)⟩⟩)
          · rw [if_neg (nI_lt100 (by omega)), if_pos tg0]
            refine okB2 (okk_mono (c_hour t21 (WF_hoursR hw i) r1 (hoursR_hour e1 i) (by omega)) fun y hy => ?_)
            obtain ⟨y1, y2⟩ := hy
            have hg2 : y.2 22 j = hoursR n (i + 1) (A 58) (5 + j) := y1.2.2.2.2.2.1 j (by omega)
            rw [if_pos (iabW t21 (by omega) : iab 22 (nI j) = true), ix_nI (by omega), hg2]
            by_cases h4 : hoursR n (i + 1) (A 58) (5 + j) < v
            · rw [if_pos h4, nI_1]
              exact okI (Or.inl ⟨_, rfl, by omega, y.2, rfl, y1, r2.tr y2, fun q hq => by
                by_cases e : q = i + 1
                · subst e
                  exact (hPk _).trans (dec_f (Int32.not_le.mpr h4))
                · exact r3 q (by omega)⟩)
            · rw [if_neg h4]
              exact okI (Or.inr ⟨_, rfl, Or.inr ⟨i + 1, y.2, rfl, r2.tr y2, (hPk _).trans (dec_t (Int32.not_lt.mp h4)), by omega, fun q hq => r3 q (by omega)⟩⟩)
        · rcases hr with ⟨S2, rfl, r2, r3⟩ | ⟨k, S2, rfl, r2, r3, r4, r5⟩
          · show okk (if tg 0 = 11 then bnd2 (f_X11_finding 0 3 S2) (fun r S3 => some (r, S3)) else none) _
            rw [if_pos tg0, fstN_none 101 r3]
            exact c_none hI r2
          · rw [fstN_some r3 r5 101 r4]
            exact OKC.trial hI r2
      · have p0 : P 0 = true := (hPk 0).trans (dec_t (Int32.not_lt.mp h3))
        rw [if_neg h3, fstN_some p0 (fun q hq => absurd hq (by omega)) 101 (by omega)]
        exact OKC.trial hI x2
    · rw [if_neg h2, if_neg (nr h2)]
      exact c_fin0 hI
  · rw [if_neg h1, if_neg (nl h1)]
    exact c_fin0 hI
