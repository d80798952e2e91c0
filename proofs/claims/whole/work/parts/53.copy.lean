/-! copy -/
def hasQ (z : Nat) (i n : Int32) : Bool := decide (0 ≤ i.toInt) && decide (0 ≤ n.toInt) && decide (i.toInt + n.toInt ≤ (z : Int))
theorem hasQ_t {z : Nat} {i n : Int32} (hz : z ≤ 40) (h : hasQ z i n = true) : ∃ x m, x + m ≤ z ∧ i = nI x ∧ n = nI m := by
  unfold hasQ at h
  simp only [Bool.and_eq_true, decide_eq_true_eq] at h
  have h1 : isM 0 40 i = true := by
    unfold isM
    simp only [Bool.and_eq_true, decide_eq_true_eq]
    omega
  have h2 : isM 0 40 n = true := by
    unfold isM
    simp only [Bool.and_eq_true, decide_eq_true_eq]
    omega
  obtain ⟨x, hx, rfl⟩ := isM_t (hi := 40) h1
  obtain ⟨m, hm, rfl⟩ := isM_t (hi := 40) h2
  rw [nI_toInt (by omega), nI_toInt (by omega)] at h
  exact ⟨x, m, by omega, rfl, rfl⟩
theorem i_0 : (0 : Int32).toInt = 0 := by decide
theorem sub_z {z : Nat} {n : Int32} (hz : z ≤ 40) (h : 0 ≤ n.toInt) : (nI z - n).toInt = (z : Int) - n.toInt := by
  rw [Int32.toInt_sub, nI_toInt (by omega)]
  have h2 : n.toInt < 2 ^ 31 := Int32.toInt_lt n
  apply Int.bmod_eq_of_le <;> omega
theorem c_has {s z : Nat} {i n : Int32} {S : Mem} (hs : s < 4) (hz : z ≤ 40) (h5 : S (48 + 2 * s) 2 = nI z) : f_X8_has (48 + 2 * s) i n S = some (b1 (hasQ z i n), S) := by
  unfold f_X8_has hasQ
  rw [if_pos (tgS s hs).1, h5]
  simp only [Int32.lt_iff_toInt_lt, i_0]
  by_cases h1 : i.toInt < 0
  · rw [if_pos h1, dec_f (by omega)]; rfl
  · rw [if_neg h1, dec_t (by omega)]
    by_cases h2 : n.toInt < 0
    · rw [if_pos h2, dec_f (by omega)]; rfl
    · rw [if_neg h2, dec_t (by omega), nI_toInt (by omega), sub_z hz (by omega)]
      by_cases h3 : (z : Int) < n.toInt
      · rw [if_pos h3, dec_f (by omega)]; rfl
      · rw [if_neg h3]
        by_cases h4 : (z : Int) - n.toInt < i.toInt
        · rw [if_pos h4, dec_f (by omega)]; rfl
        · rw [if_neg h4, dec_t (by omega)]; rfl
def cpyR (g : Row) (p q m : Nat) : Row := fun k => if q ≤ k ∧ k < q + m then g (p + (k - q)) else g k
noncomputable def sp_copy (a i b j n : Int32) (A : Mem) : Int32 × Mem := if isM 0 3 a = true then (if isM 0 3 b = true then (if A 64 (ix a) < 0 then fin A 5 else if A 64 (ix b) < 0 then fin A 5 else if A 64 (ix a) = A 64 (ix b) then (if hasQ (ix (A 65 (ix a))) i n = true then (if hasQ (ix (A 65 (ix b))) j n = true then (n, wrow A 66 (cpyR (A 66) (40 * ix a + ix i) (40 * ix b + ix j) (ix n))) else fin A 0) else fin A 0) else fin A 2) else fin A 0) else fin A 0
theorem SH.copy {S A : Mem} {a b x y m : Nat} (hS : SH S A) (ha : a < 4) (hb : b < 4) (hx : x + m ≤ 40) (hy : y + m ≤ 40) : SH (wrow S (48 + 2 * b + 1) (va_cpy (S (48 + 2 * a + 1)) (S (48 + 2 * b + 1)) x y m)) (wrow A 66 (cpyR (A 66) (40 * a + x) (40 * b + y) m)) := fun q hq => by
  obtain ⟨b0, z2, h1, h2, h3, h4, h5, h6, h7⟩ := hS q hq
  obtain ⟨-, -, -, -, -, -, -, -, k7⟩ := hS a ha
  refine ⟨b0, z2, h1, h2, ?_, ?_, ?_, ?_, fun i hi => ?_⟩
  · rw [wrow_n _ (by omega)]; exact h3
  · rw [wrow_n _ (by decide)]; exact h4
  · rw [wrow_n _ (by omega)]; exact h5
  · rw [wrow_n _ (by decide)]; exact h6
  · rw [wrow_s]
    unfold cpyR
    by_cases e : q = b
    · subst e
      rw [show 49 + 2 * q = 48 + 2 * q + 1 by omega, wrow_s]
      unfold va_cpy
      by_cases e2 : y ≤ i ∧ i < y + m
      · rw [if_pos e2, if_pos (by omega), show 48 + 2 * a + 1 = 49 + 2 * a by omega, k7 _ (by omega)]
        congr 1
        omega
      · rw [if_neg e2, if_neg (by omega), show 48 + 2 * q + 1 = 49 + 2 * q by omega, h7 i hi]
    · rw [wrow_n _ (by omega), if_neg (by omega), h7 i hi]
theorem c_copy {S A : Mem} {H : Nat} {a i b j n : Int32} (hI : INV S A H) : okk (f_X11_copy 0 a i b j n S) (OKC S H (sp_copy a i b j n A)) := by
  unfold f_X11_copy sp_copy
  rw [c_out (hi := 3) (by decide), bnd2_s, b1n_if, if_pos tg0]
  by_cases h1 : isM 0 3 a = true
  · rw [if_pos h1, if_pos h1, c_out (hi := 3) (by decide), bnd2_s, b1n_if, if_pos tg0, if_pos tg0]
    by_cases h2 : isM 0 3 b = true
    · obtain ⟨a, ha, rfl⟩ := isM_t (hi := 3) h1
      obtain ⟨b, hb, rfl⟩ := isM_t (hi := 3) h2
      have ha4 : a < 4 := by omega
      have hb4 : b < 4 := by omega
      obtain ⟨ba, za, ab, az, a3, a4, a5, a6, a7⟩ := hI.2.2.2.2.2 a ha4
      obtain ⟨bb, zb, bb', bz, b3, b4, b5, b6, b7⟩ := hI.2.2.2.2.2 b hb4
      obtain ⟨k1, k2, k3⟩ := SH.mis ab a3 a4
      obtain ⟨l1, l2, l3⟩ := SH.mis bb' b3 b4
      rw [if_pos h2, if_pos h2, if_pos (rabS a ha4), eadS ha4, if_pos (tgS a ha4).1, c_isMissing (tgS a ha4).1, bnd2_s, b1_if, ix_nI (show a < 2 ^ 31 by omega), ix_nI (show b < 2 ^ 31 by omega)]
      by_cases hm : A 64 a < 0
      · rw [if_pos (dec_t (k1.mpr hm)), if_pos hm]
        exact c_fin hI (by decide) rfl
      · have e48 : eadr 3004 47 b = 48 + 2 * b := by
          have := eadS hb4
          rwa [ix_nI (by omega)] at this
        rw [if_neg (by rw [dec_f (fun z => hm (k1.mp z))]; decide), if_neg hm, if_pos (rabS b hb4), e48, if_pos (tgS b hb4).1, c_isMissing (tgS b hb4).1, bnd2_s, b1_if]
        by_cases hm2 : A 64 b < 0
        · rw [if_pos (dec_t (l1.mpr hm2)), if_pos hm2]
          exact c_fin hI (by decide) rfl
        · rw [if_neg (by rw [dec_f (fun z => hm2 (l1.mp z))]; decide), if_neg hm2, ← k3 hm, ← l3 hm2]
          by_cases he : A 64 a = A 64 b
          · rw [if_pos he, if_pos he, c_has ha4 az a5, bnd2_s, b1_if, a6, b6, ix_nI (show za < 2 ^ 31 by omega), ix_nI (show zb < 2 ^ 31 by omega)]
            by_cases q1 : hasQ za i n = true
            · rw [if_pos q1, if_pos q1, c_has hb4 bz b5, bnd2_s, b1_if]
              by_cases q2 : hasQ zb j n = true
              · obtain ⟨x, m, hx, rfl, rfl⟩ := hasQ_t az q1
                obtain ⟨y, m2, hy, rfl, hmm⟩ := hasQ_t bz q2
                have hm3 : m = m2 := by
                  have := congrArg Int32.toInt hmm
                  rw [nI_toInt (by omega), nI_toInt (by omega)] at this
                  omega
                subst hm3
                have hok : cpok (48 + 2 * a + 1) (nI x) (48 + 2 * b + 1) (nI y) (nI m) = true := by
                  unfold cpok
                  rw [(tgS a ha4).2, (tgS b hb4).2, nI_toInt (by omega), nI_toInt (by omega), nI_toInt (by omega)]
                  simp only [Bool.and_eq_true, decide_eq_true_eq]
                  omega
                rw [if_pos q2, if_pos q2, if_pos hok, ix_nI (show x < 2 ^ 31 by omega), ix_nI (show y < 2 ^ 31 by omega), ix_nI (show m < 2 ^ 31 by omega)]
                exact OKC.sh hI (fun q hq => wrow_n _ (by omega)) (fun q _ _ h => wrow_n _ h) (hI.2.2.2.2.2.copy ha4 hb4 (by omega) (by omega))
              · rw [if_neg q2, if_neg q2]
                exact c_fin0 hI
            · rw [if_neg q1, if_neg q1]
              exact c_fin0 hI
          · rw [if_neg he, if_neg he]
            exact c_fin hI (by decide) rfl
    · rw [if_neg h2, if_neg h2]
      exact c_fin0 hI
  · rw [if_neg h1, if_neg h1]
    exact c_fin0 hI
theorem m_copyL {g : Row} {X : Mem} {p q m : Nat} (hp : p + m ≤ 160) (hq : q + m ≤ 160) (hX : X 66 = g) : itr 300 i_X12_copy_L138 (57, nI m, nI p, nI q, 0, X) = some (nI m, wrow X 66 (cpyR g p q m)) := by
  subst hX
  by_cases hle : q ≤ p
  · have := itr_run (f := i_X12_copy_L138) (r := (nI m, wrow X 66 (cpyR (X 66) p q m))) (fun t => (57, nI m, nI p, nI q, nI t, wrow X 66 (cpyR (X 66) p q t))) m (fun t ht => by
      show f_X12_copy_L138 57 (nI m) (nI p) (nI q) (nI t) _ = _
      unfold f_X12_copy_L138 f_X12_copy_j164
      rw [if_neg (nI_ge ht (by omega)), if_pos (nI_le hle (by omega)), if_pos tg57, nI_add, nI_add, if_pos (iab66 (by omega)), if_pos (iab66 (by omega)), ix_nI (by omega), ix_nI (by omega), nI_1]
      dsimp only
      rw [wr_row, wrow_s, wrow_w]
      have e : upd (cpyR (X 66) p q t) (q + t) (cpyR (X 66) p q t (p + t)) = cpyR (X 66) p q (t + 1) := by
        funext k
        unfold cpyR
        by_cases hk : k = q + t
        · subst hk
          rw [upd_s, if_neg (by omega), if_pos (by omega)]
          congr 1
          omega
        · rw [upd_n hk]
          by_cases h2 : q ≤ k ∧ k < q + t
          · rw [if_pos h2, if_pos (by omega)]
          · rw [if_neg h2, if_neg (by omega)]
      rw [e]) (by
      show f_X12_copy_L138 57 (nI m) (nI p) (nI q) (nI m) _ = _
      unfold f_X12_copy_L138
      rw [if_pos (nI_le (Nat.le_refl _) (by omega))]) 300 (by omega)
    have e0 : wrow X 66 (cpyR (X 66) p q 0) = X := by
      have : cpyR (X 66) p q 0 = X 66 := by
        funext k
        unfold cpyR
        rw [if_neg (by omega)]
      rw [this, wrow_id]
    rw [e0] at this
    exact this
  · have := itr_run (f := i_X12_copy_L138) (r := (nI m, wrow X 66 (cpyR (X 66) p q m))) (fun t => (57, nI m, nI p, nI q, nI t, wrow X 66 (fun k => if q + (m - t) ≤ k ∧ k < q + m then X 66 (p + (k - q)) else X 66 k))) m (fun t ht => by
      show f_X12_copy_L138 57 (nI m) (nI p) (nI q) (nI t) _ = _
      unfold f_X12_copy_L138 f_X12_copy_j164
      have e1 : nI m - 1 - nI t = nI (m - 1 - t) := by
        apply Int32.toInt_inj.mp
        rw [nI_toInt (by omega), Int32.toInt_sub, Int32.toInt_sub, nI_toInt (by omega), nI_toInt (by omega), i_1]
        have e0 : ((m : Int) - 1).bmod (2 ^ 32) = (m : Int) - 1 := Int.bmod_eq_of_le (by omega) (by omega)
        rw [e0, Int.bmod_eq_of_le (by omega) (by omega)]
        omega
      rw [if_neg (nI_ge ht (by omega)), if_neg (nI_ge (by omega) (by omega)), if_pos tg57, e1, nI_add, nI_add, if_pos (iab66 (by omega)), if_pos (iab66 (by omega)), ix_nI (by omega), ix_nI (by omega), nI_1]
      dsimp only
      rw [wr_row, wrow_s, wrow_w]
      have e : upd (fun k => if q + (m - t) ≤ k ∧ k < q + m then X 66 (p + (k - q)) else X 66 k) (q + (m - 1 - t)) (if q + (m - t) ≤ p + (m - 1 - t) ∧ p + (m - 1 - t) < q + m then X 66 (p + (p + (m - 1 - t) - q)) else X 66 (p + (m - 1 - t))) = fun k => if q + (m - (t + 1)) ≤ k ∧ k < q + m then X 66 (p + (k - q)) else X 66 k := by
        funext k
        by_cases hk : k = q + (m - 1 - t)
        · subst hk
          rw [upd_s, if_neg (by omega), if_pos (by omega)]
          congr 1
          omega
        · rw [upd_n hk]
          by_cases h2 : q + (m - t) ≤ k ∧ k < q + m
          · rw [if_pos h2, if_pos (by omega)]
          · rw [if_neg h2, if_neg (by omega)]
      rw [e]) (by
      show f_X12_copy_L138 57 (nI m) (nI p) (nI q) (nI m) _ = _
      unfold f_X12_copy_L138
      rw [if_pos (nI_le (Nat.le_refl _) (by omega))]
      have : (fun k => if q + (m - m) ≤ k ∧ k < q + m then X 66 (p + (k - q)) else X 66 k) = cpyR (X 66) p q m := by
        funext k
        unfold cpyR
        rw [Nat.sub_self, Nat.add_zero]
      rw [this]) 300 (by omega)
    have e0 : wrow X 66 (fun k => if q + (m - 0) ≤ k ∧ k < q + m then X 66 (p + (k - q)) else X 66 k) = X := by
      have : (fun k => if q + (m - 0) ≤ k ∧ k < q + m then X 66 (p + (k - q)) else X 66 k) = X 66 := by
        funext k
        rw [if_neg (by omega)]
      rw [this, wrow_id]
    rw [e0] at this
    exact this
theorem hasQ_i {z : Nat} {i n : Int32} (h : i < 0) : hasQ z i n = false := by
  rw [Int32.lt_iff_toInt_lt, i_0] at h
  unfold hasQ
  rw [dec_f (by omega)]; rfl
theorem hasQ_n {z : Nat} {i n : Int32} (h : n < 0) : hasQ z i n = false := by
  rw [Int32.lt_iff_toInt_lt, i_0] at h
  unfold hasQ
  rw [dec_f (by omega : ¬ 0 ≤ n.toInt), Bool.and_false]; rfl
theorem hasQ_s {z : Nat} {i n : Int32} (hz : z ≤ 40) (hi : ¬ i < 0) (hn : ¬ n < 0) : hasQ z i n = true ↔ n ≤ nI z - i := by
  rw [Int32.lt_iff_toInt_lt, i_0] at hi hn
  rw [Int32.le_iff_toInt_le, sub_z hz (by omega)]
  unfold hasQ
  simp only [Bool.and_eq_true, decide_eq_true_eq]
  omega
theorem m_copy {S T : Mem} {a i b j n : Int32} (hS : SH T S) : okk (f_X12_copy 57 a i b j n S) (OKM S (sp_copy a i b j n (mp S))) := by
  unfold f_X12_copy sp_copy
  rw [m_isSheet, bnd2_s, b1_if, if_pos tg57]
  by_cases h1 : isM 0 3 a = true
  · rw [if_pos h1, if_pos h1, m_isSheet, bnd2_s, b1_if, if_pos tg57, if_pos tg57]
    by_cases h2 : isM 0 3 b = true
    · obtain ⟨a, ha, rfl⟩ := isM_t (hi := 3) h1
      obtain ⟨b, hb, rfl⟩ := isM_t (hi := 3) h2
      have ha4 : a < 4 := by omega
      have hb4 : b < 4 := by omega
      obtain ⟨ba, za, ab, az, a3, a4, a5, a6, a7⟩ := hS a ha4
      obtain ⟨bb, zb, bb', bz, b3, b4, b5, b6, b7⟩ := hS b hb4
      rw [if_pos h2, if_pos h2, if_pos (iab64 ha4), if_pos (iab64 hb4), if_pos (iab65 ha4), if_pos (iab65 hb4), ix_nI (show a < 2 ^ 31 by omega), ix_nI (show b < 2 ^ 31 by omega), show mp S 64 = S 64 from rfl, show mp S 65 = S 65 from rfl, show mp S 66 = S 66 from rfl, a6, b6, ix_nI (show za < 2 ^ 31 by omega), ix_nI (show zb < 2 ^ 31 by omega)]
      by_cases hm : S 64 a < 0
      · rw [if_pos hm, if_pos hm]
        exact m_fin (k := 5) (by decide) (by decide)
      · rw [if_neg hm, if_neg hm]
        by_cases hm2 : S 64 b < 0
        · rw [if_neg (Int32.not_le.mpr hm2), if_pos hm2]
          exact m_fin (k := 5) (by decide) (by decide)
        · rw [if_pos (Int32.not_lt.mp hm2), if_neg hm2]
          by_cases he : S 64 a = S 64 b
          · rw [if_pos he, if_pos he]
            by_cases i0 : i < 0
            · rw [if_pos i0, hasQ_i i0, if_neg (by decide)]
              exact m_fin0
            · rw [if_neg i0]
              by_cases j0 : j < 0
              · rw [if_pos j0, hasQ_i j0]
                have : ∀ c : Bool, (if c = true then (if false = true then (n, wrow (mp S) 66 (cpyR (S 66) (40 * a + ix i) (40 * b + ix j) (ix n))) else fin (mp S) 0) else fin (mp S) 0) = fin (mp S) 0 := fun c => by cases c <;> rfl
                rw [this]
                exact m_fin0
              · rw [if_neg j0]
                by_cases n0 : n < 0
                · rw [if_pos n0, hasQ_n n0, if_neg (by decide)]
                  exact m_fin0
                · rw [if_neg n0]
                  by_cases q1 : hasQ za i n = true
                  · rw [if_neg (Int32.not_lt.mpr ((hasQ_s az i0 n0).mp q1)), if_pos q1]
                    by_cases q2 : hasQ zb j n = true
                    · rw [if_pos ((hasQ_s bz j0 n0).mp q2), if_pos q2]
                      obtain ⟨x, m, hx, rfl, rfl⟩ := hasQ_t az q1
                      obtain ⟨y, m2, hy, rfl, hmm⟩ := hasQ_t bz q2
                      have hm3 : m = m2 := by
                        have := congrArg Int32.toInt hmm
                        rw [nI_toInt (by omega), nI_toInt (by omega)] at this
                        omega
                      subst hm3
                      rw [pl66, pl66, m_copyL (g := S 66) (by omega) (by omega) rfl, bnd_s, ix_nI (show x < 2 ^ 31 by omega), ix_nI (show y < 2 ^ 31 by omega), ix_nI (show m < 2 ^ 31 by omega)]
                      exact OKM.hi (hi_row (hi_mp S) _ _) (fun q hq => wrow_n _ (by omega))
                    · rw [if_neg (fun z => q2 ((hasQ_s bz j0 n0).mpr z)), if_neg q2]
                      exact m_fin0
                  · rw [if_pos (Int32.not_le.mp (fun z => q1 ((hasQ_s az i0 n0).mpr z))), if_neg q1]
                    exact m_fin0
          · rw [if_neg he, if_neg he]
            exact m_fin (k := 2) (by decide) (by decide)
    · rw [if_neg h2, if_neg h2]
      exact m_fin0
  · rw [if_neg h1, if_neg h1]
    exact m_fin0
