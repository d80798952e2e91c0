/-! write, load, judge -/
def cutK (b v : Int32) : Int32 := if b = 8 then v.toInt8.toInt32 else if b = 16 then v.toInt16.toInt32 else v
def szI (A : Mem) (s : Nat) : Int := (ix (A 65 s) : Int)
noncomputable def sp_write (s i v : Int32) (A : Mem) : Int32 × Mem := if isM 0 3 s = true then (if A 64 (ix s) < 0 then fin A 5 else if isM 0 (szI A (ix s) - 1) i = true then (1, wrow A 66 (upd (A 66) (40 * ix s + ix i) (cutK (A 64 (ix s)) v))) else fin A 0) else fin A 0
theorem nz1 : ∀ z, z ≤ 40 → (nI z - 1).toInt = (z : Int) - 1 := by decide +kernel
theorem isM_sz {z : Nat} {i : Int32} (hz : z ≤ 40) (h : isM 0 ((z : Int) - 1) i = true) : ∃ j, j < z ∧ i = nI j := by
  have h2 := h
  unfold isM at h2
  simp only [Bool.and_eq_true, decide_eq_true_eq] at h2
  have h3 : isM 0 40 i = true := by
    unfold isM
    simp only [Bool.and_eq_true, decide_eq_true_eq]
    omega
  obtain ⟨j, hj, rfl⟩ := isM_t (hi := 40) h3
  rw [nI_toInt (by omega)] at h2
  exact ⟨j, by omega, rfl⟩
/-- what a sheet tells on either side -/
theorem SH.mis {S A : Mem} {s b : Nat} (hb : b = 0 ∨ b = 8 ∨ b = 16 ∨ b = 32) (h1 : S (48 + 2 * s) 1 = nI b) (h2 : A 64 s = if b = 0 then -1 else nI b) : (S (48 + 2 * s) 1 = 0 ↔ A 64 s < 0) ∧ (0 ≤ A 64 s ↔ ¬ A 64 s < 0) ∧ (¬ A 64 s < 0 → A 64 s = S (48 + 2 * s) 1) := by
  rw [h1, h2]
  rcases hb with rfl | rfl | rfl | rfl <;> decide
theorem SH.put {S A : Mem} {s j : Nat} {v : Int32} (hS : SH S A) (h : s < 4) (hj : j < 40) : SH (wr S (48 + 2 * s + 1) j v) (wrow A 66 (upd (A 66) (40 * s + j) v)) := fun q hq => by
  obtain ⟨b, z2, h1, h2, h3, h4, h5, h6, h7⟩ := hS q hq
  refine ⟨b, z2, h1, h2, ?_, ?_, ?_, ?_, fun i hi => ?_⟩
  · rw [wr_n (by omega)]; exact h3
  · rw [wrow_n _ (by decide)]; exact h4
  · rw [wr_n (by omega)]; exact h5
  · rw [wrow_n _ (by decide)]; exact h6
  · rw [wrow_s]
    by_cases e : q = s
    · subst e
      rw [show 49 + 2 * q = 48 + 2 * q + 1 by omega, wr_s]
      by_cases e2 : i = j
      · subst e2; rw [upd_s, upd_s]
      · rw [upd_n e2, upd_n (by omega), show 48 + 2 * q + 1 = 49 + 2 * q by omega]; exact h7 i hi
    · rw [wr_n (by omega), upd_n (by omega)]; exact h7 i hi
theorem c_shput {s j : Nat} {v : Int32} {S : Mem} (h : s < 4) (hj : j < 40) : f_X8_put (48 + 2 * s) (nI j) v S = some ((), wr S (48 + 2 * s + 1) j (cutK (S (48 + 2 * s) 1) v)) := by
  unfold f_X8_put cutK
  rw [if_pos (tgS s h).1, if_pos (iabN h hj), if_pos (iabN h hj), if_pos (iabN h hj), ix_nI (by omega)]
  by_cases h1 : S (48 + 2 * s) 1 = 8
  · rw [if_pos h1, if_pos h1]
  · rw [if_neg h1, if_neg h1]
    by_cases h2 : S (48 + 2 * s) 1 = 16
    · rw [if_pos h2, if_pos h2]
    · rw [if_neg h2, if_neg h2]
theorem OKC.sh {S S2 A A2 : Mem} {H : Nat} {v : Int32} (hI : INV S A H) (he : ∀ a, a < 48 ∨ 56 ≤ a → S2 a = S a) (ha : ∀ a, a ≠ 64 → a ≠ 65 → a ≠ 66 → A2 a = A a) (hs : SH S2 A2) : okk (some (v, S2)) (OKC S H (v, A2)) := okI ⟨rfl, hI.sh he ha hs, fun a ha => he a (by omega)⟩
theorem c_write {S A : Mem} {H : Nat} {s i v : Int32} (hI : INV S A H) : okk (f_X11_write 0 s i v S) (OKC S H (sp_write s i v A)) := by
  unfold f_X11_write sp_write
  rw [c_out (hi := 3) (by decide), bnd2_s, b1n_if, if_pos tg0, if_pos tg0]
  by_cases h1 : isM 0 3 s = true
  · obtain ⟨a, ha, rfl⟩ := isM_t (hi := 3) h1
    have ha4 : a < 4 := by omega
    obtain ⟨b, z, hb, hz, h3, h4, h5, h6, h7⟩ := hI.2.2.2.2.2 a ha4
    obtain ⟨k1, k2, k3⟩ := SH.mis hb h3 h4
    rw [if_pos h1, if_pos h1, if_pos (rabS a ha4), eadS ha4, if_pos (tgS a ha4).1, c_isMissing (tgS a ha4).1, bnd2_s, b1_if, ix_nI (by omega)]
    by_cases hm : A 64 a < 0
    · rw [if_pos (dec_t (k1.mpr hm)), if_pos hm]
      exact c_fin hI (by decide) rfl
    · rw [if_neg (by rw [dec_f (fun z => hm (k1.mp z))]; decide), if_neg hm, h5, c_out (hi := (z : Int) - 1) (nz1 z hz), bnd2_s, b1n_if]
      have hsz : szI A a = (z : Int) := by
        unfold szI
        rw [h6, ix_nI (by omega)]
      rw [hsz]
      by_cases h2 : isM 0 ((z : Int) - 1) i = true
      · obtain ⟨j, hj, rfl⟩ := isM_sz hz h2
        rw [if_pos h2, if_pos h2, c_shput ha4 (by omega), bnd2_s, ix_nI (by omega), k3 hm]
        refine OKC.sh hI (fun x hx => wr_n (by omega)) (fun x _ _ q => wrow_n _ q) ?_
        exact hI.2.2.2.2.2.put ha4 (by omega)
      · rw [if_neg h2, if_neg h2]
        exact c_fin0 hI
  · rw [if_neg h1, if_neg h1]
    exact c_fin0 hI
theorem toInt64_z (z : Nat) (hz : z ≤ 40) : ((nI z - 1) : Int32).toInt64.toInt = (z : Int) - 1 := by
  rw [← nz1 z hz]
  simp
theorem m_write {S T : Mem} {s i v : Int32} (hS : SH T S) : okk (f_X12_write 57 s i v S) (OKM S (sp_write s i v (mp S))) := by
  unfold f_X12_write sp_write
  rw [m_isSheet, bnd2_s, b1_if, if_pos tg57, if_pos tg57]
  by_cases h1 : isM 0 3 s = true
  · obtain ⟨a, ha, rfl⟩ := isM_t (hi := 3) h1
    have ha4 : a < 4 := by omega
    obtain ⟨b, z, hb, hz, h3, h4, h5, h6, h7⟩ := hS a ha4
    obtain ⟨k1, k2, k3⟩ := SH.mis hb h3 h4
    rw [if_pos h1, if_pos h1, if_pos (iab64 ha4), ix_nI (by omega), if_pos (iab65 ha4)]
    have e64 : mp S 64 = S 64 := rfl
    have e66 : mp S 66 = S 66 := rfl
    have hsz : szI (mp S) a = (z : Int) := by
      unfold szI
      rw [show mp S 65 a = S 65 a from rfl, h6, ix_nI (by omega)]
    rw [e64, e66, hsz]
    by_cases hm : S 64 a < 0
    · rw [if_neg (fun z => (k2.mp z) hm), if_pos hm]
      exact m_fin (k := 5) (by decide) (by decide)
    · rw [if_pos (k2.mpr hm), if_neg hm, h6, m_isIn (l := 0) (u := (z : Int) - 1) (by decide) (toInt64_z z hz), bnd2_s, b1_if]
      by_cases h2 : isM 0 ((z : Int) - 1) i = true
      · obtain ⟨j, hj, rfl⟩ := isM_sz hz h2
        rw [if_pos h2, if_pos h2, pl66, if_pos (iab66 (by omega)), ix_nI (by omega), ix_nI (by omega)]
        unfold cutK
        have key : ∀ x, okk (some ((1 : Int32), wr S 66 (40 * a + j) x)) (OKM S (1, wrow (mp S) 66 (upd (S 66) (40 * a + j) x))) := fun x => OKM.hi (hi_row (hi_mp S) _ _) (fun q hq => wr_n (by omega))
        by_cases c8 : S 64 a = 8
        · rw [if_pos c8, if_pos c8]
          exact key _
        · rw [if_neg c8, if_neg c8]
          by_cases c16 : S 64 a = 16
          · rw [if_pos c16, if_pos c16, if_pos (iab66 (by omega))]
            exact key _
          · rw [if_neg c16, if_neg c16, if_pos (iab66 (by omega))]
            exact key _
      · rw [if_neg h2, if_neg h2]
        exact m_fin0
  · rw [if_neg h1, if_neg h1]
    exact m_fin0
def runN (c : Nat → Bool) : Nat → Nat
  | 0 => 0
  | m + 1 => if runN c m = m ∧ c m = true then m + 1 else runN c m
theorem runN_all {c : Nat → Bool} {K : Nat} (h : ∀ j, j < K → c j = true) : ∀ m, m ≤ K → runN c m = m
  | 0, _ => rfl
  | m + 1, hm => by
    unfold runN
    rw [if_pos ⟨runN_all h m (by omega), h m (by omega)⟩]
theorem runN_eq {c : Nat → Bool} {K : Nat} (h : ∀ j, j < K → c j = true) (hK : c K = false) : ∀ d, runN c (K + d) = K
  | 0 => runN_all h K (Nat.le_refl _)
  | d + 1 => by
    show (if runN c (K + d) = K + d ∧ c (K + d) = true then K + d + 1 else runN c (K + d)) = K
    rw [runN_eq h hK d]
    by_cases e : K = K + d ∧ c (K + d) = true
    · rw [← e.1, hK] at e
      exact absurd e.2 (by decide)
    · rw [if_neg e]
theorem runN_40 {c : Nat → Bool} {K : Nat} (h : ∀ j, j < K → c j = true) (hK : c K = false) (h40 : K ≤ 40) : runN c 40 = K := by
  have := runN_eq h hK (40 - K)
  rwa [show K + (40 - K) = 40 by omega] at this
def ldR (V : Nat → Int32) : Nat → Row → Row
  | 0, g => g
  | k + 1, g => upd (ldR V k g) (fi k 3) (V k)
def ldQ (A : Mem) (z n s i : Nat) : Bool := decide (i < z) && decide (i < n) && isM 0 999 (A 66 (40 * s + i))
/-- what a call asks of a sheet before all else -/
def wantS (s : Int32) (A : Mem) (r : Int32 × Mem) : Int32 × Mem := if isM 0 3 s = true then (if A 64 (ix s) < 0 then fin A 5 else r) else fin A 0
noncomputable def sp_load (s : Int32) (A : Mem) : Int32 × Mem := wantS s A (nI (runN (ldQ A (ix (A 65 (ix s))) (ix (A 58 0)) (ix s)) 40), wrow A 58 (ldR (fun i => A 66 (40 * ix s + i)) (runN (ldQ A (ix (A 65 (ix s))) (ix (A 58 0)) (ix s)) 40) (A 58)))
theorem SP.ld {n : Nat} {g : Row} {V : Nat → Int32} (h : SP n g) (hn : n ≤ 8) : ∀ k, k ≤ n → SP n (ldR V k g)
  | 0, _ => h
  | k + 1, hk => SP_fire (SP.ld h hn k (by omega)) (by omega) (by decide)
theorem WF_ld {n : Nat} {g : Row} {V : Nat → Int32} (h : WF n g) : ∀ k, k ≤ n → WF n (ldR V k g)
  | 0, _ => h
  | k + 1, hk => WF_slot (WF_ld h k (by omega)) (by omega) (Or.inl rfl)
theorem ldR_1 {g : Row} {V : Nat → Int32} : ∀ k, ldR V k g 1 = g 1
  | 0 => rfl
  | k + 1 => by
    show upd (ldR V k g) (fi k 3) (V k) 1 = _
    rw [upd_n (lo_ne (by omega)), ldR_1 k]
theorem c_load {S A : Mem} {H : Nat} {s : Int32} (hI : INV S A H) : okk (f_X11_load 0 s S) (OKC S H (sp_load s A)) := by
  unfold f_X11_load sp_load wantS
  rw [c_out (hi := 3) (by decide), bnd2_s, b1n_if, if_pos tg0, if_pos tg0]
  by_cases h1 : isM 0 3 s = true
  · obtain ⟨a, ha, rfl⟩ := isM_t (hi := 3) h1
    have ha4 : a < 4 := by omega
    obtain ⟨b, z, hb, hz, h3, h4, h5, h6, h7⟩ := hI.2.2.2.2.2 a ha4
    obtain ⟨k1, k2, k3⟩ := SH.mis hb h3 h4
    rw [if_pos h1, if_pos h1, if_pos (rabS a ha4), eadS ha4, if_pos (tgS a ha4).1, c_isMissing (tgS a ha4).1, bnd2_s, b1_if, ix_nI (show a < 2 ^ 31 by omega)]
    by_cases hm : A 64 a < 0
    · rw [if_pos (dec_t (k1.mpr hm)), if_pos hm]
      exact c_fin hI (by decide) rfl
    · rw [if_neg (by rw [dec_f (fun z => hm (k1.mp z))]; decide), if_neg hm]
      obtain ⟨n, hw, hsp, ⟨h, hh, e1⟩, hR⟩ := hI.1
      have hn := hw.1
      rw [h6, hw.2.1, ix_nI (show z < 2 ^ 31 by omega), ix_nI (show n < 2 ^ 31 by omega)]
      generalize hc : ldQ A z n a = c
      have hck : ∀ i, c i = (decide (i < z) && decide (i < n) && isM 0 999 (A 66 (40 * a + i))) := fun i => by rw [← hc]; rfl
      refine okB (okk_mono (itr_ex (f := i_X11_load_L34) (fun i t => ∃ S2, t = (0, nI a, nI i, S2) ∧ i ≤ n ∧ Rl S2 9 n (ldR (fun i => A 66 (40 * a + i)) i (A 58)) ∧ Fr 9 S S2 ∧ ∀ q, q < i → c q = true) (fun r => ∃ K S2, r = (nI K, S2) ∧ K ≤ n ∧ Rl S2 9 n (ldR (fun i => A 66 (40 * a + i)) K (A 58)) ∧ Fr 9 S S2 ∧ (∀ q, q < K → c q = true) ∧ c K = false ∧ K ≤ 40) 8 (fun i hi t ht => ?_) ⟨S, rfl, by omega, hR, Fr.rf, fun q hq => absurd hq (by omega)⟩ 300 (by omega)) fun r hr => ?_)
      · obtain ⟨S2, rfl, r0, r1, r2, r3⟩ := ht
        unfold i_X11_load_L34
        dsimp only
        unfold f_X11_load_L34
        rw [if_pos tg0, if_pos (rabS a ha4), eadS ha4, if_pos (tgS a ha4).1, r2 (48 + 2 * a) (by omega), h5, r1.1]
        by_cases hiz : i < z
        · rw [if_neg (nI_ge hiz (by omega))]
          by_cases hin : i < n
          · have hi8 : i < 8 := by omega
            rw [if_neg (nI_ge hin (by omega)), if_pos (iabN ha4 (by omega)), r2 (48 + 2 * a + 1) (by omega), ix_nI (show i < 2 ^ 31 by omega), c_out (hi := 999) (by decide), bnd2_s, b1n_if]
            have hv : S (48 + 2 * a + 1) i = A 66 (40 * a + i) := by
              rw [show 48 + 2 * a + 1 = 49 + 2 * a by omega]
              exact h7 i (by omega)
            rw [hv]
            by_cases hg : isM 0 999 (A 66 (40 * a + i)) = true
            · have he : eadr 3008 11 i = fa 9 i := by
                have := eadT9 hi8
                rwa [ix_nI (by omega)] at this
              rw [if_pos hg, if_pos (rabT9 hi8), he, if_pos (tg9 hi8), r2 (48 + 2 * a + 1) (by omega), hv, nI_1]
              refine okI (Or.inl ⟨_, rfl, by omega, _, rfl, by omega, r1.fire (w := 3) hn hin (by decide), r2.wr (by unfold fa; omega) (by unfold fa; omega), fun q hq => ?_⟩)
              by_cases e : q = i
              · rw [e, hck, dec_t hiz, dec_t hin, hg]; rfl
              · exact r3 q (by omega)
            · rw [if_neg hg]
              refine okI (Or.inr ⟨_, rfl, i, S2, rfl, r0, r1, r2, r3, ?_, by omega⟩)
              rw [hck, Bool.eq_false_iff.mpr hg, Bool.and_false]
          · rw [if_pos (nI_le (by omega) (by omega))]
            refine okI (Or.inr ⟨_, rfl, i, S2, rfl, r0, r1, r2, r3, ?_, by omega⟩)
            rw [hck, dec_f hin, Bool.and_false, Bool.false_and]
        · rw [if_pos (nI_le (by omega) (by omega))]
          refine okI (Or.inr ⟨_, rfl, i, S2, rfl, r0, r1, r2, r3, ?_, by omega⟩)
          rw [hck, dec_f hiz, Bool.false_and, Bool.false_and]
      · obtain ⟨K, S2, rfl, r0, r1, r2, r3, r4, r5⟩ := hr
        rw [runN_40 r3 r4 r5]
        exact OKC.town hI ⟨n, WF_ld hw K r0, SP.ld hsp hn K r0, ⟨h, hh, (ldR_1 K).trans e1⟩, r1⟩ (Nat.le_refl _) (fun a ha => r2 a (by omega))
  · rw [if_neg h1, if_neg h1]
    exact c_fin0 hI
theorem m_wants (s : Int32) (S : Mem) : f_X12_wants 57 s S = some ((if isM 0 3 s = true then (if S 64 (ix s) < 0 then -1000006 else 0) else -1000001), S) := by
  unfold f_X12_wants
  rw [m_isSheet, bnd2_s, b1_if]
  by_cases h1 : isM 0 3 s = true
  · obtain ⟨a, ha, rfl⟩ := isM_t (hi := 3) h1
    rw [if_pos h1, if_pos h1, if_pos tg57, if_pos (iab64 (by omega))]
    by_cases h2 : S 64 (ix (nI a)) < 0
    · rw [if_pos h2, if_neg (Int32.not_le.mpr h2)]
    · rw [if_neg h2, if_pos (Int32.not_lt.mp h2)]
  · rw [if_neg h1, if_neg h1]
theorem m_wantsF {S : Mem} {s : Int32} {r : Int32 × Mem} {X : Mem → Option (Int32 × Mem)} (hX : isM 0 3 s = true → ¬ S 64 (ix s) < 0 → okk (X S) (OKM S r)) : okk (bnd2 (f_X12_wants 57 s S) (fun r2 S3 => if r2 = 0 then X S3 else bnd2 (f_X12_wants 57 s S3) (fun r17 S18 => bnd2 (f_X12_finds 57 r17 S18) (fun r19 S20 => some (r19, S20))))) (OKM S (wantS s (mp S) r)) := by
  unfold wantS
  rw [m_wants, bnd2_s, show mp S 64 = S 64 from rfl]
  by_cases h1 : isM 0 3 s = true
  · rw [if_pos h1, if_pos h1]
    by_cases h2 : S 64 (ix s) < 0
    · rw [if_pos h2, if_pos h2, if_neg (by decide), m_wants, bnd2_s, if_pos h1, if_pos h2]
      exact m_fin (k := 5) (by decide) (by decide)
    · rw [if_neg h2, if_neg h2, if_pos rfl]
      exact hX h1 h2
  · rw [if_neg h1, if_neg h1, if_neg (by decide), m_wants, bnd2_s, if_neg h1]
    exact m_fin0
theorem isM_nI {n i : Nat} (hi : i < 2 ^ 31) : isM 0 ((n : Int) - 1) (nI i) = decide (i < n) := by
  unfold isM
  rw [nI_toInt hi]
  by_cases h : i < n
  · rw [dec_t h, dec_t (by omega), dec_t (by omega)]; rfl
  · rw [dec_f h, dec_f (by omega : ¬ (i : Int) ≤ (n : Int) - 1), Bool.and_false]
theorem m_load {S T : Mem} {n : Nat} {s : Int32} (hw : WF n (S 58)) (hS : SH T S) : okk (f_X12_load 57 s S) (OKM S (sp_load s (mp S))) := by
  unfold f_X12_load sp_load
  have hn := hw.1
  rw [if_pos tg57]
  refine m_wantsF fun h1 hm => ?_
  obtain ⟨a, ha, rfl⟩ := isM_t (hi := 3) h1
  have ha4 : a < 4 := by omega
  obtain ⟨b, z, hb, hz, h3, h4, h5, h6, h7⟩ := hS a ha4
  rw [ix_nI (show a < 2 ^ 31 by omega), show mp S 65 a = S 65 a from rfl, mp58, show mp S 66 = S 66 from rfl, h6, hw.2.1, ix_nI (show z < 2 ^ 31 by omega), ix_nI (show n < 2 ^ 31 by omega)]
  generalize hc : ldQ (mp S) z n a = c
  have hck : ∀ i, c i = (decide (i < z) && decide (i < n) && isM 0 999 (S 66 (40 * a + i))) := fun i => by rw [← hc]; rfl
  refine okB (okk_mono (itr_ex (f := i_X12_load_L20) (fun i t => i ≤ n ∧ t = (57, nI a, nI i, wrow S 58 (ldR (fun i => S 66 (40 * a + i)) i (S 58))) ∧ ∀ q, q < i → c q = true) (fun r => ∃ K, r = (nI K, wrow S 58 (ldR (fun i => S 66 (40 * a + i)) K (S 58))) ∧ (∀ q, q < K → c q = true) ∧ c K = false ∧ K ≤ 40) 8 (fun i hi t ht => ?_) ⟨by omega, by show _ = (57, nI a, nI 0, wrow S 58 (S 58)); rw [wrow_id]; rfl, fun q hq => absurd hq (by omega)⟩ 300 (by omega)) fun r hr => ?_)
  · obtain ⟨r0, rfl, r3⟩ := ht
    unfold i_X12_load_L20
    dsimp only
    unfold f_X12_load_L20
    have w65 : wrow S 58 (ldR (fun i => S 66 (40 * a + i)) i (S 58)) 65 = S 65 := wrow_n _ (by decide)
    have w66 : wrow S 58 (ldR (fun i => S 66 (40 * a + i)) i (S 58)) 66 = S 66 := wrow_n _ (by decide)
    have w58 : wrow S 58 (ldR (fun i => S 66 (40 * a + i)) i (S 58)) 58 0 = nI n := by rw [wrow_s]; exact (WF_ld hw i r0).2.1
    rw [if_pos tg57, if_pos (iab65 ha4), w65, ix_nI (show a < 2 ^ 31 by omega), h6]
    by_cases hiz : i < z
    · rw [if_neg (nI_ge hiz (by omega)), m_isFire w58 hn, bnd2_s, b1_if, isM_nI (by omega)]
      by_cases hin : i < n
      · have hi8 : i < 8 := by omega
        rw [if_pos (dec_t hin), pl66, if_pos (iab66 (by omega)), w66, ix_nI (by omega), m_isIn (l := 0) (u := 999) (by decide) (by decide), bnd2_s, b1_if]
        by_cases hg : isM 0 999 (S 66 (40 * a + i)) = true
        · rw [if_pos hg, m_at, bnd2_s, if_pos (s_3 hi8).2, (s_3 hi8).1, w66, nI_1]
          refine okI (Or.inl ⟨_, rfl, by omega, by omega, ?_, fun q hq => ?_⟩)
          · rw [wr_row, wrow_s, wrow_w]; rfl
          · by_cases e : q = i
            · rw [e, hck, dec_t hiz, dec_t hin, hg]; rfl
            · exact r3 q (by omega)
        · rw [if_neg hg]
          refine okI (Or.inr ⟨_, rfl, i, rfl, r3, ?_, by omega⟩)
          rw [hck, Bool.eq_false_iff.mpr hg, Bool.and_false]
      · rw [if_neg (by rw [dec_f hin]; decide)]
        refine okI (Or.inr ⟨_, rfl, i, rfl, r3, ?_, by omega⟩)
        rw [hck, dec_f hin, Bool.and_false, Bool.false_and]
    · rw [if_pos (nI_le (by omega) (by omega))]
      refine okI (Or.inr ⟨_, rfl, i, rfl, r3, ?_, by omega⟩)
      rw [hck, dec_f hiz, Bool.false_and, Bool.false_and]
  · obtain ⟨K, rfl, r3, r4, r5⟩ := hr
    rw [runN_40 r3 r4 r5]
    exact OKM.hi (hi_row (hi_mp S) _ _) (fun q hq => wrow_n _ (by omega))
def jdQ (A : Mem) (z s i : Nat) : Bool := decide (i < z) && decide (i < 25) && decide (A 66 (40 * s + i) = A 58 (5 + i))
noncomputable def sp_judge (s : Int32) (A : Mem) : Int32 × Mem := wantS s A ((if A 65 (ix s) ≤ nI (runN (jdQ A (ix (A 65 (ix s))) (ix s)) 40) then 0 else 1 + nI (runN (jdQ A (ix (A 65 (ix s))) (ix s)) 40)), A)
theorem c_judge {S A : Mem} {H : Nat} {s : Int32} (hI : INV S A H) : okk (f_X11_judge 0 s S) (OKC S H (sp_judge s A)) := by
  unfold f_X11_judge sp_judge wantS
  rw [c_out (hi := 3) (by decide), bnd2_s, b1n_if, if_pos tg0, if_pos tg0]
  by_cases h1 : isM 0 3 s = true
  · obtain ⟨a, ha, rfl⟩ := isM_t (hi := 3) h1
    have ha4 : a < 4 := by omega
    obtain ⟨b, z, hb, hz, h3, h4, h5, h6, h7⟩ := hI.2.2.2.2.2 a ha4
    obtain ⟨k1, k2, k3⟩ := SH.mis hb h3 h4
    rw [if_pos h1, if_pos h1, if_pos (rabS a ha4), eadS ha4, if_pos (tgS a ha4).1, c_isMissing (tgS a ha4).1, bnd2_s, b1_if, ix_nI (show a < 2 ^ 31 by omega)]
    by_cases hm : A 64 a < 0
    · rw [if_pos (dec_t (k1.mpr hm)), if_pos hm]
      exact c_fin hI (by decide) rfl
    · rw [if_neg (by rw [dec_f (fun z => hm (k1.mp z))]; decide), if_neg hm]
      obtain ⟨n, hw, hsp, ⟨h, hh, e1⟩, hR⟩ := hI.1
      rw [h6, ix_nI (show z < 2 ^ 31 by omega)]
      generalize hc : jdQ A z a = c
      have hck : ∀ i, c i = (decide (i < z) && decide (i < 25) && decide (A 66 (40 * a + i) = A 58 (5 + i))) := fun i => by rw [← hc]; rfl
      refine okB (okk_mono (itr_ex (f := i_X11_judge_L34) (fun i t => i ≤ 25 ∧ t = (0, nI a, nI i, S) ∧ ∀ q, q < i → c q = true) (fun r => ∃ K, ((r = .inr S ∧ z ≤ K) ∨ (r = .inl (1 + nI K, S) ∧ K < z)) ∧ (∀ q, q < K → c q = true) ∧ c K = false ∧ K ≤ 40) 25 (fun i hi t ht => ?_) ⟨by omega, rfl, fun q hq => absurd hq (by omega)⟩ 300 (by omega)) fun r hr => ?_)
      · obtain ⟨r0, rfl, r3⟩ := ht
        unfold i_X11_judge_L34
        dsimp only
        unfold f_X11_judge_L34
        rw [if_pos tg0, if_pos (rabS a ha4), eadS ha4, if_pos (tgS a ha4).1, h5]
        by_cases hiz : i < z
        · rw [if_neg (nI_ge hiz (by omega))]
          by_cases hi25 : i < 25
          · have hv : S (48 + 2 * a + 1) i = A 66 (40 * a + i) := by
              rw [show 48 + 2 * a + 1 = 49 + 2 * a by omega]
              exact h7 i (by omega)
            have hg : S 10 i = A 58 (5 + i) := hR.2.2.2.2.2.1 i hi25
            rw [if_neg (show ¬ (24 : Int32) < nI i from nI_nlt (a := 24) (by omega) (by decide)), if_pos (iabN ha4 (by omega)), if_pos (iabW t9 hi25 : iab 10 (nI i) = true), ix_nI (show i < 2 ^ 31 by omega), hv, hg]
            by_cases hq : A 66 (40 * a + i) = A 58 (5 + i)
            · rw [if_pos hq, nI_1]
              refine okI (Or.inl ⟨_, rfl, by omega, by omega, rfl, fun q hq2 => ?_⟩)
              by_cases e : q = i
              · rw [e, hck, dec_t hiz, dec_t hi25, dec_t hq]; rfl
              · exact r3 q (by omega)
            · rw [if_neg hq]
              refine okI (Or.inr ⟨_, rfl, i, Or.inr ⟨rfl, hiz⟩, r3, ?_, by omega⟩)
              rw [hck, dec_f hq, Bool.and_false]
          · have : i = 25 := by omega
            subst this
            rw [if_pos (by decide)]
            refine okI (Or.inr ⟨_, rfl, 25, Or.inr ⟨rfl, hiz⟩, r3, ?_, by omega⟩)
            rw [hck, dec_f hi25, Bool.and_false, Bool.false_and]
        · rw [if_pos (nI_le (by omega) (by omega))]
          refine okI (Or.inr ⟨_, rfl, i, Or.inl ⟨rfl, by omega⟩, r3, ?_, by omega⟩)
          rw [hck, dec_f hiz, Bool.false_and, Bool.false_and]
      · obtain ⟨K, hr, r3, r4, r5⟩ := hr
        rw [runN_40 r3 r4 r5]
        rcases hr with ⟨rfl, hK⟩ | ⟨rfl, hK⟩
        · rw [if_pos (nI_le hK (by omega))]
          exact OKC.id hI
        · rw [if_neg (nI_ge hK (by omega))]
          exact OKC.id hI
  · rw [if_neg h1, if_neg h1]
    exact c_fin0 hI
theorem m_judge {S T : Mem} {s : Int32} (hS : SH T S) : okk (f_X12_judge 57 s S) (OKM S (sp_judge s (mp S))) := by
  unfold f_X12_judge sp_judge
  rw [if_pos tg57]
  refine m_wantsF fun h1 hm => ?_
  obtain ⟨a, ha, rfl⟩ := isM_t (hi := 3) h1
  have ha4 : a < 4 := by omega
  obtain ⟨b, z, hb, hz, h3, h4, h5, h6, h7⟩ := hS a ha4
  rw [ix_nI (show a < 2 ^ 31 by omega), show mp S 65 a = S 65 a from rfl, h6, ix_nI (show z < 2 ^ 31 by omega)]
  generalize hc : jdQ (mp S) z a = c
  have hck : ∀ i, c i = (decide (i < z) && decide (i < 25) && decide (S 66 (40 * a + i) = S 58 (5 + i))) := fun i => by rw [← hc]; rfl
  refine okB (okk_mono (itr_ex (f := i_X12_judge_L20) (fun i t => i ≤ 25 ∧ t = (57, nI a, nI i, S) ∧ ∀ q, q < i → c q = true) (fun r => ∃ K, r = (57, nI a, nI K, S) ∧ (∀ q, q < K → c q = true) ∧ c K = false ∧ K ≤ 40) 25 (fun i hi t ht => ?_) ⟨by omega, rfl, fun q hq => absurd hq (by omega)⟩ 300 (by omega)) fun r hr => ?_)
  · obtain ⟨r0, rfl, r3⟩ := ht
    unfold i_X12_judge_L20
    dsimp only
    unfold f_X12_judge_L20
    rw [if_pos tg57, if_pos (iab65 ha4), ix_nI (show a < 2 ^ 31 by omega), h6]
    by_cases hiz : i < z
    · rw [if_neg (nI_ge hiz (by omega))]
      by_cases hi25 : i < 25
      · obtain ⟨w1, w2⟩ := wood_ok i hi25
        rw [if_neg (show ¬ (25 : Int32) ≤ nI i from nI_ge (b := 25) hi25 (by decide)), pl66, if_pos (iab66 (by omega)), if_pos w2, w1, ix_nI (by omega)]
        by_cases hq : S 66 (40 * a + i) = S 58 (5 + i)
        · rw [if_pos hq, nI_1]
          refine okI (Or.inl ⟨_, rfl, by omega, by omega, rfl, fun q hq2 => ?_⟩)
          by_cases e : q = i
          · rw [e, hck, dec_t hiz, dec_t hi25, dec_t hq]; rfl
          · exact r3 q (by omega)
        · rw [if_neg hq]
          refine okI (Or.inr ⟨_, rfl, i, rfl, r3, ?_, by omega⟩)
          rw [hck, dec_f hq, Bool.and_false]
      · have : i = 25 := by omega
        subst this
        rw [if_pos (by decide)]
        refine okI (Or.inr ⟨_, rfl, 25, rfl, r3, ?_, by omega⟩)
        rw [hck, dec_f hi25, Bool.and_false, Bool.false_and]
    · rw [if_pos (nI_le (by omega) (by omega))]
      refine okI (Or.inr ⟨_, rfl, i, rfl, r3, ?_, by omega⟩)
      rw [hck, dec_f hiz, Bool.false_and, Bool.false_and]
  · obtain ⟨K, rfl, r3, r4, r5⟩ := hr
    rw [runN_40 r3 r4 r5]
    dsimp only
    unfold f_X12_judge_j64
    rw [if_pos tg57, if_pos (iab65 ha4), ix_nI (show a < 2 ^ 31 by omega), h6]
    by_cases hK : z ≤ K
    · rw [if_pos (nI_le hK (by omega)), if_pos (nI_le hK (by omega))]
      exact OKM.id
    · rw [if_neg (nI_ge (by omega) (by omega)), if_neg (nI_ge (by omega) (by omega))]
      exact OKM.id
