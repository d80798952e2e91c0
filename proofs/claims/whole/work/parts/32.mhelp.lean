/-! the reference's helpers -/
theorem wood_ix : ∀ c, c < 25 → ix (5 + nI c) = 5 + c ∧ iab 58 (5 + nI c) = true := wood_ok
theorem m_woodAll (S : Mem) : f_X12_woodAll 57 S = some (woodS (S 58), S) := by
  have h := itr_run (f := i_X12_woodAll_L4) (fun k => (57, sumF (fun c => S 58 (5 + c)) k, nI k, S)) 25 (r := (woodS (S 58), S)) (fun k hk => ?_) ?_ 300 (by decide)
  · unfold f_X12_woodAll
    show bnd (itr 300 i_X12_woodAll_L4 (57, sumF (fun c => S 58 (5 + c)) 0, nI 0, S)) _ = _
    rw [h, bnd_s]
  · show f_X12_woodAll_L4 57 _ (nI k) S = _
    unfold f_X12_woodAll_L4
    obtain ⟨e1, e2⟩ := wood_ok k hk
    rw [if_neg (show ¬ (25 : Int32) ≤ nI k from nI_ge (b := 25) hk (by decide)), if_pos tg57, if_pos e2, e1, nI_1]
    rfl
  · show f_X12_woodAll_L4 57 _ (nI 25) S = _
    unfold f_X12_woodAll_L4
    rw [if_pos (show (25 : Int32) ≤ nI 25 by decide)]
    rfl
theorem m_wooded (S : Mem) : f_X12_wooded 57 S = some (woodQ (S 58), S) := by
  have h := itr_run (f := i_X12_wooded_L4) (fun k => (57, orF (fun c => if S 58 (5 + c) ≤ 0 then 0 else shI 1 (nI c)) k, nI k, S)) 25 (r := (woodQ (S 58), S)) (fun k hk => ?_) ?_ 300 (by decide)
  · unfold f_X12_wooded
    show bnd (itr 300 i_X12_wooded_L4 (57, orF (fun c => if S 58 (5 + c) ≤ 0 then 0 else shI 1 (nI c)) 0, nI 0, S)) _ = _
    rw [h, bnd_s]
  · show f_X12_wooded_L4 57 _ (nI k) S = _
    unfold f_X12_wooded_L4 f_X12_wooded_j29
    obtain ⟨e1, e2⟩ := wood_ok k hk
    rw [if_neg (show ¬ (25 : Int32) ≤ nI k from nI_ge (b := 25) hk (by decide)), if_pos tg57, if_pos e2, e1, nI_1]
    show _ = some (Sum.inl (57, orF (fun c => if S 58 (5 + c) ≤ 0 then 0 else shI 1 (nI c)) k ||| (if S 58 (5 + k) ≤ 0 then 0 else shI 1 (nI k)), nI (k + 1), S))
    split <;> rfl
  · show f_X12_wooded_L4 57 _ (nI 25) S = _
    unfold f_X12_wooded_L4
    rw [if_pos (show (25 : Int32) ≤ nI 25 by decide)]
    rfl
theorem m_sumOf {S : Mem} {n w : Nat} (h0 : S 58 0 = nI n) (hn : n ≤ 8) (hw : w < 7) : f_X12_sumOf 57 (nI w) S = some (fireS (S 58) n w, S) := by
  have h := itr_run (f := i_X12_sumOf_L4) (fun k => (57, nI w, sumF (fun f => S 58 (fi f w)) k, nI k, S)) n (r := (fireS (S 58) n w, S)) (fun k hk => ?_) ?_ 300 (by omega)
  · unfold f_X12_sumOf
    show bnd (itr 300 i_X12_sumOf_L4 (57, nI w, sumF (fun f => S 58 (fi f w)) 0, nI 0, S)) _ = _
    rw [h, bnd_s]
  · show f_X12_sumOf_L4 57 (nI w) _ (nI k) S = _
    unfold f_X12_sumOf_L4
    rw [if_pos tg57, if_pos i58_0, ix_0, h0, if_neg (nI_ge hk (by omega)), m_its (by omega) hw, bnd2_s, nI_1]
    rfl
  · show f_X12_sumOf_L4 57 (nI w) _ (nI n) S = _
    unfold f_X12_sumOf_L4
    rw [if_pos tg57, if_pos i58_0, ix_0, h0, if_pos (nI_le (Nat.le_refl _) (by omega))]
    rfl
theorem m_sum5 {S : Mem} {n : Nat} (h0 : S 58 0 = nI n) (hn : n ≤ 8) : f_X12_sumOf 57 5 S = some (fireS (S 58) n 5, S) := m_sumOf (w := 5) h0 hn (by decide)
theorem m_sum3 {S : Mem} {n : Nat} (h0 : S 58 0 = nI n) (hn : n ≤ 8) : f_X12_sumOf 57 3 S = some (fireS (S 58) n 3, S) := m_sumOf (w := 3) h0 hn (by decide)
theorem m_smoking {S : Mem} {n : Nat} (h0 : S 58 0 = nI n) (hn : n ≤ 8) : f_X12_smoking 57 S = some (smokeQ (S 58) n, S) := by
  have h := itr_run (f := i_X12_smoking_L4) (fun k => (57, orF (fun f => if S 58 (fi f 5) ≤ 0 then 0 else shI 1 (nI f)) k, nI k, S)) n (r := (smokeQ (S 58) n, S)) (fun k hk => ?_) ?_ 300 (by omega)
  · unfold f_X12_smoking
    show bnd (itr 300 i_X12_smoking_L4 (57, orF (fun f => if S 58 (fi f 5) ≤ 0 then 0 else shI 1 (nI f)) 0, nI 0, S)) _ = _
    rw [h, bnd_s]
  · show f_X12_smoking_L4 57 _ (nI k) S = _
    unfold f_X12_smoking_L4 f_X12_smoking_j31
    rw [if_pos tg57, if_pos i58_0, ix_0, h0, if_neg (nI_ge hk (by omega)), m_its5 (by omega), bnd2_s, nI_1]
    show _ = some (Sum.inl (57, orF (fun f => if S 58 (fi f 5) ≤ 0 then 0 else shI 1 (nI f)) k ||| (if S 58 (fi k 5) ≤ 0 then 0 else shI 1 (nI k)), nI (k + 1), S))
    split <;> rfl
  · show f_X12_smoking_L4 57 _ (nI n) S = _
    unfold f_X12_smoking_L4
    rw [if_pos tg57, if_pos i58_0, ix_0, h0, if_pos (nI_le (Nat.le_refl _) (by omega))]
    rfl
/-- what lies behind place 95 stays -/
theorem hourR_hi {n p : Nat} {g : Row} (h : WF n g) (hp : 86 ≤ p) : hourR n g p = g p := by
  have hn := h.1
  have b : ∀ g f, f < n → burn1 g f p = g p := fun g f hf => by
    unfold burn1
    split
    · rw [upd_n (by unfold fi; omega), upd_n (by unfold fi; omega)]
    · rfl
  have c : ∀ bg g a b, a < n → b < n → cross1 bg g a b p = g p := fun bg g a b ha hb => by
    unfold cross1
    split
    · rw [upd_n (by omega), upd_n (by unfold fi; omega), upd_n (by unfold fi; omega)]
    · rfl
  have k1 : ∀ k, k ≤ n → fol burn1 k g p = g p := fun k hk => fol_ind (I := fun r => r p = g p) (n := n) (fun f hf r hr => (b r f hf).trans hr) k hk g rfl
  have k2 : ∀ k, k ≤ n → ∀ r, fol move1 k r p = r p := fun k hk r => fol_ind (I := fun q => q p = r p) (n := n) (fun f hf q hq => (move1_o (by unfold fi; omega) (by unfold fi; omega)).trans hq) k hk r rfl
  have k3 : ∀ bg r, crossA bg n r p = r p := fun bg r => fol_ind (I := fun q => q p = r p) (n := n) (fun a ha q hq => (fol_ind (I := fun z => z p = q p) (n := n - (a + 1)) (fun j hj z hz => (c bg z a (a + 1 + j) ha (by omega)).trans hz) (n - (a + 1)) (Nat.le_refl _) q rfl).trans hq) n (Nat.le_refl _) r rfl
  have k4 : ∀ k, k ≤ n → ∀ r, WF n r → fol settle1 k r p = r p ∧ WF n (fol settle1 k r) := fun k hk r hr => fol_ind (I := fun q => q p = r p ∧ WF n q) (n := n) (fun f hf q hq => by
    refine ⟨?_, WF_settle1 hq.2 hf⟩
    rw [← hq.1]
    unfold settle1
    split
    · obtain ⟨-, -, ⟨c2, hc2, e2⟩, -⟩ := hq.2.2.2 f hf
      rw [e2, ix_nI (by omega), upd_n (by unfold fi; omega), upd_n (by unfold fi; omega), upd_n (by omega)]
    · rfl) k hk r ⟨rfl, hr⟩
  have w2 := WF_moveA (WF_burnA h (Nat.le_refl n)) (Nat.le_refl n)
  have w3 : WF n (crossA (fun f => g (fi f 4)) n (fol move1 n (fol burn1 n g))) := WF_crossA w2 (Nat.le_refl n)
  unfold hourR
  rw [upd_n (by omega), (k4 n (Nat.le_refl _) _ w3).1, k3, k2 n (Nat.le_refl _), k1 n (Nat.le_refl _)]
theorem hoursR_hi {n p : Nat} {g : Row} (h : WF n g) (hp : 86 ≤ p) : ∀ k, hoursR n k g p = g p
  | 0 => rfl
  | k + 1 => (hourR_hi (WF_hoursR h k) hp).trans (hoursR_hi h hp k)
def cpR (f g : Row) : Row := fun k => if k < 96 then f k else g k
theorem m_copyRow {S : Mem} {a b : Nat} (ha : tg a = 1096) (hb : tg b = 1096) (hab : a ≠ b) : f_X12_copyRow a b S = some ((), wrow S b (cpR (S a) (S b))) := by
  have h := itr_run (f := i_X12_copyRow_L2) (fun k => (a, b, nI k, wrow S b (fun j => if j < k then S a j else S b j))) 96 (r := wrow S b (cpR (S a) (S b))) (fun k hk => ?_) ?_ 300 (by decide)
  · have e0 : wrow S b (fun j => if j < 0 then S a j else S b j) = S := by
      have : (fun j => if j < 0 then S a j else S b j) = S b := by
        funext j
        rw [if_neg (by omega)]
      rw [this, wrow_id]
    rw [e0] at h
    unfold f_X12_copyRow
    show bnd (itr 300 i_X12_copyRow_L2 (a, b, nI 0, S)) _ = _
    rw [h, bnd_s]
  · show f_X12_copyRow_L2 a b (nI k) (wrow S b (fun j => if j < k then S a j else S b j)) = _
    unfold f_X12_copyRow_L2
    rw [if_neg (show ¬ (96 : Int32) ≤ nI k from nI_ge (b := 96) hk (by decide)), if_pos (iab_row (k := 96) ha (by omega) hk), if_pos (iab_row (k := 96) hb (by omega) hk), ix_nI (by omega), wr_row, wrow_s, wrow_w, wrow_n _ hab, nI_1]
    have e1 : upd (fun j => if j < k then S a j else S b j) k (S a k) = fun j => if j < k + 1 then S a j else S b j := by
      funext j
      by_cases h1 : j = k
      · subst h1
        rw [upd_s, if_pos (by omega)]
      · rw [upd_n h1]
        by_cases h2 : j < k
        · rw [if_pos h2, if_pos (by omega)]
        · rw [if_neg h2, if_neg (by omega)]
    simp only [e1]
  · show f_X12_copyRow_L2 a b (nI 96) _ = _
    unfold f_X12_copyRow_L2
    rw [if_pos (show (96 : Int32) ≤ nI 96 by decide)]
    rfl
/-- only the reference's own marks have changed -/
def SC (S S2 : Mem) : Prop := ∀ a, a ≠ 60 → a ≠ 61 → a ≠ 67 → S2 a = S a
theorem SC.rf {S : Mem} : SC S S := fun _ _ _ _ => rfl
theorem SC.tr {S S2 S3 : Mem} (h : SC S S2) (h2 : SC S2 S3) : SC S S3 := fun a x y z => (h2 a x y z).trans (h a x y z)
theorem OKM.sc {S S2 : Mem} {v : Int32} (h : SC S S2) : okk (some (v, S2)) (OKM S (v, mp S)) := by
  refine okI ⟨rfl, ?_, fun a ha => h a (by omega) (by omega) (by omega)⟩
  obtain ⟨p1, p2, p3, p4, p5, p6, p7, p8, p9⟩ := PE.of (S := S)
  have e : ∀ b, b ≠ 60 → b ≠ 61 → b ≠ 67 → S2 b = S b := h
  exact ⟨(congrFun (e 57 (by decide) (by decide) (by decide)) 4).trans p1, (congrFun (e 57 (by decide) (by decide) (by decide)) 7).trans p2, (e 58 (by decide) (by decide) (by decide)).trans p3, (e 59 (by decide) (by decide) (by decide)).trans p4, (e 62 (by decide) (by decide) (by decide)).trans p5, (e 63 (by decide) (by decide) (by decide)).trans p6, (e 64 (by decide) (by decide) (by decide)).trans p7, (e 65 (by decide) (by decide) (by decide)).trans p8, (e 66 (by decide) (by decide) (by decide)).trans p9⟩
theorem cpR_back {g g2 : Row} (h : ∀ p, 96 ≤ p → g2 p = g p) (x : Row) : cpR (cpR g x) g2 = g := by
  funext k
  unfold cpR
  by_cases hk : k < 96
  · rw [if_pos hk, if_pos hk]
  · rw [if_neg hk, h k (by omega)]
/-- hours tried and laid back: what is told of the row then -/
theorem m_tryA {n : Nat} {S : Mem} (h : WF n (S 58)) (k : Nat) (hk : k ≤ 250) : ∃ S3 S5, f_X12_copyRow 58 61 S = some ((), S3) ∧ f_X12_goes 57 (nI k) S3 = some ((), S5) ∧ S5 58 = hoursR n k (S 58) ∧ ∃ S7, f_X12_copyRow 61 58 S5 = some ((), S7) ∧ SC S S7 := by
  have e58 : wrow S 61 (cpR (S 58) (S 61)) 58 = S 58 := wrow_n _ (by decide)
  obtain ⟨b, hb⟩ := m_goesA (S := wrow S 61 (cpR (S 58) (S 61))) (n := n) (by rw [e58]; exact h) k hk
  rw [e58] at hb
  refine ⟨_, _, m_copyRow rfl rfl (by decide), hb, st_58 _ _ _, _, m_copyRow rfl rfl (by decide), ?_⟩
  rw [st_58, st_n (by decide) (by decide), wrow_s, cpR_back (fun p hp => hoursR_hi h (by omega) k), st_w58]
  intro a h60 h61 h67
  by_cases h58 : a = 58
  · subst h58
    exact st_58 _ _ _
  · rw [st_n h58 h67, wrow_n _ h61]
theorem m_thenAt {n : Nat} {S : Mem} (h : WF n (S 58)) {p k : Nat} (hp : p < 96) (hk : k ≤ 250) : ∃ S2, f_X12_thenAt 57 (nI p) (nI k) S = some (hoursR n k (S 58) p, S2) ∧ SC S S2 := by
  obtain ⟨S3, S5, a1, a2, a3, S7, a4, a5⟩ := m_tryA h k hk
  refine ⟨S7, ?_, a5⟩
  unfold f_X12_thenAt
  rw [if_pos tg57, a1, bnd2_s, a2, bnd2_s, if_pos (iab_row (k := 96) rfl (by omega) hp), a4, bnd2_s, ix_nI (by omega), a3]
theorem m_woodThen {n : Nat} {S : Mem} (h : WF n (S 58)) {k : Nat} (hk : k ≤ 250) : ∃ S2, f_X12_woodThen 57 (nI k) S = some (woodS (hoursR n k (S 58)), S2) ∧ SC S S2 := by
  obtain ⟨S3, S5, a1, a2, a3, S7, a4, a5⟩ := m_tryA h k hk
  refine ⟨S7, ?_, a5⟩
  unfold f_X12_woodThen
  rw [if_pos tg57, a1, bnd2_s, a2, bnd2_s, m_woodAll, bnd2_s, a4, bnd2_s, a3]
