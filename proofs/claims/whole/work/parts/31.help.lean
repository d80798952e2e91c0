/-! findings, ranges, sums and sets: what both sides' helpers answer -/
theorem i_lc (a b c : Int32) : a + (b + c) = b + (a + c) := by rw [← Int32.add_assoc, Int32.add_comm a b, Int32.add_assoc]
theorem k7 {k : Nat} (h : k < 7) : k = 0 ∨ k = 1 ∨ k = 2 ∨ k = 3 ∨ k = 4 ∨ k = 5 ∨ k = 6 := by omega
theorem c_finding {S A : Mem} {H k : Nat} (hI : INV S A H) (hk : k < 7) {v : Int32} (hv : v = nI k) : okk (f_X11_finding 0 v S) (OKC S H (fin A k)) := by
  subst hv
  unfold f_X11_finding
  rw [if_pos tg0, if_pos (iab_row (k := 7) rfl (by omega) hk), ix_nI (by omega)]
  obtain ⟨h1, h2, h3, h4, h5, h6⟩ := hI
  have hl : ∀ a, a ≠ 56 → wr S 56 k (S 56 k + 1) a = S a := fun a ha => wr_n ha
  have hA : ∀ b, b ≠ 62 → wrow A 62 (fndR (A 62) k) b = A b := fun b hb => wrow_n _ hb
  refine okI ⟨rfl, ?_, fun a ha => hl a (by omega)⟩
  show INV (wr S 56 k (S 56 k + 1)) (wrow A 62 (fndR (A 62) k)) H
  unfold INV FI TP SH
  rw [hA 57 (by decide), hA 58 (by decide), hA 59 (by decide), hA 63 (by decide), hA 64 (by decide), hA 65 (by decide), hA 66 (by decide), hl 0 (by decide), hl 45 (by decide), hl 46 (by decide), wrow_s, wr_s]
  refine ⟨h1.same fun a _ _ => hl a (by omega), h2, h3.imp id fun x => ⟨x.1, x.2.same fun a _ _ => hl a (by omega)⟩, ⟨fun j hj => ?_, ?_⟩, h5, fun s hs => ?_⟩
  · unfold fndR
    by_cases e : j = k
    · subst e
      rw [upd_s, upd_s, h4.1 j hk]
    · rw [upd_n e, upd_n (by omega), upd_n (by omega)]; exact h4.1 j hj
  · have hs := h4.2
    unfold fndR
    rcases k7 hk with rfl | rfl | rfl | rfl | rfl | rfl | rfl <;> simp [upd, hs, Int32.add_assoc, Int32.add_comm, i_lc]
  · rw [hl _ (by omega), hl _ (by omega)]
    exact h6 s hs
theorem fnd_ok : ∀ k, k < 7 → ix ((-1000001 - (-1000001 - nI k)) + 1) = k + 1 ∧ iab 62 ((-1000001 - (-1000001 - nI k)) + 1) = true := by decide +kernel
theorem m_finds {k : Nat} {v : Int32} (hk : k < 7) (hv : v = -1000001 - nI k) (S : Mem) : f_X12_finds 57 v S = some (v, wrow S 62 (fndR (S 62) k)) := by
  obtain ⟨e1, e2⟩ := fnd_ok k hk
  subst hv
  unfold f_X12_finds
  rw [if_pos tg57, if_pos (show iab 62 0 = true by decide +kernel), if_pos e2, e1, ix_0, wr_row, wr_row, wrow_s, wrow_w]
  unfold fndR
  rw [upd_n (by omega)]
theorem m_f0 (S : Mem) : f_X12_finds 57 (-1000001) S = some (-1000001, wrow S 62 (fndR (S 62) 0)) := m_finds (k := 0) (by decide) (by decide) S
theorem m_f1 (S : Mem) : f_X12_finds 57 (-1000002) S = some (-1000002, wrow S 62 (fndR (S 62) 1)) := m_finds (k := 1) (by decide) (by decide) S
theorem m_f2 (S : Mem) : f_X12_finds 57 (-1000003) S = some (-1000003, wrow S 62 (fndR (S 62) 2)) := m_finds (k := 2) (by decide) (by decide) S
theorem m_f3 (S : Mem) : f_X12_finds 57 (-1000004) S = some (-1000004, wrow S 62 (fndR (S 62) 3)) := m_finds (k := 3) (by decide) (by decide) S
theorem m_f4 (S : Mem) : f_X12_finds 57 (-1000005) S = some (-1000005, wrow S 62 (fndR (S 62) 4)) := m_finds (k := 4) (by decide) (by decide) S
theorem m_f5 (S : Mem) : f_X12_finds 57 (-1000006) S = some (-1000006, wrow S 62 (fndR (S 62) 5)) := m_finds (k := 5) (by decide) (by decide) S
theorem m_f6 (S : Mem) : f_X12_finds 57 (-1000007) S = some (-1000007, wrow S 62 (fndR (S 62) 6)) := m_finds (k := 6) (by decide) (by decide) S
/-- rows of the reference but 58 and on, changed in one row -/
theorem PE.row {S : Mem} {a : Nat} {g : Row} (ha : 57 < a) : PE (wrow S a g) (wrow (mp S) a g) := by
  have e : ∀ b, 57 ≤ b → wrow S a g b = wrow (mp S) a g b := fun b hb => by
    unfold wrow
    by_cases h : b = a
    · rw [if_pos h, if_pos h]
    · rw [if_neg h, if_neg h]
      unfold mp
      rw [if_neg (by omega)]
  refine ⟨by rw [e 57 (by decide)], by rw [e 57 (by decide)], e _ (by decide), e _ (by decide), e _ (by decide), e _ (by decide), e _ (by decide), e _ (by decide), e _ (by decide)⟩
theorem low_row {S : Mem} {a : Nat} {g : Row} (ha : 57 ≤ a) : ∀ b, b < 57 → wrow S a g b = S b := fun b hb => wrow_n _ (by omega)
theorem PE.of {S : Mem} : PE S (mp S) := by
  have e : ∀ b, 57 ≤ b → S b = mp S b := fun b hb => by
    unfold mp
    rw [if_neg (by omega)]
  refine ⟨by rw [← e 57 (by decide)], by rw [← e 57 (by decide)], e _ (by decide), e _ (by decide), e _ (by decide), e _ (by decide), e _ (by decide), e _ (by decide), e _ (by decide)⟩
theorem OKM.fin {S : Mem} {k : Nat} {v : Int32} (hv : v = -1000001 - nI k) : okk (some (v, wrow S 62 (fndR (S 62) k))) (OKM S (fin (mp S) k)) := okI ⟨hv, PE.row (by decide), low_row (by decide)⟩
theorem OKM.id {S : Mem} {v : Int32} : okk (some (v, S)) (OKM S (v, mp S)) := okI ⟨rfl, PE.of, fun _ _ => rfl⟩
theorem OKM.put {S : Mem} {v : Int32} {g : Row} : okk (some (v, wrow S 58 g)) (OKM S (v, wrow (mp S) 58 g)) := okI ⟨rfl, PE.row (by decide), low_row (by decide)⟩
theorem OKC.id {S A : Mem} {H : Nat} {v : Int32} (h : INV S A H) : okk (some (v, S)) (OKC S H (v, A)) := okI ⟨rfl, h, fun _ _ => rfl⟩
theorem m_isFire {S : Mem} {n : Nat} {v : Int32} (h : S 58 0 = nI n) (hn : n ≤ 8) : f_X12_isFire 57 v S = some (b1 (isM 0 ((n : Int) - 1) v), S) := by
  unfold f_X12_isFire b1 isM
  rw [if_pos tg57, if_pos i58_0, ix_0, h]
  have e := nI_toInt (show n < 2 ^ 31 by omega)
  by_cases h0 : v < 0
  · have h1 := Int32.lt_iff_toInt_lt.mp h0
    have z0 : (0 : Int32).toInt = 0 := by decide
    rw [if_pos h0, decide_eq_false (p := (0 : Int) ≤ v.toInt) (by omega)]
    rfl
  · have h1 := Int32.le_iff_toInt_le.mp (Int32.not_lt.mp h0)
    have z0 : (0 : Int32).toInt = 0 := by decide
    rw [if_neg h0, decide_eq_true (p := (0 : Int) ≤ v.toInt) (by omega)]
    by_cases h2 : nI n ≤ v
    · have h3 := Int32.le_iff_toInt_le.mp h2
      rw [if_pos h2, decide_eq_false (by omega)]
      rfl
    · have h3 := Int32.lt_iff_toInt_lt.mp (Int32.not_le.mp h2)
      rw [if_neg h2, decide_eq_true (by omega)]
      rfl
theorem c_noFire {S : Mem} {n : Nat} {v : Int32} (h : S 9 4 = nI n) (hn : n ≤ 8) : f_X11_noFire 0 v S = some (b1 (!isM 0 ((n : Int) - 1) v), S) := by
  have e : ∀ n, n ≤ 8 → (nI n - 1).toInt = (n : Int) - 1 := by decide +kernel
  unfold f_X11_noFire
  rw [if_pos tg0, h, c_out (e n hn), bnd2_s, if_pos]
  cases isM 0 ((n : Int) - 1) v
  · exact Or.inr rfl
  · exact Or.inl rfl
theorem isM_fire {n : Nat} {v : Int32} (hn : n ≤ 8) (h : isM 0 ((n : Int) - 1) v = true) : ∃ f, f < n ∧ v = nI f := by
  unfold isM at h
  simp only [Bool.and_eq_true, decide_eq_true_eq] at h
  refine ⟨v.toInt.toNat, by omega, ?_⟩
  apply Int32.toInt_inj.mp
  rw [nI_toInt (by omega)]
  omega
theorem m_lt (v : Int32) (hi : Nat) (M : Int32) (hM : M = nI (hi + 1)) (h9 : hi < 2 ^ 30) (S : Mem) : (if v < 0 then some ((0 : Int32), S) else (if M ≤ v then some (0, S) else some (1, S))) = some (b1 (isM 0 hi v), S) := by
  subst hM
  unfold b1 isM
  have e := nI_toInt (show hi + 1 < 2 ^ 31 by omega)
  by_cases h0 : v < 0
  · have h1 := Int32.lt_iff_toInt_lt.mp h0
    have z0 : (0 : Int32).toInt = 0 := by decide
    rw [if_pos h0, decide_eq_false (p := (0 : Int) ≤ v.toInt) (by omega)]
    rfl
  · have h1 := Int32.le_iff_toInt_le.mp (Int32.not_lt.mp h0)
    have z0 : (0 : Int32).toInt = 0 := by decide
    rw [if_neg h0, decide_eq_true (p := (0 : Int) ≤ v.toInt) (by omega)]
    by_cases h2 : nI (hi + 1) ≤ v
    · have h3 := Int32.le_iff_toInt_le.mp h2
      rw [if_pos h2, decide_eq_false (by omega)]
      rfl
    · have h3 := Int32.lt_iff_toInt_lt.mp (Int32.not_le.mp h2)
      rw [if_neg h2, decide_eq_true (by omega)]
      rfl
theorem m_isCell (v : Int32) (S : Mem) : f_X12_isCell v S = some (b1 (isM 0 24 v), S) := m_lt v 24 25 (by decide) (by omega) S
theorem m_isSheet (v : Int32) (S : Mem) : f_X12_isSheet v S = some (b1 (isM 0 3 v), S) := m_lt v 3 4 (by decide) (by omega) S
def sumF (F : Nat → Int32) : Nat → Int32
  | 0 => 0
  | k + 1 => sumF F k + F k
def orF (F : Nat → Int32) : Nat → Int32
  | 0 => 0
  | k + 1 => orF F k ||| F k
theorem sumF_congr {F G : Nat → Int32} : ∀ {n : Nat}, (∀ k, k < n → F k = G k) → sumF F n = sumF G n
  | 0, _ => rfl
  | n + 1, h => by
    show sumF F n + F n = sumF G n + G n
    rw [sumF_congr (fun k hk => h k (by omega)), h n (by omega)]
theorem orF_congr {F G : Nat → Int32} : ∀ {n : Nat}, (∀ k, k < n → F k = G k) → orF F n = orF G n
  | 0, _ => rfl
  | n + 1, h => by
    show orF F n ||| F n = orF G n ||| G n
    rw [orF_congr (fun k hk => h k (by omega)), h n (by omega)]
def woodS (g : Row) : Int32 := sumF (fun c => g (5 + c)) 25
def fireS (g : Row) (n w : Nat) : Int32 := sumF (fun f => g (fi f w)) n
def woodQ (g : Row) : Int32 := orF (fun c => if g (5 + c) ≤ 0 then 0 else shI 1 (nI c)) 25
def smokeQ (g : Row) (n : Nat) : Int32 := orF (fun f => if g (fi f 5) ≤ 0 then 0 else shI 1 (nI f)) n
def atQ (g : Row) (n : Nat) (c : Int32) : Int32 := orF (fun f => if g (fi f 5) ≤ 0 then 0 else if g (fi f 4) = c then shI 1 (nI f) else 0) n
def isQ (g : Row) (n w : Nat) (c : Int32) : Int32 := orF (fun f => if g (fi f w) = c then shI 1 (nI f) else 0) n
def spotS (g : Row) : Int32 := sumF (fun k => if g (86 + k) = -1 then 0 else 1) 10
theorem c_allWood {S : Mem} {t n : Nat} {g : Row} (ht : TT t) (hR : Rl S t n g) : f_X10_allWood t S = some (woodS g, S) := by
  have h := itr_run (f := i_X10_allWood_L4) (fun k => (t, sumF (fun c => g (5 + c)) k, nI k, S)) 25 (r := (woodS g, S)) (fun k hk => ?_) ?_ 300 (by decide)
  · unfold f_X10_allWood
    show bnd (itr 300 i_X10_allWood_L4 (t, sumF (fun c => g (5 + c)) 0, nI 0, S)) _ = _
    rw [h, bnd_s]
  · show f_X10_allWood_L4 t _ (nI k) S = _
    unfold f_X10_allWood_L4
    rw [if_neg (show ¬ (24 : Int32) < nI k from nI_nlt (a := 24) (by omega) (by decide)), if_pos (tgT ht).1, if_pos (iabW ht hk), ix_nI (by omega), hR.2.2.2.2.2.1 k hk, nI_1]
    rfl
  · show f_X10_allWood_L4 t _ (nI 25) S = _
    unfold f_X10_allWood_L4
    rw [if_pos (show (24 : Int32) < nI 25 by decide)]
    rfl
theorem c_fires {S : Mem} {t n : Nat} {g : Row} (hR : Rl S t n g) (F : Nat → Int32) (op : Int32 → Int32 → Int32) : True := trivial
theorem c_allSmoke {S : Mem} {t n : Nat} {g : Row} (ht : TT t) (hn : n ≤ 8) (hR : Rl S t n g) : f_X10_allSmoke t S = some (fireS g n 5, S) := by
  have h := itr_run (f := i_X10_allSmoke_L4) (fun k => (t, sumF (fun f => g (fi f 5)) k, nI k, S)) n (r := (fireS g n 5, S)) (fun k hk => ?_) ?_ 300 (by omega)
  · unfold f_X10_allSmoke
    show bnd (itr 300 i_X10_allSmoke_L4 (t, sumF (fun f => g (fi f 5)) 0, nI 0, S)) _ = _
    rw [h, bnd_s]
  · show f_X10_allSmoke_L4 t _ (nI k) S = _
    unfold f_X10_allSmoke_L4
    rw [if_pos (tgT ht).1, hR.1, if_neg (nI_ge hk (by omega)), if_pos (rabT ht (by omega)), eadT (by omega), if_pos ((tgT ht).2.2.2.2 k (by omega)), hR.2.2.2.2.2.2.1 k hk 5 (by decide), nI_1]
    rfl
  · show f_X10_allSmoke_L4 t _ (nI n) S = _
    unfold f_X10_allSmoke_L4
    rw [if_pos (tgT ht).1, hR.1, if_pos (nI_le (Nat.le_refl _) (by omega))]
    rfl
theorem c_allLogs {S : Mem} {t n : Nat} {g : Row} (ht : TT t) (hn : n ≤ 8) (hR : Rl S t n g) : f_X10_allLogs t S = some (fireS g n 3, S) := by
  have h := itr_run (f := i_X10_allLogs_L4) (fun k => (t, sumF (fun f => g (fi f 3)) k, nI k, S)) n (r := (fireS g n 3, S)) (fun k hk => ?_) ?_ 300 (by omega)
  · unfold f_X10_allLogs
    show bnd (itr 300 i_X10_allLogs_L4 (t, sumF (fun f => g (fi f 3)) 0, nI 0, S)) _ = _
    rw [h, bnd_s]
  · show f_X10_allLogs_L4 t _ (nI k) S = _
    unfold f_X10_allLogs_L4
    rw [if_pos (tgT ht).1, hR.1, if_neg (nI_ge hk (by omega)), if_pos (rabT ht (by omega)), eadT (by omega), if_pos ((tgT ht).2.2.2.2 k (by omega)), hR.2.2.2.2.2.2.1 k hk 3 (by decide), nI_1]
    rfl
  · show f_X10_allLogs_L4 t _ (nI n) S = _
    unfold f_X10_allLogs_L4
    rw [if_pos (tgT ht).1, hR.1, if_pos (nI_le (Nat.le_refl _) (by omega))]
    rfl
theorem c_woodQ {S : Mem} {t n : Nat} {g : Row} (ht : TT t) (hR : Rl S t n g) : f_X10_cellsWithWood t S = some (woodQ g, S) := by
  have h := itr_run (f := i_X10_cellsWithWood_L4) (fun k => (t, orF (fun c => if g (5 + c) ≤ 0 then 0 else shI 1 (nI c)) k, nI k, S)) 25 (r := (woodQ g, S)) (fun k hk => ?_) ?_ 300 (by decide)
  · unfold f_X10_cellsWithWood
    show bnd (itr 300 i_X10_cellsWithWood_L4 (t, orF (fun c => if g (5 + c) ≤ 0 then 0 else shI 1 (nI c)) 0, nI 0, S)) _ = _
    rw [h, bnd_s]
  · show f_X10_cellsWithWood_L4 t _ (nI k) S = _
    unfold f_X10_cellsWithWood_L4 f_X10_cellsWithWood_j27
    rw [if_neg (show ¬ (24 : Int32) < nI k from nI_nlt (a := 24) (by omega) (by decide)), if_pos (tgT ht).1, if_pos (iabW ht hk), ix_nI (by omega), hR.2.2.2.2.2.1 k hk, nI_1]
    show _ = some (Sum.inl (t, orF (fun c => if g (5 + c) ≤ 0 then 0 else shI 1 (nI c)) k ||| (if g (5 + k) ≤ 0 then 0 else shI 1 (nI k)), nI (k + 1), S))
    split <;> rfl
  · show f_X10_cellsWithWood_L4 t _ (nI 25) S = _
    unfold f_X10_cellsWithWood_L4
    rw [if_pos (show (24 : Int32) < nI 25 by decide)]
    rfl
theorem c_smokeQ {S : Mem} {t n : Nat} {g : Row} (ht : TT t) (hn : n ≤ 8) (hR : Rl S t n g) : f_X10_firesSmoking t S = some (smokeQ g n, S) := by
  have h := itr_run (f := i_X10_firesSmoking_L4) (fun k => (t, orF (fun f => if g (fi f 5) ≤ 0 then 0 else shI 1 (nI f)) k, nI k, S)) n (r := (smokeQ g n, S)) (fun k hk => ?_) ?_ 300 (by omega)
  · unfold f_X10_firesSmoking
    show bnd (itr 300 i_X10_firesSmoking_L4 (t, orF (fun f => if g (fi f 5) ≤ 0 then 0 else shI 1 (nI f)) 0, nI 0, S)) _ = _
    rw [h, bnd_s]
  · show f_X10_firesSmoking_L4 t _ (nI k) S = _
    unfold f_X10_firesSmoking_L4 f_X10_firesSmoking_j32
    rw [if_pos (tgT ht).1, hR.1, if_neg (nI_ge hk (by omega)), if_pos (rabT ht (by omega)), eadT (by omega), if_pos ((tgT ht).2.2.2.2 k (by omega)), hR.2.2.2.2.2.2.1 k hk 5 (by decide), nI_1]
    show _ = some (Sum.inl (t, orF (fun f => if g (fi f 5) ≤ 0 then 0 else shI 1 (nI f)) k ||| (if g (fi k 5) ≤ 0 then 0 else shI 1 (nI k)), nI (k + 1), S))
    split <;> rfl
  · show f_X10_firesSmoking_L4 t _ (nI n) S = _
    unfold f_X10_firesSmoking_L4
    rw [if_pos (tgT ht).1, hR.1, if_pos (nI_le (Nat.le_refl _) (by omega))]
    rfl
theorem c_atQ {S : Mem} {t n : Nat} {g : Row} {c : Int32} (ht : TT t) (hn : n ≤ 8) (hR : Rl S t n g) : f_X10_firesSmokingAt t c S = some (atQ g n c, S) := by
  have h := itr_run (f := i_X10_firesSmokingAt_L4) (fun k => (t, c, orF (fun f => if g (fi f 5) ≤ 0 then 0 else if g (fi f 4) = c then shI 1 (nI f) else 0) k, nI k, S)) n (r := (atQ g n c, S)) (fun k hk => ?_) ?_ 300 (by omega)
  · unfold f_X10_firesSmokingAt
    show bnd (itr 300 i_X10_firesSmokingAt_L4 (t, c, orF (fun f => if g (fi f 5) ≤ 0 then 0 else if g (fi f 4) = c then shI 1 (nI f) else 0) 0, nI 0, S)) _ = _
    rw [h, bnd_s]
  · show f_X10_firesSmokingAt_L4 t c _ (nI k) S = _
    unfold f_X10_firesSmokingAt_L4 f_X10_firesSmokingAt_j44 f_X10_firesSmokingAt_j45
    simp only [if_pos (tgT ht).1, hR.1, if_neg (nI_ge hk (show n < 2 ^ 31 by omega)), if_pos (rabT ht (show k < 8 by omega)), eadT (show k < 8 by omega), if_pos ((tgT ht).2.2.2.2 k (by omega)), hR.2.2.2.2.2.2.1 k hk 5 (by decide), hR.2.2.2.2.2.2.1 k hk 4 (by decide), nI_1]
    show _ = some (Sum.inl (t, c, orF (fun f => if g (fi f 5) ≤ 0 then 0 else if g (fi f 4) = c then shI 1 (nI f) else 0) k ||| (if g (fi k 5) ≤ 0 then 0 else if g (fi k 4) = c then shI 1 (nI k) else 0), nI (k + 1), S))
    by_cases c1 : g (fi k 5) ≤ 0
    · rw [if_pos c1, if_pos c1]
    · rw [if_neg c1, if_neg c1]
      split <;> rfl
  · show f_X10_firesSmokingAt_L4 t c _ (nI n) S = _
    unfold f_X10_firesSmokingAt_L4
    rw [if_pos (tgT ht).1, hR.1, if_pos (nI_le (Nat.le_refl _) (by omega))]
    rfl
theorem c_builtQ {S : Mem} {t n : Nat} {g : Row} {c : Int32} (ht : TT t) (hn : n ≤ 8) (hR : Rl S t n g) : f_X10_firesBuiltAt t c S = some (isQ g n 1 c, S) := by
  have h := itr_run (f := i_X10_firesBuiltAt_L4) (fun k => (t, c, orF (fun f => if g (fi f 1) = c then shI 1 (nI f) else 0) k, nI k, S)) n (r := (isQ g n 1 c, S)) (fun k hk => ?_) ?_ 300 (by omega)
  · unfold f_X10_firesBuiltAt
    show bnd (itr 300 i_X10_firesBuiltAt_L4 (t, c, orF (fun f => if g (fi f 1) = c then shI 1 (nI f) else 0) 0, nI 0, S)) _ = _
    rw [h, bnd_s]
  · show f_X10_firesBuiltAt_L4 t c _ (nI k) S = _
    unfold f_X10_firesBuiltAt_L4 f_X10_firesBuiltAt_j33
    rw [if_pos (tgT ht).1, hR.1, if_neg (nI_ge hk (by omega)), if_pos (rabT ht (by omega)), eadT (by omega), if_pos ((tgT ht).2.2.2.2 k (by omega)), hR.2.2.2.2.2.2.1 k hk 1 (by decide), nI_1]
    show _ = some (Sum.inl (t, c, orF (fun f => if g (fi f 1) = c then shI 1 (nI f) else 0) k ||| (if g (fi k 1) = c then shI 1 (nI k) else 0), nI (k + 1), S))
    split <;> rfl
  · show f_X10_firesBuiltAt_L4 t c _ (nI n) S = _
    unfold f_X10_firesBuiltAt_L4
    rw [if_pos (tgT ht).1, hR.1, if_pos (nI_le (Nat.le_refl _) (by omega))]
    rfl
theorem c_homeQ {S : Mem} {t n : Nat} {g : Row} {c : Int32} (ht : TT t) (hn : n ≤ 8) (hR : Rl S t n g) : f_X10_firesAtHomeIn t c S = some (isQ g n 2 c, S) := by
  have h := itr_run (f := i_X10_firesAtHomeIn_L4) (fun k => (t, c, orF (fun f => if g (fi f 2) = c then shI 1 (nI f) else 0) k, nI k, S)) n (r := (isQ g n 2 c, S)) (fun k hk => ?_) ?_ 300 (by omega)
  · unfold f_X10_firesAtHomeIn
    show bnd (itr 300 i_X10_firesAtHomeIn_L4 (t, c, orF (fun f => if g (fi f 2) = c then shI 1 (nI f) else 0) 0, nI 0, S)) _ = _
    rw [h, bnd_s]
  · show f_X10_firesAtHomeIn_L4 t c _ (nI k) S = _
    unfold f_X10_firesAtHomeIn_L4 f_X10_firesAtHomeIn_j33
    rw [if_pos (tgT ht).1, hR.1, if_neg (nI_ge hk (by omega)), if_pos (rabT ht (by omega)), eadT (by omega), if_pos ((tgT ht).2.2.2.2 k (by omega)), hR.2.2.2.2.2.2.1 k hk 2 (by decide), nI_1]
    show _ = some (Sum.inl (t, c, orF (fun f => if g (fi f 2) = c then shI 1 (nI f) else 0) k ||| (if g (fi k 2) = c then shI 1 (nI k) else 0), nI (k + 1), S))
    split <;> rfl
  · show f_X10_firesAtHomeIn_L4 t c _ (nI n) S = _
    unfold f_X10_firesAtHomeIn_L4
    rw [if_pos (tgT ht).1, hR.1, if_pos (nI_le (Nat.le_refl _) (by omega))]
    rfl
theorem iabS {t c : Nat} (ht : TT t) (hc : c < 10) : iab (t + 11) (nI c) = true := iab_row (k := 10) (tgT ht).2.2.2.1 (by omega) hc
theorem c_spots {S : Mem} {t n : Nat} {g : Row} (ht : TT t) (hR : Rl S t n g) : f_X10_spotsThatHold t S = some (spotS g, S) := by
  have h := itr_run (f := i_X10_spotsThatHold_L4) (fun j => (t, sumF (fun k => if g (86 + k) = -1 then 0 else 1) j, nI j, S)) 10 (r := (spotS g, S)) (fun k hk => ?_) ?_ 300 (by decide)
  · unfold f_X10_spotsThatHold
    show bnd (itr 300 i_X10_spotsThatHold_L4 (t, sumF (fun k => if g (86 + k) = -1 then 0 else 1) 0, nI 0, S)) _ = _
    rw [h, bnd_s]
  · show f_X10_spotsThatHold_L4 t _ (nI k) S = _
    unfold f_X10_spotsThatHold_L4 f_X10_spotsThatHold_j26
    rw [if_neg (show ¬ (9 : Int32) < nI k from nI_nlt (a := 9) (by omega) (by decide)), if_pos (tgT ht).1, if_pos (iabS ht hk), ix_nI (by omega), hR.2.2.2.2.2.2.2 k hk, nI_1]
    show _ = some (Sum.inl (t, sumF (fun k => if g (86 + k) = -1 then 0 else 1) k + (if g (86 + k) = -1 then 0 else 1), nI (k + 1), S))
    split <;> rfl
  · show f_X10_spotsThatHold_L4 t _ (nI 10) S = _
    unfold f_X10_spotsThatHold_L4
    rw [if_pos (show (9 : Int32) < nI 10 by decide)]
    rfl
