/-! THE CALLS, one by one: what each answers (sp_), by the class (c_) and by the reference (m_) -/
theorem b1n_if {β : Type} (b : Bool) (X Y : β) : (if b1 (!b) = 0 then X else Y) = (if b = true then X else Y) := by cases b <;> rfl
theorem b1_if {β : Type} (b : Bool) (X Y : β) : (if b1 b = 0 then X else Y) = (if b = true then Y else X) := by cases b <;> rfl
theorem c_fin {S A : Mem} {H k : Nat} {v : Int32} (hI : INV S A H) (hk : k < 7) (hv : v = nI k) : okk (bnd2 (f_X11_finding 0 v S) (fun r S2 => some (r, S2))) (OKC S H (fin A k)) := okB2 (okk_mono (c_finding hI hk hv) fun x hx => okI hx)
theorem c_fin0 {S A : Mem} {H : Nat} (hI : INV S A H) : okk (bnd2 (f_X11_finding 0 0 S) (fun r S2 => some (r, S2))) (OKC S H (fin A 0)) := c_fin hI (by decide) rfl
theorem m_fin {S : Mem} {k : Nat} {v : Int32} (hk : k < 7) (hv : v = -1000001 - nI k) : okk (bnd2 (f_X12_finds 57 v S) (fun r S2 => some (r, S2))) (OKM S (fin (mp S) k)) := by
  rw [m_finds hk hv, bnd2_s]
  exact OKM.fin hv
theorem m_fin0 {S : Mem} : okk (bnd2 (f_X12_finds 57 (-1000001) S) (fun r S2 => some (r, S2))) (OKM S (fin (mp S) 0)) := m_fin (by decide) (by decide)
theorem SP.upd {n p : Nat} {g : Row} {v : Int32} (h : SP n g) (hp : p < 86) : SP n (upd g p v) := fun k hk => by
  rw [upd_n (by omega)]; exact h k hk
theorem INV.town {S S2 A : Mem} {g : Row} {H H2 : Nat} (hI : INV S A H) (hr : RW S2 9 g H2) (hH : H ≤ H2) (he : ∀ a, a < 57 → (a < 9 ∨ 33 ≤ a) → S2 a = S a) : INV S2 (wrow A 58 g) H2 := by
  obtain ⟨h1, h2, h3, h4, h5, h6⟩ := hI
  have hA : ∀ b, b ≠ 58 → wrow A 58 g b = A b := fun b hb => wrow_n _ hb
  unfold INV FI TP SH
  rw [hA 57 (by decide), hA 62 (by decide), hA 59 (by decide), hA 63 (by decide), hA 64 (by decide), hA 65 (by decide), hA 66 (by decide), he 0 (by decide) (by decide), he 45 (by decide) (by decide), he 46 (by decide) (by decide), he 56 (by decide) (by decide), wrow_s]
  refine ⟨hr, h2, h3.imp id fun x => ⟨x.1, (x.2.same fun a _ _ => he a (by omega) (by omega)).mono hH⟩, h4, h5, fun s hs => ?_⟩
  rw [he _ (by omega) (by omega), he _ (by omega) (by omega)]
  exact h6 s hs
/-- the class has changed its town (and its trial) alone -/
theorem OKC.town {S S2 A : Mem} {g : Row} {v : Int32} {H H2 : Nat} (hI : INV S A H) (hr : RW S2 9 g H2) (hH : H ≤ H2) (he : ∀ a, (a < 9 ∨ 33 ≤ a) → S2 a = S a) : okk (some (v, S2)) (OKC S H2 (v, wrow A 58 g)) := okI ⟨rfl, hI.town hr hH fun a _ h => he a h, fun a ha => he a (by omega)⟩
/-- the class has changed its trial alone -/
theorem OKC.trial {S S2 A : Mem} {v : Int32} {H : Nat} (hI : INV S A H) (he : Fr 21 S S2) : okk (some (v, S2)) (OKC S H (v, A)) := okI ⟨rfl, hI.same (fun a _ h2 _ => he a (by omega)) (congrFun (he 45 (by omega)) 1), fun a ha => he a (by omega)⟩
def nA (A : Mem) : Int := (ix (A 58 0) : Int) - 1
theorem nA_e {A : Mem} {n : Nat} (h : A 58 0 = nI n) (hn : n ≤ 8) : nA A = (n : Int) - 1 := by
  unfold nA
  rw [h, ix_nI (by omega)]
theorem t9 : TT 9 := Or.inl rfl
theorem t21 : TT 21 := Or.inr (Or.inl rfl)
theorem t33 : TT 33 := Or.inr (Or.inr rfl)
theorem mp58 (S : Mem) : mp S 58 = S 58 := rfl
theorem mp59 (S : Mem) : mp S 59 = S 59 := rfl
theorem mp57 (S : Mem) : mp S 57 = S 57 := rfl
theorem nl {a b : Prop} (h : ¬ a) : ¬ (a ∧ b) := fun z => h z.1
theorem nr {a b : Prop} (h : ¬ b) : ¬ (a ∧ b) := fun z => h z.2
/-- wood -/
def sp_wood (c v : Int32) (A : Mem) : Int32 × Mem := if isM 0 24 c = true ∧ isM 0 9999 v = true then (A 58 (5 + ix c), wrow A 58 (upd (A 58) (5 + ix c) v)) else fin A 0
theorem c_wood {S A : Mem} {H : Nat} {c v : Int32} (hI : INV S A H) : okk (f_X11_wood 0 c v S) (OKC S H (sp_wood c v A)) := by
  unfold f_X11_wood sp_wood
  rw [c_out (hi := 24) (by decide), bnd2_s, b1n_if]
  by_cases h1 : isM 0 24 c = true
  · rw [if_pos h1, c_out (hi := 9999) (by decide), bnd2_s, b1n_if]
    by_cases h2 : isM 0 9999 v = true
    · obtain ⟨j, hj, rfl⟩ := isM_t (hi := 24) h1
      obtain ⟨n, hw, hsp, ⟨h, hh, e1⟩, hR⟩ := hI.1
      rw [if_pos h2, if_pos tg0, if_pos (iabW t9 (by omega) : iab 10 (nI j) = true), if_pos (And.intro h1 h2), ix_nI (by omega)]
      have hg : S 10 j = A 58 (5 + j) := hR.2.2.2.2.2.1 j (by omega)
      rw [hg]
      exact OKC.town hI ⟨n, WF_low hw (by omega) (by omega), hsp.upd (by omega), ⟨h, hh, by rw [upd_n (by omega)]; exact e1⟩, hR.wood (by omega) hw.1⟩ (Nat.le_refl _) (fun a ha => wr_n (by omega))
    · rw [if_neg h2, if_pos tg0, if_neg (nr h2)]
      exact c_fin0 hI
  · rw [if_neg h1, if_pos tg0, if_neg (nl h1)]
    exact c_fin0 hI
theorem m_becomes {p : Nat} {S : Mem} {v : Int32} (hp : p < 96) : f_X12_becomes 57 (nI p) v S = some (S 58 p, wrow S 58 (upd (S 58) p v)) := by
  unfold f_X12_becomes
  rw [if_pos tg57, if_pos (iab_row (k := 96) rfl (by omega) hp), ix_nI (by omega)]
  rfl
theorem m_wood {S : Mem} {c v : Int32} : okk (f_X12_wood 57 c v S) (OKM S (sp_wood c v (mp S))) := by
  unfold f_X12_wood sp_wood
  rw [m_isCell, bnd2_s, b1_if]
  by_cases h1 : isM 0 24 c = true
  · rw [if_pos h1, m_isIn (l := 0) (u := 9999) (by decide) (by decide), bnd2_s, b1_if]
    by_cases h2 : isM 0 9999 v = true
    · obtain ⟨j, hj, rfl⟩ := isM_t (hi := 24) h1
      rw [if_pos h2, if_pos tg57, if_pos (And.intro h1 h2), ix_nI (by omega), show (5 : Int32) + nI j = nI (5 + j) from nI_add 5 j, m_becomes (by omega), bnd2_s]
      exact OKM.put
    · rw [if_neg h2, if_pos tg57, if_neg (nr h2)]
      exact m_fin0
  · rw [if_neg h1, if_pos tg57, if_neg (nl h1)]
    exact m_fin0
/-- wind -/
def sp_wind (v : Int32) (A : Mem) : Int32 × Mem := if isM 0 4 v = true then (A 58 3, wrow A 58 (upd (A 58) 3 v)) else fin A 0
theorem c_wind {S A : Mem} {H : Nat} {v : Int32} (hI : INV S A H) : okk (f_X11_wind 0 v S) (OKC S H (sp_wind v A)) := by
  unfold f_X11_wind sp_wind
  rw [c_out (hi := 4) (by decide), bnd2_s, b1n_if]
  by_cases h1 : isM 0 4 v = true
  · obtain ⟨n, hw, hsp, ⟨h, hh, e1⟩, hR⟩ := hI.1
    rw [if_pos h1, if_pos h1, if_pos tg0, hR.2.1]
    exact OKC.town hI ⟨n, WF_low hw (by omega) (by omega), hsp.upd (by omega), ⟨h, hh, by rw [upd_n (by omega)]; exact e1⟩, hR.self (k := 5) (j := 3) (by omega)⟩ (Nat.le_refl _) (fun a ha => wr_n (by omega))
  · rw [if_neg h1, if_neg h1, if_pos tg0]
    exact c_fin0 hI
theorem m_wind {S : Mem} {v : Int32} : okk (f_X12_wind 57 v S) (OKM S (sp_wind v (mp S))) := by
  unfold f_X12_wind sp_wind
  rw [m_isIn (l := 0) (u := 4) (by decide) (by decide), bnd2_s, b1_if]
  by_cases h1 : isM 0 4 v = true
  · rw [if_pos h1, if_pos h1, if_pos tg57, show (3 : Int32) = nI 3 by decide, m_becomes (by omega), bnd2_s]
    exact OKM.put
  · rw [if_neg h1, if_neg h1, if_pos tg57]
    exact m_fin0
/-- seed -/
def sp_seed (v : Int32) (A : Mem) : Int32 × Mem := (A 58 2, wrow A 58 (upd (A 58) 2 v))
theorem c_seed {S A : Mem} {H : Nat} {v : Int32} (hI : INV S A H) : okk (f_X11_seed 0 v S) (OKC S H (sp_seed v A)) := by
  unfold f_X11_seed sp_seed
  obtain ⟨n, hw, hsp, ⟨h, hh, e1⟩, hR⟩ := hI.1
  rw [if_pos tg0, hR.2.2.2.2.1]
  exact OKC.town hI ⟨n, WF_low hw (by omega) (by omega), hsp.upd (by omega), ⟨h, hh, by rw [upd_n (by omega)]; exact e1⟩, hR.self (k := 8) (j := 2) (by omega)⟩ (Nat.le_refl _) (fun a ha => wr_n (by omega))
theorem m_seed {S : Mem} {v : Int32} : okk (f_X12_seed 57 v S) (OKM S (sp_seed v (mp S))) := by
  unfold f_X12_seed sp_seed
  rw [if_pos tg57, show (2 : Int32) = nI 2 by decide, m_becomes (by omega), bnd2_s]
  exact OKM.put
/-- cell -/
def sp_cell (c w : Int32) (A : Mem) : Int32 × Mem := if isM 0 24 c = true ∧ isM 0 3 w = true then ((if w = 0 then A 58 (5 + ix c) else if w = 1 then isQ (A 58) (ix (A 58 0)) 1 c else if w = 2 then atQ (A 58) (ix (A 58 0)) c else isQ (A 58) (ix (A 58 0)) 2 c), A) else fin A 0
theorem w4 {w : Int32} (h : isM 0 3 w = true) : w = 0 ∨ w = 1 ∨ w = 2 ∨ w = 3 := by
  obtain ⟨j, hj, rfl⟩ := isM_t (hi := 3) h
  have : j = 0 ∨ j = 1 ∨ j = 2 ∨ j = 3 := by omega
  rcases this with rfl | rfl | rfl | rfl <;> decide
theorem c_cell {S A : Mem} {H : Nat} {c w : Int32} (hI : INV S A H) : okk (f_X11_cell 0 c w S) (OKC S H (sp_cell c w A)) := by
  unfold f_X11_cell sp_cell
  obtain ⟨n, hw, hsp, ⟨h, hh, e1⟩, hR⟩ := hI.1
  have hn := hw.1
  rw [c_out (hi := 24) (by decide), bnd2_s, b1n_if]
  by_cases h1 : isM 0 24 c = true
  · rw [if_pos h1]
    simp only [if_pos tg0, c_builtQ t9 hn hR, c_atQ t9 hn hR, c_homeQ t9 hn hR, bnd2_s, hw.2.1, ix_nI (show n < 2 ^ 31 by omega)]
    by_cases h2 : isM 0 3 w = true
    · rw [if_pos (And.intro h1 h2)]
      obtain ⟨j, hj, rfl⟩ := isM_t (hi := 24) h1
      rw [if_pos (iabW t9 (by omega) : iab 10 (nI j) = true), ix_nI (by omega)]
      have hg : S 10 j = A 58 (5 + j) := hR.2.2.2.2.2.1 j (by omega)
      rw [hg]
      rcases w4 h2 with rfl | rfl | rfl | rfl
      · exact OKC.id hI
      · exact OKC.id hI
      · exact OKC.id hI
      · exact OKC.id hI
    · rw [if_neg (nr h2), if_neg (fun z => h2 (by rw [z]; decide)), if_neg (fun z => h2 (by rw [z]; decide)), if_neg (fun z => h2 (by rw [z]; decide)), if_neg (fun z => h2 (by rw [z]; decide))]
      exact c_fin0 hI
  · rw [if_neg h1, if_pos tg0, if_neg (nl h1)]
    exact c_fin0 hI
def cellF (g : Row) (c w : Int32) (f : Nat) : Int32 := if w = 1 then (if g (fi f 1) = c then shI 1 (nI f) else 0) else if w = 2 then (if g (fi f 5) ≤ 0 then 0 else if g (fi f 4) = c then shI 1 (nI f) else 0) else (if g (fi f 2) = c then shI 1 (nI f) else 0)
theorem m_cellL {S : Mem} {n : Nat} {c w : Int32} (h0 : S 58 0 = nI n) (hn : n ≤ 8) : itr 300 i_X12_cell_L44 (57, c, w, 0, 0, S) = some (orF (cellF (S 58) c w) n, S) := by
  refine itr_run (f := i_X12_cell_L44) (fun k => (57, c, w, orF (cellF (S 58) c w) k, nI k, S)) n (r := (orF (cellF (S 58) c w) n, S)) (fun k hk => ?_) ?_ 300 (by omega)
  · show f_X12_cell_L44 57 c w _ (nI k) S = some (Sum.inl (57, c, w, orF (cellF (S 58) c w) k ||| cellF (S 58) c w k, nI (k + 1), S))
    unfold f_X12_cell_L44 f_X12_cell_j109 f_X12_cell_j129 f_X12_cell_j145 cellF
    simp only [if_pos tg57, if_pos i58_0, ix_0, h0, if_neg (nI_ge hk (show n < 2 ^ 31 by omega)), m_its1 (show k < 8 by omega), m_its4 (show k < 8 by omega), m_its5 (show k < 8 by omega), m_its2 (show k < 8 by omega), bnd2_s, nI_1]
    by_cases w1 : w = 1
    · rw [if_pos w1, if_pos w1]
      by_cases q : S 58 (fi k 1) = c
      · rw [if_pos q, if_pos q, if_neg (by decide)]
      · rw [if_neg q, if_neg q, if_pos trivial]
    · rw [if_neg w1, if_neg w1]
      by_cases w2 : w = 2
      · rw [if_pos w2, if_pos w2]
        by_cases q : S 58 (fi k 4) = c
        · rw [if_pos q, if_pos q]
          by_cases q5 : S 58 (fi k 5) ≤ 0
          · rw [if_pos q5, if_pos q5, if_pos trivial]
          · rw [if_neg q5, if_neg q5, if_neg (by decide)]
        · rw [if_neg q, if_neg q, if_pos trivial, ite_self]
      · rw [if_neg w2, if_neg w2]
        by_cases q : S 58 (fi k 2) = c
        · rw [if_pos q, if_pos q, if_neg (by decide)]
        · rw [if_neg q, if_neg q, if_pos trivial]
  · show f_X12_cell_L44 57 c w _ (nI n) S = _
    unfold f_X12_cell_L44
    rw [if_pos tg57, if_pos i58_0, ix_0, h0, if_pos (nI_le (Nat.le_refl _) (by omega))]
theorem m_cell {S : Mem} {n : Nat} {c w : Int32} (h0 : S 58 0 = nI n) (hn : n ≤ 8) : okk (f_X12_cell 57 c w S) (OKM S (sp_cell c w (mp S))) := by
  unfold f_X12_cell sp_cell
  rw [m_isCell, bnd2_s, b1_if, mp58, h0, ix_nI (by omega)]
  by_cases h1 : isM 0 24 c = true
  · rw [if_pos h1, m_isIn (l := 0) (u := 3) (by decide) (by decide), bnd2_s, b1_if]
    by_cases h2 : isM 0 3 w = true
    · rw [if_pos h2, if_pos (And.intro h1 h2), m_cellL h0 hn, bnd_s]
      obtain ⟨j, hj, rfl⟩ := isM_t (hi := 24) h1
      obtain ⟨e1, e2⟩ := wood_ok j (by omega)
      rw [if_pos tg57, if_pos e2, e1, ix_nI (by omega)]
      rcases w4 h2 with rfl | rfl | rfl | rfl
      · exact OKM.id
      · exact OKM.id
      · exact OKM.id
      · exact OKM.id
    · rw [if_neg h2, if_pos tg57, if_neg (nr h2)]
      exact m_fin0
  · rw [if_neg h1, if_pos tg57, if_neg (nl h1)]
    exact m_fin0
/-- fire -/
def sp_fire (k c h : Int32) (A : Mem) : Int32 × Mem := if isM 0 6 k = true ∧ isM 0 24 c = true ∧ isM 0 24 h = true then (if A 58 0 = 8 then fin A 1 else (A 58 0, wrow A 58 (comeR (A 58) (ix (A 58 0)) k c h 50))) else fin A 0
theorem SP.come {n : Nat} {g : Row} {k c h l : Int32} (hs : SP n g) (hn : n < 8) : SP (n + 1) (comeR g n k c h l) := fun j hj => by
  rw [comeR_o (by omega) (fun w hw => by unfold fi; omega)]
  exact (hs j hj).imp id fun ⟨f, hf, e⟩ => ⟨f, by omega, e⟩
theorem n8 : ∀ n, n ≤ 8 → (nI n = 8 ↔ n = 8) ∧ (nI n < 8 ↔ n < 8) := by decide +kernel
theorem c_fire {S A : Mem} {H : Nat} {k c h : Int32} (hI : INV S A H) : okk (f_X11_fire 0 k c h S) (OKC S H (sp_fire k c h A)) := by
  unfold f_X11_fire sp_fire
  obtain ⟨n, hw, hsp, ⟨hr, hh, e1⟩, hR⟩ := hI.1
  have hn := hw.1
  rw [c_out (hi := 6) (by decide), bnd2_s, b1n_if]
  by_cases h1 : isM 0 6 k = true
  · rw [if_pos h1, c_out (hi := 24) (by decide), bnd2_s, b1n_if]
    by_cases h2 : isM 0 24 c = true
    · rw [if_pos h2, c_out (hi := 24) (by decide), bnd2_s, b1n_if]
      by_cases h3 : isM 0 24 h = true
      · rw [if_pos h3, if_pos tg0, if_pos (And.intro h1 (And.intro h2 h3)), hw.2.1]
        unfold f_X10_isFull
        rw [if_pos (tgT t9).1, hR.1]
        by_cases h8 : n = 8
        · rw [if_neg (fun z => by have := ((n8 n hn).2.mp z); omega), if_pos ((n8 n hn).1.mpr h8), bnd2_s, if_neg (by decide)]
          exact c_fin hI (by decide) rfl
        · obtain ⟨j1, hj1, rfl⟩ := isM_t (hi := 6) h1
          obtain ⟨j2, hj2, rfl⟩ := isM_t (hi := 24) h2
          obtain ⟨j3, hj3, rfl⟩ := isM_t (hi := 24) h3
          rw [if_pos ((n8 n hn).2.mpr (by omega)), if_neg (fun z => h8 ((n8 n hn).1.mp z)), bnd2_s, if_pos rfl]
          obtain ⟨S2, q1, q2, q3⟩ := c_light (k := nI j1) (c := nI j2) (h := nI j3) (l := 50) t9 (by omega) hR
          rw [q1, bnd2_s, ix_nI (by omega)]
          exact OKC.town hI ⟨n + 1, WF_come hw (by omega) (by omega) (by omega) (by omega), hsp.come (by omega), ⟨hr, hh, by rw [comeR_o (by decide) (fun w hw => by unfold fi; omega)]; exact e1⟩, q2⟩ (Nat.le_refl _) (fun a ha => q3 a (by omega))
      · rw [if_neg h3, if_pos tg0, if_neg (nr (nr h3))]
        exact c_fin0 hI
    · rw [if_neg h2, if_pos tg0, if_neg (nr (nl h2))]
      exact c_fin0 hI
  · rw [if_neg h1, if_pos tg0, if_neg (nl h1)]
    exact c_fin0 hI
theorem m_fire {S : Mem} {n : Nat} {k c h : Int32} (h0 : S 58 0 = nI n) (hn : n ≤ 8) : okk (f_X12_fire 57 k c h S) (OKM S (sp_fire k c h (mp S))) := by
  unfold f_X12_fire sp_fire
  rw [m_isIn (l := 0) (u := 6) (by decide) (by decide), bnd2_s, b1_if, mp58, h0]
  by_cases h1 : isM 0 6 k = true
  · rw [if_pos h1, m_isCell, bnd2_s, b1_if]
    by_cases h2 : isM 0 24 c = true
    · rw [if_pos h2, m_isCell, bnd2_s, b1_if]
      by_cases h3 : isM 0 24 h = true
      · rw [if_pos h3, if_pos tg57, if_pos (And.intro h1 (And.intro h2 h3)), if_pos i58_0, ix_0, h0]
        by_cases h8 : n = 8
        · rw [if_pos ((n8 n hn).1.mpr h8), if_pos ((n8 n hn).1.mpr h8)]
          exact m_fin (k := 1) (by decide) (by decide)
        · have h8' : ¬ nI n = 8 := fun z => h8 ((n8 n hn).1.mp z)
          rw [if_neg h8', if_neg h8', m_comes h0 (by omega), bnd2_s, wrow_s, comeR_n.1, ix_nI (by omega), nI_pred]
          exact OKM.put
      · rw [if_neg h3, if_pos tg57, if_neg (nr (nr h3))]
        exact m_fin0
    · rw [if_neg h2, if_pos tg57, if_neg (nr (nl h2))]
      exact m_fin0
  · rw [if_neg h1, if_pos tg57, if_neg (nl h1)]
    exact m_fin0
