/-! the reference reads an item -/
def MG (S S2 : Mem) : Prop := (∀ a, a ≠ 57 → a ≠ 58 → S2 a = S a) ∧ (∀ k, k < 12 → S2 57 k = S 57 k) ∧ ∀ p, 96 ≤ p → S2 58 p = S 58 p
theorem MG.rf {S : Mem} : MG S S := ⟨fun _ _ _ => rfl, fun _ _ => rfl, fun _ _ => rfl⟩
theorem MG.tr {S S2 S3 : Mem} (h : MG S S2) (h2 : MG S2 S3) : MG S S3 := ⟨fun a ha hb => (h2.1 a ha hb).trans (h.1 a ha hb), fun k hk => (h2.2.1 k hk).trans (h.2.1 k hk), fun p hp => (h2.2.2 p hp).trans (h.2.2 p hp)⟩
theorem MF.mg {S S2 : Mem} (h : MF S S2) : MG S S2 := ⟨fun a ha _ => h.1 a ha, fun k hk => h.2 k (Or.inl hk), fun p _ => by rw [h.1 58 (by decide)]⟩
theorem MG.fault {S : Mem} {v : Int32} : MG S (wr S 57 16 v) := ⟨fun a ha _ => wr_n ha, fun k hk => by rw [wr_s, upd_n (by omega)], fun p _ => by rw [wr_n (by decide)]⟩
theorem MG.row {S : Mem} {p : Nat} {v : Int32} (hp : p < 96) : MG S (wr S 58 p v) := ⟨fun a _ hb => wr_n hb, fun k _ => by rw [wr_n (by decide)], fun q hq => by rw [wr_s, upd_n (by omega)]⟩
theorem MB.mg {Q : Nat → Nat} {tp : Nat} {S S2 : Mem} (h : MB Q tp S) (hg : MG S S2) : MB Q tp S2 := h.mf (hg.1 63 (by decide) (by decide))
theorem MT.r58 {Q : Nat → Nat} {tp p k : Nat} {v : Int32} {S : Mem} (h : MT Q tp p S) : MT Q tp p (wr S 58 k v) := by
  unfold MT at h ⊢
  rw [wr_n (by decide)]
  exact h
theorem m_isNumber {Q : Nat → Nat} {tp p most : Nat} {S : Mem} (hq : ∀ i, Q i < 256) (hm : MT Q tp p S) (h9 : most ≤ 9999) : f_X12_isNumber 57 0 (nI most) S = if nmQ Q tp p most = true then some (1, S) else some (0, wr S 57 16 (nI (stN Q tp p))) := by
  obtain ⟨a7, a12, a13, a14, a15⟩ := hm
  have hv : nmN Q tp p ≤ 100300 := by
    unfold nmN
    split
    · exact vN_le Q hq _ _
    · omega
  unfold f_X12_isNumber nmQ
  have j23 : f_X12_isNumber_j23 57 S = some (0, wr S 57 16 (nI (stN Q tp p))) := by
    unfold f_X12_isNumber_j23 f_X12_fails
    rw [if_pos tg57, if_pos tg57, a13, bnd2_s, if_pos rfl]
  have e : (nI most).toInt64.toInt = (most : Int) := by
    rw [Int32.toInt_toInt64, nI_toInt (by omega)]
  rw [if_pos tg57, a12]
  by_cases k2 : tkN Q tp p = 2
  · rw [if_pos (by rw [k2]; rfl), dec_t k2, Bool.true_and, m_isIn (l := 0) (u := (most : Int)) (by decide) e, bnd2_s, b1_if, a15]
    have hi : isM 0 (most : Int) (nI (nmN Q tp p)) = decide (nmN Q tp p ≤ most) := by
      unfold isM
      rw [nI_toInt (by omega), dec_t (by omega), Bool.true_and]
      by_cases h : nmN Q tp p ≤ most
      · rw [dec_t h, dec_t (by omega)]
      · rw [dec_f h, dec_f (by omega)]
    rw [hi]
    by_cases h : decide (nmN Q tp p ≤ most) = true
    · rw [if_pos h, if_pos h]; rfl
    · rw [if_neg h, if_neg h]; exact j23
  · rw [if_neg (show ¬ nI (tkN Q tp p) = (2 : Int32) from fun z => k2 ((tk1 (k := 2) (by omega)).mp z)), dec_f k2, Bool.false_and, if_neg (by decide)]
    exact j23
def RIm (Q : Nat → Nat) (tp : Nat) (S : Mem) (r : (Nat × Row) ⊕ Nat) (x : Int32 × Mem) : Prop := match r with
  | .inl (q, g) => x.1 = 1 ∧ MT Q tp q x.2 ∧ x.2 58 = g ∧ MG S x.2
  | .inr q => x.1 = 0 ∧ x.2 57 16 = nI (stN Q tp q) ∧ MG S x.2
theorem m_perhaps1 {Q : Nat → Nat} {tp p idx most : Nat} {S : Mem} (ht : tp ≤ 120) (hp : p ≤ tp) (hb : MB Q tp S) (hm : MT Q tp p S) (h9 : most ≤ 9999) (hi : idx < 96) : okk (f_X12_perhaps 57 1 (nI idx) (nI most) S) (RIm Q tp S (if nmQ Q tp (nxN Q tp p) most = true then .inl (nxN Q tp (nxN Q tp p), upd (S 58) idx (nI (nmN Q tp (nxN Q tp p)))) else .inr (nxN Q tp p))) := by
  unfold f_X12_perhaps
  have hp1 := (nxN_le (Q := Q) hp ht).2
  have hpi : iab 58 (nI idx) = true := iab_row (k := 96) rfl (by omega) hi
  rw [if_neg (by decide), if_pos tg57]
  refine okB2 (okk_mono (m_nextN ht hp hb hm) fun x hx => ?_)
  rw [m_isNumber hb.1 hx.1 h9]
  by_cases h : nmQ Q tp (nxN Q tp p) most = true
  · rw [if_pos h, if_pos h, bnd2_s, if_neg (by decide), if_pos hpi, ix_nI (by omega), hx.1.2.2.2.2]
    have g1 : MG S (wr x.2 58 idx (nI (nmN Q tp (nxN Q tp p)))) := hx.2.mg.tr (MG.row hi)
    refine okB2 (okk_mono (m_nextN (p := nxN Q tp p) ht hp1 (hb.mg g1) hx.1.r58) fun y hy => okI ⟨rfl, hy.1, ?_, g1.tr hy.2.mg⟩)
    show y.2 58 = _
    rw [hy.2.1 58 (by decide), wr_s, hx.2.1 58 (by decide)]
  · rw [if_neg h, if_neg h, bnd2_s, if_pos rfl]
    refine okI ⟨rfl, ?_, hx.2.mg.tr MG.fault⟩
    show wr x.2 57 16 (nI (stN Q tp (nxN Q tp p))) 57 16 = _
    rw [wr_s, upd_s]
theorem m_part {Q : Nat → Nat} {tp p idx most : Nat} {w : List Nat} {S : Mem} (ht : tp ≤ 120) (hp : p ≤ tp) (hb : MB Q tp S) (hm : MT Q tp p S) (h9 : most ≤ 9999) (hi : idx < 96) : okk (f_X12_perhaps 57 (b1 (isW Q tp p w)) (nI idx) (nI most) S) (fun x => ((∃ v, (partN Q tp p w most (S 58 idx)).1 = some v ∧ x.1 = 1 ∧ x.2 58 = upd (S 58) idx v ∧ MT Q tp (partN Q tp p w most (S 58 idx)).2 x.2) ∨ ((partN Q tp p w most (S 58 idx)).1 = none ∧ x.1 = 0 ∧ x.2 57 16 = nI (stN Q tp (partN Q tp p w most (S 58 idx)).2))) ∧ MG S x.2) := by
  unfold partN
  by_cases h : isW Q tp p w = true
  · rw [if_pos h, h]
    refine okk_mono (m_perhaps1 ht hp hb hm h9 hi) fun x hx => ?_
    by_cases h2 : nmQ Q tp (nxN Q tp p) most = true
    · rw [if_pos h2] at hx ⊢
      exact ⟨Or.inl ⟨_, rfl, hx.1, hx.2.2.1, hx.2.1⟩, hx.2.2.2⟩
    · rw [if_neg h2] at hx ⊢
      exact ⟨Or.inr ⟨rfl, hx.1, hx.2.1⟩, hx.2.2⟩
  · rw [if_neg h, Bool.eq_false_iff.mpr h]
    unfold f_X12_perhaps
    rw [if_pos (show b1 false = 0 from rfl)]
    exact okI ⟨Or.inl ⟨_, rfl, rfl, by rw [upd_id], hm⟩, MG.rf⟩
theorem m_woodHere {Q : Nat → Nat} {tp p : Nat} {S : Mem} (ht : tp ≤ 120) (hp : p ≤ tp) (hb : MB Q tp S) (hm : MT Q tp p S) : okk (f_X12_woodHere 57 S) (RIm Q tp S (woodN Q tp p (S 58))) := by
  unfold f_X12_woodHere woodN
  have hp1 := (nxN_le (Q := Q) hp ht).2
  rw [if_pos tg57]
  refine okB2 (okk_mono (m_nextN ht hp hb hm) fun x hx => ?_)
  rw [show (24 : Int32) = nI 24 from rfl, m_isNumber hb.1 hx.1 (by omega)]
  by_cases h : nmQ Q tp (nxN Q tp p) 24 = true
  · have hle : nmN Q tp (nxN Q tp p) ≤ 24 := of_decide_eq_true (and_b.mp h).2
    rw [if_pos h, if_pos h, bnd2_s, if_neg (by decide), hx.1.2.2.2.2, show (5 : Int32) + nI (nmN Q tp (nxN Q tp p)) = nI (5 + nmN Q tp (nxN Q tp p)) from nI_add 5 _]
    refine okB2 (okk_mono (m_perhaps1 (most := 9999) ht hp1 (hb.mg hx.2.mg) hx.1 (by omega) (by omega)) fun y hy => ?_)
    by_cases h2 : nmQ Q tp (nxN Q tp (nxN Q tp p)) 9999 = true
    · rw [if_pos h2] at hy ⊢
      obtain ⟨y1, y2, y3, y4⟩ := hy
      rw [y1, if_neg (by decide)]
      exact okI ⟨rfl, y2, by show y.2 58 = _; rw [y3, hx.2.1 58 (by decide)], hx.2.mg.tr y4⟩
    · rw [if_neg h2] at hy ⊢
      obtain ⟨y1, y2, y3⟩ := hy
      rw [y1, if_pos rfl]
      exact okI ⟨rfl, y2, hx.2.mg.tr y3⟩
  · rw [if_neg h, if_neg h, bnd2_s, if_pos rfl]
    refine okI ⟨rfl, ?_, hx.2.mg.tr MG.fault⟩
    show wr x.2 57 16 (nI (stN Q tp (nxN Q tp p))) 57 16 = _
    rw [wr_s, upd_s]
theorem eqW_inj {Q : Nat → Nat} : ∀ (w w2 : List Nat) (s : Nat), w.length = w2.length → eqW Q s w = true → eqW Q s w2 = true → w = w2
  | [], [], _, _, _, _ => rfl
  | [], b :: r2, _, h, _, _ => absurd h (by simp)
  | a :: r, [], _, h, _, _ => absurd h (by simp)
  | a :: r, b :: r2, s, h, h1, h2 => by
    unfold eqW at h1 h2
    obtain ⟨a1, a2⟩ := and_b.mp h1
    obtain ⟨b1, b2⟩ := and_b.mp h2
    have e1 := of_decide_eq_true a1
    have e2 := of_decide_eq_true b1
    rw [eqW_inj r r2 (s + 1) (by simpa using h) a2 b2, ← e1, ← e2]
theorem isW_inj {Q : Nat → Nat} {tp p : Nat} {w w2 : List Nat} (h1 : isW Q tp p w = true) (h2 : isW Q tp p w2 = true) : w = w2 := by
  unfold isW at h1 h2
  obtain ⟨-, a⟩ := and_b.mp h1
  obtain ⟨a1, a2⟩ := and_b.mp a
  obtain ⟨-, b⟩ := and_b.mp h2
  obtain ⟨b1, b2⟩ := and_b.mp b
  exact eqW_inj w w2 _ ((of_decide_eq_true a1).symm.trans (of_decide_eq_true b1)) a2 b2
theorem wN_ne : ∀ k, k < 7 → wN 0 ≠ wN (5 + k) ∧ wN 1 ≠ wN (5 + k) := by decide +kernel
theorem kindN_w {Q : Nat → Nat} {tp p k : Nat} (h : kindN Q tp p = some k) : isW Q tp p (wN (5 + k)) = true := by
  unfold kindN at h
  repeat' split at h
  all_goals first | (cases h; assumption) | cases h
theorem come_part {g : Row} {n : Nat} {k c : Int32} : upd (upd (upd (comeR g n k 0 0 50) (fi n 1) c) (fi n 4) c) (fi n 2) c = comeR g n k c c 50 := by
  obtain ⟨a0, a1, a2, a3, a4, a5, a6, a7⟩ := comeR_n (g := g) (n := n) (k := k) (c := 0) (h := 0) (l := 50)
  obtain ⟨z0, z1, z2, z3, z4, z5, z6, z7⟩ := comeR_n (g := g) (n := n) (k := k) (c := c) (h := c) (l := 50)
  have d : ∀ w v, w ≠ v → fi n w ≠ fi n v := fun w v h => by unfold fi; omega
  have d0 : ∀ w, 0 ≠ fi n w := fun w => by unfold fi; omega
  funext j
  by_cases h2 : j = fi n 2
  · subst h2; rw [upd_s, z3]
  rw [upd_n h2]
  by_cases h4 : j = fi n 4
  · subst h4; rw [upd_s, z5]
  rw [upd_n h4]
  by_cases h1 : j = fi n 1
  · subst h1; rw [upd_s, z2]
  rw [upd_n h1]
  by_cases h0 : j = 0
  · subst h0; rw [a0, z0]
  by_cases h3 : j = fi n 3
  · subst h3; rw [a4, z4]
  by_cases h5 : j = fi n 5
  · subst h5; rw [a6, z6]
  by_cases h6 : j = fi n 6
  · subst h6; rw [a7, z7]
  by_cases h7 : j = fi n 0
  · subst h7; rw [a1, z1]
  rw [comeR_o h0 fun w hw => ?_, comeR_o h0 fun w hw => ?_]
  all_goals
    rcases (by omega : w = 0 ∨ w = 1 ∨ w = 2 ∨ w = 3 ∨ w = 4 ∨ w = 5 ∨ w = 6) with rfl | rfl | rfl | rfl | rfl | rfl | rfl <;> assumption
theorem come_home {g : Row} {n : Nat} {k c h h2 l : Int32} : upd (comeR g n k c h l) (fi n 2) h2 = comeR g n k c h2 l := by
  unfold comeR
  have d : ∀ w v, w ≠ v → fi n w ≠ fi n v := fun w v h => by unfold fi; omega
  have d0 : ∀ w, (0 : Nat) ≠ fi n w := fun w => by unfold fi; omega
  rw [upd_c _ _ _ (d0 2), upd_c _ _ _ (d 6 2 (by omega)), upd_c _ _ _ (d 5 2 (by omega)), upd_c _ _ _ (d 4 2 (by omega)), upd_c _ _ _ (d 3 2 (by omega)), upd_uu]
theorem come_logs {g : Row} {n : Nat} {k c h l l2 : Int32} : upd (comeR g n k c h l) (fi n 3) l2 = comeR g n k c h l2 := by
  unfold comeR
  have d : ∀ w v, w ≠ v → fi n w ≠ fi n v := fun w v h => by unfold fi; omega
  have d0 : ∀ w, (0 : Nat) ≠ fi n w := fun w => by unfold fi; omega
  rw [upd_c _ _ _ (d0 3), upd_c _ _ _ (d 6 3 (by omega)), upd_c _ _ _ (d 5 3 (by omega)), upd_c _ _ _ (d 4 3 (by omega)), upd_uu]
