/-! the reference's hour -/
theorem l_nI : (0 : Int32) = nI 0 ∧ (1 : Int32) = nI 1 ∧ (2 : Int32) = nI 2 ∧ (3 : Int32) = nI 3 ∧ (4 : Int32) = nI 4 ∧ (5 : Int32) = nI 5 ∧ (6 : Int32) = nI 6 := by decide
theorem m_its {f w : Nat} {S : Mem} (hf : f < 8) (hw : w < 7) : f_X12_its 57 (nI f) (nI w) S = some (S 58 (fi f w), S) := by
  obtain ⟨e1, e2⟩ := slot_ok f hf w hw
  unfold f_X12_its
  rw [if_pos tg57, if_pos e2, e1]
theorem m_its0 {f : Nat} {S : Mem} (hf : f < 8) : f_X12_its 57 (nI f) 0 S = some (S 58 (fi f 0), S) := m_its (w := 0) hf (by decide)
theorem m_its1 {f : Nat} {S : Mem} (hf : f < 8) : f_X12_its 57 (nI f) 1 S = some (S 58 (fi f 1), S) := m_its (w := 1) hf (by decide)
theorem m_its2 {f : Nat} {S : Mem} (hf : f < 8) : f_X12_its 57 (nI f) 2 S = some (S 58 (fi f 2), S) := m_its (w := 2) hf (by decide)
theorem m_its3 {f : Nat} {S : Mem} (hf : f < 8) : f_X12_its 57 (nI f) 3 S = some (S 58 (fi f 3), S) := m_its (w := 3) hf (by decide)
theorem m_its4 {f : Nat} {S : Mem} (hf : f < 8) : f_X12_its 57 (nI f) 4 S = some (S 58 (fi f 4), S) := m_its (w := 4) hf (by decide)
theorem m_its5 {f : Nat} {S : Mem} (hf : f < 8) : f_X12_its 57 (nI f) 5 S = some (S 58 (fi f 5), S) := m_its (w := 5) hf (by decide)
theorem m_its6 {f : Nat} {S : Mem} (hf : f < 8) : f_X12_its 57 (nI f) 6 S = some (S 58 (fi f 6), S) := m_its (w := 6) hf (by decide)
theorem m_at (a b : Int32) (S : Mem) : f_X12_at a b S = some (30 + 7 * a + b, S) := rfl
theorem s_0 {f : Nat} (hf : f < 8) : ix (30 + 7 * nI f + 0) = fi f 0 ∧ iab 58 (30 + 7 * nI f + 0) = true := slot_ok f hf 0 (by decide)
theorem s_1 {f : Nat} (hf : f < 8) : ix (30 + 7 * nI f + 1) = fi f 1 ∧ iab 58 (30 + 7 * nI f + 1) = true := slot_ok f hf 1 (by decide)
theorem s_2 {f : Nat} (hf : f < 8) : ix (30 + 7 * nI f + 2) = fi f 2 ∧ iab 58 (30 + 7 * nI f + 2) = true := slot_ok f hf 2 (by decide)
theorem s_3 {f : Nat} (hf : f < 8) : ix (30 + 7 * nI f + 3) = fi f 3 ∧ iab 58 (30 + 7 * nI f + 3) = true := slot_ok f hf 3 (by decide)
theorem s_4 {f : Nat} (hf : f < 8) : ix (30 + 7 * nI f + 4) = fi f 4 ∧ iab 58 (30 + 7 * nI f + 4) = true := slot_ok f hf 4 (by decide)
theorem s_5 {f : Nat} (hf : f < 8) : ix (30 + 7 * nI f + 5) = fi f 5 ∧ iab 58 (30 + 7 * nI f + 5) = true := slot_ok f hf 5 (by decide)
theorem s_6 {f : Nat} (hf : f < 8) : ix (30 + 7 * nI f + 6) = fi f 6 ∧ iab 58 (30 + 7 * nI f + 6) = true := slot_ok f hf 6 (by decide)
theorem i58_0 : iab 58 0 = true := by decide +kernel
theorem i58_1 : iab 58 1 = true := by decide +kernel
theorem i58_2 : iab 58 2 = true := by decide +kernel
theorem i58_3 : iab 58 3 = true := by decide +kernel
theorem i58_4 : iab 58 4 = true := by decide +kernel
theorem ix_0 : ix 0 = 0 := by decide
theorem ix_1 : ix 1 = 1 := by decide
theorem ix_2 : ix 2 = 2 := by decide
theorem ix_3 : ix 3 = 3 := by decide
theorem ix_4 : ix 4 = 4 := by decide
theorem m_least (a b : Int32) (S : Mem) : f_X12_least a b S = some (mnI a b, S) := by
  unfold f_X12_least mnI
  split <;> rfl
theorem m_burns {f : Nat} {S : Mem} (hf : f < 8) : f_X12_burns 57 (nI f) S = some (burnsK (S 58 1) (S 58 (fi f 0)), S) := by
  unfold f_X12_burns burnsK
  rw [if_pos tg57, m_its0 hf, bnd2_s]
  simp only [i58_1, ix_1, if_true]
  repeat' split
  all_goals first | rfl | simp_all
theorem m_steps {f : Nat} {S : Mem} (hf : f < 8) : f_X12_steps 57 (nI f) S = some (nI (stepsK (S 58 1) (S 58 (fi f 6)) (S 58 (fi f 0))), S) := by
  unfold f_X12_steps stepsK
  rw [if_pos tg57, m_its0 hf, bnd2_s]
  simp only [i58_1, ix_1, if_true, m_its6 hf, bnd2_s]
  repeat' split
  all_goals first | rfl | simp_all
theorem m_burnsOn {f : Nat} {S : Mem} (hf : f < 8) : f_X12_burnsOn 57 (nI f) S = some ((), wrow S 58 (burn1 (S 58) f)) := by
  unfold f_X12_burnsOn burn1
  simp only [tg57, if_true, m_its4 hf, m_its1 hf, m_its2 hf, m_its3 hf, m_its5 hf, bnd2_s, m_burns hf, m_least, m_at, (s_3 hf).1, (s_3 hf).2, (s_5 hf).1, (s_5 hf).2, wr_row, wrow_s, wrow_w]
  by_cases h1 : S 58 (fi f 4) = S 58 (fi f 1)
  · by_cases h2 : S 58 (fi f 1) = S 58 (fi f 2)
    · rw [if_pos h1, if_pos h2, if_neg (fun h => h.2 h2), wrow_id]
    · rw [if_pos h1, if_neg h2, if_pos ⟨h1, h2⟩, upd_n (by unfold fi; omega)]
  · rw [if_neg h1, if_neg (fun h => h1 h.1), wrow_id]
theorem if_v {β : Type} (F : Int32 → β) (x a b c : Int32) : (if 0 ≤ x then (if x ≤ 0 then F a else F b) else F c) = F (if x < 0 then c else if 0 < x then b else a) := by
  by_cases h1 : 0 ≤ x
  · rw [if_pos h1, if_neg (Int32.not_lt.mpr h1)]
    by_cases h2 : x ≤ 0
    · rw [if_pos h2, if_neg (Int32.not_lt.mpr h2)]
    · rw [if_neg h2, if_pos (Int32.not_le.mp h2)]
  · rw [if_neg h1, if_pos (Int32.not_le.mp h1)]
theorem if_l {β : Type} (F : Int32 → β) (x a b c : Int32) : (if x ≤ 0 then (if 0 ≤ x then F a else F b) else F c) = F (if 0 < x then c else if x < 0 then b else a) := by
  by_cases h1 : x ≤ 0
  · rw [if_pos h1, if_neg (Int32.not_lt.mpr h1)]
    by_cases h2 : 0 ≤ x
    · rw [if_pos h2, if_neg (Int32.not_lt.mpr h2)]
    · rw [if_neg h2, if_pos (Int32.not_le.mp h2)]
  · rw [if_neg h1, if_pos (Int32.not_le.mp h1)]
theorem m_way {f : Nat} {c : Int32} {S : Mem} (hf : f < 8) : f_X12_wayFrom 57 (nI f) c S = some (wayK (S 58 (fi f 0)) (S 58 (fi f 2)) c, S) := by
  unfold f_X12_wayFrom
  rw [if_pos tg57, m_its2 hf, bnd2_s]
  refine (if_v (fun v => f_X12_wayFrom_j44 57 (nI f) (rmI (S 58 (fi f 2)) 5 - rmI c 5) v S) _ 0 3 1).trans ?_
  show f_X12_wayFrom_j44 57 (nI f) (rmI (S 58 (fi f 2)) 5 - rmI c 5) (vertK (S 58 (fi f 2)) c) S = _
  unfold f_X12_wayFrom_j44
  refine (if_l (fun v => f_X12_wayFrom_j65 57 (nI f) (vertK (S 58 (fi f 2)) c) v S) _ 0 4 2).trans ?_
  show f_X12_wayFrom_j65 57 (nI f) (vertK (S 58 (fi f 2)) c) (levK (S 58 (fi f 2)) c) S = _
  unfold f_X12_wayFrom_j65 f_X12_wayFrom_j87 f_X12_wayFrom_j92 f_X12_wayFrom_j106 wayK
  rw [if_pos tg57, m_its0 hf, bnd2_s, m_its0 hf, bnd2_s]
  generalize vertK (S 58 (fi f 2)) c = v
  generalize levK (S 58 (fi f 2)) c = w
  by_cases h3 : S 58 (fi f 0) = 3
  · rw [if_pos h3, if_neg (by decide), if_pos (Or.inl h3)]
    by_cases hw : w = 0
    · subst hw; simp
    · simp [hw]
  · by_cases h4 : S 58 (fi f 0) = 4
    · rw [if_neg h3, if_pos h4, if_neg (by decide), if_pos (Or.inr h4)]
      by_cases hw : w = 0
      · subst hw; simp
      · simp [hw]
    · have hn : ¬ (S 58 (fi f 0) = 3 ∨ S 58 (fi f 0) = 4) := fun h => h.elim h3 h4
      rw [if_neg h3, if_neg h4, if_pos rfl, if_neg hn]
      by_cases hv : v = 0
      · subst hv; simp
      · simp [hv]
theorem m_oth (w : Int32) (S : Mem) : f_X12_otherWay w S = some (othW w, S) := by
  unfold f_X12_otherWay othW
  split <;> rfl
theorem m_on (c w : Int32) (S : Mem) : f_X12_on c w S = some (onW c w, S) := by
  unfold f_X12_on onW
  repeat' split
  all_goals rfl
def b1 (b : Bool) : Int32 := if b = true then 1 else 0
theorem b1_eq (b : Bool) : (b1 b = 0) = (b = false) := by cases b <;> simp [b1]
theorem m_bears {f : Nat} {S : Mem} (hf : f < 8) : f_X12_bears 57 (nI f) S = some (b1 (bearsK (S 58 (fi f 5)) (S 58 (fi f 0))), S) := by
  unfold f_X12_bears f_X12_bears_j31 bearsK b1
  rw [if_pos tg57, m_its0 hf, bnd2_s, m_its0 hf, bnd2_s, m_its5 hf, bnd2_s]
  by_cases h4 : S 58 (fi f 0) = 4
  · simp [h4]
  · by_cases h5 : S 58 (fi f 0) = 5
    · by_cases h20 : S 58 (fi f 5) ≤ 20
      · have := Int32.not_lt.mpr h20
        simp [h5, h20, this]
      · have := Int32.not_le.mp h20
        simp [h5, h20, this]
    · simp [h4, h5]
theorem m_goesL {f : Nat} (hf : f < 8) : ∀ (k : Nat) (S : Mem) (m : Nat), k < 100 → k + 1 < m → itr m i_X12_goesHome_L19 (57, nI f, nI k, S) = some (wrow S 58 (mvN k (S 58) f)) := by
  intro k
  induction k with
  | zero =>
    intro S m _ hm
    cases m with
    | zero => omega
    | succ m =>
      show bnd (f_X12_goesHome_L19 57 (nI f) (nI 0) S) _ = _
      unfold f_X12_goesHome_L19
      rw [if_pos (show nI 0 ≤ 0 by decide), bnd_s]
      show some S = some (wrow S 58 (S 58))
      rw [wrow_id]
  | succ k ih =>
    intro S m hk hm
    cases m with
    | zero => omega
    | succ m =>
      show bnd (f_X12_goesHome_L19 57 (nI f) (nI (k + 1)) S) _ = _
      unfold f_X12_goesHome_L19
      rw [if_neg (nI_nle (by omega) (by omega))]
      simp only [tg57, if_true, m_its4 hf, m_its2 hf, m_its6 hf, bnd2_s, m_way hf, i58_3, ix_3, m_oth, m_bears hf, b1_eq, m_at, m_least, f_X12_goesHome_j125, f_X12_goesHome_j105, (s_4 hf).1, (s_4 hf).2, (s_6 hf).1, (s_6 hf).2, m_on]
      unfold mvN
      by_cases h1 : S 58 (fi f 4) = S 58 (fi f 2)
      · rw [if_pos h1, if_pos h1, bnd_s]
        show some S = _
        rw [wrow_id]
      · rw [if_neg h1, if_neg h1]
        by_cases h2 : S 58 3 = othW (wayK (S 58 (fi f 0)) (S 58 (fi f 2)) (S 58 (fi f 4)))
        · rw [if_pos h2]
          by_cases h3 : bearsK (S 58 (fi f 5)) (S 58 (fi f 0)) = false
          · rw [if_pos h3, if_pos ⟨h2, h3⟩, bnd_s]
            cases m with
            | zero => omega
            | succ m =>
              show itr (m + 1) i_X12_goesHome_L19 (57, nI f, 0, wr S 58 (fi f 6) (mnI 9999 (S 58 (fi f 6) + 1))) = _
              show bnd (f_X12_goesHome_L19 57 (nI f) 0 (wr S 58 (fi f 6) (mnI 9999 (S 58 (fi f 6) + 1)))) _ = _
              unfold f_X12_goesHome_L19
              rw [if_pos (show (0 : Int32) ≤ 0 by decide), bnd_s]
              rfl
          · rw [if_neg h3, if_neg (fun h => h3 h.2), bnd_s]
            show itr m i_X12_goesHome_L19 (57, nI f, nI (k + 1) + (-1), wr S 58 (fi f 4) _) = _
            rw [pk_m1, ih _ m (by omega) (by omega), wr_row, wrow_s, wrow_w]
        · rw [if_neg h2, if_neg (fun h => h2 h.1), bnd_s]
          show itr m i_X12_goesHome_L19 (57, nI f, nI (k + 1) + (-1), wr S 58 (fi f 4) _) = _
          rw [pk_m1, ih _ m (by omega) (by omega), wr_row, wrow_s, wrow_w]
theorem stepsK_le (h w k : Int32) : stepsK h w k ≤ 3 := by
  unfold stepsK
  repeat' split
  all_goals omega
theorem m_goesHome {f : Nat} {S : Mem} (hf : f < 8) : f_X12_goesHome 57 (nI f) S = some ((), wrow S 58 (move1 (S 58) f)) := by
  unfold f_X12_goesHome f_X12_goesHome_j18 move1
  rw [if_pos tg57, m_its5 hf, bnd2_s]
  by_cases h : S 58 (fi f 5) ≤ 0
  · rw [if_pos h, if_pos h, show (0 : Int32) = nI 0 by decide, m_goesL hf 0 S 300 (by omega) (by omega), bnd_s]
    rfl
  · rw [if_neg h, if_neg h, m_steps hf, bnd2_s, m_goesL hf _ S 300 (by have := stepsK_le (S 58 1) (S 58 (fi f 6)) (S 58 (fi f 0)); omega) (by have := stepsK_le (S 58 1) (S 58 (fi f 6)) (S 58 (fi f 0)); omega), bnd_s]
theorem i67 {a : Nat} (h : a < 8) : iab 67 (nI a) = true := iab_row (k := 8) rfl (by omega) h
theorem m_cross {a b : Nat} {S : Mem} (ha : a < 8) (hb : b < 8) (hab : a ≠ b) : f_X12_cross 57 (nI a) (nI b) S = some ((), wrow S 58 (cross1 (S 67) (S 58) a b)) := by
  unfold f_X12_cross f_X12_cross_j67 f_X12_cross_j63 f_X12_cross_j68 cross1
  simp only [tg57, if_true, m_its4 ha, m_its4 hb, m_its5 ha, m_its5 hb, bnd2_s, i67 ha, i67 hb, ix_nI (show a < 2 ^ 31 by omega), ix_nI (show b < 2 ^ 31 by omega), m_at, (s_5 ha).1, (s_5 ha).2, (s_5 hb).1, (s_5 hb).2, wr_row, wrow_s, wrow_w, i58_4, ix_4, m_least]
  rw [upd_n (show fi b 5 ≠ fi a 5 by unfold fi; omega)]
  have e4 : ∀ (v w : Int32), upd (upd (S 58) (fi a 5) v) (fi b 5) w 4 = S 58 4 := fun v w => by rw [upd_n (by unfold fi; omega), upd_n (by unfold fi; omega)]
  rw [e4]
  unfold crossQ
  by_cases h1 : S 58 (fi a 4) = S 58 (fi b 4)
  · by_cases h2 : S 58 (fi a 5) ≤ 0
    · simp [h1, h2, wrow_id]
    · by_cases h3 : S 58 (fi b 5) ≤ 0
      · simp [h1, h2, h3, wrow_id]
      · by_cases h4 : S 58 (fi b 4) = S 67 a
        · by_cases h5 : S 67 a = S 67 b
          · simp [h1, h2, h3, h4, h5, wrow_id]
          · simp [h1, h2, h3, h4, h5]
        · simp [h1, h2, h3, h4]
  · simp [h1, wrow_id]
theorem wood_ok : ∀ c, c < 25 → ix (5 + nI c) = 5 + c ∧ iab 58 (5 + nI c) = true := by decide +kernel
theorem m_settles {f : Nat} {S : Mem} (hf : f < 8) (hh : ∃ c, c < 25 ∧ S 58 (fi f 2) = nI c) : f_X12_settles 57 (nI f) S = some ((), wrow S 58 (settle1 (S 58) f)) := by
  obtain ⟨c, hc, e⟩ := hh
  obtain ⟨w1, w2⟩ := wood_ok c hc
  unfold f_X12_settles settle1
  simp only [tg57, if_true, m_its4 hf, m_its2 hf, m_its5 hf, m_its1 hf, bnd2_s, m_at, (s_5 hf).1, (s_5 hf).2, (s_4 hf).1, (s_4 hf).2, e, w1, w2, ix_nI (show c < 2 ^ 31 by omega), wr_row, wrow_s, wrow_w, m_least]
  by_cases h : S 58 (fi f 4) = nI c
  · rw [if_pos h, if_pos h, upd_n (by unfold fi; omega), upd_n (by unfold fi; omega)]
  · rw [if_neg h, if_neg h, wrow_id]

def st (S : Mem) (b g : Row) : Mem := wrow (wrow S 67 b) 58 g
theorem st_58 (S : Mem) (b g : Row) : st S b g 58 = g := wrow_s _ _ _
theorem st_67 (S : Mem) (b g : Row) : st S b g 67 = b := by
  unfold st
  rw [wrow_n _ (by decide), wrow_s]
theorem st_w58 (S : Mem) (b g g2 : Row) : wrow (st S b g) 58 g2 = st S b g2 := wrow_w _ _ _ _
theorem st_w67 (S : Mem) (b g b2 : Row) : wrow (st S b g) 67 b2 = st S b2 g := by
  unfold st
  rw [wrow_c _ _ (by decide : (58 : Nat) ≠ 67), wrow_w]
theorem st_n {S : Mem} {b g : Row} {a : Nat} (h1 : a ≠ 58) (h2 : a ≠ 67) : st S b g a = S a := by
  unfold st
  rw [wrow_n _ h1, wrow_n _ h2]
theorem st_id (S : Mem) : st S (S 67) (S 58) = S := by
  unfold st
  rw [wrow_id, wrow_id]
def bgk (b : Row) (g : Row) : Nat → Row
  | 0 => b
  | k + 1 => upd (bgk b g k) k (g (fi k 4))
theorem bgk_get (b g : Row) : ∀ (k f : Nat), f < k → bgk b g k f = g (fi f 4)
  | k + 1, f, h => by
    unfold bgk
    by_cases e : f = k
    · subst e; rw [upd_s]
    · rw [upd_n e]; exact bgk_get b g k f (by omega)
theorem fol_congr {F G : Row → Nat → Row} {n : Nat} (h : ∀ k, k < n → ∀ g, F g k = G g k) : ∀ k, k ≤ n → ∀ g, fol F k g = fol G k g
  | 0, _, _ => rfl
  | k + 1, hk, g => by
    show F (fol F k g) k = G (fol G k g) k
    rw [fol_congr h k (by omega) g, h k (by omega)]
theorem cross1_bg {bg bg2 : Nat → Int32} {g : Row} {a b : Nat} (ha : bg a = bg2 a) (hb : bg b = bg2 b) : cross1 bg g a b = cross1 bg2 g a b := by
  unfold cross1 crossQ
  rw [ha, hb]
theorem m_hour1 {n : Nat} {S : Mem} (h : WF n (S 58)) (m : Nat) (hm : n < m) : itr m i_X12_hour_L2 (57, 0, S) = some (57, st S (bgk (S 67) (S 58) n) (fol burn1 n (S 58))) := by
  have hn := h.1
  have := itr_run (f := i_X12_hour_L2) (fun k => (57, nI k, st S (bgk (S 67) (S 58) k) (fol burn1 k (S 58)))) n (r := (57, st S (bgk (S 67) (S 58) n) (fol burn1 n (S 58)))) (fun k hk => ?_) ?_ m hm
  · show itr m i_X12_hour_L2 (57, nI 0, S) = _
    rw [← this]
    show itr m i_X12_hour_L2 (57, nI 0, S) = itr m i_X12_hour_L2 (57, nI 0, st S (S 67) (S 58))
    rw [st_id]
  · have hw := (WF_burnA h (by omega : k ≤ n)).2.1
    show f_X12_hour_L2 57 (nI k) (st S _ _) = _
    unfold f_X12_hour_L2
    rw [if_pos tg57, if_pos i58_0, ix_0, st_58, hw, if_neg (nI_ge hk (by omega)), m_its4 (by omega), bnd2_s, if_pos (i67 (by omega)), ix_nI (by omega)]
    simp only [wr_row, st_67, st_w67, m_burnsOn (show k < 8 by omega), bnd2_s, st_58, st_w58]
    rw [nI_1, burnA_at (n := n)]
    rfl
  · have hw := (WF_burnA h (Nat.le_refl n)).2.1
    show f_X12_hour_L2 57 (nI n) (st S _ _) = _
    unfold f_X12_hour_L2
    rw [if_pos tg57, if_pos i58_0, ix_0, st_58, hw, if_pos (nI_le (Nat.le_refl _) (by omega))]
theorem m_hour2 {n : Nat} {S : Mem} (h : WF n (S 58)) (m : Nat) (hm : n < m) : itr m i_X12_hour_L37 (57, 0, S) = some (57, wrow S 58 (fol move1 n (S 58))) := by
  have hn := h.1
  have := itr_run (f := i_X12_hour_L37) (fun k => (57, nI k, wrow S 58 (fol move1 k (S 58)))) n (r := (57, wrow S 58 (fol move1 n (S 58)))) (fun k hk => ?_) ?_ m hm
  · rw [← this]
    show itr m i_X12_hour_L37 (57, nI 0, S) = itr m i_X12_hour_L37 (57, nI 0, wrow S 58 (S 58))
    rw [wrow_id]
  · have hw := (WF_moveA h (by omega : k ≤ n)).2.1
    show f_X12_hour_L37 57 (nI k) (wrow S 58 _) = _
    unfold f_X12_hour_L37
    rw [if_pos tg57, if_pos i58_0, ix_0, wrow_s, hw, if_neg (nI_ge hk (by omega)), m_goesHome (by omega), bnd2_s, nI_1, wrow_s, wrow_w]
    rfl
  · have hw := (WF_moveA h (Nat.le_refl n)).2.1
    show f_X12_hour_L37 57 (nI n) (wrow S 58 _) = _
    unfold f_X12_hour_L37
    rw [if_pos tg57, if_pos i58_0, ix_0, wrow_s, hw, if_pos (nI_le (Nat.le_refl _) (by omega))]
theorem m_hour4 {n : Nat} {S : Mem} (h : WF n (S 58)) (m : Nat) (hm : n < m) : itr m i_X12_hour_L104 (57, 0, S) = some (57, wrow S 58 (fol settle1 n (S 58))) := by
  have hn := h.1
  have := itr_run (f := i_X12_hour_L104) (fun k => (57, nI k, wrow S 58 (fol settle1 k (S 58)))) n (r := (57, wrow S 58 (fol settle1 n (S 58)))) (fun k hk => ?_) ?_ m hm
  · rw [← this]
    show itr m i_X12_hour_L104 (57, nI 0, S) = itr m i_X12_hour_L104 (57, nI 0, wrow S 58 (S 58))
    rw [wrow_id]
  · have hw := WF_settleA h (by omega : k ≤ n)
    show f_X12_hour_L104 57 (nI k) (wrow S 58 _) = _
    unfold f_X12_hour_L104
    rw [if_pos tg57, if_pos i58_0, ix_0, wrow_s, hw.2.1, if_neg (nI_ge hk (by omega)), m_settles (by omega) (by rw [wrow_s]; exact (hw.2.2 k hk).2.2.1), bnd2_s, nI_1, wrow_s, wrow_w]
    rfl
  · have hw := (WF_settleA h (Nat.le_refl n)).2.1
    show f_X12_hour_L104 57 (nI n) (wrow S 58 _) = _
    unfold f_X12_hour_L104
    rw [if_pos tg57, if_pos i58_0, ix_0, wrow_s, hw, if_pos (nI_le (Nat.le_refl _) (by omega))]
theorem m_hour3i {n a : Nat} {S : Mem} (h : WF n (S 58)) (ha : a < n) (m : Nat) (hm : n < m) : itr m i_X12_hour_L74 (57, nI a, nI (a + 1), S) = some (57, nI a, wrow S 58 (fol (fun g j => cross1 (S 67) g a (a + 1 + j)) (n - (a + 1)) (S 58))) := by
  have hn := h.1
  have := itr_run (f := i_X12_hour_L74) (fun k => (57, nI a, nI (a + 1 + k), wrow S 58 (fol (fun g j => cross1 (S 67) g a (a + 1 + j)) k (S 58)))) (n - (a + 1)) (r := (57, nI a, wrow S 58 (fol (fun g j => cross1 (S 67) g a (a + 1 + j)) (n - (a + 1)) (S 58)))) (fun k hk => ?_) ?_ m (by omega)
  · rw [← this]
    show itr m i_X12_hour_L74 (57, nI a, nI (a + 1), S) = itr m i_X12_hour_L74 (57, nI a, nI (a + 1), wrow S 58 (S 58))
    rw [wrow_id]
  · have hw := WF_crossB (bg := S 67) h ha (by omega : k ≤ n - (a + 1))
    show f_X12_hour_L74 57 (nI a) (nI (a + 1 + k)) (wrow S 58 _) = _
    unfold f_X12_hour_L74
    rw [if_pos tg57, if_pos i58_0, ix_0, wrow_s, hw.2.1, if_neg (nI_ge (by omega) (by omega)), m_cross (by omega) (by omega) (by omega), bnd2_s, nI_1, wrow_s, wrow_w, wrow_n _ (by decide)]
    rfl
  · have hw := WF_crossB (bg := S 67) h ha (Nat.le_refl _)
    show f_X12_hour_L74 57 (nI a) (nI (a + 1 + (n - (a + 1)))) (wrow S 58 _) = _
    unfold f_X12_hour_L74
    rw [if_pos tg57, if_pos i58_0, ix_0, wrow_s, hw.2.1, if_pos (nI_le (by omega) (by omega))]
theorem m_hour3 {n : Nat} {S : Mem} (h : WF n (S 58)) (m : Nat) (hm : n < m) : itr m i_X12_hour_L60 (57, 0, S) = some (57, wrow S 58 (crossA (S 67) n (S 58))) := by
  have hn := h.1
  have := itr_run (f := i_X12_hour_L60) (fun k => (57, nI k, wrow S 58 (fol (fun g a => fol (fun g j => cross1 (S 67) g a (a + 1 + j)) (n - (a + 1)) g) k (S 58)))) n (r := (57, wrow S 58 (crossA (S 67) n (S 58)))) (fun k hk => ?_) ?_ m hm
  · rw [← this]
    show itr m i_X12_hour_L60 (57, nI 0, S) = itr m i_X12_hour_L60 (57, nI 0, wrow S 58 (S 58))
    rw [wrow_id]
  · have hw := WF_crossA (bg := S 67) h (by omega : k ≤ n)
    show f_X12_hour_L60 57 (nI k) (wrow S 58 _) = _
    unfold f_X12_hour_L60
    rw [if_pos tg57, if_pos i58_0, ix_0, wrow_s, hw.2.1, if_neg (nI_ge hk (by omega)), nI_1, m_hour3i (by rw [wrow_s]; exact hw) hk 300 (by omega), bnd_s]
    show some (Sum.inl (57, nI k + 1, _)) = _
    rw [nI_1, wrow_s, wrow_w, wrow_n _ (by decide)]
    rfl
  · have hw := WF_crossA (bg := S 67) h (Nat.le_refl n)
    show f_X12_hour_L60 57 (nI n) (wrow S 58 _) = _
    unfold f_X12_hour_L60
    rw [if_pos tg57, if_pos i58_0, ix_0, wrow_s, hw.2.1, if_pos (nI_le (Nat.le_refl _) (by omega))]
    rfl
theorem crossA_bg {bg bg2 : Nat → Int32} {n : Nat} {g : Row} (h : ∀ f, f < n → bg f = bg2 f) : crossA bg n g = crossA bg2 n g := by
  unfold crossA
  refine fol_congr (n := n) (fun a ha g => ?_) n (Nat.le_refl _) g
  exact fol_congr (n := n - (a + 1)) (fun j hj g => cross1_bg (h a ha) (h _ (by omega))) _ (Nat.le_refl _) g
theorem m_hour {n : Nat} {S : Mem} (h : WF n (S 58)) : ∃ b, f_X12_hour 57 S = some ((), st S b (hourR n (S 58))) := by
  have hn := h.1
  refine ⟨bgk (S 67) (S 58) n, ?_⟩
  unfold f_X12_hour
  rw [m_hour1 h 300 (by omega), bnd_s]
  simp only []
  have h1 := WF_burnA h (Nat.le_refl n)
  rw [m_hour2 (n := n) (by rw [st_58]; exact h1) 300 (by omega), bnd_s]
  simp only [st_58, st_w58]
  have h2 := WF_moveA h1 (Nat.le_refl n)
  rw [m_hour3 (n := n) (by rw [st_58]; exact h2) 300 (by omega), bnd_s]
  simp only [st_58, st_w58, st_67]
  have h3 : WF n (crossA (bgk (S 67) (S 58) n) n (fol move1 n (fol burn1 n (S 58)))) := WF_crossA h2 (Nat.le_refl n)
  rw [m_hour4 (n := n) (by rw [st_58]; exact h3) 300 (by omega), bnd_s]
  simp only [st_58, st_w58, tg57, if_true, i58_1, ix_1, wr_row]
  unfold hourR
  rw [crossA_bg (bg2 := fun f => (S 58) (fi f 4)) (fun f hf => bgk_get _ _ _ _ hf)]
theorem m_goesA {n : Nat} {S : Mem} (h : WF n (S 58)) (k : Nat) (hk : k ≤ 250) : ∃ b, f_X12_goes 57 (nI k) S = some ((), st S b (hoursR n k (S 58))) := by
  unfold f_X12_goes
  have := itr_for (f := i_X12_goes_L2) (fun j s => ∃ b, s = (57, nI k, nI j, st S b (hoursR n j (S 58)))) (fun e => ∃ b, e = st S b (hoursR n k (S 58))) k (fun j hj s hs => ?_) (fun s hs => ?_) (s := (57, nI k, 0, S)) ⟨S 67, by show _ = (57, nI k, nI 0, st S (S 67) (S 58)); rw [st_id]; rfl⟩ 300 (by omega)
  · obtain ⟨e, he, b, rfl⟩ := this
    exact ⟨b, by rw [he]; rfl⟩
  · obtain ⟨b, rfl⟩ := hs
    obtain ⟨b2, e2⟩ := m_hour (S := st S b (hoursR n j (S 58))) (n := n) (by rw [st_58]; exact WF_hoursR h j)
    show okk (f_X12_goes_L2 57 (nI k) (nI j) _) _
    unfold f_X12_goes_L2
    rw [if_neg (nI_ge hj (by omega)), if_pos tg57, e2, bnd2_s, nI_1]
    refine okI ⟨_, rfl, b2, ?_⟩
    rw [st_58]
    unfold st
    rw [wrow_c _ _ (by decide : (58 : Nat) ≠ 67), wrow_w, wrow_w]
    rfl
  · obtain ⟨b, rfl⟩ := hs
    show okk (f_X12_goes_L2 57 (nI k) (nI k) _) _
    unfold f_X12_goes_L2
    rw [if_pos (nI_le (Nat.le_refl _) (by omega))]
    exact okI ⟨_, rfl, b, rfl⟩
