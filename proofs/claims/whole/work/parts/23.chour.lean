/-! the class's hour: a town t of the class tells the row g -/
def TT (t : Nat) : Prop := t = 9 ∨ t = 21 ∨ t = 33
def fa (t f : Nat) : Nat := t + 3 + f
def Rl (S : Mem) (t n : Nat) (g : Row) : Prop := S t 4 = nI n ∧ S t 5 = g 3 ∧ S t 6 = g 4 ∧ S t 7 = g 1 ∧ S t 8 = g 2 ∧ (∀ c, c < 25 → S (t + 1) c = g (5 + c)) ∧ (∀ f, f < n → ∀ w, w < 7 → S (fa t f) w = g (fi f w)) ∧ ∀ k, k < 10 → S (t + 11) k = g (86 + k)
def Fr (t : Nat) (S S2 : Mem) : Prop := ∀ a, a < t ∨ t + 12 ≤ a → S2 a = S a
theorem Fr.rf {t : Nat} {S : Mem} : Fr t S S := fun _ _ => rfl
theorem Fr.tr {t : Nat} {S S2 S3 : Mem} (h : Fr t S S2) (h2 : Fr t S2 S3) : Fr t S S3 := fun a ha => (h2 a ha).trans (h a ha)
theorem wr_s (S : Mem) (a k : Nat) (v : Int32) : wr S a k v a = upd (S a) k v := if_pos rfl
theorem wr_n {S : Mem} {a b k : Nat} {v : Int32} (h : b ≠ a) : wr S a k v b = S b := if_neg h
theorem Fr.wr {t : Nat} {S S2 : Mem} {a k : Nat} {v : Int32} (h : Fr t S S2) (h1 : t ≤ a) (h2 : a < t + 12) : Fr t S (wr S2 a k v) := fun b hb => by
  rw [wr_n (by omega)]
  exact h b hb
theorem tgT {t : Nat} (h : TT t) : tg t = 10 ∧ tg (t + 1) = 1025 ∧ tg (t + 2) = 3008 ∧ tg (t + 11) = 1010 ∧ ∀ f, f < 8 → tg (fa t f) = 1 := by
  rcases h with rfl | rfl | rfl <;> decide +kernel
theorem rab_8 : ∀ f, f < 8 → (decide ((3008 : Nat) = 3008) && decide ((0 : Int) ≤ (nI f).toInt) && decide ((nI f).toInt < ((3008 : Nat) : Int) - 3000)) = true := by decide +kernel
theorem rabT {t f : Nat} (h : TT t) (hf : f < 8) : rab 3008 (t + 2) (nI f) = true := by
  unfold rab
  rw [(tgT h).2.2.1]
  exact rab_8 f hf
theorem eadT {t f : Nat} (hf : f < 8) : eadr 3008 (t + 2) (ix (nI f)) = fa t f := by
  rw [ix_nI (by omega)]
  unfold eadr fa
  rw [if_neg (by decide)]
theorem Rl.fire {S : Mem} {t n f w : Nat} {g : Row} {v : Int32} (h : Rl S t n g) (hn : n ≤ 8) (hf : f < n) (hw : w < 7) : Rl (wr S (fa t f) w v) t n (upd g (fi f w) v) := by
  obtain ⟨h1, h2, h3, h4, h5, h6, h7, h8⟩ := h
  have e : t ≠ fa t f := by unfold fa; omega
  refine ⟨?_, ?_, ?_, ?_, ?_, fun c hc => ?_, fun j hj x hx => ?_, fun k hk => ?_⟩
  · rw [wr_n e]; exact h1
  · rw [wr_n e, upd_n (by unfold fi; omega)]; exact h2
  · rw [wr_n e, upd_n (by unfold fi; omega)]; exact h3
  · rw [wr_n e, upd_n (by unfold fi; omega)]; exact h4
  · rw [wr_n e, upd_n (by unfold fi; omega)]; exact h5
  · rw [wr_n (by unfold fa; omega), upd_n (by unfold fi; omega)]; exact h6 c hc
  · by_cases e1 : j = f
    · subst e1
      rw [wr_s]
      by_cases e2 : x = w
      · subst e2; rw [upd_s, upd_s]
      · rw [upd_n e2, upd_n (by unfold fi; omega)]; exact h7 j hj x hx
    · rw [wr_n (by unfold fa; omega), upd_n (by unfold fi; omega)]; exact h7 j hj x hx
  · rw [wr_n (by unfold fa; omega), upd_n (by unfold fi; omega)]; exact h8 k hk
theorem Rl.began {S : Mem} {t n f : Nat} {g : Row} {v : Int32} (h : Rl S t n g) (hf : f < 8) : Rl (wr S (fa t f) 7 v) t n g := by
  obtain ⟨h1, h2, h3, h4, h5, h6, h7, h8⟩ := h
  have e : t ≠ fa t f := by unfold fa; omega
  refine ⟨?_, ?_, ?_, ?_, ?_, fun c hc => ?_, fun j hj x hx => ?_, fun k hk => ?_⟩
  · rw [wr_n e]; exact h1
  · rw [wr_n e]; exact h2
  · rw [wr_n e]; exact h3
  · rw [wr_n e]; exact h4
  · rw [wr_n e]; exact h5
  · rw [wr_n (by unfold fa; omega)]; exact h6 c hc
  · by_cases e1 : j = f
    · subst e1
      rw [wr_s, upd_n (by omega)]; exact h7 j hj x hx
    · rw [wr_n (by unfold fa; omega)]; exact h7 j hj x hx
  · rw [wr_n (by unfold fa; omega)]; exact h8 k hk
theorem Rl.wood {S : Mem} {t n c : Nat} {g : Row} {v : Int32} (h : Rl S t n g) (hc : c < 25) (hn : n ≤ 8) : Rl (wr S (t + 1) c v) t n (upd g (5 + c) v) := by
  obtain ⟨h1, h2, h3, h4, h5, h6, h7, h8⟩ := h
  have e : t ≠ t + 1 := by omega
  refine ⟨?_, ?_, ?_, ?_, ?_, fun j hj => ?_, fun j hj x hx => ?_, fun k hk => ?_⟩
  · rw [wr_n e]; exact h1
  · rw [wr_n e, upd_n (by omega)]; exact h2
  · rw [wr_n e, upd_n (by omega)]; exact h3
  · rw [wr_n e, upd_n (by omega)]; exact h4
  · rw [wr_n e, upd_n (by omega)]; exact h5
  · rw [wr_s]
    by_cases e2 : j = c
    · subst e2; rw [upd_s, upd_s]
    · rw [upd_n e2, upd_n (by omega)]; exact h6 j hj
  · rw [wr_n (by unfold fa; omega), upd_n (by unfold fi; omega)]; exact h7 j hj x hx
  · rw [wr_n (by omega), upd_n (by omega)]; exact h8 k hk
theorem Rl.self {S : Mem} {t n k j : Nat} {g : Row} {v : Int32} (h : Rl S t n g) (hkj : k = 5 ∧ j = 3 ∨ k = 6 ∧ j = 4 ∨ k = 7 ∧ j = 1 ∨ k = 8 ∧ j = 2) : Rl (wr S t k v) t n (upd g j v) := by
  obtain ⟨h1, h2, h3, h4, h5, h6, h7, h8⟩ := h
  refine ⟨?_, ?_, ?_, ?_, ?_, fun c hc => ?_, fun f hf x hx => ?_, fun i hi => ?_⟩
  · rw [wr_s, upd_n (by omega)]; exact h1
  · rw [wr_s]
    rcases hkj with ⟨rfl, rfl⟩ | ⟨rfl, rfl⟩ | ⟨rfl, rfl⟩ | ⟨rfl, rfl⟩ <;> simp [upd, h2]
  · rw [wr_s]
    rcases hkj with ⟨rfl, rfl⟩ | ⟨rfl, rfl⟩ | ⟨rfl, rfl⟩ | ⟨rfl, rfl⟩ <;> simp [upd, h3]
  · rw [wr_s]
    rcases hkj with ⟨rfl, rfl⟩ | ⟨rfl, rfl⟩ | ⟨rfl, rfl⟩ | ⟨rfl, rfl⟩ <;> simp [upd, h4]
  · rw [wr_s]
    rcases hkj with ⟨rfl, rfl⟩ | ⟨rfl, rfl⟩ | ⟨rfl, rfl⟩ | ⟨rfl, rfl⟩ <;> simp [upd, h5]
  · rw [wr_n (by omega), upd_n (by omega)]; exact h6 c hc
  · rw [wr_n (by unfold fa; omega), upd_n (by unfold fi; omega)]; exact h7 f hf x hx
  · rw [wr_n (by omega), upd_n (by omega)]; exact h8 i hi
theorem Rl.fr {S S2 : Mem} {t t2 n : Nat} {g : Row} (h : Rl S t n g) (hn : n ≤ 8) (hF : Fr t2 S S2) (hd : t + 12 ≤ t2 ∨ t2 + 12 ≤ t) : Rl S2 t n g := by
  obtain ⟨h1, h2, h3, h4, h5, h6, h7, h8⟩ := h
  have e : S2 t = S t := hF t (by omega)
  refine ⟨by rw [e]; exact h1, by rw [e]; exact h2, by rw [e]; exact h3, by rw [e]; exact h4, by rw [e]; exact h5, fun c hc => ?_, fun f hf x hx => ?_, fun i hi => ?_⟩
  · rw [hF _ (by omega)]; exact h6 c hc
  · rw [hF _ (by unfold fa; omega)]; exact h7 f hf x hx
  · rw [hF _ (by omega)]; exact h8 i hi
theorem mn_ab (a b : Int32) : (if b < a then b else a) = mnI a b := by
  unfold mnI
  by_cases h : b < a
  · rw [if_pos h, if_pos (Int32.le_of_lt h)]
  · rw [if_neg h]
    by_cases h2 : b ≤ a
    · rw [if_pos h2]
      exact Int32.le_antisymm (Int32.not_lt.mp h) h2
    · rw [if_neg h2]
theorem mn_ba (a b : Int32) : (if b < a then b else a) = mnI b a := by
  unfold mnI
  by_cases h : b < a
  · rw [if_pos h, if_neg (Int32.not_le.mpr h)]
  · rw [if_neg h, if_pos (Int32.not_lt.mp h)]
theorem c_min (a b : Int32) (S : Mem) : f_J9_min_7cf53 a b S = some (mnI a b, S) := by
  unfold f_J9_min_7cf53
  rw [mn_ab]
theorem c_min2 (a b : Int32) (S : Mem) : f_J9_min_7cf53 a b S = some (mnI b a, S) := by
  unfold f_J9_min_7cf53
  rw [mn_ba]
theorem tgK : tg 2 = 4 ∧ tg 3 = 9 ∧ tg 4 = 6 ∧ tg 5 = 5 ∧ tg 6 = 3 ∧ tg 7 = 2 ∧ tg 8 = 0 := by decide +kernel
theorem k_cases {k : Nat} (h : k < 7) : k = 0 ∨ k = 1 ∨ k = 2 ∨ k = 3 ∨ k = 4 ∨ k = 5 ∨ k = 6 := by omega
theorem d_burns {k : Nat} {hr : Int32} {S : Mem} (hk : k < 7) : dv_burns (2 + k) hr S = some (burnsK hr (nI k), S) := by
  obtain ⟨t0, t1, t2, t3, t4, t5, t6⟩ := tgK
  unfold dv_burns f_X4_burns f_X9_burns f_X6_burns f_X5_burns f_X0_burns burnsK
  rcases k_cases hk with rfl | rfl | rfl | rfl | rfl | rfl | rfl
  · simp only [t0]; rfl
  · simp only [t1]; rfl
  · simp only [t2]
    show some ((2 : Int32) / 2, S) = _
    rw [show (2 : Int32) / 2 = 1 by decide]
    rfl
  · simp only [t3]
    by_cases hh : rmI hr 2 = 0
    · rw [if_pos hh]; simp [hh, f_X6_burns, f_X4_burns, bnd2_s, t3]; decide
    · rw [if_neg hh]; simp [hh, f_X6_burns, f_X4_burns, bnd2_s, t3]; decide
  · simp only [t4]
    by_cases hh : rmI hr 2 = 0
    · rw [if_pos hh]; simp [hh, f_X6_burns, f_X4_burns, bnd2_s, t4]; decide
    · rw [if_neg hh]; simp [hh, f_X6_burns, f_X4_burns, bnd2_s, t4]; decide
  · simp only [t5]; rfl
  · simp only [t6]; rfl
theorem d_steps {k : Nat} {hr wt : Int32} {S : Mem} (hk : k < 7) : dv_steps (2 + k) hr wt S = some (nI (stepsK hr wt (nI k)), S) := by
  obtain ⟨t0, t1, t2, t3, t4, t5, t6⟩ := tgK
  unfold dv_steps f_X4_steps f_X9_steps f_X6_steps f_X5_steps f_X3_steps f_X0_steps stepsK
  rcases k_cases hk with rfl | rfl | rfl | rfl | rfl | rfl | rfl
  · simp only [t0]; rfl
  · simp only [t1]; rfl
  · simp only [t2]
    by_cases hh : rmI hr 3 = 0
    · rw [if_pos hh]; simp [hh, f_X4_steps, bnd2_s, t2]; rfl
    · rw [if_neg hh]; simp [hh]; rfl
  · simp only [t3]; rfl
  · simp only [t4]
    by_cases hh : wt < 5
    · rw [if_pos hh]; simp [hh, f_X5_steps, bnd2_s, t4]; rfl
    · rw [if_neg hh]; simp [hh, f_X5_steps, bnd2_s, t4]; rfl
  · simp only [t5]; rfl
  · simp only [t6]; rfl
theorem d_bears {k : Nat} {mu : Int32} {S : Mem} (hk : k < 7) : dv_bears (2 + k) mu S = some (b1 (bearsK mu (nI k)), S) := by
  obtain ⟨t0, t1, t2, t3, t4, t5, t6⟩ := tgK
  unfold dv_bears f_X4_bears f_X3_bears f_X2_bears bearsK b1
  rcases k_cases hk with rfl | rfl | rfl | rfl | rfl | rfl | rfl
  · simp only [t0]; rfl
  · simp only [t1]; rfl
  · simp only [t2]; rfl
  · simp only [t3]; rfl
  · simp only [t4]; rfl
  · simp only [t5]
    by_cases hh : mu ≤ 20
    · have h2 := Int32.not_lt.mpr hh
      simp [hh, h2]; decide
    · have h2 := Int32.not_le.mp hh
      simp [hh, h2]; decide
  · simp only [t6]; rfl
def sdK (k : Int32) : Int32 := if k = 3 ∨ k = 4 then 1 else 0
theorem d_side {k : Nat} {S : Mem} (hk : k < 7) : dv_goesSidewaysFirst (2 + k) S = some (sdK (nI k), S) := by
  obtain ⟨t0, t1, t2, t3, t4, t5, t6⟩ := tgK
  unfold dv_goesSidewaysFirst f_X4_goesSidewaysFirst f_X5_goesSidewaysFirst sdK
  rcases k_cases hk with rfl | rfl | rfl | rfl | rfl | rfl | rfl
  · simp only [t0]; rfl
  · simp only [t1]; rfl
  · simp only [t2]; rfl
  · simp only [t3]; rfl
  · simp only [t4]; rfl
  · simp only [t5]; rfl
  · simp only [t6]; rfl
theorem rabK : ∀ k, k < 7 → rab 3007 1 (nI k) = true := by decide +kernel
theorem c_kindOf {t f k : Nat} {S : Mem} (ht : TT t) (hf : f < 8) (hk : k < 7) (e : S (fa t f) 0 = nI k) : f_X10_kindOf t (fa t f) S = some (2 + k, S) := by
  unfold f_X10_kindOf
  rw [if_pos (tgT ht).1, if_pos ((tgT ht).2.2.2.2 f hf), e, if_pos (rabK k hk), ix_nI (by omega)]
  unfold eadr
  rw [if_neg (by decide)]
theorem c_burn {a : Nat} {m : Int32} {S : Mem} (ha : tg a = 1) : f_X1_burn a m S = some ((), wr (wr S a 3 (S a 3 - mnI m (S a 3))) a 5 (mnI 999 (S a 5 + mnI m (S a 3)))) := by
  unfold f_X1_burn
  rw [if_pos ha, c_min, bnd2_s]
  simp only [c_min2, bnd2_s]
  rw [wr_s, upd_n (by decide)]
theorem c_burnFires {t n : Nat} {S : Mem} {g : Row} (ht : TT t) (hw : WF n g) (hR : Rl S t n g) : okk (f_X10_burnFires t S) (fun x => Rl x.2 t n (fol burn1 n g) ∧ Fr t S x.2) := by
  have hn := hw.1
  unfold f_X10_burnFires
  refine okB ?_
  refine okk_mono (itr_for (f := i_X10_burnFires_L2) (fun k s => ∃ S2, s = (t, nI k, S2) ∧ Rl S2 t n (fol burn1 k g) ∧ Fr t S S2) (fun e => Rl e t n (fol burn1 n g) ∧ Fr t S e) n (fun k hk s hs => ?_) (fun s hs => ?_) ⟨S, rfl, hR, Fr.rf⟩ 300 (by omega)) (fun e he => okI he)
  · obtain ⟨S2, rfl, h2, h3⟩ := hs
    have hwk := WF_burnA hw (by omega : k ≤ n)
    have hk8 : k < 8 := by omega
    show okk (f_X10_burnFires_L2 t (nI k) S2) (fun x => ∃ s2, x = Sum.inl s2 ∧ ∃ S3, s2 = (t, nI (k + 1), S3) ∧ Rl S3 t n (burn1 (fol burn1 k g) k) ∧ Fr t S S3)
    generalize fol burn1 k g = gk at h2 hwk ⊢
    have hF := h2.2.2.2.2.2.2.1 k hk
    obtain ⟨⟨kd, hkd, e0⟩, -⟩ := hwk.2.2 k hk
    unfold f_X10_burnFires_L2 f_X10_burnFires_j55
    rw [if_pos (tgT ht).1, h2.1, if_neg (nI_ge hk (by omega)), if_pos (rabT ht hk8), eadT hk8, if_pos ((tgT ht).2.2.2.2 k hk8), hF 4 (by decide), hF 1 (by decide), hF 2 (by decide), nI_1]
    unfold burn1
    by_cases c1 : gk (fi k 4) = gk (fi k 1)
    · by_cases c2 : gk (fi k 1) = gk (fi k 2)
      · rw [if_pos c1, if_pos c2, if_neg (fun z => z.2 c2)]
        exact okI ⟨_, rfl, _, rfl, h2, h3⟩
      · rw [if_pos c1, if_neg c2, if_pos ⟨c1, c2⟩, c_kindOf ht hk8 hkd ((hF 0 (by decide)).trans e0), bnd2_s, d_burns hkd, bnd2_s, c_burn ((tgT ht).2.2.2.2 k hk8), bnd2_s, h2.2.2.2.1, hF 3 (by decide), hF 5 (by decide), e0]
        refine okI ⟨_, rfl, _, rfl, (h2.fire hn hk (by decide)).fire hn hk (by decide), (h3.wr (by unfold fa; omega) (by unfold fa; omega)).wr (by unfold fa; omega) (by unfold fa; omega)⟩
    · rw [if_neg c1, if_neg (fun z => c1 z.1)]
      exact okI ⟨_, rfl, _, rfl, h2, h3⟩
  · obtain ⟨S2, rfl, h2, h3⟩ := hs
    show okk (f_X10_burnFires_L2 t (nI n) S2) _
    unfold f_X10_burnFires_L2
    rw [if_pos (tgT ht).1, h2.1, if_pos (nI_le (Nat.le_refl _) (by omega))]
    exact okI ⟨_, rfl, h2, h3⟩
