/-! a town becomes another one; a fire is lit; a fire's values -/
theorem cw_ok : ∀ t, t = 9 ∨ t = 21 ∨ t = 33 → ∀ u, u = 9 ∨ u = 21 ∨ u = 33 → cpok (u + 1) 0 (t + 1) 0 25 = true ∧ cpok (u + 11) 0 (t + 11) 0 10 = true := by
  intro t ht u hu
  rcases ht with rfl | rfl | rfl <;> rcases hu with rfl | rfl | rfl <;> decide +kernel
theorem c_fbec {a b : Nat} {S : Mem} (ha : tg a = 1) (hb : tg b = 1) (hab : b ≠ a) : f_X1_become a b S = some ((), wrow S a (fun w => if w < 7 then S b w else S a w)) := by
  unfold f_X1_become
  rw [if_pos hb, if_pos ha]
  simp only [wr_row, wrow_s, wrow_w, wrow_n _ hab]
  congr 3
  funext w
  by_cases h : w < 7
  · rw [if_pos h]
    rcases k7 h with rfl | rfl | rfl | rfl | rfl | rfl | rfl <;> simp [upd]
  · rw [if_neg h, upd_n (by omega), upd_n (by omega), upd_n (by omega), upd_n (by omega), upd_n (by omega), upd_n (by omega), upd_n (by omega)]
theorem c_become {t u n : Nat} {S : Mem} {g : Row} (ht : TT t) (hu : TT u) (htu : t + 12 ≤ u ∨ u + 12 ≤ t) (hn : n ≤ 8) (hR : Rl S u n g) : okk (f_X10_become t u S) (fun x => Rl x.2 t n g ∧ Fr t S x.2) := by
  obtain ⟨r1, r2, r3, r4, r5, r6, r7, r8⟩ := hR
  obtain ⟨k1, k2⟩ := cw_ok t ht u hu
  unfold f_X10_become
  rw [if_pos (tgT hu).1, if_pos (tgT ht).1, if_pos k1, if_pos k2]
  have e0 : ix 0 = 0 := ix_0
  have e25 : ix 25 = 25 := by decide
  have e10 : ix 10 = 10 := by decide
  simp only [e0, e25, e10]
  refine okB ?_
  refine okk_mono (itr_for (f := i_X10_become_L32) (fun k s => ∃ S2, s = (t, u, nI k, S2) ∧ (∀ c, c < 25 → S2 (t + 1) c = g (5 + c)) ∧ (∀ c, c < 10 → S2 (t + 11) c = g (86 + c)) ∧ (∀ f, f < k → ∀ w, w < 7 → S2 (fa t f) w = g (fi f w)) ∧ Fr t S S2) (fun e => ∃ S2, e = (t, u, S2) ∧ (∀ c, c < 25 → S2 (t + 1) c = g (5 + c)) ∧ (∀ c, c < 10 → S2 (t + 11) c = g (86 + c)) ∧ (∀ f, f < n → ∀ w, w < 7 → S2 (fa t f) w = g (fi f w)) ∧ Fr t S S2) n (fun k hk s hs => ?_) (fun s hs => ?_) ⟨_, rfl, fun c hc => ?_, fun c hc => ?_, fun f hf => absurd hf (by omega), fun a ha => ?_⟩ 300 (by omega)) (fun e he => ?_)
  · obtain ⟨S2, rfl, h1, h2, h3, h4⟩ := hs
    have hk8 : k < 8 := by omega
    have hu2 : S2 u = S u := h4 u (by omega)
    have hfu : S2 (fa u k) = S (fa u k) := h4 _ (by unfold fa; omega)
    show okk (f_X10_become_L32 t u (nI k) S2) _
    unfold f_X10_become_L32
    rw [if_pos (tgT hu).1, hu2, r1, if_neg (nI_ge hk (by omega)), if_pos (tgT ht).1, if_pos (rabT ht hk8), if_pos (rabT hu hk8), eadT hk8, eadT hk8, if_pos ((tgT ht).2.2.2.2 k hk8), c_fbec ((tgT ht).2.2.2.2 k hk8) ((tgT hu).2.2.2.2 k hk8) (by unfold fa; omega), bnd2_s, nI_1]
    refine okI ⟨_, rfl, _, rfl, fun c hc => ?_, fun c hc => ?_, fun f hf w hw => ?_, fun a ha => ?_⟩
    · rw [wrow_n _ (by unfold fa; omega)]; exact h1 c hc
    · rw [wrow_n _ (by unfold fa; omega)]; exact h2 c hc
    · by_cases e : f = k
      · subst e
        rw [wrow_s, if_pos hw, hfu]
        exact r7 f hk w hw
      · rw [wrow_n _ (by unfold fa; omega)]
        exact h3 f (by omega) w hw
    · rw [wrow_n _ (by unfold fa; omega)]; exact h4 a ha
  · obtain ⟨S2, rfl, h1, h2, h3, h4⟩ := hs
    have hu2 : S2 u = S u := h4 u (by omega)
    show okk (f_X10_become_L32 t u (nI n) S2) _
    unfold f_X10_become_L32
    rw [if_pos (tgT hu).1, hu2, r1, if_pos (nI_le (Nat.le_refl _) (by omega))]
    exact okI ⟨_, rfl, _, rfl, h1, h2, h3, h4⟩
  · rw [wrow_n _ (by omega), wrow_s, pk_cpy_in (by omega) (by omega), Nat.zero_add, Nat.sub_zero]
    exact r6 c hc
  · rw [wrow_s, pk_cpy_in (by omega) (by omega), Nat.zero_add, Nat.sub_zero, wrow_n _ (by omega)]
    exact r8 c hc
  · rw [wrow_n _ (by omega), wrow_n _ (by omega)]
  · obtain ⟨S2, rfl, h1, h2, h3, h4⟩ := he
    have hu2 : S2 u = S u := h4 u (by omega)
    have n0 : u ≠ t := by omega
    rw [if_pos (tgT hu).1, if_pos (tgT ht).1]
    simp only [wr_row, wrow_s, wrow_w, wrow_n _ n0, hu2, r1, r2, r3, r4, r5]
    refine okI ?_
    show Rl (wrow S2 t (upd (upd (upd (upd (upd (S2 t) 4 (nI n)) 5 (g 3)) 6 (g 4)) 7 (g 1)) 8 (g 2))) t n g ∧ Fr t S (wrow S2 t (upd (upd (upd (upd (upd (S2 t) 4 (nI n)) 5 (g 3)) 6 (g 4)) 7 (g 1)) 8 (g 2)))
    refine ⟨⟨?_, ?_, ?_, ?_, ?_, fun c hc => ?_, fun f hf w hw => ?_, fun k hk => ?_⟩, fun a ha => ?_⟩
    · rw [wrow_s]; simp [upd]
    · rw [wrow_s]; simp [upd]
    · rw [wrow_s]; simp [upd]
    · rw [wrow_s]; simp [upd]
    · rw [wrow_s]; simp [upd]
    · rw [wrow_n _ (by omega)]; exact h1 c hc
    · rw [wrow_n _ (by unfold fa; omega)]; exact h3 f hf w hw
    · rw [wrow_n _ (by omega)]; exact h2 k hk
    · rw [wrow_n _ (by omega)]; exact h4 a ha
/-- a new fire, number n -/
def comeR (g : Row) (n : Nat) (k c h l : Int32) : Row := upd (upd (upd (upd (upd (upd (upd (upd g (fi n 0) k) (fi n 1) c) (fi n 2) h) (fi n 3) l) (fi n 4) c) (fi n 5) 0) (fi n 6) 0) 0 (nI (n + 1))
theorem comeR_o {g : Row} {n p : Nat} {k c h l : Int32} (h0 : p ≠ 0) (hp : ∀ w, w < 7 → p ≠ fi n w) : comeR g n k c h l p = g p := by
  unfold comeR
  rw [upd_n h0, upd_n (hp 6 (by decide)), upd_n (hp 5 (by decide)), upd_n (hp 4 (by decide)), upd_n (hp 3 (by decide)), upd_n (hp 2 (by decide)), upd_n (hp 1 (by decide)), upd_n (hp 0 (by decide))]
theorem comeR_n {g : Row} {n : Nat} {k c h l : Int32} : comeR g n k c h l 0 = nI (n + 1) ∧ comeR g n k c h l (fi n 0) = k ∧ comeR g n k c h l (fi n 1) = c ∧ comeR g n k c h l (fi n 2) = h ∧ comeR g n k c h l (fi n 3) = l ∧ comeR g n k c h l (fi n 4) = c ∧ comeR g n k c h l (fi n 5) = 0 ∧ comeR g n k c h l (fi n 6) = 0 := by
  have e : ∀ w, fi n w ≠ 0 := fun w => by unfold fi; omega
  have d : ∀ w v, w ≠ v → fi n w ≠ fi n v := fun w v h => by unfold fi; omega
  unfold comeR
  refine ⟨upd_s _ _ _, ?_, ?_, ?_, ?_, ?_, ?_, ?_⟩
  · rw [upd_n (e 0), upd_n (d 0 6 (by decide)), upd_n (d 0 5 (by decide)), upd_n (d 0 4 (by decide)), upd_n (d 0 3 (by decide)), upd_n (d 0 2 (by decide)), upd_n (d 0 1 (by decide)), upd_s]
  · rw [upd_n (e 1), upd_n (d 1 6 (by decide)), upd_n (d 1 5 (by decide)), upd_n (d 1 4 (by decide)), upd_n (d 1 3 (by decide)), upd_n (d 1 2 (by decide)), upd_s]
  · rw [upd_n (e 2), upd_n (d 2 6 (by decide)), upd_n (d 2 5 (by decide)), upd_n (d 2 4 (by decide)), upd_n (d 2 3 (by decide)), upd_s]
  · rw [upd_n (e 3), upd_n (d 3 6 (by decide)), upd_n (d 3 5 (by decide)), upd_n (d 3 4 (by decide)), upd_s]
  · rw [upd_n (e 4), upd_n (d 4 6 (by decide)), upd_n (d 4 5 (by decide)), upd_s]
  · rw [upd_n (e 5), upd_n (d 5 6 (by decide)), upd_s]
  · rw [upd_n (e 6), upd_s]
theorem WF_come {n k c h : Nat} {g : Row} {l : Int32} (hw : WF n g) (hn : n < 8) (hk : k < 7) (hc : c < 25) (hh : h < 25) : WF (n + 1) (comeR g n (nI k) (nI c) (nI h) l) := by
  obtain ⟨z0, z1, z2, z3, z4, z5, z6, z7⟩ := comeR_n (g := g) (n := n) (k := nI k) (c := nI c) (h := nI h) (l := l)
  refine ⟨hn, z0, fun f hf => ?_⟩
  by_cases e : f = n
  · subst e
    rw [z1, z2, z3, z5]
    exact ⟨⟨k, hk, rfl⟩, ⟨c, hc, rfl⟩, ⟨h, hh, rfl⟩, ⟨c, hc, rfl⟩⟩
  · have o : ∀ w, w < 7 → comeR g n (nI k) (nI c) (nI h) l (fi f w) = g (fi f w) := fun w hw2 => comeR_o (by unfold fi; omega) (fun v hv => by unfold fi; omega)
    rw [o 0 (by decide), o 1 (by decide), o 2 (by decide), o 4 (by decide)]
    exact hw.2.2 f (by omega)
theorem c_light {t n : Nat} {S : Mem} {g : Row} {k c h l : Int32} (ht : TT t) (hn : n < 8) (hR : Rl S t n g) : ∃ S2, f_X10_light t k c h l S = some (nI n, S2) ∧ Rl S2 t (n + 1) (comeR g n k c h l) ∧ Fr t S S2 := by
  obtain ⟨r1, r2, r3, r4, r5, r6, r7, r8⟩ := hR
  obtain ⟨z0, z1, z2, z3, z4, z5, z6, z7⟩ := comeR_n (g := g) (n := n) (k := k) (c := c) (h := h) (l := l)
  have nt : t ≠ fa t n := by unfold fa; omega
  unfold f_X10_light
  rw [if_pos (tgT ht).1, r1, if_pos (rabT ht hn), eadT hn, if_pos ((tgT ht).2.2.2.2 n hn)]
  simp only [wr_row, wrow_s, wrow_w, wrow_n _ nt, r1, nI_1, upd_s]
  have e9 : nI (n + 1) - 1 = nI n := nI_pred n
  rw [e9]
  refine ⟨_, rfl, ⟨?_, ?_, ?_, ?_, ?_, fun x hx => ?_, fun f hf w hw => ?_, fun x hx => ?_⟩, fun a ha => ?_⟩
  · rw [wrow_s, upd_s]
  · rw [wrow_s, upd_n (by decide), comeR_o (by decide) (fun v hv => by unfold fi; omega)]; exact r2
  · rw [wrow_s, upd_n (by decide), comeR_o (by decide) (fun v hv => by unfold fi; omega)]; exact r3
  · rw [wrow_s, upd_n (by decide), comeR_o (by decide) (fun v hv => by unfold fi; omega)]; exact r4
  · rw [wrow_s, upd_n (by decide), comeR_o (by decide) (fun v hv => by unfold fi; omega)]; exact r5
  · rw [wrow_n _ (by omega), wrow_n _ (by unfold fa; omega), comeR_o (by omega) (fun v hv => by unfold fi; omega)]; exact r6 x hx
  · rw [wrow_n _ (by unfold fa; omega)]
    by_cases e : f = n
    · subst e
      rw [wrow_s]
      rcases k7 hw with rfl | rfl | rfl | rfl | rfl | rfl | rfl
      · rw [z1]; simp [upd]
      · rw [z2]; simp [upd]
      · rw [z3]; simp [upd]
      · rw [z4]; simp [upd]
      · rw [z5]; simp [upd]
      · rw [z6]; simp [upd]
      · rw [z7]; simp [upd]
    · rw [wrow_n _ (by unfold fa; omega), comeR_o (by unfold fi; omega) (fun v hv => by unfold fi; omega)]
      exact r7 f (by omega) w hw
  · rw [wrow_n _ (by omega), wrow_n _ (by unfold fa; omega), comeR_o (by omega) (fun v hv => by unfold fi; omega)]; exact r8 x hx
  · rw [wrow_n _ (by omega), wrow_n _ (by unfold fa; omega)]
theorem m_comes {n : Nat} {S : Mem} {k c h : Int32} (h0 : S 58 0 = nI n) (hn : n < 8) : f_X12_comes 57 k c h S = some ((), wrow S 58 (comeR (S 58) n k c h 50)) := by
  have d0 : ∀ w, 0 ≠ fi n w := fun w => by unfold fi; omega
  unfold f_X12_comes
  simp only [tg57, if_true, i58_0, ix_0, h0, m_at, bnd2_s, (s_0 hn).1, (s_0 hn).2, (s_1 hn).1, (s_1 hn).2, (s_2 hn).1, (s_2 hn).2, (s_3 hn).1, (s_3 hn).2, (s_4 hn).1, (s_4 hn).2, (s_5 hn).1, (s_5 hn).2, (s_6 hn).1, (s_6 hn).2, wr_row, wrow_s, wrow_w]
  rw [upd_n (d0 6), upd_n (d0 5), upd_n (d0 4), upd_n (d0 3), upd_n (d0 2), upd_n (d0 1), upd_n (d0 0), h0, nI_1]
  rfl
theorem c_value {a j : Nat} {S : Mem} (ha : tg a = 1) (hj : j < 7) : f_X1_value a (nI j) S = some (S a j, S) := by
  unfold f_X1_value
  simp only [ha, if_true]
  rcases k7 hj with rfl | rfl | rfl | rfl | rfl | rfl | rfl <;> rfl
theorem c_put {a j : Nat} {S : Mem} {v : Int32} (ha : tg a = 1) (hj : j < 7) : f_X1_put a (nI j) v S = some ((), wr S a j v) := by
  unfold f_X1_put
  simp only [ha, if_true]
  rcases k7 hj with rfl | rfl | rfl | rfl | rfl | rfl | rfl <;> rfl
