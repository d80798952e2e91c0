/-! the class takes a token -/
theorem stN_space {Q : Nat → Nat} {tp p : Nat} (hp : p < tp) (ht : tp ≤ 120) (h : Q p = 32) : stN Q tp (p + 1) = stN Q tp p := by
  obtain ⟨K, h1, h2, h3⟩ := runN_ex (c := spC Q tp (p + 1)) (m := tp - (p + 1)) (sp_end (by omega))
  rw [stN_eq h2 h3 (by omega)]
  have e := stN_eq (Q := Q) (tp := tp) (p := p) (i := K + 1) (fun j hj => by
    cases j with
    | zero => unfold spC; rw [Nat.add_zero, dec_t hp, dec_t h]; rfl
    | succ j =>
      have := h2 j (by omega)
      unfold spC at this ⊢
      rwa [show p + (j + 1) = p + 1 + j by omega]) (by
    unfold spC at h3 ⊢
    rwa [show p + (K + 1) = p + 1 + K by omega]) (by omega)
  rw [e]
  omega
theorem stN_0 {Q : Nat → Nat} {tp p : Nat} (hp : p ≤ tp) (ht : tp ≤ 120) (h : ¬ (p < tp ∧ Q p = 32)) : stN Q tp p = p := by
  have := stN_eq (Q := Q) (tp := tp) (p := p) (i := 0) (fun j hj => absurd hj (by omega)) (by
    unfold spC
    rw [Nat.add_zero]
    by_cases e : p < tp
    · rw [dec_f (fun z => h ⟨e, z⟩), Bool.and_false]
    · rw [dec_f e, Bool.false_and]) (by omega)
  rw [this, Nat.add_zero]
theorem dig_c : ∀ q, 48 ≤ q → q ≤ 57 → ∀ c, c ≤ 10000 → True := fun _ _ _ _ _ => trivial
theorem mn_10000 {x : Nat} (h : x < 2 ^ 31) : mnI 10000 (nI x) = nI (min x 10000) := by
  unfold mnI
  rw [show (10000 : Int32) = nI 10000 from rfl]
  by_cases h2 : x ≤ 10000
  · rw [if_pos ((nI_leI h (by omega)).mpr h2), show min x 10000 = x by omega]
  · rw [if_neg (fun z => h2 ((nI_leI h (by omega)).mp z)), show min x 10000 = 10000 by omega]
theorem nI_subk (a k : Nat) (h : k ≤ a) : nI a - nI k = nI (a - k) := by
  have e : nI (a - k) + nI k = nI a := by rw [nI_add, show a - k + k = a by omega]
  rw [← e]
  exact Int32.add_sub_cancel _ _
theorem num_step {Q : Nat → Nat} {s i : Nat} (h1 : 48 ≤ Q (s + i)) (h2 : Q (s + i) ≤ 57) : mnI 10000 (10 * nI (min (vN Q s i) 10000) + nI (Q (s + i)) - 48) = nI (min (vN Q s (i + 1)) 10000) := by
  rw [show (10 : Int32) = nI 10 from rfl, pk_mul, nI_add, show (48 : Int32) = nI 48 from rfl, nI_subk _ _ (by omega), mn_10000 (by omega)]
  congr 1
  show _ = min (if vN Q s i ≤ 9999 then 10 * vN Q s i + (Q (s + i) - 48) else vN Q s i) 10000
  by_cases h : vN Q s i ≤ 9999
  · rw [if_pos h]; omega
  · rw [if_neg h]; omega
def CI (Q : Nat → Nat) (tp p i : Nat) (S0 S : Mem) : Prop := S 45 1 = nI tp ∧ S 45 2 = nI (tkN Q tp p) ∧ S 45 3 = nI (stN Q tp p) ∧ S 45 4 = nI (stN Q tp p + i) ∧ S 45 5 = nI (min (if tkN Q tp p = 2 then vN Q (stN Q tp p) i else 0) 10000) ∧ ∀ a, a ≠ 45 → S a = S0 a
theorem CI.ct {Q : Nat → Nat} {tp p i : Nat} {S0 S : Mem} (h : CI Q tp p i S0 S) (h1 : ∀ j, j < i → lnC Q tp (stN Q tp p) (tkN Q tp p) j = true) (h2 : lnC Q tp (stN Q tp p) (tkN Q tp p) i = false) (hi : i ≤ 121) : CT Q tp p S := by
  obtain ⟨a1, a2, a3, a4, a5, a6⟩ := h
  unfold CT nxN nmN lnN
  rw [runN_121 h1 h2 hi]
  exact ⟨a1, a2, a3, a4, a5⟩
theorem tokK_le (q : Nat) : 1 ≤ tokK q ∧ tokK q ≤ 4 := by
  unfold tokK
  split
  · omega
  split
  · omega
  split <;> omega
theorem tokK_2 {q : Nat} (h : tokK q = 2) : 48 ≤ q ∧ q ≤ 57 := by
  unfold tokK at h
  split at h
  · omega
  split at h
  · assumption
  split at h <;> omega
theorem tkN_le (Q : Nat → Nat) (tp p : Nat) : tkN Q tp p ≤ 4 := by
  unfold tkN
  split
  · exact (tokK_le _).2
  · omega
theorem c_takeL {Q : Nat → Nat} {tp p i : Nat} {S0 S : Mem} (ht : tp ≤ 120) (hp : p ≤ tp) (hb : CB Q tp S0) (h : CI Q tp p i S0 S) (hi : stN Q tp p + i ≤ tp) : (lnC Q tp (stN Q tp p) (tkN Q tp p) i = true ∧ ∃ S2, f_X7_takeToken_L82 45 S = some (.inl (45, S2)) ∧ CI Q tp p (i + 1) S0 S2) ∨ (lnC Q tp (stN Q tp p) (tkN Q tp p) i = false ∧ f_X7_takeToken_L82 45 S = some (.inr S)) := by
  have hI := h
  obtain ⟨a1, a2, a3, a4, a5, a6⟩ := h
  have hk := tkN_le Q tp p
  have e46 : S 46 = S0 46 := a6 46 (by decide)
  unfold f_X7_takeToken_L82
  rw [if_pos tg45, a1, a4]
  by_cases hlt : stN Q tp p + i < tp
  · have hq := hb.1 (stN Q tp p + i)
    rw [if_neg (nI_ge hlt (by omega)), if_pos (bab46 (by omega)), ix_nI (by omega), e46, hb.2 _ hlt, c_tokenOf hq, bnd2_s, a2, a3, a4]
    have htk := tokK_le (Q (stN Q tp p + i))
    by_cases hk1 : tokK (Q (stN Q tp p + i)) = tkN Q tp p
    · rw [if_pos (by rw [hk1])]
      have go : okk (f_X7_takeToken_j139 45 S) (fun x => ∃ S2, x = .inl (45, S2) ∧ CI Q tp p (i + 1) S0 S2) := by
        unfold f_X7_takeToken_j139 f_X7_takeToken_j177
        rw [if_pos tg45, if_pos tg45, a2, a4, a5]
        by_cases h2 : tkN Q tp p = 2
        · obtain ⟨d1, d2⟩ := tokK_2 (hk1.trans h2)
          rw [if_pos (by rw [h2]; rfl), if_pos (bab46 (by omega)), ix_nI (by omega), e46, hb.2 _ hlt, (cb_f _ hq).2 (by omega), if_pos h2, c_min2, bnd2_s, num_step d1 d2]
          refine okI ⟨_, rfl, ?_⟩
          try dsimp only
          refine ⟨?_, ?_, ?_, ?_, ?_, fun a ha => ?_⟩
          · rw [wr_s, upd_n (by decide), wr_s, upd_n (by decide)]; exact a1
          · rw [wr_s, upd_n (by decide), wr_s, upd_n (by decide)]; exact a2
          · rw [wr_s, upd_n (by decide), wr_s, upd_n (by decide)]; exact a3
          · rw [wr_s, upd_s, wr_s, upd_n (by decide), a4, nI_1, Nat.add_assoc]
          · rw [wr_s, upd_n (by decide), wr_s, upd_s, if_pos h2]
          · rw [wr_n ha, wr_n ha]; exact a6 a ha
        · rw [if_neg (show ¬ nI (tkN Q tp p) = (2 : Int32) from fun z => h2 ((nI_eq (b := 2) (by omega) (by omega)).mp z))]
          refine okI ⟨_, rfl, ?_⟩
          try dsimp only
          refine ⟨?_, ?_, ?_, ?_, ?_, fun a ha => ?_⟩
          · rw [wr_s, upd_n (by decide)]; exact a1
          · rw [wr_s, upd_n (by decide)]; exact a2
          · rw [wr_s, upd_n (by decide)]; exact a3
          · rw [wr_s, upd_s, nI_1, Nat.add_assoc]
          · rw [wr_s, upd_n (by decide), if_neg h2, a5, if_neg h2]
          · rw [wr_n ha]; exact a6 a ha
      have goS : (∃ S2, f_X7_takeToken_j139 45 S = some (.inl (45, S2)) ∧ CI Q tp p (i + 1) S0 S2) := by
        obtain ⟨x, hx, S2, rfl, h2⟩ := go
        exact ⟨S2, hx, h2⟩
      have hl : lnC Q tp (stN Q tp p) (tkN Q tp p) i = (decide (tkN Q tp p = 1) || decide (tkN Q tp p = 2) || decide (i = 0)) := by
        unfold lnC
        rw [dec_t hlt, dec_t hk1, Bool.true_and, Bool.true_and]
      by_cases k1 : tkN Q tp p = 1
      · rw [if_pos (by rw [k1]; rfl)]
        exact Or.inl ⟨by rw [hl, dec_t k1]; rfl, goS⟩
      · rw [if_neg (show ¬ nI (tkN Q tp p) = (1 : Int32) from fun z => k1 ((nI_eq (b := 1) (by omega) (by omega)).mp z))]
        by_cases k2 : tkN Q tp p = 2
        · rw [if_pos (by rw [k2]; rfl)]
          exact Or.inl ⟨by rw [hl, dec_t k2, Bool.or_true]; rfl, goS⟩
        · rw [if_neg (show ¬ nI (tkN Q tp p) = (2 : Int32) from fun z => k2 ((nI_eq (b := 2) (by omega) (by omega)).mp z))]
          by_cases k3 : i = 0
          · rw [if_pos (by rw [k3, Nat.add_zero])]
            exact Or.inl ⟨by rw [hl, dec_t k3, Bool.or_true], goS⟩
          · rw [if_neg (fun z => k3 (by have := (nI_eq (by omega) (by omega)).mp z; omega))]
            exact Or.inr ⟨by rw [hl, dec_f k1, dec_f k2, dec_f k3]; rfl, rfl⟩
    · rw [if_neg (fun z => hk1 ((nI_eq (by omega) (by omega)).mp z))]
      exact Or.inr ⟨by unfold lnC; rw [dec_f hk1, Bool.and_false, Bool.false_and], rfl⟩
  · rw [if_pos (nI_le (by omega) (by omega))]
    exact Or.inr ⟨ln_end (by omega), rfl⟩
theorem c_takeJ {Q : Nat → Nat} {tp p : Nat} {S : Mem} (ht : tp ≤ 120) (hp : p ≤ tp) (hb : CB Q tp S) (h1 : S 45 1 = nI tp) (h4 : S 45 4 = nI (stN Q tp p)) : okk (f_X7_takeToken_j38 45 S) (fun x => CT Q tp p x.2 ∧ ∀ a, a ≠ 45 → x.2 a = S a) := by
  obtain ⟨s1, s2⟩ := stN_le (Q := Q) hp ht
  unfold f_X7_takeToken_j38
  rw [if_pos tg45]
  dsimp only
  have key : ∀ (S4 : Mem), S4 45 1 = nI tp → S4 45 3 = nI (stN Q tp p) → S4 45 4 = nI (stN Q tp p) → S4 45 5 = 0 → (∀ a, a ≠ 45 → S4 a = S a) → okk (f_X7_takeToken_j79 45 45 (nI (tkN Q tp p)) S4) (fun x => CT Q tp p x.2 ∧ ∀ a, a ≠ 45 → x.2 a = S a) := fun S4 k1 k3 k4 k5 ka => by
    unfold f_X7_takeToken_j79
    rw [if_pos tg45]
    dsimp only
    refine okB (okk_mono (itr_ex (f := i_X7_takeToken_L82) (fun i t => ∃ S2, t = (45, S2) ∧ CI Q tp p i S S2 ∧ stN Q tp p + i ≤ tp ∧ ∀ j, j < i → lnC Q tp (stN Q tp p) (tkN Q tp p) j = true) (fun r => CT Q tp p r ∧ ∀ a, a ≠ 45 → r a = S a) 121 (fun i hi t hh => ?_) ⟨_, rfl, ⟨?_, ?_, ?_, ?_, ?_, fun a ha => ?_⟩, by omega, fun j hj => absurd hj (by omega)⟩ 300 (by omega)) fun r hr => okI hr)
    · obtain ⟨S2, rfl, hc, hle, hl⟩ := hh
      rcases c_takeL ht hp hb hc hle with ⟨q1, S3, q2, q3⟩ | ⟨q1, q2⟩
      · have hlt : stN Q tp p + i < tp := by
          by_cases z : stN Q tp p + i < tp
          · exact z
          · rw [ln_end (by omega)] at q1; exact absurd q1 (by decide)
        exact ⟨_, q2, Or.inl ⟨_, rfl, by omega, S3, rfl, q3, by omega, fun j hj => by
          by_cases e : j = i
          · rw [e]; exact q1
          · exact hl j (by omega)⟩⟩
      · exact ⟨_, q2, Or.inr ⟨_, rfl, hc.ct hl q1 (by omega), hc.2.2.2.2.2⟩⟩
    · rw [wr_s, upd_n (by decide)]; exact k1
    · rw [wr_s, upd_s]
    · rw [wr_s, upd_n (by decide)]; exact k3
    · rw [wr_s, upd_n (by decide), Nat.add_zero]; exact k4
    · rw [wr_s, upd_n (by decide), k5]
      split <;> rfl
    · rw [wr_n ha]; exact ka a ha
  have z1 : wr (wr S 45 3 (S 45 4)) 45 5 0 45 1 = nI tp := by rw [wr_s, upd_n (by decide), wr_s, upd_n (by decide)]; exact h1
  have z3 : wr (wr S 45 3 (S 45 4)) 45 5 0 45 3 = nI (stN Q tp p) := by rw [wr_s, upd_n (by decide), wr_s, upd_s]; exact h4
  have z4 : wr (wr S 45 3 (S 45 4)) 45 5 0 45 4 = nI (stN Q tp p) := by rw [wr_s, upd_n (by decide), wr_s, upd_n (by decide)]; exact h4
  have z5 : wr (wr S 45 3 (S 45 4)) 45 5 0 45 5 = 0 := by rw [wr_s, upd_s]
  have za : ∀ a, a ≠ 45 → wr (wr S 45 3 (S 45 4)) 45 5 0 a = S a := fun a ha => by rw [wr_n ha, wr_n ha]
  have kk := key _ z1 z3 z4 z5 za
  rw [z1, z4]
  by_cases hlt : stN Q tp p < tp
  · have e : tkN Q tp p = tokK (Q (stN Q tp p)) := by
      rw [show tkN Q tp p = if stN Q tp p < tp then tokK (Q (stN Q tp p)) else 0 from rfl, if_pos hlt]
    rw [if_neg (nI_ge hlt (by omega)), if_pos (bab46 (by omega)), za 46 (by decide), ix_nI (by omega), hb.2 _ hlt, c_tokenOf (hb.1 _), bnd2_s, ← e]
    exact kk
  · have e : tkN Q tp p = 0 := by
      rw [show tkN Q tp p = if stN Q tp p < tp then tokK (Q (stN Q tp p)) else 0 from rfl, if_neg hlt]
    rw [if_pos (nI_le (by omega) (by omega))]
    rw [e] at kk
    exact kk
theorem c_take {Q : Nat → Nat} {tp p : Nat} {S : Mem} (ht : tp ≤ 120) (hp : p ≤ tp) (hb : CB Q tp S) (h1 : S 45 1 = nI tp) (h4 : S 45 4 = nI p) : okk (f_X7_takeToken 45 S) (fun x => CT Q tp p x.2 ∧ ∀ a, a ≠ 45 → x.2 a = S a) := by
  unfold f_X7_takeToken
  rw [if_pos tg45, h1, h4]
  by_cases hlt : p < tp
  · rw [if_neg (nI_ge hlt (by omega)), if_pos (bab46 (by omega)), ix_nI (by omega), hb.2 _ hlt]
    have h32 := (cb_f _ (hb.1 p)).1.2.2.2.2.2
    by_cases hq : Q p = 32
    · rw [if_pos (h32.mpr hq), nI_1]
      dsimp only
      have w4 : wr S 45 4 (nI (p + 1)) 45 4 = nI (p + 1) := by rw [wr_s, upd_s]
      have w1 : wr S 45 4 (nI (p + 1)) 45 1 = nI tp := by rw [wr_s, upd_n (by decide)]; exact h1
      have hb2 : CB Q tp (wr S 45 4 (nI (p + 1))) := ⟨hb.1, fun i hi => by rw [wr_n (by decide)]; exact hb.2 i hi⟩
      refine okB (okk_mono (c_skip ht (by omega) hb2 w1 w4) fun r hr => ?_)
      subst hr
      dsimp only
      rw [stN_space hlt ht hq, wr_row, wrow_w_wr, wr_s, upd_uu]
      refine okk_mono (c_takeJ ht hp (S := wrow S 45 (upd (S 45) 4 (nI (stN Q tp p)))) ⟨hb.1, fun i hi => by rw [wrow_n _ (by decide)]; exact hb.2 i hi⟩ (by rw [wrow_s, upd_n (by decide)]; exact h1) (by rw [wrow_s, upd_s])) fun x hx => ⟨hx.1, fun a ha => by rw [hx.2 a ha, wrow_n _ ha]⟩
    · rw [if_neg (fun z => hq (h32.mp z))]
      exact c_takeJ ht hp hb h1 (by rw [stN_0 hp ht (fun z => hq z.2)]; exact h4)
  · rw [if_pos (nI_le (by omega) (by omega))]
    exact c_takeJ ht hp hb h1 (by rw [stN_0 hp ht (fun z => hlt z.1)]; exact h4)
theorem c_takeN {Q : Nat → Nat} {tp p : Nat} {S : Mem} (ht : tp ≤ 120) (hp : p ≤ tp) (hb : CB Q tp S) (hc : CT Q tp p S) : okk (f_X7_takeToken 45 S) (fun x => CT Q tp (nxN Q tp p) x.2 ∧ ∀ a, a ≠ 45 → x.2 a = S a) := c_take ht (nxN_le hp ht).2 hb hc.1 hc.2.2.2.1
