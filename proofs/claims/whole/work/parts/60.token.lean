/-! the TEXT's tokens: bytes Q, tp of them -/
def cb (q : Nat) : Int32 := (nI q).toInt8.toInt32
def tokK (q : Nat) : Nat := if 97 ≤ q ∧ q ≤ 122 then 1 else if 48 ≤ q ∧ q ≤ 57 then 2 else if q = 59 then 3 else 4
theorem cb_f : ∀ q, q < 256 → ((cb q < 97 ↔ (q < 97 ∨ 128 ≤ q)) ∧ (122 < cb q ↔ (122 < q ∧ q < 128)) ∧ (cb q < 48 ↔ (q < 48 ∨ 128 ≤ q)) ∧ (57 < cb q ↔ (57 < q ∧ q < 128)) ∧ (cb q = 59 ↔ q = 59) ∧ (cb q = 32 ↔ q = 32)) ∧ (q < 128 → cb q = nI q) := by decide +kernel
theorem c_tokenOf {q : Nat} (hq : q < 256) (S : Mem) : f_X7_tokenOf (cb q) S = some (nI (tokK q), S) := by
  obtain ⟨⟨h1, h2, h3, h4, h5, -⟩, -⟩ := cb_f q hq
  unfold f_X7_tokenOf f_X7_tokenOf_j14 f_X7_tokenOf_j28 tokK
  simp only [h1, h2, h3, h4, h5]
  by_cases a : q < 97 ∨ 128 ≤ q
  · rw [if_pos a, if_neg (show ¬ (97 ≤ q ∧ q ≤ 122) by omega)]
    by_cases b : q < 48 ∨ 128 ≤ q
    · rw [if_pos b, if_neg (show ¬ (48 ≤ q ∧ q ≤ 57) by omega)]
      by_cases c : q = 59
      · rw [if_pos c, if_pos c]; rfl
      · rw [if_neg c, if_neg c]; rfl
    · rw [if_neg b]
      by_cases d : 57 < q ∧ q < 128
      · rw [if_pos d, if_neg (show ¬ (48 ≤ q ∧ q ≤ 57) by omega)]
        by_cases c : q = 59
        · rw [if_pos c, if_pos c]; rfl
        · rw [if_neg c, if_neg c]; rfl
      · rw [if_neg d, if_pos (show 48 ≤ q ∧ q ≤ 57 by omega)]; rfl
  · rw [if_neg a]
    by_cases d : 122 < q ∧ q < 128
    · rw [if_pos d, if_neg (show ¬ (97 ≤ q ∧ q ≤ 122) by omega), if_neg (show ¬ (48 ≤ q ∧ q ≤ 57) by omega), if_neg (show ¬ q = 59 by omega), if_neg (by omega)]
      by_cases b : 57 < q ∧ q < 128
      · rw [if_pos b, if_neg (show ¬ q = 59 by omega)]; rfl
      · omega
    · rw [if_neg d, if_pos (show 97 ≤ q ∧ q ≤ 122 by omega)]; rfl
def spC (Q : Nat → Nat) (tp p i : Nat) : Bool := decide (p + i < tp) && decide (Q (p + i) = 32)
def stN (Q : Nat → Nat) (tp p : Nat) : Nat := p + runN (spC Q tp p) 121
def tkN (Q : Nat → Nat) (tp p : Nat) : Nat := if stN Q tp p < tp then tokK (Q (stN Q tp p)) else 0
def lnC (Q : Nat → Nat) (tp s k i : Nat) : Bool := decide (s + i < tp) && decide (tokK (Q (s + i)) = k) && (decide (k = 1) || decide (k = 2) || decide (i = 0))
def lnN (Q : Nat → Nat) (tp p : Nat) : Nat := runN (lnC Q tp (stN Q tp p) (tkN Q tp p)) 121
def nxN (Q : Nat → Nat) (tp p : Nat) : Nat := stN Q tp p + lnN Q tp p
def vN (Q : Nat → Nat) (s : Nat) : Nat → Nat
  | 0 => 0
  | k + 1 => if vN Q s k ≤ 9999 then 10 * vN Q s k + (Q (s + k) - 48) else vN Q s k
def nmN (Q : Nat → Nat) (tp p : Nat) : Nat := if tkN Q tp p = 2 then vN Q (stN Q tp p) (lnN Q tp p) else 0
theorem runN_121 {c : Nat → Bool} {K : Nat} (h : ∀ j, j < K → c j = true) (hK : c K = false) (h40 : K ≤ 121) : runN c 121 = K := by
  have := runN_eq h hK (121 - K)
  rwa [show K + (121 - K) = 121 by omega] at this
theorem stN_eq {Q : Nat → Nat} {tp p i : Nat} (h1 : ∀ j, j < i → spC Q tp p j = true) (h2 : spC Q tp p i = false) (hi : p + i ≤ 120) : stN Q tp p = p + i := by
  unfold stN
  rw [runN_121 h1 h2 (by omega)]
theorem runN_ex {c : Nat → Bool} {m : Nat} (hm : c m = false) : ∃ K, K ≤ m ∧ (∀ j, j < K → c j = true) ∧ c K = false := by
  have key : ∀ d, d ≤ m → (∀ j, j < d → c j = true) ∨ ∃ K, K ≤ m ∧ (∀ j, j < K → c j = true) ∧ c K = false := fun d => by
    induction d with
    | zero => intro _; exact Or.inl fun j hj => absurd hj (by omega)
    | succ d ih =>
      intro hd
      rcases ih (by omega) with h | h
      · by_cases hc : c d = true
        · refine Or.inl fun j hj => ?_
          by_cases e : j = d
          · rw [e]; exact hc
          · exact h j (by omega)
        · exact Or.inr ⟨d, by omega, h, Bool.eq_false_iff.mpr hc⟩
      · exact Or.inr h
  rcases key m (Nat.le_refl _) with h | h
  · exact ⟨m, Nat.le_refl _, h, hm⟩
  · exact h
theorem sp_end {Q : Nat → Nat} {tp p i : Nat} (h : tp ≤ p + i) : spC Q tp p i = false := by
  unfold spC
  rw [dec_f (by omega), Bool.false_and]
theorem ln_end {Q : Nat → Nat} {tp s k i : Nat} (h : tp ≤ s + i) : lnC Q tp s k i = false := by
  unfold lnC
  rw [dec_f (by omega), Bool.false_and, Bool.false_and]
theorem stN_le {Q : Nat → Nat} {tp p : Nat} (hp : p ≤ tp) (ht : tp ≤ 120) : p ≤ stN Q tp p ∧ stN Q tp p ≤ tp := by
  obtain ⟨K, h1, h2, h3⟩ := runN_ex (c := spC Q tp p) (m := tp - p) (sp_end (by omega))
  rw [stN_eq h2 h3 (by omega)]
  omega
theorem nxN_le {Q : Nat → Nat} {tp p : Nat} (hp : p ≤ tp) (ht : tp ≤ 120) : stN Q tp p ≤ nxN Q tp p ∧ nxN Q tp p ≤ tp := by
  obtain ⟨s1, s2⟩ := stN_le (Q := Q) hp ht
  unfold nxN lnN
  obtain ⟨K, h1, h2, h3⟩ := runN_ex (c := lnC Q tp (stN Q tp p) (tkN Q tp p)) (m := tp - stN Q tp p) (ln_end (by omega))
  rw [runN_121 h2 h3 (by omega)]
  omega
/-- a token that is none takes none; any other takes one at the least -/
theorem nxN_lt {Q : Nat → Nat} {tp p : Nat} (hp : p ≤ tp) (ht : tp ≤ 120) (h : tkN Q tp p ≠ 0) : stN Q tp p < nxN Q tp p := by
  obtain ⟨s1, s2⟩ := stN_le (Q := Q) hp ht
  have h0 : stN Q tp p < tp := by
    by_cases z : stN Q tp p < tp
    · exact z
    · exact absurd (by unfold tkN; rw [if_neg z]) h
  unfold nxN lnN
  obtain ⟨K, h1, h2, h3⟩ := runN_ex (c := lnC Q tp (stN Q tp p) (tkN Q tp p)) (m := tp - stN Q tp p) (ln_end (by omega))
  rw [runN_121 h2 h3 (by omega)]
  have : K ≠ 0 := fun z => by
    subst z
    unfold lnC at h3
    have e : tkN Q tp p = tokK (Q (stN Q tp p)) := by
      rw [show tkN Q tp p = if stN Q tp p < tp then tokK (Q (stN Q tp p)) else 0 from rfl, if_pos h0]
    rw [dec_t (show stN Q tp p + 0 < tp by omega), Nat.add_zero, dec_t e.symm, dec_t (show (0 : Nat) = 0 from rfl), Bool.or_true] at h3
    exact absurd h3 (by decide)
  omega
theorem bab46 {j : Nat} (h : j < 120) : bab 46 (nI j) = true := by
  unfold bab
  have e : tg 46 = 2120 := rfl
  rw [e, nI_toInt (by omega)]
  simp only [Bool.and_eq_true, decide_eq_true_eq]
  omega
theorem wrow_w_wr {S : Mem} {a : Nat} {k : Nat} {v : Int32} {g : Row} : wrow (wr S a k v) a g = wrow S a g := by rw [wr_row, wrow_w]
theorem tg45 : tg 45 = 7 := rfl
/-- the class's marks at the token that begins at p -/
def CT (Q : Nat → Nat) (tp p : Nat) (S : Mem) : Prop := S 45 1 = nI tp ∧ S 45 2 = nI (tkN Q tp p) ∧ S 45 3 = nI (stN Q tp p) ∧ S 45 4 = nI (nxN Q tp p) ∧ S 45 5 = nI (min (nmN Q tp p) 10000)
def CB (Q : Nat → Nat) (tp : Nat) (S : Mem) : Prop := (∀ i, Q i < 256) ∧ ∀ i, i < tp → S 46 i = cb (Q i)
theorem c_skip {Q : Nat → Nat} {tp p : Nat} {S : Mem} (ht : tp ≤ 120) (hp : p ≤ tp) (hb : CB Q tp S) (h1 : S 45 1 = nI tp) (h4 : S 45 4 = nI p) : okk (itr 300 i_X7_takeToken_L0 (45, S)) (fun r => r = (45, wr S 45 4 (nI (stN Q tp p)))) := by
  refine itr_ex (f := i_X7_takeToken_L0) (fun i s => s = (45, wr S 45 4 (nI (p + i))) ∧ p + i ≤ tp ∧ ∀ j, j < i → spC Q tp p j = true) _ 121 (fun i hi s hs => ?_) ⟨?_, by omega, fun j hj => absurd hj (by omega)⟩ 300 (by omega)
  · obtain ⟨rfl, r0, r1⟩ := hs
    unfold i_X7_takeToken_L0
    dsimp only
    unfold f_X7_takeToken_L0
    have e46 : wr S 45 4 (nI (p + i)) 46 = S 46 := wr_n (by decide)
    rw [if_pos tg45, wr_s, upd_n (by decide), upd_s, h1, e46]
    by_cases hlt : p + i < tp
    · rw [if_neg (nI_ge hlt (by omega)), if_pos (bab46 (by omega)), ix_nI (by omega), hb.2 _ hlt]
      have h32 := (cb_f _ (hb.1 (p + i))).1.2.2.2.2.2
      by_cases hq : Q (p + i) = 32
      · rw [if_pos (h32.mpr hq)]
        refine okI (Or.inl ⟨_, rfl, by omega, ?_, by omega, fun j hj => ?_⟩)
        · rw [nI_1, wr_row, wr_s, wrow_w_wr, upd_uu]; rfl
        · by_cases e : j = i
          · rw [e]; unfold spC; rw [dec_t hlt, dec_t hq]; rfl
          · exact r1 j (by omega)
      · rw [if_neg (fun z => hq (h32.mp z))]
        refine okI (Or.inr ⟨_, rfl, ?_⟩)
        rw [stN_eq r1 (by unfold spC; rw [dec_f hq, Bool.and_false]) (by omega)]
    · rw [if_pos (nI_le (by omega) (by omega))]
      refine okI (Or.inr ⟨_, rfl, ?_⟩)
      rw [stN_eq r1 (sp_end (by omega)) (by omega)]
  · rw [Nat.add_zero, ← h4, wr_row, upd_id, wrow_id]
