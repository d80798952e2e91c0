/-! the indices stay in their rows through an hour -/
theorem fol_ind {F : Row → Nat → Row} {I : Row → Prop} {n : Nat} (h : ∀ f, f < n → ∀ g, I g → I (F g f)) : ∀ k, k ≤ n → ∀ g, I g → I (fol F k g)
  | 0, _, g, hg => hg
  | k + 1, hk, g, hg => h k (by omega) _ (fol_ind h k (by omega) g hg)
theorem WF_upd {n : Nat} {g : Row} {k : Nat} {v : Int32} (h : WF n g) (h0 : k ≠ 0) (hk : ∀ f, f < n → k ≠ fi f 0 ∧ k ≠ fi f 1 ∧ k ≠ fi f 2 ∧ k ≠ fi f 4) : WF n (upd g k v) := by
  refine ⟨h.1, ?_, fun f hf => ?_⟩
  · rw [upd_n (Ne.symm h0)]; exact h.2.1
  · obtain ⟨k1, k2, k3, k4⟩ := hk f hf
    rw [upd_n (Ne.symm k1), upd_n (Ne.symm k2), upd_n (Ne.symm k3), upd_n (Ne.symm k4)]
    exact h.2.2 f hf
theorem WF_at {n : Nat} {g : Row} {f c : Nat} (h : WF n g) (hf : f < n) (hc : c < 25) : WF n (upd g (fi f 4) (nI c)) := by
  refine ⟨h.1, ?_, fun j hj => ?_⟩
  · rw [upd_n (by unfold fi; omega)]; exact h.2.1
  · obtain ⟨q1, q2, q3, q4⟩ := h.2.2 j hj
    rw [upd_n (by unfold fi; omega), upd_n (by unfold fi; omega), upd_n (by unfold fi; omega)]
    refine ⟨q1, q2, q3, ?_⟩
    by_cases e : j = f
    · subst e
      rw [upd_s]
      exact ⟨c, hc, rfl⟩
    · rw [upd_n (by unfold fi; omega)]
      exact q4
theorem WF_slot {n : Nat} {g : Row} {f w : Nat} {v : Int32} (h : WF n g) (hf : f < n) (hw : w = 3 ∨ w = 5 ∨ w = 6) : WF n (upd g (fi f w) v) := by
  refine WF_upd h (by unfold fi; omega) fun j hj => ?_
  unfold fi
  omega
theorem WF_low {n : Nat} {g : Row} {k : Nat} {v : Int32} (h : WF n g) (h0 : k ≠ 0) (hk : k < 30) : WF n (upd g k v) := by
  refine WF_upd h h0 fun j hj => ?_
  unfold fi
  omega
theorem WF_burn1 {n f : Nat} {g : Row} (h : WF n g) (hf : f < n) : WF n (burn1 g f) := by
  unfold burn1
  split
  · exact WF_slot (WF_slot h hf (Or.inl rfl)) hf (Or.inr (Or.inl rfl))
  · exact h
theorem way_ok : ∀ c, c < 25 → ∀ h, h < 25 → ∀ k, k < 7 → nI c ≠ nI h → (List.range 25).any (fun e => decide (onW (nI c) (wayK (nI k) (nI h) (nI c)) = nI e)) = true := by decide +kernel
theorem way_in {c h k : Nat} (hc : c < 25) (hh : h < 25) (hk : k < 7) (hne : ¬ nI c = nI h) : ∃ e, e < 25 ∧ onW (nI c) (wayK (nI k) (nI h) (nI c)) = nI e := by
  obtain ⟨e, he, h2⟩ := List.any_eq_true.mp (way_ok c hc h hh k hk hne)
  exact ⟨e, List.mem_range.mp he, by simpa using h2⟩
theorem WF_mvN {n f : Nat} (hf : f < n) : ∀ (k : Nat) (g : Row), WF n g → WF n (mvN k g f)
  | 0, g, h => h
  | k + 1, g, h => by
    unfold mvN
    split
    · exact h
    · rename_i hne
      split
      · exact WF_slot h hf (Or.inr (Or.inr rfl))
      · obtain ⟨⟨k1, hk1, e1⟩, -, ⟨c2, hc2, e2⟩, ⟨c4, hc4, e4⟩⟩ := h.2.2 f hf
        rw [e4, e2] at hne
        obtain ⟨e, he, h3⟩ := way_in hc4 hc2 hk1 hne
        rw [e1, e2, e4, h3]
        exact WF_mvN hf k _ (WF_at h hf he)
theorem WF_move1 {n f : Nat} {g : Row} (h : WF n g) (hf : f < n) : WF n (move1 g f) := by
  unfold move1
  split
  · exact h
  · exact WF_mvN hf _ _ h
theorem WF_cross1 {n a b : Nat} {g : Row} {bg : Nat → Int32} (h : WF n g) (ha : a < n) (hb : b < n) : WF n (cross1 bg g a b) := by
  unfold cross1
  split
  · exact WF_low (WF_slot (WF_slot h ha (Or.inr (Or.inl rfl))) hb (Or.inr (Or.inl rfl))) (by decide) (by decide)
  · exact h
theorem ix_nI {j : Nat} (h : j < 2 ^ 31) : ix (nI j) = j := nI_clamp h
theorem WF_settle1 {n f : Nat} {g : Row} (h : WF n g) (hf : f < n) : WF n (settle1 g f) := by
  unfold settle1
  split
  · obtain ⟨-, ⟨c1, hc1, e1⟩, ⟨c2, hc2, e2⟩, -⟩ := h.2.2 f hf
    rw [e1, e2, ix_nI (by omega)]
    exact WF_at (WF_slot (WF_low h (by omega) (by omega)) hf (Or.inr (Or.inl rfl))) hf hc1
  · exact h
theorem WF_burnA {n k : Nat} {g : Row} (h : WF n g) (hk : k ≤ n) : WF n (fol burn1 k g) := fol_ind (n := n) (fun _ hf _ hg => WF_burn1 hg hf) k hk g h
theorem WF_moveA {n k : Nat} {g : Row} (h : WF n g) (hk : k ≤ n) : WF n (fol move1 k g) := fol_ind (n := n) (fun _ hf _ hg => WF_move1 hg hf) k hk g h
theorem WF_settleA {n k : Nat} {g : Row} (h : WF n g) (hk : k ≤ n) : WF n (fol settle1 k g) := fol_ind (n := n) (fun _ hf _ hg => WF_settle1 hg hf) k hk g h
theorem WF_crossB {n a k : Nat} {g : Row} {bg : Nat → Int32} (h : WF n g) (ha : a < n) (hk : k ≤ n - (a + 1)) : WF n (fol (fun g j => cross1 bg g a (a + 1 + j)) k g) := fol_ind (n := n - (a + 1)) (fun _ hf _ hg => WF_cross1 hg ha (by omega)) k hk g h
theorem WF_crossA {n k : Nat} {g : Row} {bg : Nat → Int32} (h : WF n g) (hk : k ≤ n) : WF n (fol (fun g a => fol (fun g j => cross1 bg g a (a + 1 + j)) (n - (a + 1)) g) k g) := fol_ind (n := n) (fun _ hf _ hg => WF_crossB hg hf (Nat.le_refl _)) k hk g h
theorem WF_hourR {n : Nat} {g : Row} (h : WF n g) : WF n (hourR n g) := by
  unfold hourR crossA
  exact WF_low (WF_settleA (WF_crossA (WF_moveA (WF_burnA h (Nat.le_refl _)) (Nat.le_refl _)) (Nat.le_refl _)) (Nat.le_refl _)) (by decide) (by decide)
theorem WF_hoursR {n : Nat} {g : Row} (h : WF n g) : ∀ k, WF n (hoursR n k g)
  | 0 => h
  | k + 1 => WF_hourR (WF_hoursR h k)
theorem burnA_at {n : Nat} {g : Row} {f : Nat} : ∀ k, fol burn1 k g (fi f 4) = g (fi f 4)
  | 0 => rfl
  | k + 1 => by
    show burn1 (fol burn1 k g) k (fi f 4) = _
    unfold burn1
    split
    · rw [upd_n (by unfold fi; omega), upd_n (by unfold fi; omega)]
      exact burnA_at (n := n) k
    · exact burnA_at (n := n) k
