/-! text by the class -/
def txtN (Q : Nat → Nat) (tp : Nat) : Nat → Nat → Nat → Row → Int32 × Option Row
  | 0, _, p, _ => (-1 - nI (stN Q tp p), none)
  | m + 1, i, p, g => match itemN Q tp p g with
    | .inr q => (-1 - nI (stN Q tp q), none)
    | .inl (q, g2) => if tkN Q tp q = 0 then (nI i, some g2) else if tkN Q tp q = 3 then txtN Q tp m (i + 1) (nxN Q tp q) g2 else (-1 - nI (stN Q tp q), none)
theorem isW_tk {Q : Nat → Nat} {tp p : Nat} {w : List Nat} (h : isW Q tp p w = true) : tkN Q tp p = 1 := of_decide_eq_true (and_b.mp h).1
theorem itemN_pos {Q : Nat → Nat} {tp p q : Nat} {g g2 : Row} (ht : tp ≤ 120) (hp : p ≤ tp) (h : itemN Q tp p g = .inl (q, g2)) : p < q ∧ q ≤ tp ∧ g2 1 = g 1 := by
  have a1 := nxN_le (Q := Q) hp ht
  have a2 := stN_le (Q := Q) hp ht
  have b1 := nxN_le (Q := Q) a1.2 ht
  have b2 := stN_le (Q := Q) a1.2 ht
  have c1 := nxN_le (Q := Q) b1.2 ht
  have c2 := stN_le (Q := Q) b1.2 ht
  have lt : tkN Q tp p = 1 → p < nxN Q tp p := fun e => by
    have := nxN_lt (Q := Q) hp ht (by omega)
    omega
  unfold itemN at h
  split at h
  · rename_i hw
    have l := lt (isW_tk hw)
    unfold windN at h
    split at h
    · obtain ⟨e1, e2⟩ := Prod.mk.inj (Sum.inl.inj h)
      subst e1
      subst e2
      exact ⟨by omega, by omega, upd_n (by decide)⟩
    · exact absurd h Sum.inr_ne_inl
  split at h
  · rename_i hw
    have l := lt (isW_tk hw)
    unfold woodN at h
    split at h
    · split at h
      · obtain ⟨e1, e2⟩ := Prod.mk.inj (Sum.inl.inj h)
        subst e1
        subst e2
        exact ⟨by omega, by omega, upd_n (by omega)⟩
      · exact absurd h Sum.inr_ne_inl
    · exact absurd h Sum.inr_ne_inl
  split at h
  · exact absurd h Sum.inr_ne_inl
  · rename_i k hk
    have l := lt (isW_tk (kindN_w hk))
    split at h
    · exact absurd h Sum.inr_ne_inl
    · unfold fireN at h
      have p2 := partN_pos (Q := Q) (w := wN 2) (most := 24) (dfl := 0) ht a1.2
      split at h
      · exact absurd h Sum.inr_ne_inl
      · rename_i c q2 e2
        rw [e2] at p2
        have p3 := partN_pos (Q := Q) (w := wN 3) (most := 24) (dfl := c) ht p2.2
        dsimp only at p2 p3
        split at h
        · exact absurd h Sum.inr_ne_inl
        · rename_i h3 q3 e3
          rw [e3] at p3
          have p4 := partN_pos (Q := Q) (w := wN 4) (most := 999) (dfl := 50) ht p3.2
          dsimp only at p3 p4
          split at h
          · exact absurd h Sum.inr_ne_inl
          · rename_i l4 q4 e4
            rw [e4] at p4
            dsimp only at p4
            cases h
            exact ⟨by omega, by omega, comeR_o (by decide) (fun w hw => by unfold fi; omega)⟩
theorem itemN_q {Q : Nat → Nat} {tp p q : Nat} {g : Row} (ht : tp ≤ 120) (hp : p ≤ tp) (h : itemN Q tp p g = .inr q) : q ≤ tp := by
  have a1 := nxN_le (Q := Q) hp ht
  have b1 := nxN_le (Q := Q) a1.2 ht
  unfold itemN at h
  split at h
  · unfold windN at h
    split at h
    · exact absurd h Sum.inl_ne_inr
    · have e := Sum.inr.inj h
      omega
  split at h
  · unfold woodN at h
    split at h
    · split at h
      · exact absurd h Sum.inl_ne_inr
      · have e := Sum.inr.inj h
        omega
    · have e := Sum.inr.inj h
      omega
  split at h
  · have e := Sum.inr.inj h
    omega
  · split at h
    · have e := Sum.inr.inj h
      omega
    · unfold fireN at h
      have p2 := partN_pos (Q := Q) (w := wN 2) (most := 24) (dfl := 0) ht a1.2
      split at h
      · rename_i q2 e2
        rw [e2] at p2
        have e := Sum.inr.inj h
        dsimp only at p2
        omega
      · rename_i c q2 e2
        rw [e2] at p2
        have p3 := partN_pos (Q := Q) (w := wN 3) (most := 24) (dfl := c) ht p2.2
        dsimp only at p2 p3
        split at h
        · rename_i q3 e3
          rw [e3] at p3
          have e := Sum.inr.inj h
          dsimp only at p3
          omega
        · rename_i h3 q3 e3
          rw [e3] at p3
          have p4 := partN_pos (Q := Q) (w := wN 4) (most := 999) (dfl := 50) ht p3.2
          dsimp only at p3 p4
          split at h
          · rename_i q4 e4
            rw [e4] at p4
            have e := Sum.inr.inj h
            dsimp only at p4
            omega
          · exact absurd h Sum.inl_ne_inr
theorem c_txtL {Q : Nat → Nat} {tp : Nat} (ht : tp ≤ 120) : ∀ (m i p F : Nat) (g : Row) (S : Mem), F = 239 + m → i + m = 62 → 1 ≤ i → 2 * (i - 1) ≤ p → p ≤ tp → CB Q tp S → CT Q tp p S → RD S g → okk (itr F i_X7_readInto_L11 (45, 21, nI i, S)) (fun r => (∃ g2 k S2, txtN Q tp m i p g = (nI k, some g2) ∧ k ≤ 61 ∧ r = .inl (nI k, S2) ∧ RD S2 g2 ∧ FT S S2 ∧ g2 1 = g 1) ∨ ∃ s S2, txtN Q tp m i p g = (-1 - nI s, none) ∧ s ≤ 120 ∧ r = .inr (45, S2) ∧ S2 45 3 = nI s ∧ FT S S2)
  | 0, i, p, F, g, S, _, hi, _, hp1, hp2, _, _, _ => absurd hp2 (by omega)
  | m + 1, i, p, F, g, S, hF, hi, h1, hp1, hp, hb, hc, hR => by
    obtain ⟨F, rfl⟩ : ∃ F', F = F' + 1 := ⟨238 + (m + 1), by omega⟩
    show okk (bnd (i_X7_readInto_L11 (45, 21, nI i, S)) _) _
    unfold i_X7_readInto_L11
    dsimp only
    unfold f_X7_readInto_L11
    rw [if_neg (show ¬ (120 : Int32) < nI i from nI_nlt (a := 120) (by omega) (by decide)), if_pos tg45]
    refine okB (okB2 (okk_mono (c_item ht hp hb hc hR) fun x hx => ?_))
    unfold txtN
    rcases hit : itemN Q tp p g with ⟨q, g2⟩ | q
    · rw [hit] at hx
      obtain ⟨q1, q2, q3⟩ := itemN_pos ht hp hit
      obtain ⟨x1, x2, x3, x4⟩ := hx
      have hk4 := tkN_le Q tp q
      rw [x1, if_neg (by decide), x2.2.1]
      dsimp only
      by_cases k0 : tkN Q tp q = 0
      · rw [if_pos (by rw [k0]; rfl), if_pos k0]
        exact okI (okI (Or.inl ⟨g2, i, x.2, rfl, by omega, rfl, x3, x4, q3⟩))
      · rw [if_neg (show ¬ nI (tkN Q tp q) = (0 : Int32) from fun z => k0 ((tk1 (k := 0) (by omega)).mp z)), if_neg k0]
        by_cases k3 : tkN Q tp q = 3
        · rw [if_pos (by rw [k3]; rfl), if_pos k3, nI_1]
          have l1 := nxN_lt (Q := Q) q2 ht (by omega)
          have l2 := stN_le (Q := Q) q2 ht
          have l3 := nxN_le (Q := Q) q2 ht
          refine okB2 (okk_mono (c_takeN ht q2 (hb.ft x4) x2) fun y hy => okI ?_)
          have yf : F45 x.2 y.2 := hy.2
          have := c_txtL ht m (i + 1) (nxN Q tp q) F g2 y.2 (by omega) (by omega) (by omega) (by omega) (by omega) ((hb.ft x4).f45 yf) hy.1 (x3.f45 yf)
          refine okk_mono this fun r hr => ?_
          rcases hr with ⟨g3, k, S2, e1, e2, e3, e4, e5, e6⟩ | ⟨s, S2, e1, e2, e3, e4, e5⟩
          · exact Or.inl ⟨g3, k, S2, e1, e2, e3, e4, (x4.tr yf.ft).tr e5, e6.trans q3⟩
          · exact Or.inr ⟨s, S2, e1, e2, e3, e4, (x4.tr yf.ft).tr e5⟩
        · rw [if_neg (show ¬ nI (tkN Q tp q) = (3 : Int32) from fun z => k3 ((tk1 (k := 3) (by omega)).mp z)), if_neg k3]
          have l2 := stN_le (Q := Q) q2 ht
          exact okI (okI (Or.inr ⟨stN Q tp q, x.2, rfl, by omega, rfl, x2.2.2.1, x4⟩))
    · rw [hit] at hx
      obtain ⟨x1, x2, x3⟩ := hx
      have hs : stN Q tp q ≤ 120 := by
        have := stN_le (Q := Q) (itemN_q ht hp hit) ht
        omega
      rw [x1, if_pos rfl]
      exact okI (okI (Or.inr ⟨stN Q tp q, x.2, rfl, hs, rfl, x2.2.2.1, x3⟩))
