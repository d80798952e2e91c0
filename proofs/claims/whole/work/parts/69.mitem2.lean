/-! the reference's item whole -/
theorem m_isTwo {Q : Nat → Nat} {tp p : Nat} {S : Mem} {β : Type} {X Y : Mem → β} (ht : tp ≤ 120) (hp : p ≤ tp) (hb : MB Q tp S) (hm : MT Q tp p S) {o : Option (Int32 × Mem)} (f : Mem → Option (Int32 × Mem)) (g : Mem → Option (Int32 × Mem)) (ho : o = bnd2 (f_X12_isWord 57 2 S) (fun r8 S9 => if r8 = 0 then f S9 else bnd2 (f_X12_byteAt 57 (S9 57 13) S9) (fun r40 S41 => if r40 = 97 then bnd2 (f_X12_byteAt 57 ((S41 57 13) + 1) S41) (fun r42 S43 => if r42 = 116 then g S43 else f S43) else f S41))) : o = if isW Q tp p (wN 2) = true then g S else f S := by
  have hl := ln_le (Q := Q) hp ht
  rw [ho, show (2 : Int32) = nI 2 from rfl, m_isWordN ht hp hm (by omega), bnd2_s, b1_if, isW_len (n := 2) (w := wN 2) rfl]
  by_cases h : (decide (tkN Q tp p = 1) && decide (lnN Q tp p = 2)) = true
  · have h2' := of_decide_eq_true (and_b.mp h).2
    have q0 := hb.1 (stN Q tp p)
    have q1 := hb.1 (stN Q tp p + 1)
    have e : eqW Q (stN Q tp p) (wN 2) = (decide (Q (stN Q tp p) = 97) && (decide (Q (stN Q tp p + 1) = 116) && true)) := rfl
    have b0 : bt Q tp (stN Q tp p) = nI (Q (stN Q tp p)) := if_pos (by omega)
    have b1' : bt Q tp (stN Q tp p + 1) = nI (Q (stN Q tp p + 1)) := if_pos (by omega)
    rw [if_pos h, h, Bool.true_and, e, hm.2.2.1, m_byteAt ht (by omega) hb hm.1, bnd2_s, b0]
    by_cases c0 : Q (stN Q tp p) = 97
    · rw [if_pos (by rw [c0]; rfl), hm.2.2.1, nI_1, m_byteAt ht (by omega) hb hm.1, bnd2_s, b1', dec_t c0, Bool.true_and]
      by_cases c1 : Q (stN Q tp p + 1) = 116
      · rw [if_pos (by rw [c1]; rfl), dec_t c1, if_pos (by decide)]
      · rw [if_neg (show ¬ nI (Q (stN Q tp p + 1)) = (116 : Int32) from fun z => c1 ((nI_eq (b := 116) (by omega) (by omega)).mp z)), dec_f c1, if_neg (by decide)]
    · rw [if_neg (show ¬ nI (Q (stN Q tp p)) = (97 : Int32) from fun z => c0 ((nI_eq (b := 97) (by omega) (by omega)).mp z)), dec_f c0, if_neg (by rw [Bool.false_and]; decide)]
  · rw [if_neg h, if_neg (by rw [Bool.eq_false_iff.mpr h, Bool.false_and]; decide)]
theorem m_fireHere {Q : Nat → Nat} {tp p n k : Nat} {S : Mem} (ht : tp ≤ 120) (hp : p ≤ tp) (hb : MB Q tp S) (hm : MT Q tp p S) (h0 : S 58 0 = nI n) (hn : n < 8) : okk (f_X12_fireHere 57 (nI k) S) (RIm Q tp S (fireN Q tp p n k (S 58))) := by
  have hp1 := (nxN_le (Q := Q) hp ht).2
  unfold f_X12_fireHere fireN
  rw [if_pos tg57, if_pos i58_0, ix_0, h0, if_neg (fun z => by have := (n8 n (by omega)).1.mp z; omega), m_comes h0 hn, bnd2_s]
  have hg0 : MG S (wrow S 58 (comeR (S 58) n (nI k) 0 0 50)) := ⟨fun a _ hb => wrow_n _ hb, fun k _ => by rw [wrow_n _ (by decide)], fun q hq => by rw [wrow_s, comeR_o (by omega) (fun w hw => by unfold fi; omega)]⟩
  have hm0 : MT Q tp p (wrow S 58 (comeR (S 58) n (nI k) 0 0 50)) := by
    unfold MT at hm ⊢
    rw [wrow_n _ (by decide)]
    exact hm
  have e58 : wrow S 58 (comeR (S 58) n (nI k) 0 0 50) 58 = comeR (S 58) n (nI k) 0 0 50 := wrow_s _ _ _
  generalize wrow S 58 (comeR (S 58) n (nI k) 0 0 50) = S4 at hg0 hm0 e58 ⊢
  rw [e58, comeR_n.1, show nI (n + 1) - 1 = nI n from nI_pred n]
  refine okB2 (okk_mono (m_nextN ht hp (hb.mg hg0) hm0) fun x hx => ?_)
  have g1 : MG S x.2 := hg0.tr hx.2.mg
  have x58 : x.2 58 = comeR (S 58) n (nI k) 0 0 50 := by rw [hx.2.1 58 (by decide)]; exact e58
  rw [m_isTwo (X := fun _ => ()) (Y := fun _ => ()) ht hp1 (hb.mg g1) hx.1 (fun S9 => f_X12_fireHere_j77 57 (nI n) 57 S9) (fun S43 => f_X12_fireHere_j78 57 (nI n) 57 1 S43) rfl]
  have e78 : (if isW Q tp (nxN Q tp p) (wN 2) = true then f_X12_fireHere_j78 57 (nI n) 57 1 x.2 else f_X12_fireHere_j77 57 (nI n) 57 x.2) = f_X12_fireHere_j78 57 (nI n) 57 (b1 (isW Q tp (nxN Q tp p) (wN 2))) x.2 := by
    unfold f_X12_fireHere_j77
    cases isW Q tp (nxN Q tp p) (wN 2) <;> rfl
  rw [e78]
  unfold f_X12_fireHere_j78
  rw [m_at, bnd2_s, if_pos tg57, show (30 : Int32) + 7 * nI n + 1 = nI (fi n 1) from fi_nI n 1]
  have c2 := m_part (idx := fi n 1) (most := 24) (w := wN 2) ht hp1 (hb.mg g1) hx.1 (by omega) (by unfold fi; omega)
  have p2 := partN_pos (Q := Q) (w := wN 2) (most := 24) (dfl := 0) ht hp1
  rw [x58, (comeR_n (g := S 58) (n := n) (k := nI k) (c := 0) (h := 0) (l := 50)).2.2.1] at c2
  generalize partN Q tp (nxN Q tp p) (wN 2) 24 0 = P2 at c2 p2 ⊢
  obtain ⟨o2, q2⟩ := P2
  refine okB2 (okk_mono c2 fun y hy => ?_)
  obtain ⟨y0, yg⟩ := hy
  have g2 := g1.tr yg
  rcases y0 with ⟨c, e, y1, y2, y3⟩ | ⟨e, y1, y2⟩
  · dsimp only at e p2 y3
    subst e
    rw [y1, if_neg (by decide), if_pos tg57, m_at, bnd2_s, m_its1 hn, bnd2_s, if_pos (s_4 hn).2, (s_4 hn).1]
    dsimp only
    rw [m_at, bnd2_s, m_its1 hn, bnd2_s, if_pos (s_2 hn).2, (s_2 hn).1]
    have row : wr (wr y.2 58 (fi n 4) (y.2 58 (fi n 1))) 58 (fi n 2) (wr y.2 58 (fi n 4) (y.2 58 (fi n 1)) 58 (fi n 1)) 58 = comeR (S 58) n (nI k) c c 50 := by
      rw [wr_s, wr_s, y2, upd_n (show fi n 1 ≠ fi n 4 by unfold fi; omega), upd_s, come_part]
    have g3 : MG S (wr (wr y.2 58 (fi n 4) (y.2 58 (fi n 1))) 58 (fi n 2) (wr y.2 58 (fi n 4) (y.2 58 (fi n 1)) 58 (fi n 1))) := (g2.tr (MG.row (by unfold fi; omega))).tr (MG.row (by unfold fi; omega))
    have hm3 : MT Q tp q2 (wr (wr y.2 58 (fi n 4) (y.2 58 (fi n 1))) 58 (fi n 2) (wr y.2 58 (fi n 4) (y.2 58 (fi n 1)) 58 (fi n 1))) := y3.r58.r58
    generalize wr (wr y.2 58 (fi n 4) (y.2 58 (fi n 1))) 58 (fi n 2) (wr y.2 58 (fi n 4) (y.2 58 (fi n 1)) 58 (fi n 1)) = S5 at row g3 hm3 ⊢
    rw [show f_X12_isFour 57 104 111 109 101 S5 = _ from m_isFour (a := 104) (b := 111) (c := 109) (d := 101) ht p2.2 (hb.mg g3) hm3 (by omega) (by omega) (by omega) (by omega), bnd2_s, show ([104, 111, 109, 101] : List Nat) = wN 3 from rfl, m_at, bnd2_s, show (30 : Int32) + 7 * nI n + 2 = nI (fi n 2) from fi_nI n 2]
    have c3 := m_part (idx := fi n 2) (most := 24) (w := wN 3) ht p2.2 (hb.mg g3) hm3 (by omega) (by unfold fi; omega)
    have p3 := partN_pos (Q := Q) (w := wN 3) (most := 24) (dfl := c) ht p2.2
    rw [row, (comeR_n (g := S 58) (n := n) (k := nI k) (c := c) (h := c) (l := 50)).2.2.2.1] at c3
    generalize partN Q tp q2 (wN 3) 24 c = P3 at c3 p3 ⊢
    obtain ⟨o3, q3⟩ := P3
    refine okB2 (okk_mono c3 fun z hz => ?_)
    obtain ⟨z0, zg⟩ := hz
    have g4 := g3.tr zg
    rcases z0 with ⟨h, e, z1, z2, z3⟩ | ⟨e, z1, z2⟩
    · dsimp only at e p3 z3
      subst e
      rw [come_home] at z2
      rw [z1, if_neg (by decide), show f_X12_isFour 57 108 111 103 115 z.2 = _ from m_isFour (a := 108) (b := 111) (c := 103) (d := 115) ht p3.2 (hb.mg g4) z3 (by omega) (by omega) (by omega) (by omega), bnd2_s, show ([108, 111, 103, 115] : List Nat) = wN 4 from rfl, m_at, bnd2_s, show (30 : Int32) + 7 * nI n + 3 = nI (fi n 3) from fi_nI n 3]
      have c4 := m_part (idx := fi n 3) (most := 999) (w := wN 4) ht p3.2 (hb.mg g4) z3 (by omega) (by unfold fi; omega)
      rw [z2, (comeR_n (g := S 58) (n := n) (k := nI k) (c := c) (h := h) (l := 50)).2.2.2.2.1] at c4
      dsimp only
      generalize partN Q tp q3 (wN 4) 999 50 = P4 at c4 ⊢
      obtain ⟨o4, q4⟩ := P4
      refine okB2 (okk_mono c4 fun u hu => ?_)
      obtain ⟨u0, ug⟩ := hu
      have g5 := g4.tr ug
      rcases u0 with ⟨l, e, u1, u2, u3⟩ | ⟨e, u1, u2⟩
      · dsimp only at e u3
        subst e
        rw [come_logs] at u2
        rw [u1, if_neg (by decide)]
        exact okI ⟨rfl, u3, u2, g5⟩
      · dsimp only at e u2
        subst e
        rw [u1, if_pos rfl]
        exact okI ⟨rfl, u2, g5⟩
    · dsimp only at e z2
      subst e
      rw [z1, if_pos rfl]
      exact okI ⟨rfl, z2, g4⟩
  · dsimp only at e y2
    subst e
    rw [y1, if_pos rfl]
    exact okI ⟨rfl, y2, g2⟩

theorem kI_neg {k : Nat} (h : k < 2 ^ 31) : ¬ kI (some k) < 0 := nI_neg0 h
theorem m_item {Q : Nat → Nat} {tp p n : Nat} {S : Mem} (ht : tp ≤ 120) (hp : p ≤ tp) (hb : MB Q tp S) (hm : MT Q tp p S) (h0 : S 58 0 = nI n) (hn : n ≤ 8) : okk (f_X12_itemHere 57 S) (RIm Q tp S (itemN Q tp p (S 58))) := by
  have pass : ∀ {o : Option (Int32 × Mem)} {r : (Nat × Row) ⊕ Nat}, okk o (RIm Q tp S r) → okk (bnd2 o (fun r21 S22 => if r21 = 0 ∨ r21 = 1 then some (r21, S22) else none)) (RIm Q tp S r) := fun {o r} h => okB2 (okk_mono h fun x hx => by
    have h01 : x.1 = 0 ∨ x.1 = 1 := by
      rcases r with ⟨q, g2⟩ | q
      · exact Or.inr hx.1
      · exact Or.inl hx.1
    rw [if_pos h01]
    exact okI hx)
  have fl : okk (f_X12_fails 57 S) (RIm Q tp S (.inr p)) := by
    unfold f_X12_fails
    rw [if_pos tg57, hm.2.2.1]
    refine okI ⟨rfl, ?_, MG.fault⟩
    show wr S 57 16 (nI (stN Q tp p)) 57 16 = _
    rw [wr_s, upd_s]
  unfold f_X12_itemHere itemN
  rw [if_pos tg57, m_kindHere ht hp hb hm, bnd2_s]
  rcases hk : kindN Q tp p with _ | k
  · rw [if_pos (show kI none < 0 by decide), show f_X12_isFour 57 119 105 110 100 S = _ from m_isFour (a := 119) (b := 105) (c := 110) (d := 100) ht hp hb hm (by omega) (by omega) (by omega) (by omega), bnd2_s, b1_if, show ([119, 105, 110, 100] : List Nat) = wN 0 from rfl]
    by_cases k0 : isW Q tp p (wN 0) = true
    · rw [if_pos k0, if_pos k0]
      refine pass ?_
      exact m_perhaps1 (idx := 3) (most := 4) ht hp hb hm (by omega) (by omega)
    · rw [if_neg k0, if_neg k0, show f_X12_isFour 57 119 111 111 100 S = _ from m_isFour (a := 119) (b := 111) (c := 111) (d := 100) ht hp hb hm (by omega) (by omega) (by omega) (by omega), bnd2_s, b1_if, show ([119, 111, 111, 100] : List Nat) = wN 1 from rfl]
      by_cases k1 : isW Q tp p (wN 1) = true
      · rw [if_pos k1, if_pos k1]
        exact pass (m_woodHere ht hp hb hm)
      · rw [if_neg k1, if_neg k1]
        exact pass fl
  · have hk7 := kindN_lt hk
    have hw := kindN_w hk
    obtain ⟨ne0, ne1⟩ := wN_ne k hk7
    rw [if_neg (kI_neg (by omega)), if_neg (fun z => ne0 (isW_inj z hw)), if_neg (fun z => ne1 (isW_inj z hw))]
    refine pass ?_
    dsimp only
    rw [show kI (some k) = nI k from rfl]
    by_cases h8 : n = 8
    · unfold f_X12_fireHere
      rw [if_pos tg57, if_pos i58_0, ix_0, h0, if_pos ((n8 n hn).1.mpr h8), if_pos ((n8 n hn).1.mpr h8)]
      exact pass fl
    · have := m_fireHere (k := k) ht hp hb hm h0 (by omega)
      rw [h0, if_neg (fun z => h8 ((n8 n hn).1.mp z)), ix_nI (by omega)]
      exact this
