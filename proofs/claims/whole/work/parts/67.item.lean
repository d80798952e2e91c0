/-! the class reads an item -/
def RD (S : Mem) (g : Row) : Prop := ∃ n, WF n g ∧ SP n g ∧ Rl S 21 n g
def FT (S S2 : Mem) : Prop := ∀ a, a ≠ 45 → (a < 21 ∨ 33 ≤ a) → S2 a = S a
theorem F45.ft {S S2 : Mem} (h : F45 S S2) : FT S S2 := fun a ha _ => h a ha
theorem FT.tr {S S2 S3 : Mem} (h : FT S S2) (h2 : FT S2 S3) : FT S S3 := fun a ha hb => (h2 a ha hb).trans (h a ha hb)
theorem CB.ft {Q : Nat → Nat} {tp : Nat} {S S2 : Mem} (h : CB Q tp S) (hf : FT S S2) : CB Q tp S2 := ⟨h.1, fun i hi => by rw [hf 46 (by decide) (by decide)]; exact h.2 i hi⟩
theorem RD.f45 {S S2 : Mem} {g : Row} (h : RD S g) (hf : F45 S S2) : RD S2 g := by
  obtain ⟨n, hw, hs, hR⟩ := h
  exact ⟨n, hw, hs, hR.same hw.1 fun a _ _ => hf a (by omega)⟩
def RIc (Q : Nat → Nat) (tp : Nat) (S : Mem) (r : (Nat × Row) ⊕ Nat) (x : Int32 × Mem) : Prop := match r with
  | .inl (q, g) => x.1 = 1 ∧ CT Q tp q x.2 ∧ RD x.2 g ∧ FT S x.2
  | .inr q => x.1 = 0 ∧ CT Q tp q x.2 ∧ FT S x.2
theorem nI_m1 {k : Nat} (h : k < 2 ^ 31) : ¬ nI k = -1 := nI_nm1 h
theorem tg21v : TT 21 := t21
theorem c_readWind {Q : Nat → Nat} {tp p : Nat} {S : Mem} {g : Row} (ht : tp ≤ 120) (hp : p ≤ tp) (hb : CB Q tp S) (hc : CT Q tp p S) (hR : RD S g) : okk (f_X7_readWind 45 21 S) (RIc Q tp S (windN Q tp p g)) := by
  unfold f_X7_readWind windN
  rw [if_pos tg45]
  refine okB2 (okk_mono (c_takeN ht hp hb hc) fun x hx => ?_)
  refine okB2 (okk_mono (c_takeNumber (most := 4) ht (nxN_le hp ht).2 (hb.f45 hx.2) hx.1 (by omega)) fun y hy => ?_)
  rcases hy with ⟨q, y1, y2, y3⟩ | ⟨q, y1, y2, y3⟩
  · have hle : nmN Q tp (nxN Q tp p) ≤ 4 := of_decide_eq_true (and_b.mp q).2
    obtain ⟨n, hw, hs, hr⟩ := hR.f45 (F45.tr hx.2 y3)
    rw [if_pos q, y1, if_neg (nI_m1 (by omega)), if_pos tg21t]
    refine okI ⟨rfl, ?_, ⟨n, WF_low hw (by decide) (by decide), hs.upd (by omega), hr.self (k := 5) (j := 3) (by omega)⟩, fun a ha hb => ?_⟩
    · unfold CT at y2 ⊢
      dsimp only
      rw [wr_n (by decide)]
      exact y2
    · dsimp only
      rw [wr_n (by omega), y3 a ha, hx.2 a ha]
  · rw [y1, if_pos rfl, if_neg (Bool.eq_false_iff.mp q)]
    exact okI ⟨rfl, y2, (F45.tr hx.2 y3).ft⟩
theorem c_readWood {Q : Nat → Nat} {tp p : Nat} {S : Mem} {g : Row} (ht : tp ≤ 120) (hp : p ≤ tp) (hb : CB Q tp S) (hc : CT Q tp p S) (hR : RD S g) : okk (f_X7_readWood 45 21 S) (RIc Q tp S (woodN Q tp p g)) := by
  unfold f_X7_readWood woodN
  rw [if_pos tg45]
  have hp1 := (nxN_le (Q := Q) hp ht).2
  refine okB2 (okk_mono (c_takeN ht hp hb hc) fun x hx => ?_)
  refine okB2 (okk_mono (c_takeNumber (most := 24) ht hp1 (hb.f45 hx.2) hx.1 (by omega)) fun y hy => ?_)
  rcases hy with ⟨q, y1, y2, y3⟩ | ⟨q, y1, y2, y3⟩
  · have hle : nmN Q tp (nxN Q tp p) ≤ 24 := of_decide_eq_true (and_b.mp q).2
    have f2 := F45.tr hx.2 y3
    rw [if_pos q, y1, if_neg (nI_m1 (by omega))]
    refine okB2 (okk_mono (c_takeNumber (most := 9999) ht (nxN_le hp1 ht).2 (hb.f45 f2) y2 (by omega)) fun z hz => ?_)
    rcases hz with ⟨q2, z1, z2, z3⟩ | ⟨q2, z1, z2, z3⟩
    · have hle2 : nmN Q tp (nxN Q tp (nxN Q tp p)) ≤ 9999 := of_decide_eq_true (and_b.mp q2).2
      have f3 := F45.tr f2 z3
      obtain ⟨n, hw, hs, hr⟩ := hR.f45 f3
      rw [if_pos q2, z1, if_neg (nI_m1 (by omega)), if_pos tg21t, if_pos (iabW t21 (by omega) : iab 22 (nI (nmN Q tp (nxN Q tp p))) = true), ix_nI (by omega)]
      refine okI ⟨rfl, ?_, ⟨n, WF_low hw (by omega) (by omega), hs.upd (by omega), hr.wood (by omega) hw.1⟩, fun a ha hb => ?_⟩
      · unfold CT at z2 ⊢
        dsimp only
        rw [wr_n (by decide)]
        exact z2
      · dsimp only
        rw [wr_n (by omega), f3 a ha]
    · rw [z1, if_pos rfl, if_neg (Bool.eq_false_iff.mp q2)]
      exact okI ⟨rfl, z2, (F45.tr f2 z3).ft⟩
  · rw [y1, if_pos rfl, if_neg (Bool.eq_false_iff.mp q)]
    exact okI ⟨rfl, y2, (F45.tr hx.2 y3).ft⟩
theorem c_item {Q : Nat → Nat} {tp p : Nat} {S : Mem} {g : Row} (ht : tp ≤ 120) (hp : p ≤ tp) (hb : CB Q tp S) (hc : CT Q tp p S) (hR : RD S g) : okk (f_X7_readItem 45 21 S) (RIc Q tp S (itemN Q tp p g)) := by
  have pass : ∀ {o : Option (Int32 × Mem)} {r : (Nat × Row) ⊕ Nat}, okk o (RIc Q tp S r) → okk (bnd2 o (fun r21 S22 => if r21 = 0 ∨ r21 = 1 then some (r21, S22) else none)) (RIc Q tp S r) := fun {o r} h => okB2 (okk_mono h fun x hx => by
    have h01 : x.1 = 0 ∨ x.1 = 1 := by
      rcases r with ⟨q, g2⟩ | q
      · exact Or.inr hx.1
      · exact Or.inl hx.1
    rw [if_pos h01]
    exact okI hx)
  unfold f_X7_readItem itemN
  rw [if_pos tg45, show (1000 : Nat) = 1000 + 0 from rfl, c_isWord (k := 0) ht hp hb hc (by omega), bnd2_s, b1_if]
  by_cases k0 : isW Q tp p (wN 0) = true
  · rw [if_pos k0, if_pos k0]
    exact pass (c_readWind ht hp hb hc hR)
  rw [if_neg k0, if_neg k0, show (1001 : Nat) = 1000 + 1 from rfl, c_isWord (k := 1) ht hp hb hc (by omega), bnd2_s, b1_if]
  by_cases k1 : isW Q tp p (wN 1) = true
  · rw [if_pos k1, if_pos k1]
    exact pass (c_readWood ht hp hb hc hR)
  rw [if_neg k1, if_neg k1, c_kindTold ht hp hb hc, bnd2_s]
  rcases hk : kindN Q tp p with _ | k
  · rw [if_pos (show kI none = -1 from rfl)]
    exact okI ⟨rfl, hc, fun _ _ _ => rfl⟩
  · have hk7 := kindN_lt hk
    obtain ⟨n, hw, hs, hr⟩ := hR
    have hn := hw.1
    dsimp only
    rw [if_neg (show ¬ kI (some k) = -1 from nI_m1 (by omega)), if_pos tg21t]
    unfold f_X10_isFull
    rw [if_pos tg21t, hr.1, hw.2.1]
    by_cases h8 : n = 8
    · rw [if_neg (fun z => by have := ((n8 n hn).2.mp z); omega), if_pos ((n8 n hn).1.mpr h8), bnd2_s, if_neg (by decide)]
      exact okI ⟨rfl, hc, fun _ _ _ => rfl⟩
    · rw [if_pos ((n8 n hn).2.mpr (by omega)), if_neg (fun z => h8 ((n8 n hn).1.mp z)), bnd2_s, if_pos rfl, ix_nI (by omega)]
      unfold fireN
      have hp1 := (nxN_le (Q := Q) hp ht).2
      refine okB2 (okk_mono (c_takeN ht hp hb hc) fun x hx => ?_)
      have c2 := c_part (k := 2) (most := 24) (dfl := 0) ht hp1 (hb.f45 hx.2) hx.1 (by omega) (by omega)
      have p2 := partN_pos (Q := Q) (w := wN 2) (most := 24) (dfl := 0) ht hp1
      have v2 := fun v => partN_val (Q := Q) (tp := tp) (p := nxN Q tp p) (w := wN 2) (most := 24) (dfl := 0) (v := v)
      generalize partN Q tp (nxN Q tp p) (wN 2) 24 0 = P2 at c2 p2 v2 ⊢
      obtain ⟨o2, q2⟩ := P2
      refine okB2 (okk_mono c2 fun y hy => ?_)
      obtain ⟨y1, y2, y3⟩ := hy
      have f2 := F45.tr hx.2 y3
      rcases y1 with ⟨v, e, y1⟩ | ⟨e, y1⟩
      · dsimp only at e p2 y2 v2
        subst e
        have hv : ∃ j, j ≤ 24 ∧ v = nI j := (v2 v rfl).elim (fun z => ⟨0, by omega, z⟩) id
        obtain ⟨c, hc24, rfl⟩ := hv
        rw [y1, if_neg (nI_m1 (by omega))]
        dsimp only
        have c3 := c_part (k := 3) (most := 24) (dfl := nI c) ht p2.2 (hb.f45 f2) y2 (by omega) (by omega)
        have p3 := partN_pos (Q := Q) (w := wN 3) (most := 24) (dfl := nI c) ht p2.2
        have v3 := fun v => partN_val (Q := Q) (tp := tp) (p := q2) (w := wN 3) (most := 24) (dfl := nI c) (v := v)
        generalize partN Q tp q2 (wN 3) 24 (nI c) = P3 at c3 p3 v3 ⊢
        obtain ⟨o3, q3⟩ := P3
        refine okB2 (okk_mono c3 fun z hz => ?_)
        obtain ⟨z1, z2, z3⟩ := hz
        have f3 := F45.tr f2 z3
        rcases z1 with ⟨v, e, z1⟩ | ⟨e, z1⟩
        · dsimp only at e p3 z2 v3
          subst e
          have hv : ∃ j, j ≤ 24 ∧ v = nI j := (v3 v rfl).elim (fun z => ⟨c, hc24, z⟩) id
          obtain ⟨h, hh24, rfl⟩ := hv
          rw [z1, if_neg (nI_m1 (by omega))]
          dsimp only
          have c4 := c_part (k := 4) (most := 999) (dfl := 50) ht p3.2 (hb.f45 f3) z2 (by omega) (by omega)
          have v4 := fun v => partN_val (Q := Q) (tp := tp) (p := q3) (w := wN 4) (most := 999) (dfl := 50) (v := v)
          generalize partN Q tp q3 (wN 4) 999 50 = P4 at c4 v4 ⊢
          obtain ⟨o4, q4⟩ := P4
          refine okB2 (okk_mono c4 fun u hu => ?_)
          obtain ⟨u1, u2, u3⟩ := hu
          have f4 := F45.tr f3 u3
          rcases u1 with ⟨v, e, u1⟩ | ⟨e, u1⟩
          · dsimp only at e u2 v4
            subst e
            have hv : ∃ j, j ≤ 999 ∧ v = nI j := (v4 v rfl).elim (fun z => ⟨50, by omega, z⟩) id
            obtain ⟨l, hl999, rfl⟩ := hv
            rw [u1, if_neg (nI_m1 (by omega))]
            obtain ⟨S5, l1, l2, l3⟩ := c_light (k := nI k) (c := nI c) (h := nI h) (l := nI l) t21 (by omega) (hr.same hn fun a _ _ => f4 a (by omega))
            rw [show kI (some k) = nI k from rfl, l1, bnd2_s]
            refine okI ⟨rfl, ?_, ⟨n + 1, WF_come hw (by omega) hk7 (by omega) (by omega), hs.come (by omega), l2⟩, fun a ha hb => ?_⟩
            · unfold CT at u2 ⊢
              dsimp only
              rw [l3 45 (by omega)]
              exact u2
            · dsimp only
              rw [l3 a (by omega), f4 a ha]
          · dsimp only at e u2
            subst e
            rw [u1, if_pos rfl]
            exact okI ⟨rfl, u2, f4.ft⟩
        · dsimp only at e z2
          subst e
          rw [z1, if_pos rfl]
          exact okI ⟨rfl, z2, f3.ft⟩
      · dsimp only at e y2
        subst e
        rw [y1, if_pos rfl]
        exact okI ⟨rfl, y2, f2.ft⟩
