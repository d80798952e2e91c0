/-! text by the class, whole -/
def QA (A : Mem) : Nat → Nat := fun i => ix (A 63 i) % 256
def txA (A : Mem) (r : Int32 × Option Row) : Int32 × Mem := match r with
  | (v, none) => (v, wr A 57 7 0)
  | (v, some g) => (v, wrow (wr A 57 7 0) 58 g)
def sp_text (A : Mem) : Int32 × Mem := txA A (txtN (QA A) (ix (A 57 7)) 61 1 0 (A 58))
theorem INV.text {S S9 A : Mem} {H : Nat} {g : Row} (hI : INV S A H) (he : ∀ a, a < 57 → (a < 9 ∨ 33 ≤ a) → a ≠ 45 → S9 a = S a) (h45 : S9 45 1 = 0) (hr : RW S9 9 g H) : INV S9 (wrow (wr A 57 7 0) 58 g) H := by
  obtain ⟨h1, h2, h3, h4, h5, h6⟩ := hI
  have w58 : wrow (wr A 57 7 0) 58 g 58 = g := wrow_s _ _ _
  have wA : ∀ b, b ≠ 57 → b ≠ 58 → wrow (wr A 57 7 0) 58 g b = A b := fun b hb hb2 => by rw [wrow_n _ hb2, wr_n hb]
  have w57 : ∀ k, k ≠ 7 → wrow (wr A 57 7 0) 58 g 57 k = A 57 k := fun k hk => by rw [wrow_n _ (by decide), wr_s, upd_n hk]
  have w577 : wrow (wr A 57 7 0) 58 g 57 7 = 0 := by rw [wrow_n _ (by decide), wr_s, upd_s]
  unfold INV FI TP SH
  rw [w58, wA 59 (by decide) (by decide), wA 62 (by decide) (by decide), wA 63 (by decide) (by decide), wA 64 (by decide) (by decide), wA 65 (by decide) (by decide), wA 66 (by decide) (by decide), w57 4 (by decide), w577, he 0 (by decide) (by decide) (by decide), he 46 (by decide) (by decide) (by decide), he 56 (by decide) (by decide) (by decide), h45]
  refine ⟨hr, h2, h3.imp id fun x => ⟨x.1, x.2.same fun a _ _ => he a (by omega) (by omega) (by omega)⟩, h4, ⟨0, by omega, rfl, rfl, fun i hi => absurd hi (by omega)⟩, fun s hs => ?_⟩
  rw [he _ (by omega) (by omega) (by omega), he _ (by omega) (by omega) (by omega)]
  exact h6 s hs
theorem neg_st {s : Nat} (h : s ≤ 120) : -1 - nI s < 0 := (by decide +kernel : ∀ s, s ≤ 120 → -1 - nI s < 0) s h
theorem c_text {S A : Mem} {H : Nat} (hI : INV S A H) : okk (f_X11_text 0 S) (OKC S H (sp_text A)) := by
  unfold f_X11_text sp_text
  obtain ⟨n, hw, hsp, ⟨h, hh, e1⟩, hR⟩ := hI.1
  obtain ⟨tp, ht, s1, a7, hby⟩ := hI.2.2.2.2.1
  have hn := hw.1
  rw [if_pos tg0, a7, ix_nI (by omega)]
  refine okB2 (okk_mono (c_become t21 t9 (by omega) hn hR) fun x hx => ?_)
  have hb : CB (QA A) tp (wr x.2 45 4 0) := ⟨fun i => by unfold QA; omega, fun i hi => by
    obtain ⟨q, hq, e2, e3⟩ := hby i hi
    rw [wr_n (by decide), hx.2 46 (by omega), e3]
    unfold QA
    rw [e2, ix_nI (by omega), Nat.mod_eq_of_lt hq]
    rfl⟩
  unfold f_X7_readInto
  rw [if_pos tg45]
  dsimp only
  refine okB2 ?_
  refine okB2 (okk_mono (c_take (p := 0) ht (by omega) hb (by rw [wr_s, upd_n (by decide), hx.2 45 (by omega)]; exact s1) (by rw [wr_s, upd_s]; rfl)) fun y hy => ?_)
  have yf : F45 (wr x.2 45 4 0) y.2 := hy.2
  have fx : ∀ a, a ≠ 45 → y.2 a = x.2 a := fun a ha => by rw [yf a ha, wr_n ha]
  have hRD : RD y.2 (A 58) := ⟨n, hw, hsp, hx.1.same hn fun a _ _ => fx a (by omega)⟩
  have key := c_txtL ht 61 1 0 300 (A 58) y.2 rfl rfl (by omega) (by omega) (by omega) (hb.f45 yf) hy.1 hRD
  refine okB (okk_mono key fun r hr => ?_)
  rcases hr with ⟨g2, k, S2, e2, e3, rfl, ⟨n2, w2, sp2, r2⟩, f2, h2⟩ | ⟨s, S2, e2, e3, rfl, e4, f2⟩
  · have fr : ∀ a, a ≠ 45 → (a < 21 ∨ 33 ≤ a) → S2 a = S a := fun a ha hb => by rw [f2 a ha hb, fx a ha, hx.2 a (by omega)]
    rw [e2]
    refine okI ?_
    dsimp only
    rw [if_neg (nI_neg0 (by omega))]
    refine okB2 (okk_mono (c_become t9 t21 (by omega) w2.1 r2) fun z hz => ?_)
    have fr2 : ∀ a, a ≠ 45 → (a < 9 ∨ 33 ≤ a) → wr z.2 45 1 0 a = S a := fun a ha hb => by rw [wr_n ha, hz.2 a (by omega), fr a ha (by omega)]
    refine okI ⟨rfl, hI.text (fun a _ hb hc => fr2 a hc hb) (by show wr z.2 45 1 0 45 1 = 0; rw [wr_s, upd_s]) ⟨n2, w2, sp2, ⟨h, hh, h2.trans e1⟩, hz.1.same w2.1 fun a _ _ => wr_n (by omega)⟩, fun a ha => fr2 a (by omega) (by omega)⟩
  · have fr : ∀ a, a ≠ 45 → (a < 21 ∨ 33 ≤ a) → wr S2 45 1 0 a = S a := fun a ha hb => by rw [wr_n ha, f2 a ha hb, fx a ha, hx.2 a (by omega)]
    rw [e2]
    show okk (if tg 45 = 7 then some (-1 - S2 45 3, S2) else none) _
    rw [if_pos tg45, e4]
    refine okI ?_
    dsimp only
    rw [if_pos (neg_st e3)]
    have eA : wr A 57 7 0 = wrow (wr A 57 7 0) 58 (A 58) := by
      have : wr A 57 7 0 58 = A 58 := wr_n (by decide)
      rw [← this, wrow_id]
    have hi := hI.text (S9 := wr S2 45 1 0) (g := A 58) (fun a _ hb hc => fr a hc (by omega)) (by rw [wr_s, upd_s]) ⟨n, hw, hsp, ⟨h, hh, e1⟩, hR.same hn fun a _ _ => fr a (by omega) (by omega)⟩
    rw [← eA] at hi
    exact okI ⟨rfl, hi, fun a ha => fr a (by omega) (by omega)⟩
