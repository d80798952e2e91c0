/-! text by the reference -/
theorem itemN_n {Q : Nat → Nat} {tp p q n : Nat} {g g2 : Row} (h0 : g 0 = nI n) (hn : n ≤ 8) (h : itemN Q tp p g = .inl (q, g2)) : ∃ n2, n2 ≤ 8 ∧ g2 0 = nI n2 := by
  unfold itemN at h
  split at h
  · unfold windN at h
    split at h
    · obtain ⟨e1, e2⟩ := Prod.mk.inj (Sum.inl.inj h)
      subst e2
      exact ⟨n, hn, by rw [upd_n (by decide)]; exact h0⟩
    · exact absurd h Sum.inr_ne_inl
  split at h
  · unfold woodN at h
    split at h
    · split at h
      · obtain ⟨e1, e2⟩ := Prod.mk.inj (Sum.inl.inj h)
        subst e2
        exact ⟨n, hn, by rw [upd_n (by omega)]; exact h0⟩
      · exact absurd h Sum.inr_ne_inl
    · exact absurd h Sum.inr_ne_inl
  split at h
  · exact absurd h Sum.inr_ne_inl
  · split at h
    · exact absurd h Sum.inr_ne_inl
    · rename_i h8
      have hn8 : n ≠ 8 := fun z => h8 (by rw [h0, z]; rfl)
      unfold fireN at h
      split at h
      · exact absurd h Sum.inr_ne_inl
      · split at h
        · exact absurd h Sum.inr_ne_inl
        · split at h
          · exact absurd h Sum.inr_ne_inl
          · obtain ⟨e1, e2⟩ := Prod.mk.inj (Sum.inl.inj h)
            subst e2
            refine ⟨n + 1, by omega, ?_⟩
            rw [comeR_n.1, h0, ix_nI (by omega)]
def TXm (S : Mem) (t : Int32 × Option Row) (e : Nat × Int32 × Int32 × Mem) : Prop := (∃ g2 k S2, t = (nI k, some g2) ∧ e = (57, nI k, 1, S2) ∧ S2 57 12 = 0 ∧ S2 58 = g2 ∧ MG S S2) ∨ ∃ s S2 k, t = (-1 - nI s, none) ∧ MG S S2 ∧ (e = (57, k, 0, S2) ∧ S2 57 16 = nI s ∨ e = (57, k, 1, S2) ∧ ¬ S2 57 12 = 0 ∧ S2 57 13 = nI s)
theorem TXm.mono {S S2 : Mem} {t : Int32 × Option Row} {e : Nat × Int32 × Int32 × Mem} (h : TXm S2 t e) (hg : MG S S2) : TXm S t e := by
  rcases h with ⟨g2, k, S3, a, b, c, d, f⟩ | ⟨s, S3, k, a, b, c⟩
  · exact Or.inl ⟨g2, k, S3, a, b, c, d, hg.tr f⟩
  · exact Or.inr ⟨s, S3, k, a, hg.tr b, c⟩
theorem m_txtL {Q : Nat → Nat} {tp : Nat} (ht : tp ≤ 120) : ∀ (m i p F n : Nat) (S : Mem), F = 239 + m → i + m = 62 → 1 ≤ i → 2 * (i - 1) ≤ p → p ≤ tp → MB Q tp S → MT Q tp p S → S 58 0 = nI n → n ≤ 8 → okk (bnd2 (f_X12_itemHere 57 S) (fun r S8 => itr F i_X12_text_L27 (57, nI i, r, S8))) (TXm S (txtN Q tp m i p (S 58)))
  | 0, i, p, F, n, S, _, hi, _, hp1, hp2, _, _, _, _ => absurd hp2 (by omega)
  | m + 1, i, p, F, n, S, hF, hi, h1, hp1, hp, hb, hm, h0, hn => by
    obtain ⟨F, rfl⟩ : ∃ F', F = F' + 1 := ⟨238 + (m + 1), by omega⟩
    refine okB2 (okk_mono (m_item ht hp hb hm h0 hn) fun x hx => ?_)
    show okk (bnd (i_X12_text_L27 (57, nI i, x.1, x.2)) _) _
    unfold i_X12_text_L27
    dsimp only
    unfold f_X12_text_L27 txtN
    refine okB ?_
    rcases hit : itemN Q tp p (S 58) with ⟨q, g2⟩ | q
    · rw [hit] at hx
      obtain ⟨q1, q2, q3⟩ := itemN_pos ht hp hit
      obtain ⟨n2, hn2, e2⟩ := itemN_n h0 hn hit
      obtain ⟨x1, x2, x3, x4⟩ := hx
      have hk4 := tkN_le Q tp q
      rw [x1, if_neg (by decide), if_pos tg57, x2.2.1]
      dsimp only
      by_cases k3 : tkN Q tp q = 3
      · rw [if_pos (by rw [k3]; rfl), if_neg (by omega), if_pos k3, nI_1]
        have l1 := nxN_lt (Q := Q) q2 ht (by omega)
        have l2 := stN_le (Q := Q) q2 ht
        have l3 := nxN_le (Q := Q) q2 ht
        refine okB2 (okk_mono (m_nextN ht q2 (hb.mg x4) x2) fun y hy => ?_)
        have y58 : y.2 58 = g2 := by rw [hy.2.1 58 (by decide)]; exact x3
        have := m_txtL ht m (i + 1) (nxN Q tp q) F n2 y.2 (by omega) (by omega) (by omega) (by omega) (by omega) ((hb.mg x4).mg hy.2.mg) hy.1 (by rw [y58]; exact e2) hn2
        rw [y58] at this
        exact okB2 (okk_mono (okk_bnd2 this) fun z hz => okI (okk_mono hz fun e he => he.mono (x4.tr hy.2.mg)))
      · rw [if_neg (show ¬ nI (tkN Q tp q) = (3 : Int32) from fun z => k3 ((tk1 (k := 3) (by omega)).mp z))]
        by_cases k0 : tkN Q tp q = 0
        · rw [if_pos k0]
          exact okI (okI (Or.inl ⟨g2, i, x.2, rfl, rfl, by rw [x2.2.1, k0]; rfl, x3, x4⟩))
        · rw [if_neg k0, if_neg k3]
          exact okI (okI (Or.inr ⟨stN Q tp q, x.2, nI i, rfl, x4, Or.inr ⟨rfl, by rw [x2.2.1]; exact fun z => k0 ((tk1 (k := 0) (by omega)).mp z), x2.2.2.1⟩⟩))
    · rw [hit] at hx
      obtain ⟨x1, x2, x3⟩ := hx
      rw [x1, if_pos rfl]
      exact okI (okI (Or.inr ⟨stN Q tp q, x.2, nI i, rfl, x3, Or.inl ⟨rfl, x2⟩⟩))
theorem m_text {S T : Mem} {n : Nat} (hT : TP T S) (hw : WF n (S 58)) : okk (f_X12_text 57 S) (OKM S (sp_text (mp S))) := by
  obtain ⟨tp, ht, s1, a7, hby⟩ := hT
  have hn := hw.1
  unfold f_X12_text sp_text
  rw [if_pos tg57, show mp S 57 = S 57 from rfl, mp58, a7, ix_nI (by omega), m_copyRow rfl rfl (by decide), bnd2_s]
  dsimp only
  have w58 : ∀ v k, wr (wrow S 60 (cpR (S 58) (S 60))) 57 k v 58 = S 58 := fun v k => by rw [wr_n (by decide), wrow_n _ (by decide)]
  have w60 : ∀ v k, wr (wrow S 60 (cpR (S 58) (S 60))) 57 k v 60 = cpR (S 58) (S 60) := fun v k => by rw [wr_n (by decide), wrow_s]
  have wo : ∀ v k a, a ≠ 57 → a ≠ 60 → wr (wrow S 60 (cpR (S 58) (S 60))) 57 k v a = S a := fun v k a h1 h2 => by rw [wr_n h1, wrow_n _ h2]
  have w57 : ∀ v k, k ≠ 14 → wr (wrow S 60 (cpR (S 58) (S 60))) 57 14 v 57 k = S 57 k := fun v k h => by rw [wr_s, upd_n h, wrow_n _ (by decide)]
  have hQ : QA (mp S) = QA S := rfl
  have hb : MB (QA S) tp (wr (wrow S 60 (cpR (S 58) (S 60))) 57 14 0) := ⟨fun i => by unfold QA; omega, fun i hi => by
    obtain ⟨q, hq, e2, e3⟩ := hby i hi
    rw [wo _ _ _ (by decide) (by decide)]
    unfold QA
    rw [e2, ix_nI (by omega), Nat.mod_eq_of_lt hq]⟩
  rw [hQ]
  have key := m_next (p := 0) ht (by omega) hb (by rw [w57 _ _ (by decide)]; exact a7) (by rw [wr_s, upd_s]; rfl)
  refine okB2 (okk_mono key fun y hy => ?_)
  have y58 : y.2 58 = S 58 := by rw [hy.2.1 58 (by decide), w58]
  have key2 := m_txtL ht 61 1 0 300 n y.2 rfl rfl (by omega) (by omega) (by omega) (hb.mg hy.2.mg) hy.1 (by rw [y58]; exact hw.2.1) hn
  rw [y58] at key2
  refine okB2 (okk_mono (okk_bnd2 key2) fun x hx => okB (okk_mono hx fun e he => ?_))
  have fr : ∀ S2, MG y.2 S2 → (∀ a, a ≠ 57 → a ≠ 58 → a ≠ 60 → S2 a = S a) ∧ S2 60 = cpR (S 58) (S 60) ∧ (∀ k, k < 12 → S2 57 k = S 57 k) ∧ ∀ p, 96 ≤ p → S2 58 p = S 58 p := fun S2 hg => by
    refine ⟨fun a h1 h2 h3 => ?_, ?_, fun k hk => ?_, fun p hp => ?_⟩
    · rw [hg.1 a h1 h2, hy.2.1 a h1, wo _ _ _ h1 h3]
    · rw [hg.1 60 (by decide) (by decide), hy.2.1 60 (by decide), w60]
    · rw [hg.2.1 k hk, hy.2.2 k (Or.inl hk), w57 _ _ (by omega)]
    · rw [hg.2.2 p hp, y58]
  have ok : ∀ (v : Int32) (S2 : Mem) (B : Mem), (∀ a, a ≠ 57 → a ≠ 58 → a ≠ 60 → S2 a = S a) → (∀ k, k < 12 → k ≠ 7 → S2 57 k = S 57 k) → S2 57 7 = 0 → S2 58 = B 58 → (∀ a, a ≠ 57 → a ≠ 58 → B a = mp S a) → B 57 4 = S 57 4 → B 57 7 = 0 → okk (some (v, S2)) (OKM S (v, B)) := fun v S2 B h1 h2 h3 h4 h5 h6 h7 => by
    have hm : ∀ a, a ≠ 57 → a ≠ 58 → a ≠ 60 → 57 ≤ a → S2 a = B a := fun a q1 q2 q3 q4 => by
      rw [h1 a q1 q2 q3, h5 a q1 q2]
      exact hi_mp S a q4
    exact okI ⟨rfl, ⟨(h2 4 (by decide) (by decide)).trans h6.symm, h3.trans h7.symm, h4, hm 59 (by decide) (by decide) (by decide) (by decide), hm 62 (by decide) (by decide) (by decide) (by decide), hm 63 (by decide) (by decide) (by decide) (by decide), hm 64 (by decide) (by decide) (by decide) (by decide), hm 65 (by decide) (by decide) (by decide) (by decide), hm 66 (by decide) (by decide) (by decide) (by decide)⟩, fun a ha => h1 a (by omega) (by omega) (by omega)⟩
  have fail : ∀ (s : Nat) (k : Int32) (S2 : Mem), MG y.2 (wr S2 57 16 (nI s)) → okk (f_X12_text_j76 57 k (wr S2 57 16 (nI s))) (OKM S (-1 - nI s, wr (mp S) 57 7 0)) := fun s k S2 hg => by
    obtain ⟨f1, f2, f3, f4⟩ := fr _ hg
    unfold f_X12_text_j76 f_X12_text_j77 f_X12_text_j98
    rw [if_pos tg57]
    dsimp only
    rw [if_pos rfl, m_copyRow rfl rfl (by decide), bnd2_s, if_pos rfl, if_pos tg57, wrow_n _ (by decide), wr_s, upd_n (by decide), wr_s, upd_s, wr_n (by decide), f2, wr_n (by decide), cpR_back f4]
    refine ok _ _ _ (fun a h1 h2 h3 => ?_) (fun k hk hk7 => ?_) ?_ ?_ (fun a h1 h2 => wr_n h1) ?_ ?_
    · rw [wrow_n _ h2, wr_n h1]; exact f1 a h1 h2 h3
    · rw [wrow_n _ (by decide), wr_s, upd_n hk7]; exact f3 k hk
    · rw [wrow_n _ (by decide), wr_s, upd_s]
    · rw [wrow_s, wr_n (by decide)]; rfl
    · rw [wr_s, upd_n (by decide)]; rfl
    · rw [wr_s, upd_s]
  rcases he with ⟨g2, k, S2, e1, rfl, e3, e4, hg⟩ | ⟨s, S2, k, e1, hg, ⟨rfl, e3⟩ | ⟨rfl, e3, e4⟩⟩
  · obtain ⟨f1, f2, f3, f4⟩ := fr _ hg
    rw [e1]
    dsimp only
    unfold f_X12_text_j54 f_X12_text_j72 f_X12_text_j77 f_X12_text_j98
    rw [if_neg (by decide), if_pos tg57, e3, if_pos rfl, if_pos tg57]
    dsimp only
    rw [if_neg (by decide), if_neg (by decide)]
    refine ok _ _ _ (fun a h1 h2 h3 => ?_) (fun k hk hk7 => ?_) ?_ ?_ (fun a h1 h2 => ?_) ?_ ?_
    · rw [wr_n h1]; exact f1 a h1 h2 h3
    · rw [wr_s, upd_n hk7]; exact f3 k hk
    · rw [wr_s, upd_s]
    · rw [wr_n (by decide), e4, wrow_s]
    · rw [wrow_n _ h2, wr_n h1]
    · rw [wrow_n _ (by decide), wr_s, upd_n (by decide)]; rfl
    · rw [wrow_n _ (by decide), wr_s, upd_s]
  · rw [e1]
    dsimp only
    unfold f_X12_text_j54
    rw [if_pos rfl]
    have e : wr S2 57 16 (nI s) = S2 := by rw [← e3, wr_row, upd_id, wrow_id]
    have := fail s k S2 (by rw [e]; exact hg)
    rw [e] at this
    exact this
  · rw [e1]
    dsimp only
    unfold f_X12_text_j54 f_X12_fails
    rw [if_neg (by decide), if_pos tg57, if_neg e3, if_pos tg57, e4, bnd2_s, if_pos rfl]
    exact fail s k S2 (hg.tr MG.fault)
