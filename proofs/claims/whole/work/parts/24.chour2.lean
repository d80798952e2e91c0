/-! the class's hour: moving, crossing, home -/
theorem nxt_ok : ∀ c, c < 25 → ∀ h, h < 25 → ∀ k, k < 7 → nI c ≠ nI h → (if (if nI c / 5 = nI h / 5 then (1 : Int32) else 0) = 0 then (if sdK (nI k) = 0 then (if nI h / 5 ≤ nI c / 5 then (1 : Int32) else 3) else (if (if rmI (nI c) 5 = rmI (nI h) 5 then (1 : Int32) else 0) = 0 then (if rmI (nI h) 5 ≤ rmI (nI c) 5 then (4 : Int32) else 2) else (if nI h / 5 ≤ nI c / 5 then (1 : Int32) else 3))) else (if rmI (nI h) 5 ≤ rmI (nI c) 5 then (4 : Int32) else 2)) = wayK (nI k) (nI h) (nI c) := by decide +kernel
theorem if_some {c : Prop} [Decidable c] {a b : Int32} {S : Mem} : (if c then some (a, S) else some (b, S)) = some ((if c then a else b), S) := by
  split <;> rfl
theorem if_fn {β : Type} {c : Prop} [Decidable c] {a b : Int32} (F : Int32 → β) : (if c then F a else F b) = F (if c then a else b) := by
  split <;> rfl
theorem c_next {a c h k : Nat} {S : Mem} (ha : tg a = 1) (hc : c < 25) (hh : h < 25) (hk : k < 7) (e4 : S a 4 = nI c) (e2 : S a 2 = nI h) (hne : nI c ≠ nI h) : f_X1_nextWay a (sdK (nI k)) S = some (wayK (nI k) (nI h) (nI c), S) := by
  rw [← nxt_ok c hc h hh k hk hne]
  unfold f_X1_nextWay
  rw [if_pos ha, e4, e2]
  refine (if_fn (fun v => f_X1_nextWay_j20 a (sdK (nI k)) v S)).trans ?_
  generalize (if nI c / 5 = nI h / 5 then (1 : Int32) else 0) = sr
  show f_X1_nextWay_j20 a (sdK (nI k)) sr S = _
  unfold f_X1_nextWay_j20
  rw [if_pos ha, e4, e2]
  refine (if_fn (fun v => f_X1_nextWay_j41 a (sdK (nI k)) sr v S)).trans ?_
  generalize (if rmI (nI c) 5 = rmI (nI h) 5 then (1 : Int32) else 0) = sc
  show f_X1_nextWay_j41 a (sdK (nI k)) sr sc S = _
  unfold f_X1_nextWay_j41 f_X1_nextWay_j54 f_X1_nextWay_j75
  rw [if_pos ha, if_pos ha, e4, e2]
  simp only [if_some]
theorem c_step {a : Nat} {w : Int32} {S : Mem} (ha : tg a = 1) : f_X1_step a w S = some ((), wr S a 4 (onW (S a 4) w)) := by
  unfold f_X1_step onW
  simp only [ha, if_true]
  repeat' split
  all_goals rfl
theorem oth_lt (w : Int32) : (if 2 < w then w - 2 else w + 2) = othW w := by
  unfold othW
  by_cases h : w ≤ 2
  · rw [if_pos h, if_neg (Int32.not_lt.mpr h)]
  · rw [if_neg h, if_pos (Int32.not_le.mp h)]
theorem c_blows {t : Nat} {w : Int32} {S : Mem} (ht : TT t) : f_X10_blowsAgainst t w S = some ((if S t 5 = othW w then 1 else 0), S) := by
  unfold f_X10_blowsAgainst
  rw [if_pos (tgT ht).1]
  refine (if_fn (fun v => f_X10_blowsAgainst_j18 (S t 5) v S)).trans ?_
  rw [oth_lt]
  show f_X10_blowsAgainst_j18 (S t 5) (othW w) S = _
  unfold f_X10_blowsAgainst_j18
  rw [if_some]
theorem b01 {c : Prop} [Decidable c] : ((if c then (1 : Int32) else 0) = 0) = ¬ c := by
  by_cases h : c <;> simp [h]
def Bg (t : Nat) (S S2 : Mem) : Prop := ∀ j, j < 8 → S2 (fa t j) 7 = S (fa t j) 7
theorem Bg.wr {t f w : Nat} {S S2 : Mem} {v : Int32} (h : Bg t S S2) (hw : w ≠ 7) : Bg t S (wr S2 (fa t f) w v) := fun j hj => by
  by_cases e : j = f
  · subst e
    rw [wr_s, upd_n (Ne.symm hw)]; exact h j hj
  · rw [wr_n (by unfold fa; omega)]; exact h j hj
theorem c_mvL {t n f kd : Nat} (ht : TT t) (hf : f < n) (hkd : kd < 7) (s : Nat) (hs : s ≤ 3) : ∀ (k i : Nat) (S : Mem) (g : Row) (m : Nat), i + k = s → k < m → WF n g → Rl S t n g → g (fi f 0) = nI kd → okk (itr m i_X10_moveSmoke_L9 (t, fa t f, nI s, 2 + kd, nI i, S)) (fun x => ∃ S2, (x = .inl ((), S2) ∨ x = .inr S2) ∧ Rl S2 t n (mvN k g f) ∧ Fr t S S2 ∧ Bg t S S2) := by
  intro k
  induction k with
  | zero =>
    intro i S g m hi hm hw hR h0
    cases m with
    | zero => omega
    | succ m =>
      show okk (bnd (f_X10_moveSmoke_L9 t (fa t f) (nI s) (2 + kd) (nI i) S) _) _
      unfold f_X10_moveSmoke_L9
      rw [if_pos (nI_le (by omega) (by omega)), bnd_s]
      exact okI ⟨S, Or.inr rfl, hR, Fr.rf, fun _ _ => rfl⟩
  | succ k ih =>
    intro i S g m hi hm hw hR h0
    have hn := hw.1
    have hf8 : f < 8 := by omega
    have ha := (tgT ht).2.2.2.2 f hf8
    have hF := hR.2.2.2.2.2.2.1 f hf
    obtain ⟨-, -, ⟨h, hh, e2⟩, ⟨c, hc, e4⟩⟩ := hw.2.2 f hf
    cases m with
    | zero => omega
    | succ m =>
      show okk (bnd (f_X10_moveSmoke_L9 t (fa t f) (nI s) (2 + kd) (nI i) S) _) _
      unfold f_X10_moveSmoke_L9
      rw [if_neg (nI_ge (by omega) (by omega)), if_pos ha, hF 4 (by decide), hF 2 (by decide)]
      unfold mvN
      by_cases c1 : g (fi f 4) = g (fi f 2)
      · rw [if_pos c1, if_pos c1, bnd_s]
        exact okI ⟨S, Or.inr rfl, hR, Fr.rf, fun _ _ => rfl⟩
      · rw [if_neg c1, if_neg c1, d_side hkd, bnd2_s, c_next ha hc hh hkd ((hF 4 (by decide)).trans e4) ((hF 2 (by decide)).trans e2) (by rw [← e4, ← e2]; exact c1), bnd2_s, if_pos (tgT ht).1, c_blows ht, bnd2_s, hR.2.1, h0, e2, e4]
        have estep : ∀ w, okk (bnd (f_X10_moveSmoke_j73 t (fa t f) (nI s) (2 + kd) (nI i) w S) (elm (fun s2 => itr m i_X10_moveSmoke_L9 s2) (fun r => some r))) = okk (itr m i_X10_moveSmoke_L9 (t, fa t f, nI s, 2 + kd, nI (i + 1), wr S (fa t f) 4 (onW (nI c) w))) := fun w => by
          unfold f_X10_moveSmoke_j73
          rw [if_pos ha, c_step ha, bnd2_s, hF 4 (by decide), e4, nI_1]
          rfl
        by_cases c2 : g 3 = othW (wayK (nI kd) (nI h) (nI c))
        · rw [if_neg (by rw [b01]; exact fun z => z c2), d_bears hkd, bnd2_s, hF 5 (by decide)]
          by_cases c3 : bearsK (g (fi f 5)) (nI kd) = false
          · rw [if_pos (by rw [b1_eq]; exact c3), if_pos ⟨c2, c3⟩, c_min2, bnd2_s, bnd_s, hF 6 (by decide)]
            exact okI ⟨_, Or.inl rfl, hR.fire hn hf (by decide), Fr.rf.wr (by unfold fa; omega) (by unfold fa; omega), Bg.wr (fun _ _ => rfl) (by decide)⟩
          · rw [if_neg (by rw [b1_eq]; exact c3), if_neg (fun z => c3 z.2), estep]
            obtain ⟨e, he, e5⟩ := way_in hc hh hkd (by rw [← e4, ← e2]; exact c1)
            rw [e5]
            refine okk_mono (ih (i + 1) _ _ m (by omega) (by omega) (WF_at hw hf he) (hR.fire hn hf (by decide)) (by rw [upd_n (by unfold fi; omega)]; exact h0)) fun x hx => ?_
            obtain ⟨S2, q1, q2, q3, q4⟩ := hx
            exact ⟨S2, q1, q2, (Fr.rf.wr (by unfold fa; omega) (by unfold fa; omega)).tr q3, fun j hj => (q4 j hj).trans ((Bg.wr (fun _ _ => rfl) (by decide)) j hj)⟩
        · rw [if_pos (by rw [b01]; exact c2), if_neg (fun z => c2 z.1), estep]
          obtain ⟨e, he, e5⟩ := way_in hc hh hkd (by rw [← e4, ← e2]; exact c1)
          rw [e5]
          refine okk_mono (ih (i + 1) _ _ m (by omega) (by omega) (WF_at hw hf he) (hR.fire hn hf (by decide)) (by rw [upd_n (by unfold fi; omega)]; exact h0)) fun x hx => ?_
          obtain ⟨S2, q1, q2, q3, q4⟩ := hx
          exact ⟨S2, q1, q2, (Fr.rf.wr (by unfold fa; omega) (by unfold fa; omega)).tr q3, fun j hj => (q4 j hj).trans ((Bg.wr (fun _ _ => rfl) (by decide)) j hj)⟩
theorem mvN_o {f p : Nat} (h4 : p ≠ fi f 4) (h6 : p ≠ fi f 6) : ∀ (k : Nat) (g : Row), mvN k g f p = g p
  | 0, g => rfl
  | k + 1, g => by
    unfold mvN
    split
    · rfl
    · split
      · rw [upd_n h6]
      · rw [mvN_o h4 h6 k, upd_n h4]
theorem move1_o {f p : Nat} {g : Row} (h4 : p ≠ fi f 4) (h6 : p ≠ fi f 6) : move1 g f p = g p := by
  unfold move1
  split
  · rfl
  · exact mvN_o h4 h6 _ _
theorem moveA_at {f : Nat} {g : Row} : ∀ k, k ≤ f → fol move1 k g (fi f 4) = g (fi f 4)
  | 0, _ => rfl
  | k + 1, h => by
    show move1 (fol move1 k g) k (fi f 4) = _
    rw [move1_o (by unfold fi; omega) (by unfold fi; omega)]
    exact moveA_at k (by omega)
theorem c_moveSmokes {t n : Nat} {S : Mem} {g : Row} (ht : TT t) (hw : WF n g) (hR : Rl S t n g) : okk (f_X10_moveSmokes t S) (fun x => Rl x.2 t n (fol move1 n g) ∧ Fr t S x.2 ∧ ∀ f, f < n → x.2 (fa t f) 7 = g (fi f 4)) := by
  have hn := hw.1
  unfold f_X10_moveSmokes
  refine okB ?_
  refine okk_mono (itr_for (f := i_X10_moveSmokes_L2) (fun k s => ∃ S2, s = (t, nI k, S2) ∧ Rl S2 t n (fol move1 k g) ∧ Fr t S S2 ∧ ∀ f, f < k → S2 (fa t f) 7 = g (fi f 4)) (fun e => Rl e t n (fol move1 n g) ∧ Fr t S e ∧ ∀ f, f < n → e (fa t f) 7 = g (fi f 4)) n (fun k hk s hs => ?_) (fun s hs => ?_) ⟨S, rfl, hR, Fr.rf, fun f hf => absurd hf (by omega)⟩ 300 (by omega)) (fun e he => okI he)
  · obtain ⟨S2, rfl, h2, h3, h4⟩ := hs
    have hwk := WF_moveA hw (by omega : k ≤ n)
    have hk8 : k < 8 := by omega
    have ha := (tgT ht).2.2.2.2 k hk8
    have hat : fol move1 k g (fi k 4) = g (fi k 4) := moveA_at k (Nat.le_refl k)
    show okk (f_X10_moveSmokes_L2 t (nI k) S2) (fun x => ∃ s2, x = Sum.inl s2 ∧ ∃ S3, s2 = (t, nI (k + 1), S3) ∧ Rl S3 t n (move1 (fol move1 k g) k) ∧ Fr t S S3 ∧ ∀ f, f < k + 1 → S3 (fa t f) 7 = g (fi f 4))
    generalize fol move1 k g = gk at h2 hwk hat ⊢
    have hF := h2.2.2.2.2.2.2.1 k hk
    obtain ⟨⟨kd, hkd, e0⟩, -⟩ := hwk.2.2 k hk
    unfold f_X10_moveSmokes_L2 f_X10_moveSmokes_j64
    rw [if_pos (tgT ht).1, h2.1, if_neg (nI_ge hk (by omega)), if_pos (rabT ht hk8), eadT hk8, if_pos ha, hF 4 (by decide), nI_1]
    simp only []
    have h5 : Rl (wr S2 (fa t k) 7 (gk (fi k 4))) t n gk := h2.began hk8
    have h6 : Fr t S (wr S2 (fa t k) 7 (gk (fi k 4))) := h3.wr (by unfold fa; omega) (by unfold fa; omega)
    have h7 : ∀ f, f < k + 1 → wr S2 (fa t k) 7 (gk (fi k 4)) (fa t f) 7 = g (fi f 4) := fun f hf => by
      by_cases e : f = k
      · subst e
        rw [wr_s, upd_s, hat]
      · rw [wr_n (by unfold fa; omega)]
        exact h4 f (by omega)
    generalize wr S2 (fa t k) 7 (gk (fi k 4)) = S3 at h5 h6 h7 ⊢
    have hF3 := h5.2.2.2.2.2.2.1 k hk
    rw [hF3 5 (by decide), hF3 4 (by decide), hF3 2 (by decide)]
    unfold move1
    by_cases c1 : gk (fi k 5) ≤ 0
    · rw [if_pos c1, if_pos c1]
      exact okI ⟨_, rfl, _, rfl, h5, h6, h7⟩
    · rw [if_neg c1, if_neg c1]
      by_cases c2 : gk (fi k 4) = gk (fi k 2)
      · rw [if_pos c2]
        refine okI ⟨_, rfl, _, rfl, ?_, h6, h7⟩
        have : ∀ q, mvN q gk k = gk := fun q => by
          cases q with
          | zero => rfl
          | succ q => unfold mvN; rw [if_pos c2]
        rw [this]
        exact h5
      · rw [if_neg c2, c_kindOf ht hk8 hkd ((hF3 0 (by decide)).trans e0), bnd2_s, d_steps hkd, bnd2_s, h5.2.2.2.1, hF3 6 (by decide), e0]
        refine okB2 ?_
        unfold f_X10_moveSmoke
        rw [if_pos (tgT ht).1, c_kindOf ht hk8 hkd ((hF3 0 (by decide)).trans e0), bnd2_s]
        refine okB ?_
        have hs3 := stepsK_le (gk 1) (gk (fi k 6)) (nI kd)
        refine okk_mono (c_mvL ht hk hkd _ hs3 _ 0 S3 gk 300 (Nat.zero_add _) (by omega) hwk h5 e0) fun x hx => ?_
        obtain ⟨S4, q1, q2, q3, q4⟩ := hx
        have fin : okk (some (Sum.inl (t, nI (k + 1), S4)) : Option ((Nat × Int32 × Mem) ⊕ Mem)) (fun x => ∃ s2, x = Sum.inl s2 ∧ ∃ S3, s2 = (t, nI (k + 1), S3) ∧ Rl S3 t n (mvN (stepsK (gk 1) (gk (fi k 6)) (nI kd)) gk k) ∧ Fr t S S3 ∧ ∀ f, f < k + 1 → S3 (fa t f) 7 = g (fi f 4)) :=
          okI ⟨_, rfl, _, rfl, q2, h6.tr q3, fun f hf => (q4 f (by omega)).trans (h7 f hf)⟩
        rcases q1 with rfl | rfl
        · exact okI fin
        · exact okI fin
  · obtain ⟨S2, rfl, h2, h3, h4⟩ := hs
    show okk (f_X10_moveSmokes_L2 t (nI n) S2) _
    unfold f_X10_moveSmokes_L2
    rw [if_pos (tgT ht).1, h2.1, if_pos (nI_le (Nat.le_refl _) (by omega))]
    exact okI ⟨_, rfl, h2, h3, h4⟩

theorem c_crosses {a b : Nat} {S : Mem} (ha : tg a = 1) (hb : tg b = 1) {β : Type} (F G : Option β) : bnd2 (f_X1_crossesWith a b S) (fun r _ => if r = 0 then F else G) = if S a 4 = S b 4 ∧ ¬ S a 5 ≤ 0 ∧ ¬ S b 5 ≤ 0 ∧ ¬ (S a 4 = S a 7 ∧ S b 4 = S b 7) then G else F := by
  unfold f_X1_crossesWith f_X1_crossesWith_j47
  rw [if_pos ha, if_pos hb]
  by_cases h1 : S a 4 = S b 4
  · rw [if_pos h1]
    by_cases h2 : S a 5 ≤ 0
    · rw [if_pos h2, bnd2_s, if_pos rfl, if_neg (fun z => z.2.1 h2)]
    · rw [if_neg h2]
      by_cases h3 : S b 5 ≤ 0
      · rw [if_pos h3, bnd2_s, if_pos rfl, if_neg (fun z => z.2.2.1 h3)]
      · rw [if_neg h3]
        by_cases h4 : S a 4 = S a 7
        · rw [if_pos h4]
          by_cases h5 : S b 4 = S b 7
          · rw [if_pos h5, bnd2_s, if_pos rfl, if_neg (fun z => z.2.2.2 ⟨h4, h5⟩)]
          · rw [if_neg h5, bnd2_s, if_neg (by decide), if_pos ⟨h1, h2, h3, fun z => h5 z.2⟩]
        · rw [if_neg h4, bnd2_s, if_neg (by decide), if_pos ⟨h1, h2, h3, fun z => h4 z.1⟩]
  · rw [if_neg h1, bnd2_s, if_pos rfl, if_neg (fun z => h1 z.1)]
def BG (t n : Nat) (bg : Nat → Int32) (S : Mem) : Prop := ∀ f, f < n → S (fa t f) 7 = bg f
theorem BG.fire {t n f w : Nat} {bg : Nat → Int32} {S : Mem} {v : Int32} (h : BG t n bg S) (hw : w ≠ 7) : BG t n bg (wr S (fa t f) w v) := fun j hj => by
  by_cases e : j = f
  · subst e
    rw [wr_s, upd_n (Ne.symm hw)]; exact h j hj
  · rw [wr_n (by unfold fa; omega)]; exact h j hj
theorem BG.self {t n k : Nat} {bg : Nat → Int32} {S : Mem} {v : Int32} (h : BG t n bg S) : BG t n bg (wr S t k v) := fun j hj => by
  rw [wr_n (by unfold fa; omega)]; exact h j hj
theorem c_crossI {t n a : Nat} {S : Mem} {g : Row} {bg : Nat → Int32} (ht : TT t) (hw : WF n g) (hR : Rl S t n g) (hB : BG t n bg S) (ha : a < n) : okk (itr 300 i_X10_crossSmokes_L14 (t, nI a, nI (a + 1), S)) (fun x => x.1 = t ∧ x.2.1 = nI a ∧ Rl x.2.2 t n (fol (fun g j => cross1 bg g a (a + 1 + j)) (n - (a + 1)) g) ∧ Fr t S x.2.2 ∧ BG t n bg x.2.2) := by
  have hn := hw.1
  refine itr_for (f := i_X10_crossSmokes_L14) (fun k s => ∃ S2, s = (t, nI a, nI (a + 1 + k), S2) ∧ Rl S2 t n (fol (fun g j => cross1 bg g a (a + 1 + j)) k g) ∧ Fr t S S2 ∧ BG t n bg S2) _ (n - (a + 1)) (fun k hk s hs => ?_) (fun s hs => ?_) ⟨S, rfl, hR, Fr.rf, hB⟩ 300 (by omega)
  · obtain ⟨S2, rfl, h2, h3, h4⟩ := hs
    have hwk := WF_crossB (bg := bg) hw ha (by omega : k ≤ n - (a + 1))
    have ha8 : a < 8 := by omega
    have hb8 : a + 1 + k < 8 := by omega
    have ta := (tgT ht).2.2.2.2 a ha8
    have tb := (tgT ht).2.2.2.2 (a + 1 + k) hb8
    show okk (f_X10_crossSmokes_L14 t (nI a) (nI (a + 1 + k)) S2) (fun x => ∃ s2, x = Sum.inl s2 ∧ ∃ S3, s2 = (t, nI a, nI (a + 1 + (k + 1)), S3) ∧ Rl S3 t n (cross1 bg (fol (fun g j => cross1 bg g a (a + 1 + j)) k g) a (a + 1 + k)) ∧ Fr t S S3 ∧ BG t n bg S3)
    generalize fol (fun g j => cross1 bg g a (a + 1 + j)) k g = gk at h2 hwk ⊢
    generalize hb : a + 1 + k = b at hb8 tb ⊢
    have hbn : b < n := by omega
    have hab : b ≠ a := by omega
    have hFa := h2.2.2.2.2.2.2.1 a ha
    have hFb := h2.2.2.2.2.2.2.1 b hbn
    unfold f_X10_crossSmokes_L14 f_X10_crossSmokes_j70
    rw [if_pos (tgT ht).1, h2.1, if_neg (nI_ge hbn (by omega)), if_pos (rabT ht ha8), if_pos (rabT ht hb8), eadT ha8, eadT hb8, if_pos ta, nI_1, show a + 1 + (k + 1) = b + 1 by omega]
    have e1 : f_X1_crossesWith (fa t a) (fa t b) S2 = bnd2 (f_X1_crossesWith (fa t a) (fa t b) S2) (fun r _ => some (r, S2)) := by
      unfold f_X1_crossesWith f_X1_crossesWith_j47
      rw [if_pos ta, if_pos tb]
      repeat' split
      all_goals rfl
    rw [e1]
    have e2 : ∀ (F G : Mem → Option ((Nat × Int32 × Int32 × Mem) ⊕ (Nat × Int32 × Mem))), bnd2 (bnd2 (f_X1_crossesWith (fa t a) (fa t b) S2) (fun r _ => some (r, S2))) (fun r4 S5 => if r4 = 0 then F S5 else G S5) = bnd2 (f_X1_crossesWith (fa t a) (fa t b) S2) (fun r _ => if r = 0 then F S2 else G S2) := fun F G => by
      cases f_X1_crossesWith (fa t a) (fa t b) S2 with
      | none => rfl
      | some v => rfl
    refine (congrArg (fun o => okk o _) (e2 _ _)).mpr ?_
    rw [c_crosses ta tb, hFa 4 (by decide), hFb 4 (by decide), hFa 5 (by decide), hFb 5 (by decide), h4 a ha, h4 b hbn]
    unfold cross1 crossQ
    by_cases c1 : gk (fi a 4) = gk (fi b 4) ∧ ¬ gk (fi a 5) ≤ 0 ∧ ¬ gk (fi b 5) ≤ 0 ∧ ¬ (gk (fi a 4) = bg a ∧ gk (fi b 4) = bg b)
    · rw [if_pos c1, if_pos c1]
      unfold f_X1_exchangeWith
      simp only [ta, tb, if_true, bnd2_s, c_min2]
      have n1 : fa t b ≠ fa t a := by unfold fa; omega
      have n2 : t ≠ fa t a := by unfold fa; omega
      have n3 : t ≠ fa t b := by unfold fa; omega
      rw [wr_n n1, wr_n n3, wr_n n2, hFa 5 (by decide), hFb 5 (by decide), h2.2.2.1]
      refine okI ⟨_, rfl, _, rfl, ?_, ((h3.wr (by unfold fa; omega) (by unfold fa; omega)).wr (by unfold fa; omega) (by unfold fa; omega)).wr (by omega) (by omega), ((h4.fire (by decide)).fire (by decide)).self⟩
      exact ((h2.fire hn ha (by decide)).fire hn hbn (by decide)).self (Or.inr (Or.inl ⟨rfl, rfl⟩))
    · rw [if_neg c1, if_neg c1]
      exact okI ⟨_, rfl, _, rfl, h2, h3, h4⟩
  · obtain ⟨S2, rfl, h2, h3, h4⟩ := hs
    show okk (f_X10_crossSmokes_L14 t (nI a) (nI (a + 1 + (n - (a + 1)))) S2) _
    unfold f_X10_crossSmokes_L14
    rw [if_pos (tgT ht).1, h2.1, if_pos (nI_le (by omega) (by omega))]
    exact okI ⟨_, rfl, rfl, rfl, h2, h3, h4⟩
theorem c_crossSmokes {t n : Nat} {S : Mem} {g : Row} {bg : Nat → Int32} (ht : TT t) (hw : WF n g) (hR : Rl S t n g) (hB : BG t n bg S) : okk (f_X10_crossSmokes t S) (fun x => Rl x.2 t n (crossA bg n g) ∧ Fr t S x.2) := by
  have hn := hw.1
  unfold f_X10_crossSmokes
  refine okB ?_
  refine okk_mono (itr_for (f := i_X10_crossSmokes_L2) (fun k s => ∃ S2, s = (t, nI k, S2) ∧ Rl S2 t n (fol (fun g a => fol (fun g j => cross1 bg g a (a + 1 + j)) (n - (a + 1)) g) k g) ∧ Fr t S S2 ∧ BG t n bg S2) (fun e => Rl e t n (crossA bg n g) ∧ Fr t S e) n (fun k hk s hs => ?_) (fun s hs => ?_) ⟨S, rfl, hR, Fr.rf, hB⟩ 300 (by omega)) (fun e he => okI he)
  · obtain ⟨S2, rfl, h2, h3, h4⟩ := hs
    have hwk := WF_crossA (bg := bg) hw (by omega : k ≤ n)
    show okk (f_X10_crossSmokes_L2 t (nI k) S2) _
    unfold f_X10_crossSmokes_L2
    rw [if_pos (tgT ht).1, h2.1, if_neg (nI_ge hk (by omega)), nI_1]
    refine okB (okk_mono (c_crossI ht hwk h2 h4 hk) fun x hx => ?_)
    obtain ⟨q1, q2, q3, q4, q5⟩ := hx
    refine okI ⟨_, rfl, x.2.2, ?_, q3, h3.tr q4, q5⟩
    rw [q1, q2, nI_1]
  · obtain ⟨S2, rfl, h2, h3, h4⟩ := hs
    show okk (f_X10_crossSmokes_L2 t (nI n) S2) _
    unfold f_X10_crossSmokes_L2
    rw [if_pos (tgT ht).1, h2.1, if_pos (nI_le (Nat.le_refl _) (by omega))]
    exact okI ⟨_, rfl, h2, h3⟩
theorem iabW {t c : Nat} (ht : TT t) (hc : c < 25) : iab (t + 1) (nI c) = true := iab_row (k := 25) (tgT ht).2.1 (by omega) hc
theorem c_bringHome {t n : Nat} {S : Mem} {g : Row} (ht : TT t) (hw : WF n g) (hR : Rl S t n g) : okk (f_X10_bringHome t S) (fun x => Rl x.2 t n (fol settle1 n g) ∧ Fr t S x.2) := by
  have hn := hw.1
  unfold f_X10_bringHome
  refine okB ?_
  refine okk_mono (itr_for (f := i_X10_bringHome_L2) (fun k s => ∃ S2, s = (t, nI k, S2) ∧ Rl S2 t n (fol settle1 k g) ∧ Fr t S S2) (fun e => Rl e t n (fol settle1 n g) ∧ Fr t S e) n (fun k hk s hs => ?_) (fun s hs => ?_) ⟨S, rfl, hR, Fr.rf⟩ 300 (by omega)) (fun e he => okI he)
  · obtain ⟨S2, rfl, h2, h3⟩ := hs
    have hwk := WF_settleA hw (by omega : k ≤ n)
    have hk8 : k < 8 := by omega
    show okk (f_X10_bringHome_L2 t (nI k) S2) (fun x => ∃ s2, x = Sum.inl s2 ∧ ∃ S3, s2 = (t, nI (k + 1), S3) ∧ Rl S3 t n (settle1 (fol settle1 k g) k) ∧ Fr t S S3)
    generalize fol settle1 k g = gk at h2 hwk ⊢
    have hF := h2.2.2.2.2.2.2.1 k hk
    obtain ⟨-, -, ⟨c, hc, e2⟩, -⟩ := hwk.2.2 k hk
    have n1 : t + 1 ≠ fa t k := by unfold fa; omega
    have n2 : fa t k ≠ t + 1 := Ne.symm n1
    unfold f_X10_bringHome_L2 f_X10_bringHome_j70
    rw [if_pos (tgT ht).1, h2.1, if_neg (nI_ge hk (by omega)), if_pos (rabT ht hk8), eadT hk8, if_pos ((tgT ht).2.2.2.2 k hk8), hF 4 (by decide), hF 2 (by decide), e2, if_pos (iabW ht hc), ix_nI (by omega), hF 5 (by decide), h2.2.2.2.2.2.1 c hc, nI_1]
    simp only [c_min2, bnd2_s]
    unfold settle1
    rw [e2, ix_nI (by omega)]
    by_cases c1 : gk (fi k 4) = nI c
    · rw [if_pos c1, if_pos c1]
      rw [wr_s, upd_n (by decide), wr_n n2, hF 1 (by decide)]
      exact okI ⟨_, rfl, _, rfl, ((h2.wood hc hn).fire hn hk (by decide)).fire hn hk (by decide), ((h3.wr (by omega) (by omega)).wr (by unfold fa; omega) (by unfold fa; omega)).wr (by unfold fa; omega) (by unfold fa; omega)⟩
    · rw [if_neg c1, if_neg c1]
      exact okI ⟨_, rfl, _, rfl, h2, h3⟩
  · obtain ⟨S2, rfl, h2, h3⟩ := hs
    show okk (f_X10_bringHome_L2 t (nI n) S2) _
    unfold f_X10_bringHome_L2
    rw [if_pos (tgT ht).1, h2.1, if_pos (nI_le (Nat.le_refl _) (by omega))]
    exact okI ⟨_, rfl, h2, h3⟩
/-- the hour stays what it is but for its last step -/
def lowK (k : Nat) (g g2 : Row) : Prop := g2 k = g k
theorem burn1_o {f p : Nat} {g : Row} (h : p < 30) : burn1 g f p = g p := by
  unfold burn1
  split
  · rw [upd_n (by unfold fi; omega), upd_n (by unfold fi; omega)]
  · rfl
theorem cross1_o {a b p : Nat} {g : Row} {bg : Nat → Int32} (h : p < 30) (h4 : p ≠ 4) : cross1 bg g a b p = g p := by
  unfold cross1
  split
  · rw [upd_n h4, upd_n (by unfold fi; omega), upd_n (by unfold fi; omega)]
  · rfl
theorem settle1_o {f p : Nat} {g : Row} (h : p < 5) : settle1 g f p = g p := by
  unfold settle1
  split
  · rw [upd_n (by unfold fi; omega), upd_n (by unfold fi; omega), upd_n (by omega)]
  · rfl
theorem fol_o {F : Row → Nat → Row} {p : Nat} (h : ∀ g f, F g f p = g p) : ∀ (k : Nat) (g : Row), fol F k g p = g p
  | 0, g => rfl
  | k + 1, g => by
    show F (fol F k g) k p = g p
    rw [h, fol_o h k g]
theorem hourR_hour {n : Nat} {g : Row} : hourR n g 1 = g 1 + 1 := by
  unfold hourR crossA
  rw [upd_s, fol_o (fun g f => settle1_o (by decide)), fol_o (fun g a => fol_o (fun g j => cross1_o (by decide) (by decide)) _ _), fol_o (fun g f => move1_o (by unfold fi; omega) (by unfold fi; omega)), fol_o (fun g f => burn1_o (by decide))]
theorem preH {n : Nat} {g : Row} : (fol settle1 n (crossA (fun f => g (fi f 4)) n (fol move1 n (fol burn1 n g)))) 1 = g 1 := by
  unfold crossA
  rw [fol_o (fun g f => settle1_o (by decide)), fol_o (fun g a => fol_o (fun g j => cross1_o (by decide) (by decide)) _ _), fol_o (fun g f => move1_o (by unfold fi; omega) (by unfold fi; omega)), fol_o (fun g f => burn1_o (by decide))]
theorem mn_hour {h : Nat} (hh : h < 99999) : mnI 99999 (nI h + 1) = nI h + 1 := by
  rw [nI_1]
  unfold mnI
  rw [show (99999 : Int32) = nI 99999 by decide, if_pos (nI_le (by omega) (by omega))]
theorem c_hour {t n h : Nat} {S : Mem} {g : Row} (ht : TT t) (hw : WF n g) (hR : Rl S t n g) (hh : g 1 = nI h) (h9 : h < 99999) : okk (f_X10_passHour t S) (fun x => Rl x.2 t n (hourR n g) ∧ Fr t S x.2) := by
  unfold f_X10_passHour
  rw [if_pos (tgT ht).1]
  refine okB2 (okk_mono (c_burnFires ht hw hR) fun x hx => ?_)
  obtain ⟨a1, a2⟩ := hx
  have w1 := WF_burnA hw (Nat.le_refl n)
  refine okB2 (okk_mono (c_moveSmokes ht w1 a1) fun y hy => ?_)
  obtain ⟨d1, d2, d3⟩ := hy
  have w2 := WF_moveA w1 (Nat.le_refl n)
  refine okB2 (okk_mono (c_crossSmokes (bg := fun f => g (fi f 4)) ht w2 d1 (fun f hf => (d3 f hf).trans (burnA_at (n := n) n))) fun z hz => ?_)
  obtain ⟨f1, f2⟩ := hz
  have w3 : WF n (crossA (fun f => g (fi f 4)) n (fol move1 n (fol burn1 n g))) := WF_crossA w2 (Nat.le_refl n)
  refine okB2 (okk_mono (c_bringHome ht w3 f1) fun u hu => ?_)
  obtain ⟨u1, u2⟩ := hu
  rw [c_min2, bnd2_s, u1.2.2.2.1, preH, hh, mn_hour h9]
  refine okI ⟨?_, (((a2.tr d2).tr f2).tr u2).wr (Nat.le_refl _) (by omega)⟩
  have := u1.self (k := 7) (j := 1) (v := nI h + 1) (by omega)
  unfold hourR
  rw [preH, hh]
  exact this
theorem hoursR_hour {n h : Nat} {g : Row} (hh : g 1 = nI h) : ∀ k, hoursR n k g 1 = nI (h + k)
  | 0 => hh
  | k + 1 => by
    show hourR n (hoursR n k g) 1 = _
    rw [hourR_hour, hoursR_hour hh k, nI_1]
    rfl
theorem c_hours {t n h k : Nat} {S : Mem} {g : Row} (ht : TT t) (hw : WF n g) (hR : Rl S t n g) (hh : g 1 = nI h) (h9 : h + k < 99999) (hk : k ≤ 250) : okk (f_X10_passHours t (nI k) S) (fun x => Rl x.2 t n (hoursR n k g) ∧ Fr t S x.2) := by
  unfold f_X10_passHours
  refine okB (okk_mono (itr_for (f := i_X10_passHours_L2) (fun j s => ∃ S2, s = (t, nI k, nI j, S2) ∧ Rl S2 t n (hoursR n j g) ∧ Fr t S S2) (fun e => Rl e t n (hoursR n k g) ∧ Fr t S e) k (fun j hj s hs => ?_) (fun s hs => ?_) ⟨S, rfl, hR, Fr.rf⟩ 300 (by omega)) (fun e he => okI he))
  · obtain ⟨S2, rfl, h2, h3⟩ := hs
    show okk (f_X10_passHours_L2 t (nI k) (nI j) S2) _
    unfold f_X10_passHours_L2
    rw [if_neg (nI_ge hj (by omega)), if_pos (tgT ht).1]
    refine okB2 (okk_mono (c_hour ht (WF_hoursR hw j) h2 (hoursR_hour hh j) (by omega)) fun x hx => ?_)
    refine okI ⟨_, rfl, x.2, ?_, hx.1, h3.tr hx.2⟩
    rw [nI_1]
  · obtain ⟨S2, rfl, h2, h3⟩ := hs
    show okk (f_X10_passHours_L2 t (nI k) (nI k) S2) _
    unfold f_X10_passHours_L2
    rw [if_pos (nI_le (Nat.le_refl _) (by omega))]
    exact okI ⟨_, rfl, h2, h3⟩
