/-! logsFor: more logs than were ever burnt change nothing -/
theorem fi_ne {f j w x : Nat} (hw : w < 7) (hx : x < 7) (h : f ≠ j ∨ w ≠ x) : fi f w ≠ fi j x := by unfold fi; omega
theorem lo_ne {p f w : Nat} (h : p < 30) : p ≠ fi f w := by unfold fi; omega
theorem fi_inj {f j w : Nat} (h : f ≠ j) : fi f w ≠ fi j w := by unfold fi; omega
theorem burn1_cm {g : Row} {f j : Nat} {v : Int32} (h : j ≠ f) : burn1 (upd g (fi f 3) v) j = upd (burn1 g j) (fi f 3) v := by
  unfold burn1
  rw [upd_n (fi_ne (f := j) (j := f) (w := 4) (x := 3) (by omega) (by omega) (by omega)), upd_n (fi_ne (f := j) (j := f) (w := 1) (x := 3) (by omega) (by omega) (by omega)), upd_n (fi_ne (f := j) (j := f) (w := 2) (x := 3) (by omega) (by omega) (by omega)), upd_n (fi_ne (f := j) (j := f) (w := 3) (x := 3) (by omega) (by omega) (by omega)), upd_n (fi_ne (f := j) (j := f) (w := 5) (x := 3) (by omega) (by omega) (by omega)), upd_n (fi_ne (f := j) (j := f) (w := 0) (x := 3) (by omega) (by omega) (by omega)), upd_n (lo_ne (p := 1) (by omega))]
  split
  · rw [upd_c _ _ _ (fi_inj (w := 3) h.symm), upd_c _ _ _ (fi_ne (f := f) (j := j) (w := 3) (x := 5) (by omega) (by omega) (by omega))]
  · rfl
theorem burnsK_in (h k : Int32) : ∃ b, b ≤ 10 ∧ burnsK h k = nI b := by
  unfold burnsK
  split
  · exact ⟨5, by omega, rfl⟩
  split
  · exact ⟨1, by omega, rfl⟩
  split
  · split
    · exact ⟨3, by omega, rfl⟩
    · exact ⟨1, by omega, rfl⟩
  split
  · split
    · exact ⟨3, by omega, rfl⟩
    · exact ⟨1, by omega, rfl⟩
  split
  · exact ⟨10, by omega, rfl⟩
  · exact ⟨2, by omega, rfl⟩
theorem log_min : ∀ b, b ≤ 10 → ∀ x, x ≤ 201 → (x ≤ b → nI x - mnI (nI b) (nI x) = nI 0) ∧ (b < x → nI x - mnI (nI b) (nI x) = nI (x - b) ∧ mnI (nI b) (nI x) = nI b ∧ mnI (nI b) (nI (x + 1)) = nI b ∧ nI (x + 1) - nI b = nI (x - b + 1)) := by decide +kernel
/-- an operator's work at the logs of fire f -/
def LGs (q : Nat) (F : Row → Row) (g : Row) (x : Nat) : Prop := ∃ y, y ≤ x ∧ F g q = nI y ∧ (0 < y → F (upd g q (nI (x + 1))) = upd (F g) q (nI (y + 1)))
theorem LGs.cm {q x : Nat} {F : Row → Row} {g : Row} (hx : g q = nI x) (h : ∀ v, F (upd g q v) = upd (F g) q v) : LGs q F g x := by
  refine ⟨x, Nat.le_refl _, ?_, fun _ => h _⟩
  have h0 := h (g q)
  rw [upd_id] at h0
  rw [h0, upd_s, hx]
theorem LGs.tr {q x : Nat} {F G : Row → Row} {g : Row} (h : LGs q F g x) (h2 : ∀ y, y ≤ x → F g q = nI y → LGs q G (F g) y) : LGs q (fun g => G (F g)) g x := by
  obtain ⟨y, hy, e, k⟩ := h
  obtain ⟨z, hz, e2, k2⟩ := h2 y hy e
  exact ⟨z, by omega, e2, fun h0 => by
    show G (F (upd g q (nI (x + 1)))) = _
    rw [k (by omega), k2 h0]⟩
theorem burn1_lg {g : Row} {f j x : Nat} (hx : g (fi f 3) = nI x) (hx2 : x ≤ 201) : LGs (fi f 3) (fun g => burn1 g j) g x := by
  by_cases h : j = f
  · subst h
    show ∃ y, y ≤ x ∧ burn1 g j (fi j 3) = nI y ∧ (0 < y → burn1 (upd g (fi j 3) (nI (x + 1))) j = upd (burn1 g j) (fi j 3) (nI (y + 1)))
    unfold burn1
    rw [upd_n (fi_ne (f := j) (j := j) (w := 4) (x := 3) (by omega) (by omega) (by omega)), upd_n (fi_ne (f := j) (j := j) (w := 1) (x := 3) (by omega) (by omega) (by omega)), upd_n (fi_ne (f := j) (j := j) (w := 2) (x := 3) (by omega) (by omega) (by omega)), upd_n (fi_ne (f := j) (j := j) (w := 5) (x := 3) (by omega) (by omega) (by omega)), upd_n (fi_ne (f := j) (j := j) (w := 0) (x := 3) (by omega) (by omega) (by omega)), upd_n (lo_ne (p := 1) (by omega)), upd_s, hx]
    split
    · obtain ⟨b, hb, eb⟩ := burnsK_in (g 1) (g (fi j 0))
      rw [eb, upd_n (fi_ne (f := j) (j := j) (w := 3) (x := 5) (by omega) (by omega) (by omega)), upd_s]
      obtain ⟨l1, l2⟩ := log_min b hb x hx2
      by_cases hbx : x ≤ b
      · exact ⟨0, by omega, l1 hbx, fun z => absurd z (by omega)⟩
      · obtain ⟨m1, m2, m3, m4⟩ := l2 (by omega)
        refine ⟨x - b, by omega, m1, fun _ => ?_⟩
        rw [m2, m3, m4, upd_uu, upd_c _ _ _ (fi_ne (f := j) (j := j) (w := 5) (x := 3) (by omega) (by omega) (by omega)), upd_uu]
    · exact ⟨x, Nat.le_refl _, hx, fun _ => rfl⟩
  · exact LGs.cm hx fun v => burn1_cm h
theorem mvN_cm {f j : Nat} {v : Int32} : ∀ (k : Nat) (g : Row), mvN k (upd g (fi f 3) v) j = upd (mvN k g j) (fi f 3) v
  | 0, g => rfl
  | k + 1, g => by
    unfold mvN
    rw [upd_n (fi_ne (f := j) (j := f) (w := 4) (x := 3) (by omega) (by omega) (by omega)), upd_n (fi_ne (f := j) (j := f) (w := 2) (x := 3) (by omega) (by omega) (by omega)), upd_n (fi_ne (f := j) (j := f) (w := 0) (x := 3) (by omega) (by omega) (by omega)), upd_n (fi_ne (f := j) (j := f) (w := 5) (x := 3) (by omega) (by omega) (by omega)), upd_n (fi_ne (f := j) (j := f) (w := 6) (x := 3) (by omega) (by omega) (by omega)), upd_n (lo_ne (p := 3) (by omega))]
    split
    · rfl
    · split
      · rw [upd_c _ _ _ (fi_ne (f := f) (j := j) (w := 3) (x := 6) (by omega) (by omega) (by omega))]
      · rw [upd_c _ _ _ (fi_ne (f := f) (j := j) (w := 3) (x := 4) (by omega) (by omega) (by omega)), mvN_cm k]
theorem move1_cm {g : Row} {f j : Nat} {v : Int32} : move1 (upd g (fi f 3) v) j = upd (move1 g j) (fi f 3) v := by
  unfold move1
  rw [upd_n (fi_ne (f := j) (j := f) (w := 5) (x := 3) (by omega) (by omega) (by omega)), upd_n (fi_ne (f := j) (j := f) (w := 6) (x := 3) (by omega) (by omega) (by omega)), upd_n (fi_ne (f := j) (j := f) (w := 0) (x := 3) (by omega) (by omega) (by omega)), upd_n (lo_ne (p := 1) (by omega))]
  split
  · rfl
  · rw [mvN_cm]
theorem cross1_cm {g : Row} {bg : Nat → Int32} {f a b : Nat} {v : Int32} : cross1 bg (upd g (fi f 3) v) a b = upd (cross1 bg g a b) (fi f 3) v := by
  unfold cross1 crossQ
  rw [upd_n (fi_ne (f := a) (j := f) (w := 4) (x := 3) (by omega) (by omega) (by omega)), upd_n (fi_ne (f := b) (j := f) (w := 4) (x := 3) (by omega) (by omega) (by omega)), upd_n (fi_ne (f := a) (j := f) (w := 5) (x := 3) (by omega) (by omega) (by omega)), upd_n (fi_ne (f := b) (j := f) (w := 5) (x := 3) (by omega) (by omega) (by omega)), upd_n (lo_ne (p := 4) (by omega))]
  split
  · rw [upd_c _ _ _ (fi_ne (f := f) (j := a) (w := 3) (x := 5) (by omega) (by omega) (by omega)), upd_c _ _ _ (fi_ne (f := f) (j := b) (w := 3) (x := 5) (by omega) (by omega) (by omega)), upd_c _ _ _ (lo_ne (p := 4) (f := f) (w := 3) (by omega)).symm]
  · rfl
theorem settle1_cm {n f j : Nat} {g : Row} {v : Int32} (hw : WF n g) (hj : j < n) : settle1 (upd g (fi f 3) v) j = upd (settle1 g j) (fi f 3) v := by
  unfold settle1
  obtain ⟨-, -, ⟨c, hc, e⟩, -⟩ := hw.2.2 j hj
  rw [upd_n (fi_ne (f := j) (j := f) (w := 4) (x := 3) (by omega) (by omega) (by omega)), upd_n (fi_ne (f := j) (j := f) (w := 2) (x := 3) (by omega) (by omega) (by omega)), upd_n (fi_ne (f := j) (j := f) (w := 1) (x := 3) (by omega) (by omega) (by omega)), upd_n (fi_ne (f := j) (j := f) (w := 5) (x := 3) (by omega) (by omega) (by omega)), e, ix_nI (by omega), upd_n (lo_ne (p := 5 + c) (by omega))]
  split
  · rw [upd_c _ _ _ (lo_ne (p := 5 + c) (f := f) (w := 3) (by omega)).symm, upd_c _ _ _ (fi_ne (f := f) (j := j) (w := 3) (x := 5) (by omega) (by omega) (by omega)), upd_c _ _ _ (fi_ne (f := f) (j := j) (w := 3) (x := 4) (by omega) (by omega) (by omega))]
  · rfl
theorem fol_cm {q n : Nat} {F : Row → Nat → Row} {I : Row → Prop} (hI : ∀ f, f < n → ∀ g, I g → I (F g f)) (h : ∀ j, j < n → ∀ g v, I g → F (upd g q v) j = upd (F g j) q v) : ∀ k, k ≤ n → ∀ g v, I g → fol F k (upd g q v) = upd (fol F k g) q v
  | 0, _, _, _, _ => rfl
  | k + 1, hk, g, v, hg => by
    show F (fol F k (upd g q v)) k = upd (F (fol F k g) k) q v
    rw [fol_cm hI h k (by omega) g v hg]
    exact h k (by omega) _ v (fol_ind hI k (by omega) g hg)
theorem crossA_cm {g : Row} {bg : Nat → Int32} {f n : Nat} {v : Int32} : crossA bg n (upd g (fi f 3) v) = upd (crossA bg n g) (fi f 3) v := by
  unfold crossA
  exact fol_cm (I := fun _ => True) (fun _ _ _ _ => trivial) (fun a _ g v _ => fol_cm (F := fun g j => cross1 bg g a (a + 1 + j)) (I := fun _ => True) (fun _ _ _ _ => trivial) (fun j _ g v _ => cross1_cm) _ (Nat.le_refl _) g v trivial) _ (Nat.le_refl _) g v trivial
theorem burnA_lg {f x : Nat} {g : Row} (hx : g (fi f 3) = nI x) (hx2 : x ≤ 201) : ∀ k, LGs (fi f 3) (fun g => fol burn1 k g) g x
  | 0 => LGs.cm hx fun v => rfl
  | k + 1 => LGs.tr (F := fun g => fol burn1 k g) (G := fun g => burn1 g k) (burnA_lg hx hx2 k) fun y hy e => burn1_lg e (by omega)
theorem hourR_lg {n f x : Nat} {g : Row} (hw : WF n g) (hx : g (fi f 3) = nI x) (hx2 : x ≤ 201) : LGs (fi f 3) (hourR n) g x := by
  obtain ⟨y, hy, e, k⟩ := burnA_lg hx hx2 n
  dsimp only at e k
  have hwb := WF_burnA hw (Nat.le_refl n)
  have key : ∀ (bg : Nat → Int32) (v : Int32), upd (fol settle1 n (crossA bg n (fol move1 n (upd (fol burn1 n g) (fi f 3) v)))) 1 ((fol settle1 n (crossA bg n (fol move1 n (upd (fol burn1 n g) (fi f 3) v)))) 1 + 1) = upd (upd (fol settle1 n (crossA bg n (fol move1 n (fol burn1 n g)))) 1 ((fol settle1 n (crossA bg n (fol move1 n (fol burn1 n g)))) 1 + 1)) (fi f 3) v := fun bg v => by
    rw [fol_cm (F := move1) (I := fun _ => True) (fun _ _ _ _ => trivial) (fun j _ g v _ => move1_cm) n (Nat.le_refl _) _ v trivial, crossA_cm, fol_cm (F := settle1) (I := WF n) (fun f hf g hg => WF_settle1 hg hf) (fun j hj g v hg => settle1_cm hg hj) n (Nat.le_refl _) _ v (show WF n (crossA bg n (fol move1 n (fol burn1 n g))) from WF_crossA (WF_moveA hwb (Nat.le_refl _)) (Nat.le_refl _)), upd_n (lo_ne (p := 1) (by omega)), upd_c _ _ _ (lo_ne (p := 1) (f := f) (w := 3) (by omega)).symm]
  refine ⟨y, hy, ?_, fun h0 => ?_⟩
  · have h1 := key (fun f => g (fi f 4)) (nI y)
    rw [← e, upd_id] at h1
    show upd (fol settle1 n _) 1 _ (fi f 3) = _
    rw [h1, upd_s, e]
  · have h1 := key (fun f => g (fi f 4)) (nI (y + 1))
    rw [← k h0] at h1
    have hb : (fun j => upd g (fi f 3) (nI (x + 1)) (fi j 4)) = fun j => g (fi j 4) := by
      funext j
      rw [upd_n (fi_ne (f := j) (j := f) (w := 4) (x := 3) (by omega) (by omega) (by omega))]
    unfold hourR
    rw [hb]
    exact h1
theorem hoursR_lg {n f x : Nat} {g : Row} (hw : WF n g) (hx : g (fi f 3) = nI x) (hx2 : x ≤ 201) : ∀ k, LGs (fi f 3) (hoursR n k) g x
  | 0 => LGs.cm hx fun v => rfl
  | k + 1 => LGs.tr (F := hoursR n k) (G := hourR n) (hoursR_lg hw hx hx2 k) fun y hy e => hourR_lg (WF_hoursR hw k) e (by omega)
/-- once some are left, all more leave some, and change nothing else -/
theorem logs_left {n f k p i y : Nat} {g : Row} (hw : WF n g) (hf : f < n) (hp : p ≠ fi f 3) (hi : hoursR n k (upd g (fi f 3) (nI i)) (fi f 3) = nI y) (hy : 0 < y) (hy2 : y ≤ i) : ∀ d, i + d ≤ 201 → ∃ z, 0 < z ∧ z ≤ i + d ∧ hoursR n k (upd g (fi f 3) (nI (i + d))) (fi f 3) = nI z ∧ hoursR n k (upd g (fi f 3) (nI (i + d))) p = hoursR n k (upd g (fi f 3) (nI i)) p
  | 0, _ => ⟨y, hy, hy2, hi, rfl⟩
  | d + 1, hd => by
    obtain ⟨z, hz, hz2, e, e2⟩ := logs_left hw hf hp hi hy hy2 d (by omega)
    obtain ⟨z2, l1, l2, l3⟩ := hoursR_lg (n := n) (f := f) (x := i + d) (g := upd g (fi f 3) (nI (i + d))) (WF_slot hw hf (Or.inl rfl)) (upd_s _ _ _) (by omega) k
    rw [e] at l2
    have hzz : z = z2 := by
      have h := congrArg Int32.toInt l2
      rw [nI_toInt (by omega), nI_toInt (by omega)] at h
      omega
    subst hzz
    have l4 := l3 hz
    rw [upd_uu] at l4
    refine ⟨z + 1, by omega, by omega, ?_, ?_⟩
    · show hoursR n k (upd g (fi f 3) (nI (i + d + 1))) _ = _
      rw [l4, upd_s]
    · show hoursR n k (upd g (fi f 3) (nI (i + d + 1))) _ = _
      rw [l4, upd_n hp, e2]
noncomputable def logsF (n k f c : Nat) (g : Row) (v : Nat) : Int32 := hoursR n k (upd g (fi f 3) (nI v)) (5 + c)
noncomputable def sp_logsFor (f c v k : Int32) (A : Mem) : Int32 × Mem := if isM 0 (nA A) f = true ∧ isM 0 24 c = true ∧ isM 0 9999 v = true ∧ isM 0 40 k = true then told A (fstN (fun i => decide (v ≤ logsF (ix (A 58 0)) (ix k) (ix f) (ix c) (A 58) i)) 201) else fin A 0
theorem isM_logs {v : Nat} (h : v ≤ 200) : isM 0 999 (nI v) = true := isM_of (lo := 0) (hi := 999) (by omega) (by omega) (by omega)
theorem nI_lt200 {k : Nat} (h : k ≤ 200) : ¬ (200 : Int32) < nI k := nI_nlt (a := 200) h (by decide)
theorem nI_le0 : ∀ y, y ≤ 201 → (nI y ≤ 0 ↔ y = 0) := by decide +kernel
theorem c_logsFor {S A : Mem} {H : Nat} {f c v k : Int32} (hI : INV S A H) (hH : H ≤ 40000) : okk (f_X11_logsFor 0 f c v k S) (OKC S H (sp_logsFor f c v k A)) := by
  unfold f_X11_logsFor sp_logsFor
  obtain ⟨n, hw, hsp, ⟨h, hh, e1⟩, hR⟩ := hI.1
  have hn := hw.1
  rw [if_pos tg0, c_noFire hR.1 hn, bnd2_s, b1n_if, nA_e hw.2.1 hn]
  by_cases h1 : isM 0 ((n : Int) - 1) f = true
  · rw [if_pos h1, c_out (hi := 24) (by decide), bnd2_s, b1n_if]
    by_cases h2 : isM 0 24 c = true
    · rw [if_pos h2, c_out (hi := 9999) (by decide), bnd2_s, b1n_if]
      by_cases h3 : isM 0 9999 v = true
      · rw [if_pos h3, c_out (hi := 40) (by decide), bnd2_s, b1n_if]
        by_cases h4 : isM 0 40 k = true
        · obtain ⟨a, ha, rfl⟩ := isM_fire hn h1
          obtain ⟨b, hb, rfl⟩ := isM_t (hi := 24) h2
          obtain ⟨j, hj, rfl⟩ := isM_t (hi := 40) h4
          have ha8 : a < 8 := by omega
          rw [if_pos h4, if_pos (And.intro h1 (And.intro h2 (And.intro h3 h4))), hw.2.1, ix_nI (by omega), ix_nI (by omega), ix_nI (by omega), ix_nI (by omega)]
          generalize hP : (fun i => decide (v ≤ logsF n j a b (A 58) i)) = P
          have hPk : ∀ i, P i = decide (v ≤ hoursR n j (upd (A 58) (fi a 3) (nI i)) (5 + b)) := fun i => by rw [← hP]; rfl
          refine okB (okk_mono (itr_ex (f := i_X11_logsFor_L46) (fun i s => ∃ S2, s = (0, nI a, nI b, v, nI j, nI i, S2) ∧ Fr 21 S S2 ∧ ∀ q, q < i → P q = false) (fun r => (∃ S2, r = .inr (0, S2) ∧ Fr 21 S S2 ∧ ∀ q, q < 201 → P q = false) ∨ ∃ k S2, r = .inl (nI k, S2) ∧ Fr 21 S S2 ∧ P k = true ∧ k < 201 ∧ ∀ q, q < k → P q = false) 201 (fun i hi s hs => ?_) ⟨S, rfl, Fr.rf, fun q hq => absurd hq (by omega)⟩ 300 (by omega)) fun r hr => ?_)
          · obtain ⟨S2, rfl, r2, r3⟩ := hs
            unfold i_X11_logsFor_L46
            dsimp only
            unfold f_X11_logsFor_L46
            by_cases hi201 : i = 201
            · subst hi201
              rw [if_pos (by decide)]
              exact okI (Or.inr ⟨_, rfl, Or.inl ⟨S2, rfl, r2, r3⟩⟩)
            · rw [if_neg (nI_lt200 (by omega)), if_pos tg0]
              refine okB2 (okk_mono (c_tryWith (w := 3) (v := nI i) hn (hR.fr hn r2 (by omega)) ha (by decide)) fun x hx => ?_)
              refine okB2 (okk_mono (c_hours (h := h) (k := j) t21 (WF_change (w := 3) hw ha (by decide) (isM_logs (by omega))) hx.1 (by rw [upd_n (by unfold fi; omega)]; exact e1) (by omega) (by omega)) fun y hy => ?_)
              have hg2 : y.2 22 b = hoursR n j (upd (A 58) (fi a 3) (nI i)) (5 + b) := hy.1.2.2.2.2.2.1 b (by omega)
              have hg3 : y.2 (fa 21 a) 3 = hoursR n j (upd (A 58) (fi a 3) (nI i)) (fi a 3) := hy.1.2.2.2.2.2.2.1 a ha 3 (by decide)
              have hf : Fr 21 S y.2 := (r2.tr hx.2).tr hy.2
              rw [if_pos (iabW t21 (by omega) : iab 22 (nI b) = true), ix_nI (by omega), hg2]
              by_cases h5 : hoursR n j (upd (A 58) (fi a 3) (nI i)) (5 + b) < v
              · have p0 : P i = false := (hPk i).trans (dec_f (Int32.not_le.mpr h5))
                have r4 : ∀ q, q < i + 1 → P q = false := fun q hq => by
                  by_cases e : q = i
                  · rw [e]; exact p0
                  · exact r3 q (by omega)
                rw [if_pos h5, if_pos (rabT21 ha8), eadT21 ha8, if_pos (tg21 ha8), hg3]
                obtain ⟨y0, l1, l2, -⟩ := hoursR_lg (n := n) (f := a) (x := i) (g := upd (A 58) (fi a 3) (nI i)) (WF_slot hw ha (Or.inl rfl)) (upd_s _ _ _) (by omega) j
                rw [l2]
                by_cases h6 : y0 = 0
                · rw [if_pos ((nI_le0 y0 (by omega)).mpr h6), nI_1]
                  exact okI (Or.inl ⟨_, rfl, by omega, _, rfl, hf, r4⟩)
                · rw [if_neg (fun z => h6 ((nI_le0 y0 (by omega)).mp z))]
                  refine okI (Or.inr ⟨_, rfl, Or.inl ⟨_, rfl, hf, fun q hq => ?_⟩⟩)
                  by_cases e : q < i
                  · exact r3 q e
                  · obtain ⟨z, -, -, -, z4⟩ := logs_left (p := 5 + b) hw ha (lo_ne (by omega)) l2 (by omega) l1 (q - i) (by omega)
                    rw [show i + (q - i) = q by omega] at z4
                    rw [hPk, z4]
                    exact dec_f (Int32.not_le.mpr h5)
              · rw [if_neg h5]
                exact okI (Or.inr ⟨_, rfl, Or.inr ⟨i, _, rfl, hf, (hPk i).trans (dec_t (Int32.not_lt.mp h5)), by omega, r3⟩⟩)
          · rcases hr with ⟨S2, rfl, r2, r3⟩ | ⟨k, S2, rfl, r2, r3, r4, r5⟩
            · show okk (if tg 0 = 11 then bnd2 (f_X11_finding 0 3 S2) (fun r S3 => some (r, S3)) else none) _
              rw [if_pos tg0, fstN_none 201 r3]
              exact c_none hI r2
            · rw [fstN_some r3 r5 201 r4]
              exact OKC.trial hI r2
        · rw [if_neg h4, if_neg (nr (nr (nr h4)))]
          exact c_fin0 hI
      · rw [if_neg h3, if_neg (nr (nr (nl h3)))]
        exact c_fin0 hI
    · rw [if_neg h2, if_neg (nr (nl h2))]
      exact c_fin0 hI
  · rw [if_neg h1, if_neg (nl h1)]
    exact c_fin0 hI
theorem m1_neg : ¬ (0 : Int32) ≤ -1 := by decide
theorem nI_0le {k : Nat} (h : k < 2 ^ 31) : (0 : Int32) ≤ nI k := by
  rw [Int32.le_iff_toInt_le, nI_toInt h]
  exact Int.natCast_nonneg k
theorem m_logsFor {S : Mem} {n : Nat} {f c v k : Int32} (hw : WF n (S 58)) : okk (f_X12_logsFor 57 f c v k S) (OKM S (sp_logsFor f c v k (mp S))) := by
  unfold f_X12_logsFor sp_logsFor
  have hn := hw.1
  rw [if_pos tg57, m_isAsked hw.2.1 hn, bnd2_s, b1_if, nA_e (A := mp S) hw.2.1 hn, mp58, hw.2.1, ix_nI (show n < 2 ^ 31 by omega)]
  by_cases h13 : (isM 0 ((n : Int) - 1) f && isM 0 40 k) = true
  · obtain ⟨h1, h4⟩ := and_b.mp h13
    rw [if_pos h13, m_isCell, bnd2_s, b1_if]
    by_cases h2 : isM 0 24 c = true
    · rw [if_pos h2, m_isIn (l := 0) (u := 9999) (by decide) (by decide), bnd2_s, b1_if]
      by_cases h3 : isM 0 9999 v = true
      · obtain ⟨a, ha, rfl⟩ := isM_fire hn h1
        obtain ⟨b, hb, rfl⟩ := isM_t (hi := 24) h2
        obtain ⟨j, hj, rfl⟩ := isM_t (hi := 40) h4
        have ha8 : a < 8 := by omega
        rw [if_pos h3, if_pos (And.intro h1 (And.intro h2 (And.intro h3 h4))), m_its3 ha8, bnd2_s, ix_nI (by omega), ix_nI (by omega), ix_nI (by omega)]
        generalize hP : (fun i => decide (v ≤ logsF n j a b (S 58) i)) = P
        have hPk : ∀ i, P i = decide (v ≤ hoursR n j (upd (S 58) (fi a 3) (nI i)) (5 + b)) := fun i => by rw [← hP]; rfl
        refine okB (okk_mono (itr_ex (f := i_X12_logsFor_L50) (fun i s => ∃ S2 y r, s = (57, nI a, nI b, v, nI j, S 58 (fi a 3), r, nI i, S2) ∧ SG S S2 (upd (S 58) (fi a 3) y) ∧ ((r = -1 ∧ ∀ q, q < i → P q = false) ∨ ∃ k, r = nI k ∧ P k = true ∧ k < 201 ∧ ∀ q, q < k → P q = false)) (fun r => ∃ S2 y x, r = (57, nI a, S 58 (fi a 3), x, S2) ∧ SG S S2 (upd (S 58) (fi a 3) y) ∧ ((x = -1 ∧ ∀ q, q < 201 → P q = false) ∨ ∃ k, x = nI k ∧ P k = true ∧ k < 201 ∧ ∀ q, q < k → P q = false)) 201 (fun i hi s hs => ?_) ⟨S, S 58 (fi a 3), -1, rfl, by rw [upd_id]; exact SG.rf, Or.inl ⟨rfl, fun q hq => absurd hq (by omega)⟩⟩ 300 (by omega)) fun r hr => ?_)
        · obtain ⟨S2, y, r, rfl, r2, r3⟩ := hs
          unfold i_X12_logsFor_L50
          dsimp only
          unfold f_X12_logsFor_L50 f_X12_logsFor_j94
          by_cases hi201 : i = 201
          · subst hi201
            rw [if_pos (by decide)]
            exact okI (Or.inr ⟨_, rfl, S2, y, r, rfl, r2, r3⟩)
          · rw [if_neg (nI_lt200 (by omega))]
            rcases r3 with ⟨rfl, r3⟩ | ⟨k0, rfl, r3, r4, r5⟩
            · have q : SG S (wr S2 58 (fi a 3) (nI i)) (upd (S 58) (fi a 3) (nI i)) := by
                have := r2.wr (p := fi a 3) (v := nI i)
                rwa [upd_uu] at this
              obtain ⟨S3, e3, s3⟩ := m_thenAt (S := wr S2 58 (fi a 3) (nI i)) (n := n) (p := 5 + b) (k := j) (by rw [q.1]; exact WF_change (w := 3) hw ha (by decide) (isM_logs (by omega))) (by omega) (by omega)
              rw [q.1] at e3
              rw [if_neg m1_neg, if_pos tg57, m_at, bnd2_s, if_pos (s_3 ha8).2, (s_3 ha8).1, show (5 : Int32) + nI b = nI (5 + b) from nI_add 5 b]
              simp only [e3, bnd2_s, nI_1]
              by_cases c1 : hoursR n j (upd (S 58) (fi a 3) (nI i)) (5 + b) < v
              · rw [if_pos c1]
                exact okI (Or.inl ⟨_, rfl, by omega, S3, nI i, -1, rfl, q.sc s3, Or.inl ⟨rfl, fun q hq => by
                  by_cases e : q = i
                  · rw [e]; exact (hPk i).trans (dec_f (Int32.not_le.mpr c1))
                  · exact r3 q (by omega)⟩⟩)
              · rw [if_neg c1]
                exact okI (Or.inl ⟨_, rfl, by omega, S3, nI i, nI i, rfl, q.sc s3, Or.inr ⟨i, rfl, (hPk i).trans (dec_t (Int32.not_lt.mp c1)), by omega, r3⟩⟩)
            · rw [if_pos (nI_0le (by omega))]
              exact okI (Or.inr ⟨_, rfl, S2, y, nI k0, rfl, r2, Or.inr ⟨k0, rfl, r3, r4, r5⟩⟩)
        · obtain ⟨S2, y, r, rfl, r2, r3⟩ := hr
          dsimp only
          unfold f_X12_logsFor_j102 f_X12_orNone
          rw [if_pos tg57, m_at, bnd2_s, if_pos (s_3 ha8).2, (s_3 ha8).1]
          have q := r2.wr (p := fi a 3) (v := S 58 (fi a 3))
          rw [upd_uu, upd_id] at q
          dsimp only
          rcases r3 with ⟨rfl, r3⟩ | ⟨k0, rfl, r3, r4, r5⟩
          · rw [if_neg m1_neg, if_pos tg57, fstN_none 201 r3]
            exact OKM_pass (OKM_scfin q.fin)
          · rw [if_pos (nI_0le (by omega)), fstN_some r3 r5 201 r4, bnd2_s]
            exact OKM.sc q.fin
      · rw [if_neg h3, if_neg (nr (nr (nl h3)))]
        exact m_fin0
    · rw [if_neg h2, if_neg (nr (nl h2))]
      exact m_fin0
  · rw [if_neg h13, if_neg (fun z => h13 (and_b.mpr ⟨z.1, z.2.2.2⟩))]
    exact m_fin0
