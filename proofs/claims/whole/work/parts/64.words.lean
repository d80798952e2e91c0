/-! words -/
def eqW (Q : Nat → Nat) : Nat → List Nat → Bool
  | _, [] => true
  | s, a :: r => decide (Q s = a) && eqW Q (s + 1) r
def isW (Q : Nat → Nat) (tp p : Nat) (w : List Nat) : Bool := decide (tkN Q tp p = 1) && (decide (lnN Q tp p = w.length) && eqW Q (stN Q tp p) w)
def wN (k : Nat) : List Nat := [[119, 105, 110, 100], [119, 111, 111, 100], [97, 116], [104, 111, 109, 101], [108, 111, 103, 115], [102, 105, 114, 101], [115, 116, 111, 118, 101], [112, 114, 105, 101, 115, 116], [112, 111, 111, 114], [106, 97, 114], [102, 111, 114, 101, 105, 103, 110], [98, 101, 100]].getD k []
theorem eqW_i {Q : Nat → Nat} : ∀ (w : List Nat) (s : Nat), (∀ i, i < w.length → Q (s + i) = w.getD i 0) → eqW Q s w = true
  | [], _, _ => rfl
  | a :: r, s, h => by
    have h0 := h 0 (by simp)
    unfold eqW
    rw [Nat.add_zero] at h0
    rw [dec_t (show Q s = a from h0), Bool.true_and]
    refine eqW_i r (s + 1) fun i hi => ?_
    have := h (i + 1) (by simp; omega)
    rwa [show s + 1 + i = s + (i + 1) by omega]
theorem eqW_e {Q : Nat → Nat} : ∀ (w : List Nat) (s : Nat), eqW Q s w = true → ∀ i, i < w.length → Q (s + i) = w.getD i 0
  | [], _, _, i, hi => absurd hi (by simp)
  | a :: r, s, h, i, hi => by
    unfold eqW at h
    obtain ⟨h1, h2⟩ := and_b.mp h
    cases i with
    | zero => exact of_decide_eq_true h1
    | succ i =>
      have := eqW_e r (s + 1) h2 i (by simp at hi; omega)
      rwa [show s + (i + 1) = s + 1 + i by omega]
theorem wd_ok : ∀ k, k < 12 → srok (1000 + k) = true ∧ slenI (1000 + k) = nI (wN k).length ∧ (wN k).length ≤ 7 ∧ ∀ i, i < 8 → i < (wN k).length → scok (1000 + k) (nI i) = true ∧ schI (1000 + k) (nI i) = nI ((wN k).getD i 0) ∧ (wN k).getD i 0 < 128 := by decide +kernel
theorem cb_eq {q w : Nat} (hq : q < 256) (hw : w < 128) : cb q = nI w ↔ q = w := by
  have key : ∀ q, q < 256 → q < 128 ∨ cb q < 0 := by decide +kernel
  obtain ⟨-, h⟩ := cb_f q hq
  by_cases hl : q < 128
  · rw [h hl]
    exact nI_eq (by omega) (by omega)
  · have hn := (key q hq).resolve_left hl
    refine ⟨fun z => ?_, fun z => by omega⟩
    rw [z] at hn
    exact absurd hn (nI_neg0 (by omega))
theorem ln_sub {Q : Nat → Nat} {tp p : Nat} : nI (nxN Q tp p) - nI (stN Q tp p) = nI (lnN Q tp p) := by
  rw [nI_subk _ _ (by unfold nxN; omega), show nxN Q tp p - stN Q tp p = lnN Q tp p by unfold nxN; omega]
theorem ln_le {Q : Nat → Nat} {tp p : Nat} (hp : p ≤ tp) (ht : tp ≤ 120) : stN Q tp p + lnN Q tp p ≤ tp := (nxN_le hp ht).2
theorem c_isWord {Q : Nat → Nat} {tp p k : Nat} {S : Mem} (ht : tp ≤ 120) (hp : p ≤ tp) (hb : CB Q tp S) (hc : CT Q tp p S) (hk : k < 12) : f_X7_isWord 45 (1000 + k) S = some (b1 (isW Q tp p (wN k)), S) := by
  obtain ⟨w1, w2, w3, w4⟩ := wd_ok k hk
  obtain ⟨a1, a2, a3, a4, a5⟩ := hc
  have hl := ln_le (Q := Q) hp ht
  unfold f_X7_isWord isW
  rw [if_pos tg45, a2]
  by_cases k1 : tkN Q tp p = 1
  · rw [if_pos (by rw [k1]; rfl), dec_t k1, Bool.true_and, if_pos w1, a4, a3, ln_sub, w2]
    by_cases k2 : lnN Q tp p = (wN k).length
    · rw [if_pos (by rw [k2]), dec_t k2, Bool.true_and]
      generalize hw : wN k = w at *
      have key := itr_ex (f := i_X7_isWord_L28) (fun i t => t = (45, 1000 + k, nI i, S) ∧ i ≤ w.length ∧ ∀ j, j < i → Q (stN Q tp p + j) = w.getD j 0) (fun r => (r = .inr S ∧ eqW Q (stN Q tp p) w = true) ∨ (r = .inl (0, S) ∧ eqW Q (stN Q tp p) w = false)) 8 (fun i hi t hh => by
        obtain ⟨rfl, h0, h1⟩ := hh
        unfold i_X7_isWord_L28
        dsimp only
        unfold f_X7_isWord_L28
        rw [if_pos w1, w2]
        by_cases he : w.length ≤ i
        · rw [if_pos (nI_le he (by omega))]
          exact okI (Or.inr ⟨_, rfl, Or.inl ⟨rfl, eqW_i w _ fun j hj => h1 j (by omega)⟩⟩)
        · obtain ⟨c1, c2, c3⟩ := w4 i (by omega) (by omega)
          have hq := hb.1 (stN Q tp p + i)
          rw [if_neg (nI_ge (by omega) (by omega)), if_pos tg45, a3, nI_add, if_pos (bab46 (by omega)), if_pos c1, ix_nI (by omega), hb.2 _ (by omega), c2]
          by_cases hq2 : Q (stN Q tp p + i) = w.getD i 0
          · rw [if_pos ((cb_eq hq c3).mpr hq2), nI_1]
            exact okI (Or.inl ⟨_, rfl, by omega, rfl, by omega, fun j hj => by
              by_cases e : j = i
              · rw [e]; exact hq2
              · exact h1 j (by omega)⟩)
          · rw [if_neg (fun z => hq2 ((cb_eq hq c3).mp z))]
            exact okI (Or.inr ⟨_, rfl, Or.inr ⟨rfl, Bool.eq_false_iff.mpr fun z => hq2 (eqW_e w _ z i (by omega))⟩⟩)) (s := (45, 1000 + k, 0, S)) ⟨rfl, by omega, fun j hj => absurd hj (by omega)⟩ 300 (by omega)
      obtain ⟨r, hr, h⟩ := key
      rw [hr, bnd_s]
      rcases h with ⟨rfl, h⟩ | ⟨rfl, h⟩
      · rw [h]; rfl
      · rw [h]; rfl
    · rw [if_neg (fun z => k2 ((nI_eq (by omega) (by omega)).mp z)), dec_f k2, Bool.false_and]; rfl
  · rw [if_neg (show ¬ nI (tkN Q tp p) = (1 : Int32) from fun z => k1 ((tk1 (k := 1) (by omega)).mp z)), dec_f k1, Bool.false_and]; rfl
theorem m_isWordN {Q : Nat → Nat} {tp p k : Nat} {S : Mem} (ht : tp ≤ 120) (hp : p ≤ tp) (hm : MT Q tp p S) (hk : k < 2 ^ 31) : f_X12_isWord 57 (nI k) S = some (b1 (decide (tkN Q tp p = 1) && decide (lnN Q tp p = k)), S) := by
  obtain ⟨a7, a12, a13, a14, a15⟩ := hm
  have hl := ln_le (Q := Q) hp ht
  unfold f_X12_isWord
  rw [if_pos tg57, a12]
  by_cases k1 : tkN Q tp p = 1
  · rw [if_pos (by rw [k1]; rfl), dec_t k1, Bool.true_and, a14, a13, ln_sub]
    by_cases k2 : lnN Q tp p = k
    · rw [if_pos (by rw [k2]), dec_t k2]; rfl
    · rw [if_neg (fun z => k2 ((nI_eq (by omega) hk).mp z)), dec_f k2]; rfl
  · rw [if_neg (show ¬ nI (tkN Q tp p) = (1 : Int32) from fun z => k1 ((tk1 (k := 1) (by omega)).mp z)), dec_f k1, Bool.false_and]; rfl
theorem m_has3 {Q : Nat → Nat} {tp p o a b c : Nat} {S : Mem} (ht : tp ≤ 120) (hb : MB Q tp S) (hm : MT Q tp p S) (ho : stN Q tp p + o + 2 < tp) (ha : a < 256) (hb2 : b < 256) (hc : c < 256) : f_X12_has3 57 (nI o) (nI a) (nI b) (nI c) S = some (b1 (eqW Q (stN Q tp p + o) [a, b, c]), S) := by
  obtain ⟨a7, a12, a13, a14, a15⟩ := hm
  unfold f_X12_has3 eqW eqW eqW eqW
  have hq : ∀ i, i < tp → bt Q tp i = nI (Q i) := fun i hi => if_pos hi
  have q0 := hb.1 (stN Q tp p + o)
  have q1 := hb.1 (stN Q tp p + o + 1)
  have q2 := hb.1 (stN Q tp p + o + 2)
  rw [if_pos tg57, a13, nI_add, m_byteAt ht (by omega) hb a7, bnd2_s, hq _ (by omega)]
  by_cases h1 : Q (stN Q tp p + o) = a
  · rw [if_pos (by rw [h1]), a13, nI_add, nI_1, m_byteAt ht (by omega) hb a7, bnd2_s, hq _ (by omega), dec_t h1, Bool.true_and]
    by_cases h2 : Q (stN Q tp p + o + 1) = b
    · rw [if_pos (by rw [h2]), a13, nI_add, show nI (stN Q tp p + o) + 2 = nI (stN Q tp p + o + 2) from nI_add _ 2, m_byteAt ht (by omega) hb a7, bnd2_s, hq _ (by omega), dec_t h2, Bool.true_and]
      by_cases h3 : Q (stN Q tp p + o + 2) = c
      · rw [if_pos (by rw [h3]), dec_t (show Q (stN Q tp p + o + 1 + 1) = c from h3)]; rfl
      · rw [if_neg (fun z => h3 ((nI_eq (by omega) (by omega)).mp z)), dec_f (show ¬ Q (stN Q tp p + o + 1 + 1) = c from h3)]; rfl
    · rw [if_neg (fun z => h2 ((nI_eq (by omega) (by omega)).mp z)), dec_f h2, Bool.false_and]; rfl
  · rw [if_neg (fun z => h1 ((nI_eq (by omega) (by omega)).mp z)), dec_f h1, Bool.false_and]; rfl
theorem m_isFour {Q : Nat → Nat} {tp p a b c d : Nat} {S : Mem} (ht : tp ≤ 120) (hp : p ≤ tp) (hb : MB Q tp S) (hm : MT Q tp p S) (ha : a < 256) (hb2 : b < 256) (hc : c < 256) (hd : d < 256) : f_X12_isFour 57 (nI a) (nI b) (nI c) (nI d) S = some (b1 (isW Q tp p [a, b, c, d]), S) := by
  have hl := ln_le (Q := Q) hp ht
  unfold f_X12_isFour
  rw [if_pos tg57, show (4 : Int32) = nI 4 from rfl, m_isWordN ht hp hm (by omega), bnd2_s, b1_if]
  by_cases h : (decide (tkN Q tp p = 1) && decide (lnN Q tp p = 4)) = true
  · obtain ⟨h1, h2⟩ := and_b.mp h
    have h2' := of_decide_eq_true h2
    rw [if_pos h, show (0 : Int32) = nI 0 from rfl, m_has3 ht hb hm (by omega) ha hb2 hc, bnd2_s, show (nI 0 : Int32) = 0 from rfl, b1_if]
    have e : isW Q tp p [a, b, c, d] = (eqW Q (stN Q tp p + 0) [a, b, c] && eqW Q (stN Q tp p + 1) [b, c, d]) := by
      unfold isW
      rw [h1, Bool.true_and, dec_t (show lnN Q tp p = [a, b, c, d].length from h2'), Bool.true_and, Nat.add_zero]
      show (decide _ && (decide _ && (decide _ && (decide _ && true)))) = ((decide _ && (decide _ && (decide _ && true))) && (decide _ && (decide _ && (decide _ && true))))
      cases decide (Q (stN Q tp p) = a) <;> cases decide (Q (stN Q tp p + 1) = b) <;> cases decide (Q (stN Q tp p + 1 + 1) = c) <;> cases decide (Q (stN Q tp p + 1 + 1 + 1) = d) <;> rfl
    rw [e]
    by_cases h3 : eqW Q (stN Q tp p + 0) [a, b, c] = true
    · rw [if_pos h3, show (1 : Int32) = nI 1 from rfl, m_has3 ht hb hm (by omega) hb2 hc hd, bnd2_s, b1_if, h3, Bool.true_and]
      cases eqW Q (stN Q tp p + 1) [b, c, d] <;> rfl
    · rw [if_neg h3, Bool.eq_false_iff.mpr h3]; rfl
  · rw [if_neg h]
    unfold isW
    rw [← Bool.and_assoc, show ([a, b, c, d] : List Nat).length = 4 from rfl, Bool.eq_false_iff.mpr h]; rfl
