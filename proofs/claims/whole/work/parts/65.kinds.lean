/-! the kinds' words, numbers, parts -/
theorem isW_len {Q : Nat → Nat} {tp p n : Nat} {w : List Nat} (hn : w.length = n) : isW Q tp p w = ((decide (tkN Q tp p = 1) && decide (lnN Q tp p = n)) && eqW Q (stN Q tp p) w) := by
  unfold isW
  rw [← Bool.and_assoc, hn]
theorem m_isFive {Q : Nat → Nat} {tp p a b c d e : Nat} {S : Mem} (ht : tp ≤ 120) (hp : p ≤ tp) (hb : MB Q tp S) (hm : MT Q tp p S) (ha : a < 256) (hb2 : b < 256) (hc : c < 256) (hd : d < 256) (he : e < 256) : f_X12_isFive 57 (nI a) (nI b) (nI c) (nI d) (nI e) S = some (b1 (isW Q tp p [a, b, c, d, e]), S) := by
  have hl := ln_le (Q := Q) hp ht
  unfold f_X12_isFive
  rw [if_pos tg57, show (5 : Int32) = nI 5 from rfl, m_isWordN ht hp hm (by omega), bnd2_s, b1_if, isW_len (n := 5) rfl]
  by_cases h : (decide (tkN Q tp p = 1) && decide (lnN Q tp p = 5)) = true
  · have h2' := of_decide_eq_true (and_b.mp h).2
    rw [if_pos h, show (0 : Int32) = nI 0 from rfl, m_has3 ht hb hm (by omega) ha hb2 hc, bnd2_s, show (nI 0 : Int32) = 0 from rfl, b1_if, h, Bool.true_and]
    have ee : eqW Q (stN Q tp p) [a, b, c, d, e] = (eqW Q (stN Q tp p + 0) [a, b, c] && eqW Q (stN Q tp p + 2) [c, d, e]) := by
      rw [Nat.add_zero]
      show (decide _ && (decide _ && (decide _ && (decide _ && (decide _ && true))))) = ((decide _ && (decide _ && (decide _ && true))) && (decide _ && (decide _ && (decide _ && true))))
      cases decide (Q (stN Q tp p) = a) <;> cases decide (Q (stN Q tp p + 1) = b) <;> cases decide (Q (stN Q tp p + 1 + 1) = c) <;> cases decide (Q (stN Q tp p + 1 + 1 + 1) = d) <;> cases decide (Q (stN Q tp p + 1 + 1 + 1 + 1) = e) <;> rfl
    rw [ee]
    by_cases h3 : eqW Q (stN Q tp p + 0) [a, b, c] = true
    · rw [if_pos h3, show (2 : Int32) = nI 2 from rfl, m_has3 ht hb hm (by omega) hc hd he, bnd2_s, b1_if, h3, Bool.true_and]
      cases eqW Q (stN Q tp p + 2) [c, d, e] <;> rfl
    · rw [if_neg h3, Bool.eq_false_iff.mpr h3]; rfl
  · rw [if_neg h, Bool.eq_false_iff.mpr h]; rfl
theorem m_isSix {Q : Nat → Nat} {tp p a b c d e f : Nat} {S : Mem} (ht : tp ≤ 120) (hp : p ≤ tp) (hb : MB Q tp S) (hm : MT Q tp p S) (ha : a < 256) (hb2 : b < 256) (hc : c < 256) (hd : d < 256) (he : e < 256) (hf : f < 256) : f_X12_isSix 57 (nI a) (nI b) (nI c) (nI d) (nI e) (nI f) S = some (b1 (isW Q tp p [a, b, c, d, e, f]), S) := by
  have hl := ln_le (Q := Q) hp ht
  unfold f_X12_isSix
  rw [if_pos tg57, show (6 : Int32) = nI 6 from rfl, m_isWordN ht hp hm (by omega), bnd2_s, b1_if, isW_len (n := 6) rfl]
  by_cases h : (decide (tkN Q tp p = 1) && decide (lnN Q tp p = 6)) = true
  · have h2' := of_decide_eq_true (and_b.mp h).2
    rw [if_pos h, show (0 : Int32) = nI 0 from rfl, m_has3 ht hb hm (by omega) ha hb2 hc, bnd2_s, show (nI 0 : Int32) = 0 from rfl, b1_if, h, Bool.true_and]
    have ee : eqW Q (stN Q tp p) [a, b, c, d, e, f] = (eqW Q (stN Q tp p + 0) [a, b, c] && eqW Q (stN Q tp p + 3) [d, e, f]) := by
      rw [Nat.add_zero]
      show (decide _ && (decide _ && (decide _ && (decide _ && (decide _ && (decide _ && true)))))) = ((decide _ && (decide _ && (decide _ && true))) && (decide _ && (decide _ && (decide _ && true))))
      cases decide (Q (stN Q tp p) = a) <;> cases decide (Q (stN Q tp p + 1) = b) <;> cases decide (Q (stN Q tp p + 1 + 1) = c) <;> cases decide (Q (stN Q tp p + 1 + 1 + 1) = d) <;> cases decide (Q (stN Q tp p + 1 + 1 + 1 + 1) = e) <;> rfl
    rw [ee]
    by_cases h3 : eqW Q (stN Q tp p + 0) [a, b, c] = true
    · rw [if_pos h3, show (3 : Int32) = nI 3 from rfl, m_has3 ht hb hm (by omega) hd he hf, bnd2_s, b1_if, h3, Bool.true_and]
      cases eqW Q (stN Q tp p + 3) [d, e, f] <;> rfl
    · rw [if_neg h3, Bool.eq_false_iff.mpr h3]; rfl
  · rw [if_neg h, Bool.eq_false_iff.mpr h]; rfl
def kindN (Q : Nat → Nat) (tp p : Nat) : Option Nat :=
  if isW Q tp p (wN 5) = true then some 0 else if isW Q tp p (wN 6) = true then some 1 else if isW Q tp p (wN 7) = true then some 2 else if isW Q tp p (wN 8) = true then some 3 else if isW Q tp p (wN 9) = true then some 4 else if isW Q tp p (wN 10) = true then some 5 else if isW Q tp p (wN 11) = true then some 6 else none
theorem kindN_some {Q : Nat → Nat} {tp p k : Nat} (hk : k < 7) (h : isW Q tp p (wN (5 + k)) = true) (h2 : ∀ j, j < k → isW Q tp p (wN (5 + j)) = false) : kindN Q tp p = some k := by
  unfold kindN
  have g : ∀ j, j < k → ¬ isW Q tp p (wN (5 + j)) = true := fun j hj => by rw [h2 j hj]; decide
  rcases (by omega : k = 0 ∨ k = 1 ∨ k = 2 ∨ k = 3 ∨ k = 4 ∨ k = 5 ∨ k = 6) with rfl | rfl | rfl | rfl | rfl | rfl | rfl
  · rw [if_pos h]
  · rw [if_neg (g 0 (by omega)), if_pos h]
  · rw [if_neg (g 0 (by omega)), if_neg (g 1 (by omega)), if_pos h]
  · rw [if_neg (g 0 (by omega)), if_neg (g 1 (by omega)), if_neg (g 2 (by omega)), if_pos h]
  · rw [if_neg (g 0 (by omega)), if_neg (g 1 (by omega)), if_neg (g 2 (by omega)), if_neg (g 3 (by omega)), if_pos h]
  · rw [if_neg (g 0 (by omega)), if_neg (g 1 (by omega)), if_neg (g 2 (by omega)), if_neg (g 3 (by omega)), if_neg (g 4 (by omega)), if_pos h]
  · rw [if_neg (g 0 (by omega)), if_neg (g 1 (by omega)), if_neg (g 2 (by omega)), if_neg (g 3 (by omega)), if_neg (g 4 (by omega)), if_neg (g 5 (by omega)), if_pos h]
theorem kindN_none {Q : Nat → Nat} {tp p : Nat} (h2 : ∀ j, j < 7 → isW Q tp p (wN (5 + j)) = false) : kindN Q tp p = none := by
  have g : ∀ j, j < 7 → ¬ isW Q tp p (wN (5 + j)) = true := fun j hj => by rw [h2 j hj]; decide
  unfold kindN
  rw [if_neg (g 0 (by omega)), if_neg (g 1 (by omega)), if_neg (g 2 (by omega)), if_neg (g 3 (by omega)), if_neg (g 4 (by omega)), if_neg (g 5 (by omega)), if_neg (g 6 (by omega))]
theorem kindN_lt {Q : Nat → Nat} {tp p k : Nat} (h : kindN Q tp p = some k) : k < 7 := by
  unfold kindN at h
  repeat' split at h
  all_goals first | cases h; omega | cases h
theorem dv_word_k : ∀ k, k < 7 → tg (2 + k) = [4, 9, 6, 5, 3, 2, 0].getD k 99 := by decide +kernel
theorem d_word {k : Nat} {S : Mem} (hk : k < 7) : dv_word (2 + k) S = some (1000 + (5 + k), S) := by
  have h := dv_word_k k hk
  unfold dv_word
  rcases (by omega : k = 0 ∨ k = 1 ∨ k = 2 ∨ k = 3 ∨ k = 4 ∨ k = 5 ∨ k = 6) with rfl | rfl | rfl | rfl | rfl | rfl | rfl
  · rw [h, if_pos (by decide)]; rfl
  · rw [h, if_neg (by decide), if_pos (by decide)]; rfl
  · rw [h, if_neg (by decide), if_neg (by decide), if_pos (by decide)]; rfl
  · rw [h, if_neg (by decide), if_neg (by decide), if_neg (by decide), if_pos (by decide)]; rfl
  · rw [h, if_neg (by decide), if_neg (by decide), if_neg (by decide), if_neg (by decide), if_pos (by decide)]; rfl
  · rw [h, if_neg (by decide), if_neg (by decide), if_neg (by decide), if_neg (by decide), if_neg (by decide), if_pos (by decide)]; rfl
  · rw [h, if_neg (by decide), if_neg (by decide), if_neg (by decide), if_neg (by decide), if_neg (by decide), if_neg (by decide), if_pos (by decide)]; rfl
def kI (o : Option Nat) : Int32 := match o with
  | none => -1
  | some k => nI k
theorem tg21t : tg 21 = 10 := rfl
theorem rab_k : ∀ k, k < 7 → rab 3007 1 (nI k) = true ∧ eadr 3007 1 (ix (nI k)) = 2 + k := by decide +kernel
theorem c_kindTold {Q : Nat → Nat} {tp p : Nat} {S : Mem} (ht : tp ≤ 120) (hp : p ≤ tp) (hb : CB Q tp S) (hc : CT Q tp p S) : f_X7_kindTold 45 21 S = some (kI (kindN Q tp p), S) := by
  have key := itr_ex (f := i_X7_kindTold_L2) (fun i t => t = (45, 21, nI i, S) ∧ ∀ j, j < i → isW Q tp p (wN (5 + j)) = false) (fun r => (r = .inr S ∧ kindN Q tp p = none) ∨ ∃ k, r = .inl (nI k, S) ∧ kindN Q tp p = some k) 7 (fun i hi t hh => by
    obtain ⟨rfl, h1⟩ := hh
    unfold i_X7_kindTold_L2
    dsimp only
    unfold f_X7_kindTold_L2
    by_cases h7 : i = 7
    · subst h7
      rw [if_pos (by decide)]
      exact okI (Or.inr ⟨_, rfl, Or.inl ⟨rfl, kindN_none h1⟩⟩)
    · obtain ⟨r1, r2⟩ := rab_k i (by omega)
      rw [if_neg (show ¬ (6 : Int32) < nI i from nI_nlt (a := 6) (by omega) (by decide)), if_pos tg21t, if_pos r1, r2, d_word (by omega), bnd2_s, if_pos tg45, c_isWord ht hp hb hc (by omega), bnd2_s, b1_if]
      by_cases hw : isW Q tp p (wN (5 + i)) = true
      · rw [if_pos hw]
        exact okI (Or.inr ⟨_, rfl, Or.inr ⟨i, rfl, kindN_some (by omega) hw h1⟩⟩)
      · rw [if_neg hw, nI_1]
        exact okI (Or.inl ⟨_, rfl, by omega, rfl, fun j hj => by
          by_cases e : j = i
          · rw [e]; exact Bool.eq_false_iff.mpr hw
          · exact h1 j (by omega)⟩)) (s := (45, 21, 0, S)) ⟨rfl, fun j hj => absurd hj (by omega)⟩ 300 (by omega)
  unfold f_X7_kindTold
  obtain ⟨r, hr, h⟩ := key
  rw [hr, bnd_s]
  rcases h with ⟨rfl, h⟩ | ⟨k, rfl, h⟩
  · rw [h]; rfl
  · rw [h]; rfl
theorem m_kindHere {Q : Nat → Nat} {tp p : Nat} {S : Mem} (ht : tp ≤ 120) (hp : p ≤ tp) (hb : MB Q tp S) (hm : MT Q tp p S) : f_X12_kindHere 57 S = some (kI (kindN Q tp p), S) := by
  have hl := ln_le (Q := Q) hp ht
  unfold f_X12_kindHere kindN
  rw [if_pos tg57, show f_X12_isFour 57 102 105 114 101 S = _ from m_isFour (a := 102) (b := 105) (c := 114) (d := 101) ht hp hb hm (by omega) (by omega) (by omega) (by omega), bnd2_s, b1_if, show ([102, 105, 114, 101] : List Nat) = wN 5 from rfl]
  by_cases k0 : isW Q tp p (wN 5) = true
  · rw [if_pos k0, if_pos k0]; rfl
  rw [if_neg k0, if_neg k0, show f_X12_isFive 57 115 116 111 118 101 S = _ from m_isFive (a := 115) (b := 116) (c := 111) (d := 118) (e := 101) ht hp hb hm (by omega) (by omega) (by omega) (by omega) (by omega), bnd2_s, b1_if, show ([115, 116, 111, 118, 101] : List Nat) = wN 6 from rfl]
  by_cases k1 : isW Q tp p (wN 6) = true
  · rw [if_pos k1, if_pos k1]; rfl
  rw [if_neg k1, if_neg k1, show f_X12_isSix 57 112 114 105 101 115 116 S = _ from m_isSix (a := 112) (b := 114) (c := 105) (d := 101) (e := 115) (f := 116) ht hp hb hm (by omega) (by omega) (by omega) (by omega) (by omega) (by omega), bnd2_s, b1_if, show ([112, 114, 105, 101, 115, 116] : List Nat) = wN 7 from rfl]
  by_cases k2 : isW Q tp p (wN 7) = true
  · rw [if_pos k2, if_pos k2]; rfl
  rw [if_neg k2, if_neg k2, show f_X12_isFour 57 112 111 111 114 S = _ from m_isFour (a := 112) (b := 111) (c := 111) (d := 114) ht hp hb hm (by omega) (by omega) (by omega) (by omega), bnd2_s, b1_if, show ([112, 111, 111, 114] : List Nat) = wN 8 from rfl]
  by_cases k3 : isW Q tp p (wN 8) = true
  · rw [if_pos k3, if_pos k3]; rfl
  have w9 : isW Q tp p (wN 9) = ((decide (tkN Q tp p = 1) && decide (lnN Q tp p = 3)) && eqW Q (stN Q tp p) [106, 97, 114]) := isW_len rfl
  have w10 : isW Q tp p (wN 10) = ((decide (tkN Q tp p = 1) && decide (lnN Q tp p = 7)) && eqW Q (stN Q tp p) [102, 111, 114, 101, 105, 103, 110]) := isW_len rfl
  have w11 : isW Q tp p (wN 11) = ((decide (tkN Q tp p = 1) && decide (lnN Q tp p = 3)) && eqW Q (stN Q tp p) [98, 101, 100]) := isW_len rfl
  have j151 : f_X12_kindHere_j151 57 S = some (kI (if isW Q tp p (wN 11) = true then some 6 else none), S) := by
    unfold f_X12_kindHere_j151
    rw [if_pos tg57, show (3 : Int32) = nI 3 from rfl, m_isWordN ht hp hm (by omega), bnd2_s, b1_if, w11]
    by_cases h : (decide (tkN Q tp p = 1) && decide (lnN Q tp p = 3)) = true
    · have h2' := of_decide_eq_true (and_b.mp h).2
      rw [if_pos h, h, Bool.true_and, show f_X12_has3 57 0 98 101 100 S = _ from m_has3 (o := 0) (a := 98) (b := 101) (c := 100) ht hb hm (by omega) (by omega) (by omega) (by omega), bnd2_s, b1_if, Nat.add_zero]
      cases eqW Q (stN Q tp p) [98, 101, 100] <;> rfl
    · rw [if_neg h, Bool.eq_false_iff.mpr h]; rfl
  have j98 : f_X12_kindHere_j98 57 S = some (kI (if isW Q tp p (wN 10) = true then some 5 else if isW Q tp p (wN 11) = true then some 6 else none), S) := by
    unfold f_X12_kindHere_j98
    rw [if_pos tg57, show (7 : Int32) = nI 7 from rfl, m_isWordN ht hp hm (by omega), bnd2_s, b1_if, j151, w10]
    by_cases h : (decide (tkN Q tp p = 1) && decide (lnN Q tp p = 7)) = true
    · have h2' := of_decide_eq_true (and_b.mp h).2
      have e : eqW Q (stN Q tp p) [102, 111, 114, 101, 105, 103, 110] = (eqW Q (stN Q tp p + 0) [102, 111, 114] && (eqW Q (stN Q tp p + 3) [101, 105, 103] && eqW Q (stN Q tp p + 4) [105, 103, 110])) := by
        rw [Nat.add_zero]
        show (decide _ && (decide _ && (decide _ && (decide _ && (decide _ && (decide _ && (decide _ && true))))))) = ((decide _ && (decide _ && (decide _ && true))) && ((decide _ && (decide _ && (decide _ && true))) && (decide _ && (decide _ && (decide _ && true)))))
        cases decide (Q (stN Q tp p) = 102) <;> cases decide (Q (stN Q tp p + 1) = 111) <;> cases decide (Q (stN Q tp p + 1 + 1) = 114) <;> cases decide (Q (stN Q tp p + 1 + 1 + 1) = 101) <;> cases decide (Q (stN Q tp p + 1 + 1 + 1 + 1) = 105) <;> cases decide (Q (stN Q tp p + 1 + 1 + 1 + 1 + 1) = 103) <;> rfl
      rw [if_pos h, h, Bool.true_and, e, show f_X12_has3 57 0 102 111 114 S = _ from m_has3 (o := 0) (a := 102) (b := 111) (c := 114) ht hb hm (by omega) (by omega) (by omega) (by omega), bnd2_s, b1_if]
      by_cases h3 : eqW Q (stN Q tp p + 0) [102, 111, 114] = true
      · rw [if_pos h3, h3, Bool.true_and, show f_X12_has3 57 3 101 105 103 S = _ from m_has3 (o := 3) (a := 101) (b := 105) (c := 103) ht hb hm (by omega) (by omega) (by omega) (by omega), bnd2_s, b1_if]
        by_cases h4 : eqW Q (stN Q tp p + 3) [101, 105, 103] = true
        · rw [if_pos h4, h4, Bool.true_and, show f_X12_has3 57 4 105 103 110 S = _ from m_has3 (o := 4) (a := 105) (b := 103) (c := 110) ht hb hm (by omega) (by omega) (by omega) (by omega), bnd2_s, b1_if]
          cases eqW Q (stN Q tp p + 4) [105, 103, 110] <;> first | rfl | exact j151
        · rw [if_neg h4, Bool.eq_false_iff.mpr h4]; first | rfl | exact j151
      · rw [if_neg h3, Bool.eq_false_iff.mpr h3]; first | rfl | exact j151
    · rw [if_neg h, Bool.eq_false_iff.mpr h]; first | rfl | exact j151
  rw [if_neg k3, if_neg k3, show (3 : Int32) = nI 3 from rfl, m_isWordN ht hp hm (by omega), bnd2_s, b1_if, j98, w9]
  by_cases h : (decide (tkN Q tp p = 1) && decide (lnN Q tp p = 3)) = true
  · have h2' := of_decide_eq_true (and_b.mp h).2
    rw [if_pos h, h, Bool.true_and, show f_X12_has3 57 0 106 97 114 S = _ from m_has3 (o := 0) (a := 106) (b := 97) (c := 114) ht hb hm (by omega) (by omega) (by omega) (by omega), bnd2_s, b1_if, Nat.add_zero]
    cases eqW Q (stN Q tp p) [106, 97, 114] <;> first | rfl | exact j98
  · rw [if_neg h, Bool.eq_false_iff.mpr h]; first | rfl | exact j98
