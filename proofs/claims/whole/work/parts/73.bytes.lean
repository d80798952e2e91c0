/-! feed: a byte of an int -/
theorem and255 (x : Int32) : ∃ q, q < 256 ∧ x &&& 255 = nI q := by
  have h1 : (x &&& 255).toBitVec.toNat ≤ 255 := by
    rw [Int32.toBitVec_and, BitVec.toNat_and]
    exact Nat.and_le_right
  refine ⟨(x &&& 255).toBitVec.toNat, by omega, ?_⟩
  apply Int32.toBitVec_inj.mp
  apply BitVec.eq_of_toNat_eq
  show _ = (BitVec.ofNat 32 _).toNat
  rw [BitVec.toNat_ofNat, Nat.mod_eq_of_lt (by omega)]
theorem byte_ok (w : Int32) (j : Nat) (hj : j < 4) : ∃ q, q < 256 ∧ (srI w (8 * nI j) &&& 255) = nI q ∧ (usI w (8 * nI j)).toInt8.toInt32 = (nI q).toInt8.toInt32 := by
  obtain ⟨q, hq, e⟩ := and255 (srI w (8 * nI j))
  refine ⟨q, hq, e, ?_⟩
  rw [← e]
  congr 1
  apply Int8.toBitVec_inj.mp
  have u1 : ∀ j, j < 4 → ((8 * nI j).toUInt32 &&& Int32.toUInt32 31).toBitVec % 32 = BitVec.ofNat 32 (8 * j) := by decide +kernel
  have u2 : ∀ j, j < 4 → ((8 * nI j) &&& 31 : Int32).toBitVec.smod 32 = BitVec.ofNat 32 (8 * j) := by decide +kernel
  have n1 : (BitVec.ofNat 32 (8 * j)).toNat = 8 * j := by rw [BitVec.toNat_ofNat, Nat.mod_eq_of_lt (by omega)]
  have us : (usI w (8 * nI j)).toBitVec = w.toBitVec >>> (8 * j) := by
    unfold usI
    rw [UInt32.toBitVec_toInt32, UInt32.toBitVec_shiftRight, u1 j hj, BitVec.ushiftRight_eq', n1]
    rfl
  have ss : (srI w (8 * nI j)).toBitVec = w.toBitVec.sshiftRight (8 * j) := by
    unfold srI
    rw [Int32.toBitVec_shiftRight, u2 j hj, BitVec.sshiftRight_eq', n1]
  have e3 : ∀ i, i < 8 → (255#32).getLsbD i = true := by decide +kernel
  rw [Int32.toBitVec_toInt8, Int32.toBitVec_toInt8, Int32.toBitVec_and, us, ss]
  ext i hi
  have q1 : i < 32 := by omega
  have q2 : 8 * j + i < 32 := by omega
  have e4 := e3 i hi
  rw [BitVec.getLsbD_eq_getElem q1] at e4
  simp [BitVec.getElem_signExtend, BitVec.getElem_sshiftRight, q1, q2]
  have e5 := (by decide +kernel : ∀ i, i < 8 → (255#8).getLsbD i = true) i hi
  rw [BitVec.getLsbD_eq_getElem hi] at e5
  exact fun _ => e5
