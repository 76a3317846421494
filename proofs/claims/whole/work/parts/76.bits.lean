/-! the bytes of a number, by both shifts -/
theorem bv_low (x : BitVec 32) (s : Nat) (h : s ≤ 24) : (x >>> s) &&& 255#32 = (x.sshiftRight s) &&& 255#32 := by
  apply BitVec.eq_of_getLsbD_eq
  intro i hi
  rw [BitVec.getLsbD_and, BitVec.getLsbD_and]
  by_cases h8 : i < 8
  · congr 1
    rw [BitVec.getLsbD_ushiftRight, BitVec.getLsbD_sshiftRight]
    simp only [show ¬ (32 ≤ i) by omega, decide_false, Bool.not_false, Bool.true_and, show s + i < 32 by omega, if_true]
  · have : (255#32).getLsbD i = false := by
      rw [BitVec.getLsbD_ofNat]
      have : (255 : Nat).testBit i = false := Nat.testBit_lt_two_pow (Nat.lt_of_lt_of_le (by decide : 255 < 2 ^ 8) (Nat.pow_le_pow_right (by decide) (by omega)))
      rw [this, Bool.and_false]
    rw [this, Bool.and_false, Bool.and_false]
theorem sh_eq (x : Int) (s : Nat) (h : s = 0 ∨ s = 8 ∨ s = 16 ∨ s = 24) : a_and (a_ushr x s) 255 = a_and (a_shr x s) 255 := by
  unfold a_and a_ushr a_shr
  rw [Int32.ofInt_toInt, Int32.ofInt_toInt]
  congr 1
  apply Int32.toBitVec_inj.mp
  generalize Int32.ofInt x = v
  show ((v.toUInt32 >>> ((Int32.ofInt (s : Int)).toUInt32 &&& Int32.toUInt32 31)).toBitVec &&& 255#32) = ((v >>> (Int32.ofInt (s : Int) &&& 31)).toBitVec &&& 255#32)
  rcases h with rfl | rfl | rfl | rfl
  · have := bv_low v.toBitVec 0 (by decide); exact this
  · have := bv_low v.toBitVec 8 (by decide); exact this
  · have := bv_low v.toBitVec 16 (by decide); exact this
  · have := bv_low v.toBitVec 24 (by decide); exact this
theorem and255 (x : Int) : 0 ≤ a_and x 255 ∧ a_and x 255 ≤ 255 := by
  unfold a_and
  have h : (Int32.ofInt x &&& Int32.ofInt 255).toBitVec.toNat ≤ 255 := by
    show ((Int32.ofInt x).toBitVec &&& (255#32)).toNat ≤ 255
    rw [BitVec.toNat_and]
    exact Nat.and_le_right
  have e : (Int32.ofInt x &&& Int32.ofInt 255).toInt = ((Int32.ofInt x &&& Int32.ofInt 255).toBitVec.toNat : Int) := by
    show (Int32.ofInt x &&& Int32.ofInt 255).toBitVec.toInt = _
    rw [BitVec.toInt_eq_toNat_of_lt (by omega)]
  rw [e]
  omega
