theorem and_n (a b : Nat) : nI a &&& nI b = nI (a &&& b) := by
  apply Int32.toBitVec_inj.mp
  apply BitVec.eq_of_toNat_eq
  show (BitVec.ofNat 32 a &&& BitVec.ofNat 32 b).toNat = (BitVec.ofNat 32 (a &&& b)).toNat
  rw [BitVec.toNat_and, BitVec.toNat_ofNat, BitVec.toNat_ofNat, BitVec.toNat_ofNat, Nat.and_mod_two_pow]
theorem or_n (a b : Nat) : nI a ||| nI b = nI (a ||| b) := by
  apply Int32.toBitVec_inj.mp
  apply BitVec.eq_of_toNat_eq
  show (BitVec.ofNat 32 a ||| BitVec.ofNat 32 b).toNat = (BitVec.ofNat 32 (a ||| b)).toNat
  rw [BitVec.toNat_or, BitVec.toNat_ofNat, BitVec.toNat_ofNat, BitVec.toNat_ofNat, Nat.or_mod_two_pow]
theorem andnot_n {s t : Nat} (hs : s < 1024) (ht : t < 1024) : nI s &&& (nI t ^^^ (-1)) = nI (s &&& (1023 ^^^ t)) := by
  apply Int32.toBitVec_inj.mp
  apply BitVec.eq_of_toNat_eq
  show (BitVec.ofNat 32 s &&& (BitVec.ofNat 32 t ^^^ BitVec.ofNat 32 (2 ^ 32 - 1))).toNat = (BitVec.ofNat 32 (s &&& (1023 ^^^ t))).toNat
  rw [BitVec.toNat_and, BitVec.toNat_xor, BitVec.toNat_ofNat, BitVec.toNat_ofNat, BitVec.toNat_ofNat, BitVec.toNat_ofNat, Nat.mod_eq_of_lt (show s < 2 ^ 32 by omega), Nat.mod_eq_of_lt (show t < 2 ^ 32 by omega), Nat.mod_eq_of_lt (show 2 ^ 32 - 1 < 2 ^ 32 by omega)]
  have hle : s &&& (1023 ^^^ t) ≤ s := Nat.and_le_left
  rw [Nat.mod_eq_of_lt (show s &&& (1023 ^^^ t) < 2 ^ 32 by omega)]
  apply Nat.eq_of_testBit_eq
  intro i
  rw [Nat.testBit_and, Nat.testBit_and, Nat.testBit_xor, Nat.testBit_xor, Nat.testBit_two_pow_sub_one]
  rcases Nat.lt_or_ge i 10 with h | h
  · have e : Nat.testBit 1023 i = true := by
      rw [show 1023 = 2 ^ 10 - 1 from rfl, Nat.testBit_two_pow_sub_one]
      simpa using h
    rw [e]
    have : decide (i < 32) = true := by simp; omega
    rw [this, Bool.xor_comm]
  · have e : s.testBit i = false := Nat.testBit_lt_two_pow (Nat.lt_of_lt_of_le hs (by
      show 2 ^ 10 ≤ 2 ^ i
      exact Nat.pow_le_pow_right (by omega) h))
    rw [e, Bool.false_and, Bool.false_and]
theorem shl1_n {k : Nat} (hk : k < 31) : (1 : Int32) <<< (nI k &&& 31) = nI (2 ^ k) := by
  have key : ∀ k : Fin 31, (1 : Int32) <<< (nI k.1 &&& 31) = nI (2 ^ k.1) := by decide +kernel
  exact key ⟨k, hk⟩
theorem narb_1 : vp_nar .boolean 1 = 1 := by decide
theorem narb_0 : vp_nar .boolean 0 = 0 := by decide
theorem nar_b2i (p : Prop) [Decidable p] : vp_nar .boolean (b2i p) = b2i p := by unfold b2i; split <;> decide
