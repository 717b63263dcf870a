/-! Longs that are natural numbers. -/
theorem sh_amt : ∀ k : Fin 64, ((Int32.toInt64 (nI k.1)) &&& 63).toBitVec.smod 64 = BitVec.ofNat 64 k.1 := by decide +kernel
theorem lN_bv (a : Nat) : (lN a).toBitVec = BitVec.ofNat 64 a := rfl
theorem lN_inj {a b : Nat} (h : a % 2 ^ 64 = b % 2 ^ 64) : lN a = lN b := by
  apply Int64.toBitVec_inj.mp
  rw [lN_bv, lN_bv]
  apply BitVec.eq_of_toNat_eq
  rw [BitVec.toNat_ofNat, BitVec.toNat_ofNat, h]
theorem lN_shl {a k : Nat} (hk : k < 64) : (lN a : Int64) <<< ((Int32.toInt64 (nI k)) &&& 63) = lN (a * 2 ^ k) := by
  apply Int64.toBitVec_inj.mp
  show (BitVec.ofNat 64 a) <<< (((Int32.toInt64 (nI k)) &&& 63).toBitVec.smod 64) = BitVec.ofNat 64 (a * 2 ^ k)
  rw [sh_amt ⟨k, hk⟩]
  apply BitVec.eq_of_toNat_eq
  show (BitVec.ofNat 64 a <<< (BitVec.ofNat 64 k).toNat).toNat = _
  rw [BitVec.toNat_shiftLeft, BitVec.toNat_ofNat, BitVec.toNat_ofNat, BitVec.toNat_ofNat, Nat.shiftLeft_eq, Nat.mod_eq_of_lt (show k < 2 ^ 64 by omega), Nat.mod_mul_mod]
theorem lN_toInt63 {a : Nat} (h : a < 2 ^ 63) : (lN a).toInt = (a : Int) := lg_ofNat_toInt h
theorem lN_shr {a k : Nat} (hk : k < 64) (ha : a < 2 ^ 63) : (lN a : Int64) >>> ((Int32.toInt64 (nI k)) &&& 63) = lN (a / 2 ^ k) := by
  apply Int64.toBitVec_inj.mp
  show (BitVec.ofNat 64 a).sshiftRight' (((Int32.toInt64 (nI k)) &&& 63).toBitVec.smod 64) = BitVec.ofNat 64 (a / 2 ^ k)
  rw [sh_amt ⟨k, hk⟩, BitVec.sshiftRight_eq', BitVec.toNat_ofNat, Nat.mod_eq_of_lt (show k < 2 ^ 64 by omega)]
  have hm : (BitVec.ofNat 64 a).msb = false := by
    rw [BitVec.msb_eq_decide, BitVec.toNat_ofNat, Nat.mod_eq_of_lt (by omega)]
    simp; omega
  rw [BitVec.sshiftRight_eq_of_msb_false hm]
  apply BitVec.eq_of_toNat_eq
  rw [BitVec.toNat_ushiftRight, BitVec.toNat_ofNat, BitVec.toNat_ofNat, Nat.shiftRight_eq_div_pow, Nat.mod_eq_of_lt (show a < 2 ^ 64 by omega), Nat.mod_eq_of_lt]
  exact Nat.lt_of_le_of_lt (Nat.div_le_self _ _) (by omega)
theorem lN_and (a b : Nat) : lN a &&& lN b = lN (a &&& b) := by
  apply Int64.toBitVec_inj.mp
  rw [Int64.toBitVec_and, lN_bv, lN_bv, lN_bv, BitVec.ofNat_and]
theorem lN_or (a b : Nat) : lN a ||| lN b = lN (a ||| b) := by
  apply Int64.toBitVec_inj.mp
  rw [Int64.toBitVec_or, lN_bv, lN_bv, lN_bv, BitVec.ofNat_or]
theorem lN_low (a : Nat) : lN a &&& 4294967295 = lN (a % 2 ^ 32) := by
  rw [show (4294967295 : Int64) = lN (2 ^ 32 - 1) from rfl, lN_and, Nat.and_two_pow_sub_one_eq_mod]
theorem lN_join {a b : Nat} (h : b < 2 ^ 32) : (lN a : Int64) <<< ((Int32.toInt64 32) &&& 63) ||| lN b = lN (a * 2 ^ 32 + b) := by
  rw [show (32 : Int32) = nI 32 from rfl, lN_shl (by decide), lN_or]
  congr 1
  rw [← Nat.shiftLeft_eq, ← Nat.shiftLeft_add_eq_or_of_lt h]
theorem lN_eq63 {a b : Nat} (ha : a < 2 ^ 63) (hb : b < 2 ^ 63) : lN a = lN b ↔ a = b := by
  constructor
  · intro h
    have := congrArg Int64.toInt h
    rw [lN_toInt63 ha, lN_toInt63 hb] at this; omega
  · intro h; rw [h]
theorem lN_le63 {a b : Nat} (ha : a < 2 ^ 63) (hb : b < 2 ^ 63) : lN a ≤ lN b ↔ a ≤ b := by
  rw [Int64.le_iff_toInt_le, lN_toInt63 ha, lN_toInt63 hb]; omega
theorem lN_lt63 {a b : Nat} (ha : a < 2 ^ 63) (hb : b < 2 ^ 63) : lN a < lN b ↔ a < b := by
  rw [Int64.lt_iff_toInt_lt, lN_toInt63 ha, lN_toInt63 hb]; omega
theorem nI_l63 {n : Nat} (h : n < 2 ^ 31) : (nI n).toInt64 = lN n := nI_l h
