/-! Ops with one operand, of both machines. -/
theorem lN_ushr {x : Nat} (hx : x < 2 ^ 64) (k : UInt64) : (Int64.toUInt64 (lN x) >>> k).toInt64 = lN (x / 2 ^ (k.toNat % 64)) := by
  apply Int64.toBitVec_inj.mp
  rw [lN_bv]
  have e : (Int64.toUInt64 (lN x) >>> k).toNat = x / 2 ^ (k.toNat % 64) := by
    rw [UInt64.toNat_shiftRight, Nat.shiftRight_eq_div_pow]
    congr 1
    show (BitVec.ofNat 64 x).toNat = x
    rw [BitVec.toNat_ofNat]
    exact Nat.mod_eq_of_lt hx
  rw [← e]
  show (Int64.toUInt64 (lN x) >>> k).toBitVec = BitVec.ofNat 64 (Int64.toUInt64 (lN x) >>> k).toBitVec.toNat
  rw [BitVec.ofNat_toNat, BitVec.setWidth_eq]
theorem lN_minus {a b : Nat} (h : b ≤ a) : lN a - lN b = lN (a - b) := by
  apply Int64.toBitVec_inj.mp
  rw [Int64.toBitVec_sub, lN_bv, lN_bv, lN_bv]
  apply BitVec.eq_of_toNat_eq
  rw [BitVec.toNat_sub, BitVec.toNat_ofNat, BitVec.toNat_ofNat, BitVec.toNat_ofNat]
  omega
theorem lN_plus (a b : Nat) : lN a + lN b = lN (a + b) := by
  apply Int64.toBitVec_inj.mp
  rw [Int64.toBitVec_add, lN_bv, lN_bv, lN_bv, BitVec.ofNat_add]
theorem bit_of {x i : Nat} (hi : i < 64) : (lN x >>> ash i) &&& 1 = lN (bt x i) := by
  apply Int64.toBitVec_inj.mp
  rw [lN_bv]
  show ((BitVec.ofNat 64 x).sshiftRight' (((Int32.toInt64 (nI i)) &&& 63).toBitVec.smod 64)) &&& 1#64 = _
  rw [sh_amt ⟨i, hi⟩, BitVec.sshiftRight_eq', BitVec.toNat_ofNat, Nat.mod_eq_of_lt (show i < 2 ^ 64 by omega)]
  apply BitVec.eq_of_getLsbD_eq
  intro j hj
  rw [BitVec.getLsbD_and, BitVec.getLsbD_sshiftRight, BitVec.getLsbD_ofNat, BitVec.getLsbD_ofNat, BitVec.getLsbD_ofNat]
  by_cases z : j = 0
  · subst z
    rw [if_pos (by omega), Nat.add_zero, Nat.testBit_eq_decide_div_mod_eq]
    unfold bt
    have : x / 2 ^ i % 2 = 0 ∨ x / 2 ^ i % 2 = 1 := by omega
    rcases this with q | q
    · rw [q]; simp
    · rw [q]; simp [hi]
  · have h1 : Nat.testBit 1 j = false := Bool.eq_false_iff.mpr (fun q => z (Nat.testBit_one_eq_true_iff_self_eq_zero.mp q))
    have h2 : (bt x i).testBit j = false := by
      apply Nat.testBit_lt_two_pow
      have := bt_le x i
      have : 2 ^ 1 ≤ 2 ^ j := Nat.pow_le_pow_right (by decide) (by omega)
      omega
    rw [h1, h2, Bool.and_false, Bool.and_false]
theorem xor1 {p b : Nat} (hp : p ≤ 1) (hb : b ≤ 1) : lN p ^^^ lN b = lN ((p + b) % 2) := by
  rw [lN_xor]
  have : p = 0 ∨ p = 1 := by omega
  have : b = 0 ∨ b = 1 := by omega
  congr 1
  rcases ‹p = 0 ∨ p = 1› with rfl | rfl <;> rcases ‹b = 0 ∨ b = 1› with rfl | rfl <;> rfl
theorem sB_step {x k : Nat} : lN (sB x k % 2) ^^^ lN (bt x k) = lN (sB x (k + 1) % 2) := by
  rw [xor1 (by omega) (bt_le x k)]
  show lN ((sB x k % 2 + bt x k) % 2) = lN ((sB x k + bt x k) % 2)
  congr 1
  omega
theorem apar_lN {x : Nat} : ∀ {n k : Nat}, k + n = 64 → apar (lN x) n (lN (sB x k % 2)) = lN (sB x 64 % 2)
  | 0, k, h => by have : k = 64 := by omega
                  subst this; rfl
  | n + 1, k, h => by
    unfold apar
    rw [show 63 - n = k by omega, bit_of (by omega), sB_step]
    exact apar_lN (n := n) (k := k + 1) (by omega)
theorem sB_ge {x w : Nat} (h : x < 2 ^ w) : ∀ {k : Nat}, sB x (w + k) = sB x w
  | 0 => rfl
  | k + 1 => by
    show sB x (w + k) + bt x (w + k) = sB x w
    rw [bt_ge h (by omega), sB_ge h]
    rfl
section ONE
variable {N w : Nat} {s : ms} {a : Int64}
theorem bitCount_C {x : Nat} (hx : x < 2 ^ 64) : ∃ R, fn_Long_bitCount N (lN x) s = some (nI R &&& 127, s) ∧ R % 2 = sB x 64 % 2 := by
  obtain ⟨i1, i2, i3, h1, h2, h3, h4, h5, h6, h7, h8⟩ := bc_nat hx
  refine ⟨_, ?_, h8⟩
  have k1 : (Int64.toUInt64 (Int32.toInt64 1) &&& Int64.toUInt64 63).toNat % 64 = 1 := by decide
  have k2 : (Int64.toUInt64 (Int32.toInt64 2) &&& Int64.toUInt64 63).toNat % 64 = 2 := by decide
  have k4 : (Int64.toUInt64 (Int32.toInt64 4) &&& Int64.toUInt64 63).toNat % 64 = 4 := by decide
  have k8 : (Int64.toUInt64 (Int32.toInt64 8) &&& Int64.toUInt64 63).toNat % 64 = 8 := by decide
  have k16 : (Int64.toUInt64 (Int32.toInt64 16) &&& Int64.toUInt64 63).toNat % 64 = 16 := by decide
  have k32 : (Int64.toUInt64 (Int32.toInt64 32) &&& Int64.toUInt64 63).toNat % 64 = 32 := by decide
  unfold fn_Long_bitCount
  rw [show (6148914691236517205 : Int64) = lN 6148914691236517205 from rfl, show (3689348814741910323 : Int64) = lN 3689348814741910323 from rfl, show (1085102592571150095 : Int64) = lN 1085102592571150095 from rfl]
  rw [lN_ushr hx, k1, show 2 ^ 1 = 2 from rfl, lN_and, lN_minus h1, ← h2]
  rw [lN_ushr h3, k2, show 2 ^ 2 = 4 from rfl, lN_and, lN_and, lN_plus, ← h4]
  rw [lN_ushr (show i2 < 2 ^ 64 by omega), k4, show 2 ^ 4 = 16 from rfl, lN_plus, lN_and, ← h6]
  rw [lN_ushr (show i3 < 2 ^ 64 by omega), k8, show 2 ^ 8 = 256 from rfl, lN_plus]
  rw [lN_ushr (show i3 + i3 / 256 < 2 ^ 64 by omega), k16, show 2 ^ 16 = 65536 from rfl, lN_plus]
  rw [lN_ushr (show i3 + i3 / 256 + (i3 + i3 / 256) / 65536 < 2 ^ 64 by omega), k32, show 2 ^ 32 = 4294967296 from rfl, lN_plus, l32]
theorem repd_C {times : Nat} {b : Int64} : ∀ (m k F : Nat) (r : Int64), k + m = times → m < F → times < 2 ^ 31 → hd_Machine_repeated_6 N F (nI times) (nI w) b r (nI k) s = some (arep w b m r, s)
  | 0, k, F, r, h, hF, ht => by
    obtain ⟨F, rfl⟩ : ∃ F', F = F' + 1 := ⟨F - 1, by omega⟩
    show bd_Machine_repeated_6 N (hd_Machine_repeated_6 N F) _ _ _ _ _ s = _
    unfold bd_Machine_repeated_6
    rw [if_pos (nI_le (by omega) (by omega))]
    rfl
  | m + 1, k, F, r, h, hF, ht => by
    obtain ⟨F, rfl⟩ : ∃ F', F = F' + 1 := ⟨F - 1, by omega⟩
    show bd_Machine_repeated_6 N (hd_Machine_repeated_6 N F) _ _ _ _ _ s = _
    unfold bd_Machine_repeated_6
    rw [if_neg (nI_ge (by omega) (by omega)), nI_1]
    exact repd_C m (k + 1) F _ (by omega) (by omega) ht
theorem one_C {x : Nat} (hx : isU x = true) (hw : w < 2 ^ 31) : fn_Machine_one N (nI x) (nI w) a s = some (aun x w a, s) := by
  have hx : x = 126 ∨ x = 33 ∨ x = 45 ∨ x = 38 ∨ x = 124 ∨ x = 94 := of_decide_eq_true hx
  have e0 : ∀ y : Int64, (if lg_cmp a y = 0 then some ((1 : Int64), s) else some (0, s)) = some (b01L (decide (a = y)), s) := fun y => by
    by_cases h1 : a = y
    · rw [if_pos (lgE.mpr h1), decide_eq_true h1]; rfl
    · rw [if_neg (fun z => h1 (lgE.mp z)), decide_eq_false h1]; rfl
  unfold fn_Machine_one
  rcases hx with rfl | rfl | rfl | rfl | rfl | rfl
  · simp (decide := true) only [reduceIte]
    rw [maskC hw]; rfl
  · simp (decide := true) only [reduceIte]
    exact e0 0
  · simp (decide := true) only [reduceIte]
    rw [maskC hw]; rfl
  · simp (decide := true) only [reduceIte]
    rw [maskC hw, obind]
    exact e0 _
  · simp (decide := true) only [reduceIte]
    show (if lg_cmp a 0 = 0 then some ((0 : Int64), s) else some (1, s)) = some (b01L (decide (¬ a = 0)), s)
    by_cases h1 : a = 0
    · rw [if_pos (lgE.mpr h1), decide_eq_false (fun z => z h1)]; rfl
    · rw [if_neg (fun z => h1 (lgE.mp z)), decide_eq_true h1]; rfl
  · simp (decide := true) only [reduceIte]
    have ha := lN_of a
    have hb := a.toBitVec.isLt
    generalize a.toBitVec.toNat = x at ha hb
    subst ha
    obtain ⟨R, r1, r2⟩ := bitCount_C (N := N) (s := s) hb
    rw [r1, obind]
    show some (Int32.toInt64 (nI R &&& 127 &&& 1), s) = some (apar (lN x) 64 0, s)
    rw [nI_and127, show (1 : Int32) = nI 1 from rfl, nI_and, Nat.and_one_is_mod, nI_l63 (by omega)]
    have := apar_lN (x := x) (n := 64) (k := 0) rfl
    rw [show (0 : Int64) = lN (sB x 0 % 2) from rfl, this, ← r2]
    congr 3
    omega
theorem par_M {x : Nat} : ∀ (m k F : Nat), k + m = w → w ≤ 64 → m < F → hd_M_one_116 N F (nI w) (lN x) (lN (sB x k % 2)) (nI k) s = some (lN (sB x w % 2), s)
  | 0, k, F, h, hw, hF => by
    obtain ⟨F, rfl⟩ : ∃ F', F = F' + 1 := ⟨F - 1, by omega⟩
    show bd_M_one_116 N (hd_M_one_116 N F) _ _ _ _ s = _
    unfold bd_M_one_116
    rw [if_pos (nI_le (by omega) (by omega)), show k = w by omega]
  | m + 1, k, F, h, hw, hF => by
    obtain ⟨F, rfl⟩ : ∃ F', F = F' + 1 := ⟨F - 1, by omega⟩
    show bd_M_one_116 N (hd_M_one_116 N F) _ _ _ _ s = _
    unfold bd_M_one_116
    rw [if_neg (nI_ge (by omega) (by omega)), nI_1, show (lN x >>> ((Int32.toInt64 (nI k)) &&& 63)) &&& 1 = lN (bt x k) from bit_of (by omega), sB_step]
    exact par_M m (k + 1) F (by omega) hw (by omega)
theorem one_M {x : Nat} (hN : 100 < N) (hx : isU x = true) (hw : w ≤ 64) (hf : Fw a w) : fn_M_one N (nI x) (nI w) a s = some (aun x w a, s) := by
  have hx : x = 126 ∨ x = 33 ∨ x = 45 ∨ x = 38 ∨ x = 124 ∨ x = 94 := of_decide_eq_true hx
  have e0 : ∀ y : Int64, (if lg_cmp a y = 0 then some ((1 : Int64), s) else some (0, s)) = some (b01L (decide (a = y)), s) := fun y => by
    by_cases h1 : a = y
    · rw [if_pos (lgE.mpr h1), decide_eq_true h1]; rfl
    · rw [if_neg (fun z => h1 (lgE.mp z)), decide_eq_false h1]; rfl
  unfold fn_M_one
  rcases hx with rfl | rfl | rfl | rfl | rfl | rfl
  · simp (decide := true) only [reduceIte]
    rw [mask_M (by omega)]; rfl
  · simp (decide := true) only [reduceIte]
    exact e0 0
  · simp (decide := true) only [reduceIte]
    rw [mask_M (by omega)]; rfl
  · simp (decide := true) only [reduceIte]
    rw [mask_M (by omega), obind]
    exact e0 _
  · simp (decide := true) only [reduceIte]
    show (if lg_cmp a 0 = 0 then some ((0 : Int64), s) else some (1, s)) = some (b01L (decide (¬ a = 0)), s)
    by_cases h1 : a = 0
    · rw [if_pos (lgE.mpr h1), decide_eq_false (fun z => z h1)]; rfl
    · rw [if_neg (fun z => h1 (lgE.mp z)), decide_eq_true h1]; rfl
  · simp (decide := true) only [reduceIte]
    obtain ⟨x, x1, rfl⟩ := hf
    have p := par_M (N := N) (s := s) (x := x) (w := w) w 0 N (by omega) hw (by omega)
    refine (show hd_M_one_116 N N (nI w) (lN x) 0 0 s = _ from p).trans ?_
    show _ = some (apar (lN x) 64 0, s)
    have := apar_lN (x := x) (n := 64) (k := 0) rfl
    rw [show (0 : Int64) = lN (sB x 0 % 2) from rfl, this]
    have g := sB_ge x1 (k := 64 - w)
    rw [show w + (64 - w) = 64 by omega] at g
    rw [g]
end ONE
