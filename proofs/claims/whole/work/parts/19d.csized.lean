/-! Sized numbers of the class. -/
theorem lN_eq64 {a b : Nat} (ha : a < 2 ^ 64) (hb : b < 2 ^ 64) : lN a = lN b ↔ a = b := by
  constructor
  · intro h
    have e : (lN a).toBitVec.toNat = (lN b).toBitVec.toNat := by rw [h]
    rw [lN_bv, lN_bv, BitVec.toNat_ofNat, BitVec.toNat_ofNat, Nat.mod_eq_of_lt ha, Nat.mod_eq_of_lt hb] at e
    exact e
  · intro h; rw [h]
theorem lN_neg {a : Nat} (ha : a < 2 ^ 64) : (lN a < 0) ↔ 2 ^ 63 ≤ a := by
  have e : (lN a).toInt = if a < 2 ^ 63 then (a : Int) else (a : Int) - 2 ^ 64 := by
    show (BitVec.ofNat 64 a).toInt = _
    rw [BitVec.toInt_eq_toNat_cond, BitVec.toNat_ofNat, Nat.mod_eq_of_lt ha]
    by_cases c : a < 2 ^ 63
    · rw [if_pos (by omega), if_pos c]
    · rw [if_neg (by omega), if_neg c]; rfl
  rw [Int64.lt_iff_toInt_lt, e, show (0 : Int64).toInt = 0 from by decide]
  by_cases c : a < 2 ^ 63
  · rw [if_pos c]; omega
  · rw [if_neg c]; omega
theorem mask_C {N w : Nat} {s : ms} (hw : w ≤ 64) : fn_C_mask N (nI w) s = some (lN (2 ^ w - 1), s) := by
  unfold fn_C_mask
  by_cases c : w < 64
  · rw [if_pos (show nI w < (64 : Int32) from nI_lt (b := 64) c (by decide)), show (1 : Int64) = lN 1 from rfl, lN_shl c, Nat.one_mul, lN_sub (Nat.one_le_two_pow)]
  · obtain rfl : w = 64 := by omega
    rfl
theorem masked {a w : Nat} (ha : a < 2 ^ 64) (hw : w ≤ 64) : (lN a &&& (lN (2 ^ w - 1) ^^^ (-1)) = 0) ↔ a < 2 ^ w := by
  have ex : lN (2 ^ w - 1) ^^^ (-1) = lN ((2 ^ w - 1) ^^^ (2 ^ 64 - 1)) := by
    apply Int64.toBitVec_inj.mp
    rw [Int64.toBitVec_xor, lN_bv, lN_bv, BitVec.ofNat_xor]
    rfl
  rw [ex, lN_and]
  have lt : a &&& ((2 ^ w - 1) ^^^ (2 ^ 64 - 1)) < 2 ^ 64 := Nat.lt_of_le_of_lt Nat.and_le_left ha
  rw [show (0 : Int64) = lN 0 from rfl, lN_eq64 lt (by decide)]
  constructor
  · intro h
    apply Nat.lt_pow_two_of_testBit
    intro i hi
    by_cases c : i < 64
    · have := congrArg (fun x => Nat.testBit x i) h
      simp only [Nat.testBit_and, Nat.testBit_xor, Nat.testBit_two_pow_sub_one, Nat.zero_testBit] at this
      have c2 : ¬ i < w := by omega
      simpa [c, c2] using this
    · exact Nat.testBit_lt_two_pow (Nat.lt_of_lt_of_le ha (Nat.pow_le_pow_right (by decide) (by omega)))
  · intro h
    apply Nat.eq_of_testBit_eq
    intro i
    simp only [Nat.testBit_and, Nat.testBit_xor, Nat.testBit_two_pow_sub_one, Nat.zero_testBit]
    by_cases c : i < w
    · have c2 : i < 64 := by omega
      simp [c, c2]
    · have : Nat.testBit a i = false := Nat.testBit_lt_two_pow (Nat.lt_of_lt_of_le h (Nat.pow_le_pow_right (by decide) (by omega)))
      simp [this]
/-- what a sized number does in the end: a literal, a token -/
def szd (N : Nat) (x1 : Int32) (w D : Nat) (s : ms) : Option (Int32 × ms) := (fn_Code_literal_Ks N (nI w) (lN D) s).bind (fun q_4 => (fn_Tokens_add_Tk N 4 x1 q_4.1 q_4.2).bind (fun q_7 => some (1, q_7.2)))
theorem sz86_C {N n to w base sh most : Nat} {x1 : Int32} {ch : Nat → Nat} {s : ms} (h : Txt s n ch) (hto : to ≤ n) (hw : w ≤ 64) (hb : 2 ≤ base) (hb2 : base ≤ 16) (hsh : sh < 10) (hm : most < 2 ^ 63) (hs : ∀ A d : Nat, A < 2 ^ 64 → d < base → ((A < 2 ^ 63 ∧ A ≤ most ∧ ¬ (sh = 0 ∧ A = most ∧ 5 < d)) ↔ A * base + d < 2 ^ 64)) : ∀ (f m i A : Nat), i + f = to → f < m → A < 2 ^ 64 → hd_Scanner_sized_Sc_86 N m x1 (nI to) (nI w) (nI sh) (nI base) (lN most) (lN A) (nI i) s = if alld ch base f i = true ∧ dval ch base f i A < 2 ^ w then szd N x1 w (dval ch base f i A) s else some (0, s) := by
  have hn := h.2.1
  have pw : (2 : Nat) ^ w ≤ 2 ^ 64 := Nat.pow_le_pow_right (by decide) hw
  intro f
  induction f with
  | zero =>
    intro m i A e hm2 hA
    obtain ⟨m, rfl⟩ : ∃ m', m = m' + 1 := ⟨m - 1, by omega⟩
    show bd_Scanner_sized_Sc_86 N (hd_Scanner_sized_Sc_86 N m) x1 (nI to) (nI w) (nI sh) (nI base) (lN most) (lN A) (nI i) s = if true = true ∧ A < 2 ^ w then szd N x1 w A s else some (0, s)
    unfold bd_Scanner_sized_Sc_86
    rw [if_pos (nI_le (show to ≤ i by omega) (by omega)), mask_C hw, ex_bind rfl]
    dsimp only
    have q := masked hA hw
    by_cases c : A < 2 ^ w
    · rw [if_pos ((lg_cmp_eq _ _).mpr (q.mpr c)), if_pos ⟨rfl, c⟩]; rfl
    · rw [if_neg (fun z => c (q.mp ((lg_cmp_eq _ _).mp z))), if_neg (fun z => c z.2)]
  | succ f ih =>
    intro m i A e hm2 hA
    obtain ⟨m, rfl⟩ : ∃ m', m = m' + 1 := ⟨m - 1, by omega⟩
    have lt := h.lt i
    obtain ⟨d, hd⟩ : ∃ d, d = cdv (ch i) := ⟨_, rfl⟩
    have dl := cdv_lt (ch i)
    rw [← hd] at dl
    show bd_Scanner_sized_Sc_86 N (hd_Scanner_sized_Sc_86 N m) x1 (nI to) (nI w) (nI sh) (nI base) (lN most) (lN A) (nI i) s = if (decide (cdv (ch i) < base) && alld ch base f (i + 1)) = true ∧ dval ch base f (i + 1) (A * base + cdv (ch i)) < 2 ^ w then szd N x1 w (dval ch base f (i + 1) (A * base + cdv (ch i))) s else some (0, s)
    unfold bd_Scanner_sized_Sc_86 bk_Scanner_sized_Sc_148
    rw [if_neg (nI_ge (show i < to by omega) (by omega)), byteAt_C h (by omega), ex_bind rfl]
    dsimp only
    rw [digitOf_C lt, ex_bind rfl, ← hd]
    dsimp only
    by_cases c1 : d < base
    · rw [if_neg (nI_ge c1 (by omega)), decide_eq_true c1, Bool.true_and, nI_1]
      have st := hs A d hA c1
      have ev : lN A * Int32.toInt64 (nI base) + Int32.toInt64 (nI d) = lN (A * base + d) := by rw [nI_l (by omega), nI_l (by omega), lN_mul, lN_add]
      rw [ev]
      have no : ¬ A * base + d < 2 ^ 64 → (some ((0 : Int32), s) = if alld ch base f (i + 1) = true ∧ dval ch base f (i + 1) (A * base + d) < 2 ^ w then szd N x1 w (dval ch base f (i + 1) (A * base + d)) s else some (0, s)) := fun z => by
        have ge := dval_ge ch base (by omega) f (i + 1) (A * base + d)
        rw [if_neg (fun q => by omega)]
      have i0 : (lg_cmp (lN A) 0 < 0) ↔ 2 ^ 63 ≤ A := (lg_cmp_lt _ _).trans (lN_neg hA)
      by_cases c2 : 2 ^ 63 ≤ A
      · rw [if_pos (i0.mpr c2)]
        exact no (fun z => by have := st.mpr z; omega)
      rw [if_neg (fun z => c2 (i0.mp z))]
      have i1 : (lg_cmp (lN A) (lN most) ≤ 0) ↔ A ≤ most := (lg_cmp_le _ _).trans (lN_le63 (by omega) hm)
      by_cases c3 : A ≤ most
      · rw [if_pos (i1.mpr c3)]
        have i2 : (lg_cmp (lN A) (lN most) = 0) ↔ A = most := (lg_cmp_eq _ _).trans (lN_eq63 (by omega) hm)
        have i3 : (nI sh = (0 : Int32)) ↔ sh = 0 := nI_eq (b := 0) (by omega) (by decide)
        have i4 : (nI d ≤ (5 : Int32)) ↔ d ≤ 5 := nI_leI (b := 5) (by omega) (by decide)
        by_cases c4 : sh = 0
        · rw [if_pos (i3.mpr c4)]
          by_cases c5 : A = most
          · rw [if_pos (i2.mpr c5)]
            by_cases c6 : d ≤ 5
            · rw [if_pos (i4.mpr c6)]
              exact ih m (i + 1) _ (by omega) (by omega) (st.mp ⟨by omega, c3, fun z => by omega⟩)
            · rw [if_neg (fun z => c6 (i4.mp z))]
              exact no (fun z => (st.mpr z).2.2 ⟨c4, c5, by omega⟩)
          · rw [if_neg (fun z => c5 (i2.mp z))]
            exact ih m (i + 1) _ (by omega) (by omega) (st.mp ⟨by omega, c3, fun z => c5 z.2.1⟩)
        · rw [if_neg (fun z => c4 (i3.mp z))]
          exact ih m (i + 1) _ (by omega) (by omega) (st.mp ⟨by omega, c3, fun z => c4 z.1⟩)
      · rw [if_neg (fun z => c3 (i1.mp z))]
        exact no (fun z => by have := st.mpr z; omega)
    · rw [if_pos (nI_le (by omega) (by omega)), decide_eq_false c1, Bool.false_and, if_neg (fun z => by cases z.1)]
