/-! Ops of both machines. -/
theorem lgE {x y : Int64} : lg_cmp x y = 0 ↔ x = y := by
  unfold lg_cmp
  by_cases h : x > y
  · rw [if_pos h]
    exact ⟨fun z => absurd z (by decide), fun z => by rw [z] at h; exact absurd h (Int64.lt_irrefl)⟩
  · rw [if_neg h]
    by_cases e : x = y
    · rw [if_pos e]; exact ⟨fun _ => e, fun _ => rfl⟩
    · rw [if_neg e]; exact ⟨fun z => absurd z (by decide), fun z => absurd z e⟩
theorem lgP {x y : Int64} : 0 < lg_cmp x y ↔ y < x := by
  unfold lg_cmp
  by_cases h : x > y
  · rw [if_pos h]; exact ⟨fun _ => h, fun _ => by decide⟩
  · rw [if_neg h]
    refine ⟨fun z => ?_, fun z => absurd z h⟩
    split at z
    · exact absurd z (by decide)
    · exact absurd z (by decide)
theorem lgN {x y : Int64} : lg_cmp x y < 0 ↔ x < y := by
  unfold lg_cmp
  by_cases h : x > y
  · rw [if_pos h]
    exact ⟨fun z => absurd z (by decide), fun z => absurd (Int64.lt_trans z h) Int64.lt_irrefl⟩
  · rw [if_neg h]
    by_cases e : x = y
    · rw [if_pos e]
      exact ⟨fun z => absurd z (by decide), fun z => by rw [e] at z; exact absurd z Int64.lt_irrefl⟩
    · rw [if_neg e]
      exact ⟨fun _ => Int64.lt_of_le_of_ne (Int64.not_lt.mp h) e, fun _ => by decide⟩
theorem lgZ {x y : Int64} : lg_cmp x y ≤ 0 ↔ ¬ y < x := by
  rw [← Int32.not_lt, lgP]
theorem lgG {x y : Int64} : 0 ≤ lg_cmp x y ↔ ¬ x < y := by
  rw [← Int32.not_lt, lgN]
theorem u32_nI {n : Nat} (h : n < 2 ^ 32) : (Int32.toUInt32 (nI n)).toNat = n := by
  show (BitVec.ofNat 32 n).toNat = n
  rw [BitVec.toNat_ofNat]
  exact Nat.mod_eq_of_lt h
theorem nI_u32 (x : UInt32) : x.toInt32 = nI x.toNat := by
  apply i32_inj
  show x.toBitVec = BitVec.ofNat 32 x.toBitVec.toNat
  rw [BitVec.ofNat_toNat, BitVec.setWidth_eq]
theorem nI_ushr {n : Nat} (h : n < 2 ^ 32) (b : UInt32) : (Int32.toUInt32 (nI n) >>> b).toInt32 = nI (n / 2 ^ (b.toNat % 32)) := by
  rw [nI_u32, UInt32.toNat_shiftRight, u32_nI h, Nat.shiftRight_eq_div_pow]
theorem nI_and (a b : Nat) : nI a &&& nI b = nI (a &&& b) := by
  apply i32_inj
  rw [Int32.toBitVec_and, nI_bv, nI_bv, nI_bv, BitVec.ofNat_and]
theorem nI_and127 (a : Nat) : nI a &&& 127 = nI (a % 128) := by
  rw [show (127 : Int32) = nI 127 from rfl, nI_and, show 127 = 2 ^ 7 - 1 from rfl, Nat.and_two_pow_sub_one_eq_mod]
theorem nI_and255 (a : Nat) : nI a &&& 255 = nI (a % 256) := by
  rw [show (255 : Int32) = nI 255 from rfl, nI_and, show 255 = 2 ^ 8 - 1 from rfl, Nat.and_two_pow_sub_one_eq_mod]
section OPS
variable {N w : Nat} {s : ms} {a b : Int64}
theorem maskC (hw : w < 2 ^ 31) : fn_C_mask N (nI w) s = some (amk w, s) := by
  unfold fn_C_mask amk
  by_cases z : w < 64
  · rw [if_pos (show nI w < 64 from nI_lt (b := 64) z (by omega)), if_pos z]
  · rw [if_neg (show ¬ nI w < 64 from fun q => absurd q (Int32.not_lt.mpr (nI_le (a := 64) (b := w) (by omega) hw))), if_neg z]
theorem mask_M (hw : w < 2 ^ 31) : fn_M_mask N (nI w) s = some (amk w, s) := by
  unfold fn_M_mask amk
  by_cases z : w < 64
  · rw [if_pos (show nI w < 64 from nI_lt (b := 64) z (by omega)), if_pos z]
  · rw [if_neg (show ¬ nI w < 64 from fun q => absurd q (Int32.not_lt.mpr (nI_le (a := 64) (b := w) (by omega) hw))), if_neg z]
theorem iteb {p : Prop} [Decidable p] : (if p then (some ((1 : Int64), s)) else some (0, s)) = some (b01L (decide p), s) := by
  by_cases h : p
  · rw [if_pos h, decide_eq_true h]; rfl
  · rw [if_neg h, decide_eq_false h]; rfl
theorem iteb' {p : Prop} [Decidable p] : (if p then (some ((0 : Int64), s)) else some (1, s)) = some (b01L (!decide p), s) := by
  by_cases h : p
  · rw [if_pos h, decide_eq_true h]; rfl
  · rw [if_neg h, decide_eq_false h]; rfl
theorem b01L_iff {p q : Bool} (h : p = true ↔ q = true) : b01L p = b01L q := by
  cases p <;> cases q
  · rfl
  · exact absurd (h.mpr rfl) (by decide)
  · exact absurd (h.mp rfl) (by decide)
  · rfl
theorem below_M {x y : Int64} : fn_M_below N x y s = some (b01 (abel x y), s) := by
  unfold fn_M_below abel
  by_cases h : 0 ≤ lg_cmp (x ^^^ (-9223372036854775808)) (y ^^^ (-9223372036854775808))
  · rw [if_pos h, decide_eq_false (fun z => z h)]; rfl
  · rw [if_neg h, decide_eq_true h]; rfl
theorem beyond {x : Int64} : (lg_cmp x 64 < 0) ↔ lg_cmp x 63 ≤ 0 := by
  rw [lgN, lgZ, Int64.not_lt, Int64.lt_iff_toInt_lt, Int64.le_iff_toInt_le, show (64 : Int64).toInt = 64 from rfl, show (63 : Int64).toInt = 63 from rfl]
  omega
theorem two_M {k : Nat} (hk : isB k) (hw : w < 2 ^ 31) : fn_M_two N (nI k) (nI (bMade k w)) a b s = some (abi k w a b, s) := by
  have ca : ∀ (p : Bool), (if b01 p = 0 then some ((0 : Int64), s) else some (1, s)) = some (b01L p, s) := fun p => by cases p <;> rfl
  have cb : ∀ (p : Bool), (if b01 p = 0 then some ((1 : Int64), s) else some (0, s)) = some (b01L (!p), s) := fun p => by cases p <;> rfl
  unfold fn_M_two
  have lit : ∀ n : Nat, n < 2 ^ 31 → ∀ k : Nat, k < 2 ^ 31 → (nI n = nI k ↔ n = k) := fun n hn k hk => nI_eq hn hk
  rcases hk with rfl | rfl | rfl | rfl | rfl | rfl | rfl | rfl | rfl | rfl | rfl | rfl | rfl | rfl | rfl | rfl
  · simp (decide := true) only [reduceIte]
    rfl
  · simp (decide := true) only [reduceIte]
    rw [show bMade 42 w = w from rfl]
    show (fn_M_mask N (nI w) s).bind _ = _
    rw [mask_M hw]; rfl
  · simp (decide := true) only [reduceIte]
    rw [show bMade 43 w = w from rfl]
    show (fn_M_mask N (nI w) s).bind _ = _
    rw [mask_M hw]; rfl
  · simp (decide := true) only [reduceIte]
    rw [show bMade 45 w = w from rfl]
    show (fn_M_mask N (nI w) s).bind _ = _
    rw [mask_M hw]; rfl
  · simp (decide := true) only [reduceIte]
    show (fn_M_below N a b s).bind _ = _
    rw [below_M, obind]
    exact ca _
  · simp (decide := true) only [reduceIte]
    show (fn_M_below N b a s).bind _ = _
    rw [below_M, obind]
    exact ca _
  · simp (decide := true) only [reduceIte]
    rfl
  · simp (decide := true) only [reduceIte]
    rfl
  · simp (decide := true) only [reduceIte]
    show (if lg_cmp a 0 = 0 then some ((0 : Int64), s) else if lg_cmp b 0 = 0 then some (0, s) else some (1, s)) = some (b01L (decide (¬ a = 0 ∧ ¬ b = 0)), s)
    by_cases h1 : a = 0
    · rw [if_pos (lgE.mpr h1), decide_eq_false (fun z => z.1 h1)]; rfl
    · rw [if_neg (fun z => h1 (lgE.mp z))]
      by_cases h2 : b = 0
      · rw [if_pos (lgE.mpr h2), decide_eq_false (fun z => z.2 h2)]; rfl
      · rw [if_neg (fun z => h2 (lgE.mp z)), decide_eq_true ⟨h1, h2⟩]; rfl
  · simp (decide := true) only [reduceIte]
    show (if lg_cmp a 0 = 0 then if lg_cmp b 0 = 0 then some ((0 : Int64), s) else some (1, s) else some (1, s)) = some (b01L (decide (¬ a = 0 ∨ ¬ b = 0)), s)
    by_cases h1 : a = 0
    · rw [if_pos (lgE.mpr h1)]
      by_cases h2 : b = 0
      · rw [if_pos (lgE.mpr h2), decide_eq_false (fun z => z.elim (fun q => q h1) (fun q => q h2))]; rfl
      · rw [if_neg (fun z => h2 (lgE.mp z)), decide_eq_true (Or.inr h2)]; rfl
    · rw [if_neg (fun z => h1 (lgE.mp z)), decide_eq_true (Or.inl h1)]; rfl
  · simp (decide := true) only [reduceIte]
    show (if lg_cmp a b = 0 then some ((1 : Int64), s) else some (0, s)) = some (b01L (decide (a = b)), s)
    by_cases h1 : a = b
    · rw [if_pos (lgE.mpr h1), decide_eq_true h1]; rfl
    · rw [if_neg (fun z => h1 (lgE.mp z)), decide_eq_false h1]; rfl
  · simp (decide := true) only [reduceIte]
    show (if lg_cmp a b = 0 then some ((0 : Int64), s) else some (1, s)) = some (b01L (decide (¬ a = b)), s)
    by_cases h1 : a = b
    · rw [if_pos (lgE.mpr h1), decide_eq_false (fun z => z h1)]; rfl
    · rw [if_neg (fun z => h1 (lgE.mp z)), decide_eq_true h1]; rfl
  · simp (decide := true) only [reduceIte]
    show (fn_M_below N b a s).bind _ = _
    rw [below_M, obind]
    exact cb _
  · simp (decide := true) only [reduceIte]
    show (fn_M_below N a b s).bind _ = _
    rw [below_M, obind]
    exact cb _
  · simp (decide := true) only [reduceIte]
    rw [show bMade 262 w = w from rfl]
    show (if lg_cmp b 0 < 0 then some ((0 : Int64), s) else if lg_cmp b 63 ≤ 0 then (fn_M_mask N (nI w) s).bind (fun q_1 => some (((a <<< ((Int32.toInt64 (Int64.toInt32 b)) &&& 63)) &&& q_1.1), q_1.2)) else some (0, s)) = some ((if lg_cmp b 0 < 0 then 0 else if lg_cmp b 63 ≤ 0 then ((a <<< ((Int32.toInt64 (Int64.toInt32 b)) &&& 63)) &&& amk w) else 0), s)
    rw [mask_M hw, obind]
    split
    · rfl
    · split <;> rfl
  · simp (decide := true) only [reduceIte]
    show (if lg_cmp b 0 < 0 then some ((0 : Int64), s) else if lg_cmp b 63 ≤ 0 then some (((Int64.toUInt64 a >>> (Int64.toUInt64 (Int32.toInt64 (Int64.toInt32 b)) &&& Int64.toUInt64 63)).toInt64), s) else some (0, s)) = some ((if lg_cmp b 0 < 0 then 0 else if lg_cmp b 63 ≤ 0 then aur a (Int64.toUInt64 (Int32.toInt64 (Int64.toInt32 b)) &&& Int64.toUInt64 63) else 0), s)
    split
    · rfl
    · split <;> rfl
theorem isBeyond_C {x : Int64} : fn_Machine_isBeyond N x s = some (if lg_cmp x 0 < 0 then 1 else if lg_cmp x 63 ≤ 0 then 0 else 1, s) := by
  unfold fn_Machine_isBeyond
  split
  · rfl
  · by_cases z : lg_cmp x 64 < 0
    · rw [if_pos z, if_pos (beyond.mp z)]
    · rw [if_neg z, if_neg (fun q => z (beyond.mpr q))]
theorem beyB {x : Int64} {u v : Int64} : (if (if lg_cmp x 0 < 0 then (1 : Int32) else if lg_cmp x 63 ≤ 0 then 0 else 1) = 0 then some (u, s) else some (v, s)) = some ((if lg_cmp x 0 < 0 then v else if lg_cmp x 63 ≤ 0 then u else v), s) := by
  by_cases h1 : lg_cmp x 0 < 0
  · rw [if_pos h1, if_pos h1, if_neg (by decide)]
  · rw [if_neg h1, if_neg h1]
    by_cases h2 : lg_cmp x 63 ≤ 0
    · rw [if_pos h2, if_pos h2, if_pos rfl]
    · rw [if_neg h2, if_neg h2, if_neg (by decide)]
theorem asked_C {x y : Int64} {p : Bool} {k : Int32} (h : fn_Machine_asked N k x y s = some (b01 p, s)) : (fn_Machine_asked N k x y s).bind (fun q_1 => if q_1.1 = 0 then some ((0 : Int64), q_1.2) else some (1, q_1.2)) = some (b01L p, s) := by
  rw [h, obind]
  cases p <;> rfl
theorem two_C {k : Nat} (hk : isB k) (hw : w < 2 ^ 31) : fn_Machine_two N (nI (kap k)) (nI w) a b s = some (abi k w a b, s) := by
  have i1 : ∀ {p : Prop} [Decidable p], (if p then (some ((1 : Int32), s)) else some (0, s)) = some (b01 (decide p), s) := fun {p} _ => by
    by_cases h : p
    · rw [if_pos h, decide_eq_true h]; rfl
    · rw [if_neg h, decide_eq_false h]; rfl
  have i0 : ∀ {p : Prop} [Decidable p], (if p then (some ((0 : Int32), s)) else some (1, s)) = some (b01 (!decide p), s) := fun {p} _ => by
    by_cases h : p
    · rw [if_pos h, decide_eq_true h]; rfl
    · rw [if_neg h, decide_eq_false h]; rfl
  unfold fn_Machine_two
  rcases hk with rfl | rfl | rfl | rfl | rfl | rfl | rfl | rfl | rfl | rfl | rfl | rfl | rfl | rfl | rfl | rfl
  · simp (decide := true) only [reduceIte]
    rfl
  · simp (decide := true) only [reduceIte]
    show (fn_C_mask N (nI w) s).bind _ = _
    rw [maskC hw]; rfl
  · simp (decide := true) only [reduceIte]
    show (fn_C_mask N (nI w) s).bind _ = _
    rw [maskC hw]; rfl
  · simp (decide := true) only [reduceIte]
    show (fn_C_mask N (nI w) s).bind _ = _
    rw [maskC hw]; rfl
  · simp (decide := true) only [reduceIte]
    refine (asked_C (p := abel a b) ?_)
    unfold fn_Machine_asked
    simp (decide := true) only [reduceIte]
    show (if 0 ≤ lg_cmp (a ^^^ (-9223372036854775808)) (b ^^^ (-9223372036854775808)) then some ((0 : Int32), s) else some (1, s)) = _
    rw [i0]
    unfold abel
    rw [decide_not]
  · simp (decide := true) only [reduceIte]
    refine (asked_C (p := abel b a) ?_)
    unfold fn_Machine_asked
    simp (decide := true) only [reduceIte]
    show (if lg_cmp (a ^^^ (-9223372036854775808)) (b ^^^ (-9223372036854775808)) ≤ 0 then some ((0 : Int32), s) else some (1, s)) = _
    rw [i0]
    unfold abel
    rw [← decide_not]
    congr 3
    rw [decide_eq_decide, lgZ, lgG]
  · simp (decide := true) only [reduceIte]
    rfl
  · simp (decide := true) only [reduceIte]
    rfl
  · simp (decide := true) only [reduceIte]
    refine (asked_C (p := decide (¬ a = 0 ∧ ¬ b = 0)) ?_)
    unfold fn_Machine_asked
    simp (decide := true) only [reduceIte]
    show (if lg_cmp a 0 = 0 then some ((0 : Int32), s) else if lg_cmp b 0 = 0 then some (0, s) else some (1, s)) = _
    by_cases h1 : a = 0
    · rw [if_pos (lgE.mpr h1), decide_eq_false (fun z => z.1 h1)]; rfl
    · rw [if_neg (fun z => h1 (lgE.mp z))]
      by_cases h2 : b = 0
      · rw [if_pos (lgE.mpr h2), decide_eq_false (fun z => z.2 h2)]; rfl
      · rw [if_neg (fun z => h2 (lgE.mp z)), decide_eq_true ⟨h1, h2⟩]; rfl
  · simp (decide := true) only [reduceIte]
    refine (asked_C (p := decide (¬ a = 0 ∨ ¬ b = 0)) ?_)
    unfold fn_Machine_asked
    simp (decide := true) only [reduceIte]
    show (if lg_cmp a 0 = 0 then if lg_cmp b 0 = 0 then some ((0 : Int32), s) else some (1, s) else some (1, s)) = _
    by_cases h1 : a = 0
    · rw [if_pos (lgE.mpr h1)]
      by_cases h2 : b = 0
      · rw [if_pos (lgE.mpr h2), decide_eq_false (fun z => z.elim (fun q => q h1) (fun q => q h2))]; rfl
      · rw [if_neg (fun z => h2 (lgE.mp z)), decide_eq_true (Or.inr h2)]; rfl
    · rw [if_neg (fun z => h1 (lgE.mp z)), decide_eq_true (Or.inl h1)]; rfl
  · simp (decide := true) only [reduceIte]
    refine (asked_C (p := decide (a = b)) ?_)
    unfold fn_Machine_asked
    simp (decide := true) only [reduceIte]
    show (if lg_cmp a b = 0 then some ((1 : Int32), s) else some (0, s)) = _
    by_cases h1 : a = b
    · rw [if_pos (lgE.mpr h1), decide_eq_true h1]; rfl
    · rw [if_neg (fun z => h1 (lgE.mp z)), decide_eq_false h1]; rfl
  · simp (decide := true) only [reduceIte]
    refine (asked_C (p := decide (¬ a = b)) ?_)
    unfold fn_Machine_asked
    simp (decide := true) only [reduceIte]
    show (if lg_cmp a b = 0 then some ((0 : Int32), s) else some (1, s)) = _
    by_cases h1 : a = b
    · rw [if_pos (lgE.mpr h1), decide_eq_false (fun z => z h1)]; rfl
    · rw [if_neg (fun z => h1 (lgE.mp z)), decide_eq_true h1]; rfl
  · simp (decide := true) only [reduceIte]
    refine (asked_C (p := !abel b a) ?_)
    unfold fn_Machine_asked
    simp (decide := true) only [reduceIte]
    show (if 0 < lg_cmp (a ^^^ (-9223372036854775808)) (b ^^^ (-9223372036854775808)) then some ((0 : Int32), s) else some (1, s)) = _
    rw [i0]
    unfold abel
    congr 3
    congr 1
    rw [decide_eq_decide, lgP, lgG, Classical.not_not]
  · simp (decide := true) only [reduceIte]
    refine (asked_C (p := !abel a b) ?_)
    unfold fn_Machine_asked
    simp (decide := true) only [reduceIte]
    show (if lg_cmp (a ^^^ (-9223372036854775808)) (b ^^^ (-9223372036854775808)) < 0 then some ((0 : Int32), s) else some (1, s)) = _
    rw [i0]
    unfold abel
    congr 3
    congr 1
    rw [decide_eq_decide, lgN, lgG, Classical.not_not]
  · simp (decide := true) only [reduceIte]
    show (fn_Machine_isBeyond N b s).bind _ = _
    rw [isBeyond_C, obind]
    dsimp only
    rw [maskC hw, obind]
    exact beyB
  · simp (decide := true) only [reduceIte]
    show (fn_Machine_isBeyond N b s).bind _ = _
    rw [isBeyond_C, obind]
    exact beyB
end OPS
