/-! Values fit their widths. -/
def Fw (a : Int64) (w : Nat) : Prop := ∃ n, n < 2 ^ w ∧ a = lN n
theorem lN_of (a : Int64) : a = lN a.toBitVec.toNat := by
  apply Int64.toBitVec_inj.mp
  rw [lN_bv, BitVec.ofNat_toNat, BitVec.setWidth_eq]
theorem Fw.any (a : Int64) {w : Nat} (h : 64 ≤ w) : Fw a w := ⟨a.toBitVec.toNat, Nat.lt_of_lt_of_le a.toBitVec.isLt (Nat.pow_le_pow_right (by decide) h), lN_of a⟩
theorem Fw.up {a : Int64} {w w' : Nat} (h : Fw a w) (l : w ≤ w') : Fw a w' := by
  obtain ⟨n, h1, h2⟩ := h
  exact ⟨n, Nat.lt_of_lt_of_le h1 (Nat.pow_le_pow_right (by decide) l), h2⟩
theorem amk_lN {w : Nat} (h : w < 64) : amk w = lN (2 ^ w - 1) := by
  have p := Nat.two_pow_pos w
  have q : 2 ^ w < 2 ^ 64 := Nat.pow_lt_pow_right (by decide) h
  unfold amk
  rw [if_pos h, show ((1 : Int64) <<< ((Int32.toInt64 (nI w)) &&& 63)) = lN (1 * 2 ^ w) from lN_shl (a := 1) h, Nat.one_mul]
  apply Int64.toBitVec_inj.mp
  rw [Int64.toBitVec_sub, lN_bv, lN_bv, show (1 : Int64).toBitVec = 1#64 from rfl]
  apply BitVec.eq_of_toNat_eq
  rw [BitVec.toNat_sub, BitVec.toNat_ofNat, BitVec.toNat_ofNat, BitVec.toNat_ofNat]
  omega
theorem Fw.mask (x : Int64) (w : Nat) : Fw (x &&& amk w) w := by
  by_cases h : w < 64
  · rw [lN_of x, amk_lN h, lN_and, Nat.and_two_pow_sub_one_eq_mod]
    exact ⟨_, Nat.mod_lt _ (Nat.two_pow_pos w), rfl⟩
  · exact Fw.any _ (by omega)
theorem Fw.and1 (x : Int64) : Fw (x &&& 1) 1 := by
  rw [lN_of x, show (1 : Int64) = lN 1 from rfl, lN_and, Nat.and_one_is_mod]
  exact ⟨_, by omega, rfl⟩
theorem Fw.b01 (b : Bool) : Fw (b01L b) 1 := by
  cases b with
  | true => exact ⟨1, by decide, rfl⟩
  | false => exact ⟨0, by decide, rfl⟩
theorem Fw.zero (w : Nat) : Fw 0 w := ⟨0, Nat.two_pow_pos w, rfl⟩
theorem Fw.shr {a : Int64} {w : Nat} (h : Fw a w) (k : UInt64) : Fw (aur a k) w := by
  obtain ⟨n, h1, rfl⟩ := h
  unfold aur
  refine ⟨(Int64.toUInt64 (lN n) >>> k).toNat, ?_, ?_⟩
  · rw [UInt64.toNat_shiftRight]
    have : (Int64.toUInt64 (lN n)).toNat ≤ n := by
      show (BitVec.ofNat 64 n).toNat ≤ n
      rw [BitVec.toNat_ofNat]
      exact Nat.mod_le _ _
    exact Nat.lt_of_le_of_lt (Nat.le_trans (Nat.shiftRight_le _ _) this) h1
  · apply Int64.toBitVec_inj.mp
    rw [lN_bv]
    show (Int64.toUInt64 (lN n) >>> k).toBitVec = BitVec.ofNat 64 (Int64.toUInt64 (lN n) >>> k).toBitVec.toNat
    rw [BitVec.ofNat_toNat, BitVec.setWidth_eq]
theorem lN_xor (a b : Nat) : lN a ^^^ lN b = lN (a ^^^ b) := by
  apply Int64.toBitVec_inj.mp
  rw [Int64.toBitVec_xor, lN_bv, lN_bv, lN_bv, BitVec.ofNat_xor]
theorem Fw.and {a b : Int64} {w : Nat} (h : Fw a w) (g : Fw b w) : Fw (a &&& b) w := by
  obtain ⟨n, h1, rfl⟩ := h
  obtain ⟨m, g1, rfl⟩ := g
  exact ⟨n &&& m, Nat.lt_of_le_of_lt Nat.and_le_left h1, lN_and _ _⟩
theorem Fw.or {a b : Int64} {w : Nat} (h : Fw a w) (g : Fw b w) : Fw (a ||| b) w := by
  obtain ⟨n, h1, rfl⟩ := h
  obtain ⟨m, g1, rfl⟩ := g
  exact ⟨n ||| m, Nat.or_lt_two_pow h1 g1, lN_or _ _⟩
theorem Fw.xor {a b : Int64} {w : Nat} (h : Fw a w) (g : Fw b w) : Fw (a ^^^ b) w := by
  obtain ⟨n, h1, rfl⟩ := h
  obtain ⟨m, g1, rfl⟩ := g
  exact ⟨n ^^^ m, Nat.xor_lt_two_pow h1 g1, lN_xor _ _⟩
theorem apar_fit (a : Int64) : ∀ (n : Nat) (r : Int64), Fw r 1 → Fw (apar a n r) 1
  | 0, r, h => h
  | n + 1, r, h => apar_fit a n _ (h.xor (Fw.and1 _))
theorem Fw.shl {a : Int64} {u k : Nat} (h : Fw a u) : Fw (a <<< ash k) (u + k) := by
  by_cases z : u + k < 64
  · obtain ⟨n, h1, rfl⟩ := h
    unfold ash
    rw [lN_shl (by omega)]
    refine ⟨_, ?_, rfl⟩
    rw [Nat.pow_add]
    exact Nat.mul_lt_mul_of_pos_right h1 (Nat.two_pow_pos k)
  · exact Fw.any _ (by omega)
theorem Fw.join {a b : Int64} {u k : Nat} (h : Fw a u) (g : Fw b k) : Fw ((a <<< ash k) ||| b) (u + k) := h.shl.or (g.up (by omega))
theorem arep_fit {w : Nat} {a : Int64} (ha : Fw a w) : ∀ (j x : Nat) (r : Int64), Fw r x → Fw (arep w a j r) (x + j * w)
  | 0, x, r, h => by rw [Nat.zero_mul]; exact h
  | j + 1, x, r, h => by
    have := arep_fit ha j (x + w) _ (h.join ha)
    rw [show x + (j + 1) * w = x + w + j * w by rw [Nat.add_mul]; omega]
    exact this
theorem aun_fit {x w : Nat} {a : Int64} (h : isU x = true) : Fw (aun x w a) (if x = 126 ∨ x = 45 then w else 1) := by
  have h : x = 126 ∨ x = 33 ∨ x = 45 ∨ x = 38 ∨ x = 124 ∨ x = 94 := of_decide_eq_true h
  unfold aun
  rcases h with rfl | rfl | rfl | rfl | rfl | rfl
  · exact Fw.mask _ _
  · exact Fw.b01 _
  · exact Fw.mask _ _
  · exact Fw.b01 _
  · exact Fw.b01 _
  · exact apar_fit _ _ _ (Fw.zero 1)
theorem abi_fit {x w b : Nat} {a c : Int64} (h : isB x) (hb : bAny x = true ∨ w = b) (ha : Fw a w) (hc : Fw c b) : Fw (abi x w a c) (bMade x w) := by
  have same : bAny x = false → Fw c w := fun z => by
    rcases hb with q | q
    · rw [z] at q; cases q
    · rw [q]; exact hc
  unfold abi
  rcases h with rfl | rfl | rfl | rfl | rfl | rfl | rfl | rfl | rfl | rfl | rfl | rfl | rfl | rfl | rfl | rfl
  · exact ha.and (same (by decide))
  · exact Fw.mask _ _
  · exact Fw.mask _ _
  · exact Fw.mask _ _
  · exact Fw.b01 _
  · exact Fw.b01 _
  · exact ha.xor (same (by decide))
  · exact ha.or (same (by decide))
  · exact Fw.b01 _
  · exact Fw.b01 _
  · exact Fw.b01 _
  · exact Fw.b01 _
  · exact Fw.b01 _
  · exact Fw.b01 _
  · show Fw (if lg_cmp c 0 < 0 then 0 else if lg_cmp c 63 ≤ 0 then ((a <<< ((Int32.toInt64 (Int64.toInt32 c)) &&& 63)) &&& amk w) else 0) w
    split
    · exact Fw.zero _
    · split
      · exact Fw.mask _ _
      · exact Fw.zero _
  · show Fw (if lg_cmp c 0 < 0 then 0 else if lg_cmp c 63 ≤ 0 then aur a (Int64.toUInt64 (Int32.toInt64 (Int64.toInt32 c)) &&& Int64.toUInt64 63) else 0) w
    split
    · exact Fw.zero _
    · split
      · exact ha.shr _
      · exact Fw.zero _
def Fs : List Nat → List Int64 → Prop
  | [], _ => True
  | w :: ws, x :: st => Fw x w ∧ Fs ws st
  | _ :: _, [] => False
section FIT
variable {nm : Nat → Option (Nat × Nat)} {v : Nat → Int64}
theorem aex_fit {o : aop} {ws ws' : List Nat} {st st' : List Int64} (hv : ∀ i q, nm i = some q → Fw (v q.1) q.2) (h : tS nm o ws ws') (hs : Fs ws st) (e : aex v o st = some st') : Fs ws' st' := by
  obtain ⟨k, x, y⟩ := o
  have h := h.2
  unfold tS0 at h
  dsimp only at h
  unfold aex at e
  dsimp only at e
  rcases h with ⟨rfl, w, h1, rfl⟩ | ⟨rfl, i, w, h1, rfl⟩ | ⟨rfl, w, r, rfl, h2, h3, rfl⟩ | ⟨rfl, b, r, rfl, rfl⟩ | ⟨rfl, r, rfl, h2, rfl⟩ | ⟨rfl, b, r, rfl, h2, h3, rfl⟩ | ⟨rfl, a, c, r, rfl, rfl⟩ | ⟨rfl, u, r, rfl, h2, rfl⟩ | ⟨rfl, r, rfl, h2, h3, rfl⟩
  · cases e
    exact ⟨⟨x, h1, rfl⟩, hs⟩
  · cases e
    exact ⟨hv i _ h1, hs⟩
  · match st, hs with
    | a :: s, hs =>
      cases e
      exact ⟨Fw.mask _ _, hs.2⟩
  · match st, hs with
    | q :: a :: s, hs =>
      cases e
      refine ⟨?_, hs.2.2⟩
      split
      · exact Fw.zero _
      · split
        · exact Fw.and1 _
        · exact Fw.zero _
  · match st, hs with
    | a :: s, hs =>
      cases e
      exact ⟨aun_fit h2, hs.2⟩
  · match st, hs with
    | q :: a :: s, hs =>
      cases e
      exact ⟨abi_fit h3 h2 hs.2.1 hs.1, hs.2.2⟩
  · match st, hs with
    | q :: a :: z :: s, hs =>
      cases e
      refine ⟨?_, hs.2.2.2⟩
      split
      · exact hs.1
      · exact hs.2.1
  · match st, hs with
    | q :: a :: s, hs =>
      cases e
      exact ⟨hs.2.1.join hs.1, hs.2.2⟩
  · match st, hs with
    | a :: s, hs =>
      cases e
      refine ⟨?_, hs.2⟩
      have := arep_fit hs.1 (x - 1) y a hs.1
      rw [show y + (x - 1) * y = x * y by rw [Nat.sub_mul, Nat.one_mul]; have := Nat.le_mul_of_pos_left y (show 0 < x by omega); omega] at this
      exact this
theorem xrun_fit (hv : ∀ i q, nm i = some q → Fw (v q.1) q.2) : ∀ {L : List aop} {ws ws' : List Nat} {st st' : List Int64}, Ty nm L ws ws' → Fs ws st → xrun v L st = some st' → Fs ws' st'
  | [], ws, ws', st, st', h, hs, e => by
    have h : ws = ws' := h
    subst h
    cases e
    exact hs
  | o :: L, ws, ws', st, st', h, hs, e => by
    obtain ⟨w1, h1, h2⟩ := h
    have e : (aex v o st).bind (xrun v L) = some st' := e
    obtain ⟨s1, e1, e2⟩ := Option.bind_eq_some_iff.mp e
    exact xrun_fit hv h2 (aex_fit hv h1 hs e1) e2
theorem xval_fit (hv : ∀ i q, nm i = some q → Fw (v q.1) q.2) {L : List aop} {w M : Nat} (h : Ty nm L [] [w]) (hk : Hk M L 0 1) : Fw (xval v L) w :=
  (xrun_fit hv h (st := []) trivial (xval_ok v L hk h.le [])).1
/-- what a bit's op wants -/
theorem tS.bit {o : aop} {ws ws' : List Nat} {st : List Int64} (h : tS nm o ws ws') (hs : Fs ws st) (k : o.1 = 3) : ∀ y x r, st = y :: x :: r → Fw x o.2.1 := by
  intro y x r e
  subst e
  rcases h.2 with ⟨q, _⟩ | ⟨q, _⟩ | ⟨q, _⟩ | ⟨_, b, r2, rfl, _⟩ | ⟨q, _⟩ | ⟨q, _⟩ | ⟨q, _⟩ | ⟨q, _⟩ | ⟨q, _⟩
  · omega
  · omega
  · omega
  · exact hs.2.1
  all_goals omega
theorem tS.uni {o : aop} {ws ws' : List Nat} {st : List Int64} (h : tS nm o ws ws') (hs : Fs ws st) (k : o.1 = 4) : ∀ x r, st = x :: r → Fw x o.2.2 := by
  intro x r e
  subst e
  rcases h.2 with ⟨q, _⟩ | ⟨q, _⟩ | ⟨q, _⟩ | ⟨q, _⟩ | ⟨_, r2, rfl, _⟩ | ⟨q, _⟩ | ⟨q, _⟩ | ⟨q, _⟩ | ⟨q, _⟩
  · omega
  · omega
  · omega
  · omega
  · exact hs.1
  all_goals omega
end FIT
