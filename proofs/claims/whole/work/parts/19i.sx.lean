/-! Symbolic execution: rows for simp with omega. -/
theorem lit_nI (k : Nat) : (OfNat.ofNat k : Int32) = nI k := rfl
theorem gdF {k N : Nat} (h : k < N) (hN : N < 2 ^ 31) : (nI k < nI 0 ∨ N ≤ (nI k).toNatClampNeg) = False := eq_false (nI_in h hN)
theorem gdG {k N : Nat} (h : k < N) (hN : k < 2 ^ 31) : (nI k < nI 0 ∨ N ≤ k) = False := eq_false (nI_inN h hN)
theorem gdH {k N : Nat} (h : k < N) : (False ∨ N ≤ k) = False := eq_false (fun q => q.elim id (by omega))
theorem nltT {a b : Nat} (h : a < b) (hb : b < 2 ^ 31) : (nI a < nI b) = True := eq_true (nI_lt h hb)
theorem nltF {a b : Nat} (h : b ≤ a) (hb : a < 2 ^ 31) : (nI a < nI b) = False := eq_false (nI_nlt h hb)
theorem nleT {a b : Nat} (h : a ≤ b) (hb : b < 2 ^ 31) : (nI a ≤ nI b) = True := eq_true (nI_le h hb)
theorem nleF {a b : Nat} (h : b < a) (hb : a < 2 ^ 31) : (nI a ≤ nI b) = False := eq_false (nI_ge h hb)
theorem neqT {a b : Nat} (h : a = b) : (nI a = nI b) = True := eq_true (by rw [h])
theorem neqF {a b : Nat} (h : a ≠ b) (ha : a < 2 ^ 31) (hb : b < 2 ^ 31) : (nI a = nI b) = False := eq_false (fun q => h ((nI_eq ha hb).mp q))
theorem nm1F {a : Nat} (h : a < 2 ^ 31) : (nI a = -nI 1) = False := eq_false (fun q => by
  have := congrArg Int32.toInt q
  rw [nI_toInt h, show (-nI 1 : Int32).toInt = -1 from by decide] at this; omega)
theorem nm1F' {a : Nat} (h : a < 2 ^ 31) : (-nI 1 = nI a) = False := eq_false (fun q => by
  have := congrArg Int32.toInt q
  rw [nI_toInt h, show (-nI 1 : Int32).toInt = -1 from by decide] at this; omega)
theorem m1lt {a : Nat} (h : a < 2 ^ 31) : (-nI 1 < nI a) = True := eq_true (by
  rw [Int32.lt_iff_toInt_lt, nI_toInt h, show (-nI 1 : Int32).toInt = -1 from by decide]; omega)
theorem m1gt {a : Nat} (h : a < 2 ^ 31) : (nI a < -nI 1) = False := eq_false (by
  rw [Int32.lt_iff_toInt_lt, nI_toInt h, show (-nI 1 : Int32).toInt = -1 from by decide]; omega)
theorem m1le {a : Nat} (h : a < 2 ^ 31) : (-nI 1 ≤ nI a) = True := eq_true (by
  rw [Int32.le_iff_toInt_le, nI_toInt h, show (-nI 1 : Int32).toInt = -1 from by decide]; omega)
theorem m1ge {a : Nat} (h : a < 2 ^ 31) : (nI a ≤ -nI 1) = False := eq_false (by
  rw [Int32.le_iff_toInt_le, nI_toInt h, show (-nI 1 : Int32).toInt = -1 from by decide]; omega)
theorem m1_1 : (-nI 1 : Int32) + nI 1 = nI 0 := by decide
theorem m1_0 : (-1 : Int32) = -nI 1 := rfl
theorem up1 (s : ms) (k j : Nat) (g : Nat → Int32) : (upI s k g).1 j = if j = k then g else s.1 j := rfl
theorem up2 (s : ms) (k : Nat) (g : Nat → Int32) : (upI s k g).2 = s.2 := rfl
theorem up3 (s : ms) (k j : Nat) (g : Nat → Int64) : (upJ s k g).2 j = if j = k then g else s.2 j := rfl
theorem up4 (s : ms) (k : Nat) (g : Nat → Int64) : (upJ s k g).1 = s.1 := rfl
theorem upd_at (f : Nat → Int32) (k : Nat) (x : Int32) : upd f k x k = x := if_pos rfl
theorem upd_ne {f : Nat → Int32} {k j : Nat} {x : Int32} (h : j ≠ k) : upd f k x j = f j := if_neg h
theorem updL_at (f : Nat → Int64) (k : Nat) (x : Int64) : vp_updL f k x k = x := if_pos rfl
theorem updL_ne {f : Nat → Int64} {k j : Nat} {x : Int64} (h : j ≠ k) : vp_updL f k x j = f j := if_neg h
theorem obind {α β : Type} (y : α) (k : α → Option β) : (some y).bind k = k y := rfl
