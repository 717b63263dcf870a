/-! The class's checker within an exp: operators. -/
def bCost (k a b : Nat) : Nat := if rk k = 8 then 3 * a + b else if k = 42 then a * a else max a b
def bMade (k a : Nat) : Nat := if rk k < 3 ∨ rk k = 6 ∨ rk k = 7 then 1 else a
def bAny (k : Nat) : Bool := decide (rk k < 3 ∨ rk k = 8)
def isB (k : Nat) : Prop := k = 38 ∨ k = 42 ∨ k = 43 ∨ k = 45 ∨ k = 60 ∨ k = 62 ∨ k = 94 ∨ k = 124 ∨ k = 256 ∨ k = 257 ∨ k = 258 ∨ k = 259 ∨ k = 260 ∨ k = 261 ∨ k = 262 ∨ k = 263
theorem isB_of {k : Nat} (h : 0 < rk k) : isB k := by
  unfold isB
  unfold rk at h
  by_cases c38 : k = 38
  · omega
  by_cases c42 : k = 42
  · omega
  by_cases c43 : k = 43
  · omega
  by_cases c45 : k = 45
  · omega
  by_cases c60 : k = 60
  · omega
  by_cases c62 : k = 62
  · omega
  by_cases c94 : k = 94
  · omega
  by_cases c124 : k = 124
  · omega
  by_cases c256 : k = 256
  · omega
  by_cases c257 : k = 257
  · omega
  by_cases c258 : k = 258
  · omega
  by_cases c259 : k = 259
  · omega
  by_cases c260 : k = 260
  · omega
  by_cases c261 : k = 261
  · omega
  by_cases c262 : k = 262
  · omega
  by_cases c263 : k = 263
  · omega
  rw [if_neg c38, if_neg c42, if_neg c43, if_neg c45, if_neg c60, if_neg c62, if_neg c94, if_neg c124, if_neg c256, if_neg c257, if_neg c258, if_neg c259, if_neg c260, if_neg c261, if_neg c262, if_neg c263] at h
  exact absurd h (by decide)
/-- an operator is told -/
theorem bfin_C {N T sz C k a n v : Nat} {c0 c : ms} (X : Xc c T sz C) (hT : T + 1 < 900) (hz : sz + 1 < 40000) (hn : n < 268435456) (e0 : XE c0 c) (e1 : c.1 238 = c0.1 238) (e2 : c.2 336 = c0.2 336) : ∃ c', ((fn_Checker_spend_Ch N (nI n) c).bind (fun q_1 => bk_Checker_binary_Ch_140 N (nI k) (nI a) (nI v) q_1.2)) = some ((), c') ∧ Xc c' (T + 1) (sz + 1) (C + n) ∧ c'.1 238 = upd (c0.1 238) T (nI v) ∧ c'.2 336 = vp_updL (c0.2 336) sz (crw (nI k) (nI a)) ∧ XE c0 c' := by
  obtain ⟨c2, b1, b2, b3, b4, b5⟩ := spend_C (N := N) (n := n) X hn
  obtain ⟨c3, d1, d2, d3, d4, d5⟩ := push_C (N := N) (w := nI v) b2 hT
  obtain ⟨c4, f1, f2, f3, f4, f5⟩ := emit_C (N := N) (op := nI k) (arg := nI a) d2 hz
  unfold bk_Checker_binary_Ch_140
  rw [b1, obind]
  dsimp only
  rw [d1, obind]
  dsimp only
  rw [f1, obind]
  exact ⟨c4, rfl, f2, by rw [f3, d3, b3, e1], by rw [f4, d4, b4, e2], ((e0.trans b5).trans d5).trans f5⟩
theorem max_C (a b : Nat) (ha : a ≤ 64) (hb : b ≤ 64) : (if nI a < nI b then nI b else nI a) = nI (max a b) := by
  by_cases h : a < b
  · rw [if_pos (nI_lt h (by omega)), show max a b = b by omega]
  · rw [if_neg (nI_nlt (by omega) (by omega)), show max a b = a by omega]
theorem nI_mul (a b : Nat) : nI a * nI b = nI (a * b) := (Int32.ofNat_mul a b).symm
theorem binary_C38 {N T sz C a b : Nat} {x : Int32} {c : ms} (X : Xc c (T + 2) sz C) (hz : sz + 1 < 40000) (ha : a ≤ 64) (hb : b ≤ 64) (hA : c.1 238 T = nI a) (hB : c.1 238 (T + 1) = nI b) : (a = b → ∃ c', fn_Checker_binary_Ch N (nI 38) x c = some ((), c') ∧ Xc c' (T + 1) (sz + 1) (C + (max a b)) ∧ c'.1 238 = upd (c.1 238) T (nI a) ∧ c'.2 336 = vp_updL (c.2 336) sz (crw (nI 38) (nI a)) ∧ XE c c') ∧ (a ≠ b → ∃ c', fn_Checker_binary_Ch N (nI 38) x c = some ((), c') ∧ c'.1 242 0 = nI 30 ∧ c'.1 243 0 = x ∧ XE c c') := by
  have hT := X.2.2.2.1
  obtain ⟨c1, a1, a2, a3, a4, a5⟩ := pop_C (N := N) X
  obtain ⟨c2, b1, b2, b3, b4, b5⟩ := pop_C (N := N) a2
  rw [hB] at a1
  rw [a3, hA] at b1
  constructor
  · intro k
    subst k
    obtain ⟨c4, f1, f2, f3, f4, f5⟩ := bfin_C (N := N) (k := 38) (a := a) (n := max a a) (v := a) b2 (by omega) hz (by omega) (a5.trans b5) (by rw [b3, a3]) (by rw [b4, a4])
    unfold fn_Checker_binary_Ch bk_Checker_binary_Ch_31 bk_Checker_binary_Ch_36 bk_Checker_binary_Ch_54 bk_Checker_binary_Ch_59 bk_Checker_binary_Ch_80 bk_Checker_binary_Ch_123 bk_Checker_binary_Ch_126 fn_Checker_asks
    simp (disch := omega) only [off_on X, a1, b1, nI_mul, lit_nI, gdF, gdG, gdH, nltT, nltF, nleT, nleF, neqT, neqF, nm1F, nm1F', m1lt, m1gt, m1le, m1ge, nI_clamp, nI_add, nI_sub, obind, if_true, if_false, reduceIte, ite_true, ite_false]
    rw [show max a a = a by omega] at f1
    exact ⟨c4, f1, f2, f3, f4, f5⟩
  · intro k
    obtain ⟨c4, f1, f2, f3, f4⟩ := refuse_C (N := N) (w := 30) (x := x) b2
    unfold fn_Checker_binary_Ch bk_Checker_binary_Ch_31 bk_Checker_binary_Ch_36 bk_Checker_binary_Ch_54 bk_Checker_binary_Ch_59 bk_Checker_binary_Ch_80 bk_Checker_binary_Ch_123 bk_Checker_binary_Ch_126 fn_Checker_asks
    simp (disch := omega) only [off_on X, a1, b1, f1, lit_nI, gdF, gdG, gdH, nltT, nltF, nleT, nleF, neqT, neqF, nm1F, nm1F', m1lt, m1gt, m1le, m1ge, nI_clamp, nI_add, nI_sub, obind, if_true, if_false, reduceIte, ite_true, ite_false]
    exact ⟨c4, rfl, f2, f3, (a5.trans b5).trans f4⟩
theorem binary_C42 {N T sz C a b : Nat} {x : Int32} {c : ms} (X : Xc c (T + 2) sz C) (hz : sz + 1 < 40000) (ha : a ≤ 64) (hb : b ≤ 64) (hA : c.1 238 T = nI a) (hB : c.1 238 (T + 1) = nI b) : (a = b → ∃ c', fn_Checker_binary_Ch N (nI 42) x c = some ((), c') ∧ Xc c' (T + 1) (sz + 1) (C + (a * a)) ∧ c'.1 238 = upd (c.1 238) T (nI a) ∧ c'.2 336 = vp_updL (c.2 336) sz (crw (nI 42) (nI a)) ∧ XE c c') ∧ (a ≠ b → ∃ c', fn_Checker_binary_Ch N (nI 42) x c = some ((), c') ∧ c'.1 242 0 = nI 30 ∧ c'.1 243 0 = x ∧ XE c c') := by
  have hT := X.2.2.2.1
  obtain ⟨c1, a1, a2, a3, a4, a5⟩ := pop_C (N := N) X
  obtain ⟨c2, b1, b2, b3, b4, b5⟩ := pop_C (N := N) a2
  rw [hB] at a1
  rw [a3, hA] at b1
  constructor
  · intro k
    subst k
    obtain ⟨c4, f1, f2, f3, f4, f5⟩ := bfin_C (N := N) (k := 42) (a := a) (n := a * a) (v := a) b2 (by omega) hz (by have := Nat.mul_le_mul ha ha; omega) (a5.trans b5) (by rw [b3, a3]) (by rw [b4, a4])
    unfold fn_Checker_binary_Ch bk_Checker_binary_Ch_31 bk_Checker_binary_Ch_36 bk_Checker_binary_Ch_54 bk_Checker_binary_Ch_59 bk_Checker_binary_Ch_80 bk_Checker_binary_Ch_123 bk_Checker_binary_Ch_126 fn_Checker_asks
    simp (disch := omega) only [off_on X, a1, b1, nI_mul, lit_nI, gdF, gdG, gdH, nltT, nltF, nleT, nleF, neqT, neqF, nm1F, nm1F', m1lt, m1gt, m1le, m1ge, nI_clamp, nI_add, nI_sub, obind, if_true, if_false, reduceIte, ite_true, ite_false]
    exact ⟨c4, f1, f2, f3, f4, f5⟩
  · intro k
    obtain ⟨c4, f1, f2, f3, f4⟩ := refuse_C (N := N) (w := 30) (x := x) b2
    unfold fn_Checker_binary_Ch bk_Checker_binary_Ch_31 bk_Checker_binary_Ch_36 bk_Checker_binary_Ch_54 bk_Checker_binary_Ch_59 bk_Checker_binary_Ch_80 bk_Checker_binary_Ch_123 bk_Checker_binary_Ch_126 fn_Checker_asks
    simp (disch := omega) only [off_on X, a1, b1, f1, lit_nI, gdF, gdG, gdH, nltT, nltF, nleT, nleF, neqT, neqF, nm1F, nm1F', m1lt, m1gt, m1le, m1ge, nI_clamp, nI_add, nI_sub, obind, if_true, if_false, reduceIte, ite_true, ite_false]
    exact ⟨c4, rfl, f2, f3, (a5.trans b5).trans f4⟩
theorem binary_C43 {N T sz C a b : Nat} {x : Int32} {c : ms} (X : Xc c (T + 2) sz C) (hz : sz + 1 < 40000) (ha : a ≤ 64) (hb : b ≤ 64) (hA : c.1 238 T = nI a) (hB : c.1 238 (T + 1) = nI b) : (a = b → ∃ c', fn_Checker_binary_Ch N (nI 43) x c = some ((), c') ∧ Xc c' (T + 1) (sz + 1) (C + (max a b)) ∧ c'.1 238 = upd (c.1 238) T (nI a) ∧ c'.2 336 = vp_updL (c.2 336) sz (crw (nI 43) (nI a)) ∧ XE c c') ∧ (a ≠ b → ∃ c', fn_Checker_binary_Ch N (nI 43) x c = some ((), c') ∧ c'.1 242 0 = nI 30 ∧ c'.1 243 0 = x ∧ XE c c') := by
  have hT := X.2.2.2.1
  obtain ⟨c1, a1, a2, a3, a4, a5⟩ := pop_C (N := N) X
  obtain ⟨c2, b1, b2, b3, b4, b5⟩ := pop_C (N := N) a2
  rw [hB] at a1
  rw [a3, hA] at b1
  constructor
  · intro k
    subst k
    obtain ⟨c4, f1, f2, f3, f4, f5⟩ := bfin_C (N := N) (k := 43) (a := a) (n := max a a) (v := a) b2 (by omega) hz (by omega) (a5.trans b5) (by rw [b3, a3]) (by rw [b4, a4])
    unfold fn_Checker_binary_Ch bk_Checker_binary_Ch_31 bk_Checker_binary_Ch_36 bk_Checker_binary_Ch_54 bk_Checker_binary_Ch_59 bk_Checker_binary_Ch_80 bk_Checker_binary_Ch_123 bk_Checker_binary_Ch_126 fn_Checker_asks
    simp (disch := omega) only [off_on X, a1, b1, nI_mul, lit_nI, gdF, gdG, gdH, nltT, nltF, nleT, nleF, neqT, neqF, nm1F, nm1F', m1lt, m1gt, m1le, m1ge, nI_clamp, nI_add, nI_sub, obind, if_true, if_false, reduceIte, ite_true, ite_false]
    rw [show max a a = a by omega] at f1
    exact ⟨c4, f1, f2, f3, f4, f5⟩
  · intro k
    obtain ⟨c4, f1, f2, f3, f4⟩ := refuse_C (N := N) (w := 30) (x := x) b2
    unfold fn_Checker_binary_Ch bk_Checker_binary_Ch_31 bk_Checker_binary_Ch_36 bk_Checker_binary_Ch_54 bk_Checker_binary_Ch_59 bk_Checker_binary_Ch_80 bk_Checker_binary_Ch_123 bk_Checker_binary_Ch_126 fn_Checker_asks
    simp (disch := omega) only [off_on X, a1, b1, f1, lit_nI, gdF, gdG, gdH, nltT, nltF, nleT, nleF, neqT, neqF, nm1F, nm1F', m1lt, m1gt, m1le, m1ge, nI_clamp, nI_add, nI_sub, obind, if_true, if_false, reduceIte, ite_true, ite_false]
    exact ⟨c4, rfl, f2, f3, (a5.trans b5).trans f4⟩
theorem binary_C45 {N T sz C a b : Nat} {x : Int32} {c : ms} (X : Xc c (T + 2) sz C) (hz : sz + 1 < 40000) (ha : a ≤ 64) (hb : b ≤ 64) (hA : c.1 238 T = nI a) (hB : c.1 238 (T + 1) = nI b) : (a = b → ∃ c', fn_Checker_binary_Ch N (nI 45) x c = some ((), c') ∧ Xc c' (T + 1) (sz + 1) (C + (max a b)) ∧ c'.1 238 = upd (c.1 238) T (nI a) ∧ c'.2 336 = vp_updL (c.2 336) sz (crw (nI 45) (nI a)) ∧ XE c c') ∧ (a ≠ b → ∃ c', fn_Checker_binary_Ch N (nI 45) x c = some ((), c') ∧ c'.1 242 0 = nI 30 ∧ c'.1 243 0 = x ∧ XE c c') := by
  have hT := X.2.2.2.1
  obtain ⟨c1, a1, a2, a3, a4, a5⟩ := pop_C (N := N) X
  obtain ⟨c2, b1, b2, b3, b4, b5⟩ := pop_C (N := N) a2
  rw [hB] at a1
  rw [a3, hA] at b1
  constructor
  · intro k
    subst k
    obtain ⟨c4, f1, f2, f3, f4, f5⟩ := bfin_C (N := N) (k := 45) (a := a) (n := max a a) (v := a) b2 (by omega) hz (by omega) (a5.trans b5) (by rw [b3, a3]) (by rw [b4, a4])
    unfold fn_Checker_binary_Ch bk_Checker_binary_Ch_31 bk_Checker_binary_Ch_36 bk_Checker_binary_Ch_54 bk_Checker_binary_Ch_59 bk_Checker_binary_Ch_80 bk_Checker_binary_Ch_123 bk_Checker_binary_Ch_126 fn_Checker_asks
    simp (disch := omega) only [off_on X, a1, b1, nI_mul, lit_nI, gdF, gdG, gdH, nltT, nltF, nleT, nleF, neqT, neqF, nm1F, nm1F', m1lt, m1gt, m1le, m1ge, nI_clamp, nI_add, nI_sub, obind, if_true, if_false, reduceIte, ite_true, ite_false]
    rw [show max a a = a by omega] at f1
    exact ⟨c4, f1, f2, f3, f4, f5⟩
  · intro k
    obtain ⟨c4, f1, f2, f3, f4⟩ := refuse_C (N := N) (w := 30) (x := x) b2
    unfold fn_Checker_binary_Ch bk_Checker_binary_Ch_31 bk_Checker_binary_Ch_36 bk_Checker_binary_Ch_54 bk_Checker_binary_Ch_59 bk_Checker_binary_Ch_80 bk_Checker_binary_Ch_123 bk_Checker_binary_Ch_126 fn_Checker_asks
    simp (disch := omega) only [off_on X, a1, b1, f1, lit_nI, gdF, gdG, gdH, nltT, nltF, nleT, nleF, neqT, neqF, nm1F, nm1F', m1lt, m1gt, m1le, m1ge, nI_clamp, nI_add, nI_sub, obind, if_true, if_false, reduceIte, ite_true, ite_false]
    exact ⟨c4, rfl, f2, f3, (a5.trans b5).trans f4⟩
theorem binary_C60 {N T sz C a b : Nat} {x : Int32} {c : ms} (X : Xc c (T + 2) sz C) (hz : sz + 1 < 40000) (ha : a ≤ 64) (hb : b ≤ 64) (hA : c.1 238 T = nI a) (hB : c.1 238 (T + 1) = nI b) : (a = b → ∃ c', fn_Checker_binary_Ch N (nI 60) x c = some ((), c') ∧ Xc c' (T + 1) (sz + 1) (C + (max a b)) ∧ c'.1 238 = upd (c.1 238) T (nI 1) ∧ c'.2 336 = vp_updL (c.2 336) sz (crw (nI 60) (nI a)) ∧ XE c c') ∧ (a ≠ b → ∃ c', fn_Checker_binary_Ch N (nI 60) x c = some ((), c') ∧ c'.1 242 0 = nI 30 ∧ c'.1 243 0 = x ∧ XE c c') := by
  have hT := X.2.2.2.1
  obtain ⟨c1, a1, a2, a3, a4, a5⟩ := pop_C (N := N) X
  obtain ⟨c2, b1, b2, b3, b4, b5⟩ := pop_C (N := N) a2
  rw [hB] at a1
  rw [a3, hA] at b1
  constructor
  · intro k
    subst k
    obtain ⟨c4, f1, f2, f3, f4, f5⟩ := bfin_C (N := N) (k := 60) (a := a) (n := max a a) (v := 1) b2 (by omega) hz (by omega) (a5.trans b5) (by rw [b3, a3]) (by rw [b4, a4])
    unfold fn_Checker_binary_Ch bk_Checker_binary_Ch_31 bk_Checker_binary_Ch_36 bk_Checker_binary_Ch_54 bk_Checker_binary_Ch_59 bk_Checker_binary_Ch_80 bk_Checker_binary_Ch_123 bk_Checker_binary_Ch_126 fn_Checker_asks
    simp (disch := omega) only [off_on X, a1, b1, nI_mul, lit_nI, gdF, gdG, gdH, nltT, nltF, nleT, nleF, neqT, neqF, nm1F, nm1F', m1lt, m1gt, m1le, m1ge, nI_clamp, nI_add, nI_sub, obind, if_true, if_false, reduceIte, ite_true, ite_false]
    rw [show max a a = a by omega] at f1
    exact ⟨c4, f1, f2, f3, f4, f5⟩
  · intro k
    obtain ⟨c4, f1, f2, f3, f4⟩ := refuse_C (N := N) (w := 30) (x := x) b2
    unfold fn_Checker_binary_Ch bk_Checker_binary_Ch_31 bk_Checker_binary_Ch_36 bk_Checker_binary_Ch_54 bk_Checker_binary_Ch_59 bk_Checker_binary_Ch_80 bk_Checker_binary_Ch_123 bk_Checker_binary_Ch_126 fn_Checker_asks
    simp (disch := omega) only [off_on X, a1, b1, f1, lit_nI, gdF, gdG, gdH, nltT, nltF, nleT, nleF, neqT, neqF, nm1F, nm1F', m1lt, m1gt, m1le, m1ge, nI_clamp, nI_add, nI_sub, obind, if_true, if_false, reduceIte, ite_true, ite_false]
    exact ⟨c4, rfl, f2, f3, (a5.trans b5).trans f4⟩
theorem binary_C62 {N T sz C a b : Nat} {x : Int32} {c : ms} (X : Xc c (T + 2) sz C) (hz : sz + 1 < 40000) (ha : a ≤ 64) (hb : b ≤ 64) (hA : c.1 238 T = nI a) (hB : c.1 238 (T + 1) = nI b) : (a = b → ∃ c', fn_Checker_binary_Ch N (nI 62) x c = some ((), c') ∧ Xc c' (T + 1) (sz + 1) (C + (max a b)) ∧ c'.1 238 = upd (c.1 238) T (nI 1) ∧ c'.2 336 = vp_updL (c.2 336) sz (crw (nI 62) (nI a)) ∧ XE c c') ∧ (a ≠ b → ∃ c', fn_Checker_binary_Ch N (nI 62) x c = some ((), c') ∧ c'.1 242 0 = nI 30 ∧ c'.1 243 0 = x ∧ XE c c') := by
  have hT := X.2.2.2.1
  obtain ⟨c1, a1, a2, a3, a4, a5⟩ := pop_C (N := N) X
  obtain ⟨c2, b1, b2, b3, b4, b5⟩ := pop_C (N := N) a2
  rw [hB] at a1
  rw [a3, hA] at b1
  constructor
  · intro k
    subst k
    obtain ⟨c4, f1, f2, f3, f4, f5⟩ := bfin_C (N := N) (k := 62) (a := a) (n := max a a) (v := 1) b2 (by omega) hz (by omega) (a5.trans b5) (by rw [b3, a3]) (by rw [b4, a4])
    unfold fn_Checker_binary_Ch bk_Checker_binary_Ch_31 bk_Checker_binary_Ch_36 bk_Checker_binary_Ch_54 bk_Checker_binary_Ch_59 bk_Checker_binary_Ch_80 bk_Checker_binary_Ch_123 bk_Checker_binary_Ch_126 fn_Checker_asks
    simp (disch := omega) only [off_on X, a1, b1, nI_mul, lit_nI, gdF, gdG, gdH, nltT, nltF, nleT, nleF, neqT, neqF, nm1F, nm1F', m1lt, m1gt, m1le, m1ge, nI_clamp, nI_add, nI_sub, obind, if_true, if_false, reduceIte, ite_true, ite_false]
    rw [show max a a = a by omega] at f1
    exact ⟨c4, f1, f2, f3, f4, f5⟩
  · intro k
    obtain ⟨c4, f1, f2, f3, f4⟩ := refuse_C (N := N) (w := 30) (x := x) b2
    unfold fn_Checker_binary_Ch bk_Checker_binary_Ch_31 bk_Checker_binary_Ch_36 bk_Checker_binary_Ch_54 bk_Checker_binary_Ch_59 bk_Checker_binary_Ch_80 bk_Checker_binary_Ch_123 bk_Checker_binary_Ch_126 fn_Checker_asks
    simp (disch := omega) only [off_on X, a1, b1, f1, lit_nI, gdF, gdG, gdH, nltT, nltF, nleT, nleF, neqT, neqF, nm1F, nm1F', m1lt, m1gt, m1le, m1ge, nI_clamp, nI_add, nI_sub, obind, if_true, if_false, reduceIte, ite_true, ite_false]
    exact ⟨c4, rfl, f2, f3, (a5.trans b5).trans f4⟩
theorem binary_C94 {N T sz C a b : Nat} {x : Int32} {c : ms} (X : Xc c (T + 2) sz C) (hz : sz + 1 < 40000) (ha : a ≤ 64) (hb : b ≤ 64) (hA : c.1 238 T = nI a) (hB : c.1 238 (T + 1) = nI b) : (a = b → ∃ c', fn_Checker_binary_Ch N (nI 94) x c = some ((), c') ∧ Xc c' (T + 1) (sz + 1) (C + (max a b)) ∧ c'.1 238 = upd (c.1 238) T (nI a) ∧ c'.2 336 = vp_updL (c.2 336) sz (crw (nI 94) (nI a)) ∧ XE c c') ∧ (a ≠ b → ∃ c', fn_Checker_binary_Ch N (nI 94) x c = some ((), c') ∧ c'.1 242 0 = nI 30 ∧ c'.1 243 0 = x ∧ XE c c') := by
  have hT := X.2.2.2.1
  obtain ⟨c1, a1, a2, a3, a4, a5⟩ := pop_C (N := N) X
  obtain ⟨c2, b1, b2, b3, b4, b5⟩ := pop_C (N := N) a2
  rw [hB] at a1
  rw [a3, hA] at b1
  constructor
  · intro k
    subst k
    obtain ⟨c4, f1, f2, f3, f4, f5⟩ := bfin_C (N := N) (k := 94) (a := a) (n := max a a) (v := a) b2 (by omega) hz (by omega) (a5.trans b5) (by rw [b3, a3]) (by rw [b4, a4])
    unfold fn_Checker_binary_Ch bk_Checker_binary_Ch_31 bk_Checker_binary_Ch_36 bk_Checker_binary_Ch_54 bk_Checker_binary_Ch_59 bk_Checker_binary_Ch_80 bk_Checker_binary_Ch_123 bk_Checker_binary_Ch_126 fn_Checker_asks
    simp (disch := omega) only [off_on X, a1, b1, nI_mul, lit_nI, gdF, gdG, gdH, nltT, nltF, nleT, nleF, neqT, neqF, nm1F, nm1F', m1lt, m1gt, m1le, m1ge, nI_clamp, nI_add, nI_sub, obind, if_true, if_false, reduceIte, ite_true, ite_false]
    rw [show max a a = a by omega] at f1
    exact ⟨c4, f1, f2, f3, f4, f5⟩
  · intro k
    obtain ⟨c4, f1, f2, f3, f4⟩ := refuse_C (N := N) (w := 30) (x := x) b2
    unfold fn_Checker_binary_Ch bk_Checker_binary_Ch_31 bk_Checker_binary_Ch_36 bk_Checker_binary_Ch_54 bk_Checker_binary_Ch_59 bk_Checker_binary_Ch_80 bk_Checker_binary_Ch_123 bk_Checker_binary_Ch_126 fn_Checker_asks
    simp (disch := omega) only [off_on X, a1, b1, f1, lit_nI, gdF, gdG, gdH, nltT, nltF, nleT, nleF, neqT, neqF, nm1F, nm1F', m1lt, m1gt, m1le, m1ge, nI_clamp, nI_add, nI_sub, obind, if_true, if_false, reduceIte, ite_true, ite_false]
    exact ⟨c4, rfl, f2, f3, (a5.trans b5).trans f4⟩
theorem binary_C124 {N T sz C a b : Nat} {x : Int32} {c : ms} (X : Xc c (T + 2) sz C) (hz : sz + 1 < 40000) (ha : a ≤ 64) (hb : b ≤ 64) (hA : c.1 238 T = nI a) (hB : c.1 238 (T + 1) = nI b) : (a = b → ∃ c', fn_Checker_binary_Ch N (nI 124) x c = some ((), c') ∧ Xc c' (T + 1) (sz + 1) (C + (max a b)) ∧ c'.1 238 = upd (c.1 238) T (nI a) ∧ c'.2 336 = vp_updL (c.2 336) sz (crw (nI 124) (nI a)) ∧ XE c c') ∧ (a ≠ b → ∃ c', fn_Checker_binary_Ch N (nI 124) x c = some ((), c') ∧ c'.1 242 0 = nI 30 ∧ c'.1 243 0 = x ∧ XE c c') := by
  have hT := X.2.2.2.1
  obtain ⟨c1, a1, a2, a3, a4, a5⟩ := pop_C (N := N) X
  obtain ⟨c2, b1, b2, b3, b4, b5⟩ := pop_C (N := N) a2
  rw [hB] at a1
  rw [a3, hA] at b1
  constructor
  · intro k
    subst k
    obtain ⟨c4, f1, f2, f3, f4, f5⟩ := bfin_C (N := N) (k := 124) (a := a) (n := max a a) (v := a) b2 (by omega) hz (by omega) (a5.trans b5) (by rw [b3, a3]) (by rw [b4, a4])
    unfold fn_Checker_binary_Ch bk_Checker_binary_Ch_31 bk_Checker_binary_Ch_36 bk_Checker_binary_Ch_54 bk_Checker_binary_Ch_59 bk_Checker_binary_Ch_80 bk_Checker_binary_Ch_123 bk_Checker_binary_Ch_126 fn_Checker_asks
    simp (disch := omega) only [off_on X, a1, b1, nI_mul, lit_nI, gdF, gdG, gdH, nltT, nltF, nleT, nleF, neqT, neqF, nm1F, nm1F', m1lt, m1gt, m1le, m1ge, nI_clamp, nI_add, nI_sub, obind, if_true, if_false, reduceIte, ite_true, ite_false]
    rw [show max a a = a by omega] at f1
    exact ⟨c4, f1, f2, f3, f4, f5⟩
  · intro k
    obtain ⟨c4, f1, f2, f3, f4⟩ := refuse_C (N := N) (w := 30) (x := x) b2
    unfold fn_Checker_binary_Ch bk_Checker_binary_Ch_31 bk_Checker_binary_Ch_36 bk_Checker_binary_Ch_54 bk_Checker_binary_Ch_59 bk_Checker_binary_Ch_80 bk_Checker_binary_Ch_123 bk_Checker_binary_Ch_126 fn_Checker_asks
    simp (disch := omega) only [off_on X, a1, b1, f1, lit_nI, gdF, gdG, gdH, nltT, nltF, nleT, nleF, neqT, neqF, nm1F, nm1F', m1lt, m1gt, m1le, m1ge, nI_clamp, nI_add, nI_sub, obind, if_true, if_false, reduceIte, ite_true, ite_false]
    exact ⟨c4, rfl, f2, f3, (a5.trans b5).trans f4⟩
theorem binary_C256 {N T sz C a b : Nat} {x : Int32} {c : ms} (X : Xc c (T + 2) sz C) (hz : sz + 1 < 40000) (ha : a ≤ 64) (hb : b ≤ 64) (hA : c.1 238 T = nI a) (hB : c.1 238 (T + 1) = nI b) : (∃ c', fn_Checker_binary_Ch N (nI 5) x c = some ((), c') ∧ Xc c' (T + 1) (sz + 1) (C + (max a b)) ∧ c'.1 238 = upd (c.1 238) T (nI 1) ∧ c'.2 336 = vp_updL (c.2 336) sz (crw (nI 5) (nI a)) ∧ XE c c') := by
  have hT := X.2.2.2.1
  obtain ⟨c1, a1, a2, a3, a4, a5⟩ := pop_C (N := N) X
  obtain ⟨c2, b1, b2, b3, b4, b5⟩ := pop_C (N := N) a2
  rw [hB] at a1
  rw [a3, hA] at b1
  obtain ⟨c4, f1, f2, f3, f4, f5⟩ := bfin_C (N := N) (k := 5) (a := a) (n := max a b) (v := 1) b2 (by omega) hz (by omega) (a5.trans b5) (by rw [b3, a3]) (by rw [b4, a4])
  unfold fn_Checker_binary_Ch bk_Checker_binary_Ch_31 bk_Checker_binary_Ch_36 bk_Checker_binary_Ch_54 bk_Checker_binary_Ch_59 bk_Checker_binary_Ch_80 bk_Checker_binary_Ch_123 bk_Checker_binary_Ch_126 fn_Checker_asks
  simp (disch := omega) only [off_on X, a1, b1, nI_mul, lit_nI, gdF, gdG, gdH, nltT, nltF, nleT, nleF, neqT, neqF, nm1F, nm1F', m1lt, m1gt, m1le, m1ge, nI_clamp, nI_add, nI_sub, obind, if_true, if_false, reduceIte, ite_true, ite_false]
  rw [max_C a b ha hb]
  exact ⟨c4, f1, f2, f3, f4, f5⟩
theorem binary_C257 {N T sz C a b : Nat} {x : Int32} {c : ms} (X : Xc c (T + 2) sz C) (hz : sz + 1 < 40000) (ha : a ≤ 64) (hb : b ≤ 64) (hA : c.1 238 T = nI a) (hB : c.1 238 (T + 1) = nI b) : (∃ c', fn_Checker_binary_Ch N (nI 6) x c = some ((), c') ∧ Xc c' (T + 1) (sz + 1) (C + (max a b)) ∧ c'.1 238 = upd (c.1 238) T (nI 1) ∧ c'.2 336 = vp_updL (c.2 336) sz (crw (nI 6) (nI a)) ∧ XE c c') := by
  have hT := X.2.2.2.1
  obtain ⟨c1, a1, a2, a3, a4, a5⟩ := pop_C (N := N) X
  obtain ⟨c2, b1, b2, b3, b4, b5⟩ := pop_C (N := N) a2
  rw [hB] at a1
  rw [a3, hA] at b1
  obtain ⟨c4, f1, f2, f3, f4, f5⟩ := bfin_C (N := N) (k := 6) (a := a) (n := max a b) (v := 1) b2 (by omega) hz (by omega) (a5.trans b5) (by rw [b3, a3]) (by rw [b4, a4])
  unfold fn_Checker_binary_Ch bk_Checker_binary_Ch_31 bk_Checker_binary_Ch_36 bk_Checker_binary_Ch_54 bk_Checker_binary_Ch_59 bk_Checker_binary_Ch_80 bk_Checker_binary_Ch_123 bk_Checker_binary_Ch_126 fn_Checker_asks
  simp (disch := omega) only [off_on X, a1, b1, nI_mul, lit_nI, gdF, gdG, gdH, nltT, nltF, nleT, nleF, neqT, neqF, nm1F, nm1F', m1lt, m1gt, m1le, m1ge, nI_clamp, nI_add, nI_sub, obind, if_true, if_false, reduceIte, ite_true, ite_false]
  rw [max_C a b ha hb]
  exact ⟨c4, f1, f2, f3, f4, f5⟩
theorem binary_C258 {N T sz C a b : Nat} {x : Int32} {c : ms} (X : Xc c (T + 2) sz C) (hz : sz + 1 < 40000) (ha : a ≤ 64) (hb : b ≤ 64) (hA : c.1 238 T = nI a) (hB : c.1 238 (T + 1) = nI b) : (a = b → ∃ c', fn_Checker_binary_Ch N (nI 7) x c = some ((), c') ∧ Xc c' (T + 1) (sz + 1) (C + (max a b)) ∧ c'.1 238 = upd (c.1 238) T (nI 1) ∧ c'.2 336 = vp_updL (c.2 336) sz (crw (nI 7) (nI a)) ∧ XE c c') ∧ (a ≠ b → ∃ c', fn_Checker_binary_Ch N (nI 7) x c = some ((), c') ∧ c'.1 242 0 = nI 30 ∧ c'.1 243 0 = x ∧ XE c c') := by
  have hT := X.2.2.2.1
  obtain ⟨c1, a1, a2, a3, a4, a5⟩ := pop_C (N := N) X
  obtain ⟨c2, b1, b2, b3, b4, b5⟩ := pop_C (N := N) a2
  rw [hB] at a1
  rw [a3, hA] at b1
  constructor
  · intro k
    subst k
    obtain ⟨c4, f1, f2, f3, f4, f5⟩ := bfin_C (N := N) (k := 7) (a := a) (n := max a a) (v := 1) b2 (by omega) hz (by omega) (a5.trans b5) (by rw [b3, a3]) (by rw [b4, a4])
    unfold fn_Checker_binary_Ch bk_Checker_binary_Ch_31 bk_Checker_binary_Ch_36 bk_Checker_binary_Ch_54 bk_Checker_binary_Ch_59 bk_Checker_binary_Ch_80 bk_Checker_binary_Ch_123 bk_Checker_binary_Ch_126 fn_Checker_asks
    simp (disch := omega) only [off_on X, a1, b1, nI_mul, lit_nI, gdF, gdG, gdH, nltT, nltF, nleT, nleF, neqT, neqF, nm1F, nm1F', m1lt, m1gt, m1le, m1ge, nI_clamp, nI_add, nI_sub, obind, if_true, if_false, reduceIte, ite_true, ite_false]
    rw [show max a a = a by omega] at f1
    exact ⟨c4, f1, f2, f3, f4, f5⟩
  · intro k
    obtain ⟨c4, f1, f2, f3, f4⟩ := refuse_C (N := N) (w := 30) (x := x) b2
    unfold fn_Checker_binary_Ch bk_Checker_binary_Ch_31 bk_Checker_binary_Ch_36 bk_Checker_binary_Ch_54 bk_Checker_binary_Ch_59 bk_Checker_binary_Ch_80 bk_Checker_binary_Ch_123 bk_Checker_binary_Ch_126 fn_Checker_asks
    simp (disch := omega) only [off_on X, a1, b1, f1, lit_nI, gdF, gdG, gdH, nltT, nltF, nleT, nleF, neqT, neqF, nm1F, nm1F', m1lt, m1gt, m1le, m1ge, nI_clamp, nI_add, nI_sub, obind, if_true, if_false, reduceIte, ite_true, ite_false]
    exact ⟨c4, rfl, f2, f3, (a5.trans b5).trans f4⟩
theorem binary_C259 {N T sz C a b : Nat} {x : Int32} {c : ms} (X : Xc c (T + 2) sz C) (hz : sz + 1 < 40000) (ha : a ≤ 64) (hb : b ≤ 64) (hA : c.1 238 T = nI a) (hB : c.1 238 (T + 1) = nI b) : (a = b → ∃ c', fn_Checker_binary_Ch N (nI 8) x c = some ((), c') ∧ Xc c' (T + 1) (sz + 1) (C + (max a b)) ∧ c'.1 238 = upd (c.1 238) T (nI 1) ∧ c'.2 336 = vp_updL (c.2 336) sz (crw (nI 8) (nI a)) ∧ XE c c') ∧ (a ≠ b → ∃ c', fn_Checker_binary_Ch N (nI 8) x c = some ((), c') ∧ c'.1 242 0 = nI 30 ∧ c'.1 243 0 = x ∧ XE c c') := by
  have hT := X.2.2.2.1
  obtain ⟨c1, a1, a2, a3, a4, a5⟩ := pop_C (N := N) X
  obtain ⟨c2, b1, b2, b3, b4, b5⟩ := pop_C (N := N) a2
  rw [hB] at a1
  rw [a3, hA] at b1
  constructor
  · intro k
    subst k
    obtain ⟨c4, f1, f2, f3, f4, f5⟩ := bfin_C (N := N) (k := 8) (a := a) (n := max a a) (v := 1) b2 (by omega) hz (by omega) (a5.trans b5) (by rw [b3, a3]) (by rw [b4, a4])
    unfold fn_Checker_binary_Ch bk_Checker_binary_Ch_31 bk_Checker_binary_Ch_36 bk_Checker_binary_Ch_54 bk_Checker_binary_Ch_59 bk_Checker_binary_Ch_80 bk_Checker_binary_Ch_123 bk_Checker_binary_Ch_126 fn_Checker_asks
    simp (disch := omega) only [off_on X, a1, b1, nI_mul, lit_nI, gdF, gdG, gdH, nltT, nltF, nleT, nleF, neqT, neqF, nm1F, nm1F', m1lt, m1gt, m1le, m1ge, nI_clamp, nI_add, nI_sub, obind, if_true, if_false, reduceIte, ite_true, ite_false]
    rw [show max a a = a by omega] at f1
    exact ⟨c4, f1, f2, f3, f4, f5⟩
  · intro k
    obtain ⟨c4, f1, f2, f3, f4⟩ := refuse_C (N := N) (w := 30) (x := x) b2
    unfold fn_Checker_binary_Ch bk_Checker_binary_Ch_31 bk_Checker_binary_Ch_36 bk_Checker_binary_Ch_54 bk_Checker_binary_Ch_59 bk_Checker_binary_Ch_80 bk_Checker_binary_Ch_123 bk_Checker_binary_Ch_126 fn_Checker_asks
    simp (disch := omega) only [off_on X, a1, b1, f1, lit_nI, gdF, gdG, gdH, nltT, nltF, nleT, nleF, neqT, neqF, nm1F, nm1F', m1lt, m1gt, m1le, m1ge, nI_clamp, nI_add, nI_sub, obind, if_true, if_false, reduceIte, ite_true, ite_false]
    exact ⟨c4, rfl, f2, f3, (a5.trans b5).trans f4⟩
theorem binary_C260 {N T sz C a b : Nat} {x : Int32} {c : ms} (X : Xc c (T + 2) sz C) (hz : sz + 1 < 40000) (ha : a ≤ 64) (hb : b ≤ 64) (hA : c.1 238 T = nI a) (hB : c.1 238 (T + 1) = nI b) : (a = b → ∃ c', fn_Checker_binary_Ch N (nI 9) x c = some ((), c') ∧ Xc c' (T + 1) (sz + 1) (C + (max a b)) ∧ c'.1 238 = upd (c.1 238) T (nI 1) ∧ c'.2 336 = vp_updL (c.2 336) sz (crw (nI 9) (nI a)) ∧ XE c c') ∧ (a ≠ b → ∃ c', fn_Checker_binary_Ch N (nI 9) x c = some ((), c') ∧ c'.1 242 0 = nI 30 ∧ c'.1 243 0 = x ∧ XE c c') := by
  have hT := X.2.2.2.1
  obtain ⟨c1, a1, a2, a3, a4, a5⟩ := pop_C (N := N) X
  obtain ⟨c2, b1, b2, b3, b4, b5⟩ := pop_C (N := N) a2
  rw [hB] at a1
  rw [a3, hA] at b1
  constructor
  · intro k
    subst k
    obtain ⟨c4, f1, f2, f3, f4, f5⟩ := bfin_C (N := N) (k := 9) (a := a) (n := max a a) (v := 1) b2 (by omega) hz (by omega) (a5.trans b5) (by rw [b3, a3]) (by rw [b4, a4])
    unfold fn_Checker_binary_Ch bk_Checker_binary_Ch_31 bk_Checker_binary_Ch_36 bk_Checker_binary_Ch_54 bk_Checker_binary_Ch_59 bk_Checker_binary_Ch_80 bk_Checker_binary_Ch_123 bk_Checker_binary_Ch_126 fn_Checker_asks
    simp (disch := omega) only [off_on X, a1, b1, nI_mul, lit_nI, gdF, gdG, gdH, nltT, nltF, nleT, nleF, neqT, neqF, nm1F, nm1F', m1lt, m1gt, m1le, m1ge, nI_clamp, nI_add, nI_sub, obind, if_true, if_false, reduceIte, ite_true, ite_false]
    rw [show max a a = a by omega] at f1
    exact ⟨c4, f1, f2, f3, f4, f5⟩
  · intro k
    obtain ⟨c4, f1, f2, f3, f4⟩ := refuse_C (N := N) (w := 30) (x := x) b2
    unfold fn_Checker_binary_Ch bk_Checker_binary_Ch_31 bk_Checker_binary_Ch_36 bk_Checker_binary_Ch_54 bk_Checker_binary_Ch_59 bk_Checker_binary_Ch_80 bk_Checker_binary_Ch_123 bk_Checker_binary_Ch_126 fn_Checker_asks
    simp (disch := omega) only [off_on X, a1, b1, f1, lit_nI, gdF, gdG, gdH, nltT, nltF, nleT, nleF, neqT, neqF, nm1F, nm1F', m1lt, m1gt, m1le, m1ge, nI_clamp, nI_add, nI_sub, obind, if_true, if_false, reduceIte, ite_true, ite_false]
    exact ⟨c4, rfl, f2, f3, (a5.trans b5).trans f4⟩
theorem binary_C261 {N T sz C a b : Nat} {x : Int32} {c : ms} (X : Xc c (T + 2) sz C) (hz : sz + 1 < 40000) (ha : a ≤ 64) (hb : b ≤ 64) (hA : c.1 238 T = nI a) (hB : c.1 238 (T + 1) = nI b) : (a = b → ∃ c', fn_Checker_binary_Ch N (nI 10) x c = some ((), c') ∧ Xc c' (T + 1) (sz + 1) (C + (max a b)) ∧ c'.1 238 = upd (c.1 238) T (nI 1) ∧ c'.2 336 = vp_updL (c.2 336) sz (crw (nI 10) (nI a)) ∧ XE c c') ∧ (a ≠ b → ∃ c', fn_Checker_binary_Ch N (nI 10) x c = some ((), c') ∧ c'.1 242 0 = nI 30 ∧ c'.1 243 0 = x ∧ XE c c') := by
  have hT := X.2.2.2.1
  obtain ⟨c1, a1, a2, a3, a4, a5⟩ := pop_C (N := N) X
  obtain ⟨c2, b1, b2, b3, b4, b5⟩ := pop_C (N := N) a2
  rw [hB] at a1
  rw [a3, hA] at b1
  constructor
  · intro k
    subst k
    obtain ⟨c4, f1, f2, f3, f4, f5⟩ := bfin_C (N := N) (k := 10) (a := a) (n := max a a) (v := 1) b2 (by omega) hz (by omega) (a5.trans b5) (by rw [b3, a3]) (by rw [b4, a4])
    unfold fn_Checker_binary_Ch bk_Checker_binary_Ch_31 bk_Checker_binary_Ch_36 bk_Checker_binary_Ch_54 bk_Checker_binary_Ch_59 bk_Checker_binary_Ch_80 bk_Checker_binary_Ch_123 bk_Checker_binary_Ch_126 fn_Checker_asks
    simp (disch := omega) only [off_on X, a1, b1, nI_mul, lit_nI, gdF, gdG, gdH, nltT, nltF, nleT, nleF, neqT, neqF, nm1F, nm1F', m1lt, m1gt, m1le, m1ge, nI_clamp, nI_add, nI_sub, obind, if_true, if_false, reduceIte, ite_true, ite_false]
    rw [show max a a = a by omega] at f1
    exact ⟨c4, f1, f2, f3, f4, f5⟩
  · intro k
    obtain ⟨c4, f1, f2, f3, f4⟩ := refuse_C (N := N) (w := 30) (x := x) b2
    unfold fn_Checker_binary_Ch bk_Checker_binary_Ch_31 bk_Checker_binary_Ch_36 bk_Checker_binary_Ch_54 bk_Checker_binary_Ch_59 bk_Checker_binary_Ch_80 bk_Checker_binary_Ch_123 bk_Checker_binary_Ch_126 fn_Checker_asks
    simp (disch := omega) only [off_on X, a1, b1, f1, lit_nI, gdF, gdG, gdH, nltT, nltF, nleT, nleF, neqT, neqF, nm1F, nm1F', m1lt, m1gt, m1le, m1ge, nI_clamp, nI_add, nI_sub, obind, if_true, if_false, reduceIte, ite_true, ite_false]
    exact ⟨c4, rfl, f2, f3, (a5.trans b5).trans f4⟩
theorem binary_C262 {N T sz C a b : Nat} {x : Int32} {c : ms} (X : Xc c (T + 2) sz C) (hz : sz + 1 < 40000) (ha : a ≤ 64) (hb : b ≤ 64) (hA : c.1 238 T = nI a) (hB : c.1 238 (T + 1) = nI b) : (∃ c', fn_Checker_binary_Ch N (nI 11) x c = some ((), c') ∧ Xc c' (T + 1) (sz + 1) (C + (3 * a + b)) ∧ c'.1 238 = upd (c.1 238) T (nI a) ∧ c'.2 336 = vp_updL (c.2 336) sz (crw (nI 11) (nI a)) ∧ XE c c') := by
  have hT := X.2.2.2.1
  obtain ⟨c1, a1, a2, a3, a4, a5⟩ := pop_C (N := N) X
  obtain ⟨c2, b1, b2, b3, b4, b5⟩ := pop_C (N := N) a2
  rw [hB] at a1
  rw [a3, hA] at b1
  obtain ⟨c4, f1, f2, f3, f4, f5⟩ := bfin_C (N := N) (k := 11) (a := a) (n := 3 * a + b) (v := a) b2 (by omega) hz (by omega) (a5.trans b5) (by rw [b3, a3]) (by rw [b4, a4])
  unfold fn_Checker_binary_Ch bk_Checker_binary_Ch_31 bk_Checker_binary_Ch_36 bk_Checker_binary_Ch_54 bk_Checker_binary_Ch_59 bk_Checker_binary_Ch_80 bk_Checker_binary_Ch_123 bk_Checker_binary_Ch_126 fn_Checker_asks
  simp (disch := omega) only [off_on X, a1, b1, nI_mul, lit_nI, gdF, gdG, gdH, nltT, nltF, nleT, nleF, neqT, neqF, nm1F, nm1F', m1lt, m1gt, m1le, m1ge, nI_clamp, nI_add, nI_sub, obind, if_true, if_false, reduceIte, ite_true, ite_false]
  exact ⟨c4, f1, f2, f3, f4, f5⟩
theorem binary_C263 {N T sz C a b : Nat} {x : Int32} {c : ms} (X : Xc c (T + 2) sz C) (hz : sz + 1 < 40000) (ha : a ≤ 64) (hb : b ≤ 64) (hA : c.1 238 T = nI a) (hB : c.1 238 (T + 1) = nI b) : (∃ c', fn_Checker_binary_Ch N (nI 12) x c = some ((), c') ∧ Xc c' (T + 1) (sz + 1) (C + (3 * a + b)) ∧ c'.1 238 = upd (c.1 238) T (nI a) ∧ c'.2 336 = vp_updL (c.2 336) sz (crw (nI 12) (nI a)) ∧ XE c c') := by
  have hT := X.2.2.2.1
  obtain ⟨c1, a1, a2, a3, a4, a5⟩ := pop_C (N := N) X
  obtain ⟨c2, b1, b2, b3, b4, b5⟩ := pop_C (N := N) a2
  rw [hB] at a1
  rw [a3, hA] at b1
  obtain ⟨c4, f1, f2, f3, f4, f5⟩ := bfin_C (N := N) (k := 12) (a := a) (n := 3 * a + b) (v := a) b2 (by omega) hz (by omega) (a5.trans b5) (by rw [b3, a3]) (by rw [b4, a4])
  unfold fn_Checker_binary_Ch bk_Checker_binary_Ch_31 bk_Checker_binary_Ch_36 bk_Checker_binary_Ch_54 bk_Checker_binary_Ch_59 bk_Checker_binary_Ch_80 bk_Checker_binary_Ch_123 bk_Checker_binary_Ch_126 fn_Checker_asks
  simp (disch := omega) only [off_on X, a1, b1, nI_mul, lit_nI, gdF, gdG, gdH, nltT, nltF, nleT, nleF, neqT, neqF, nm1F, nm1F', m1lt, m1gt, m1le, m1ge, nI_clamp, nI_add, nI_sub, obind, if_true, if_false, reduceIte, ite_true, ite_false]
  exact ⟨c4, f1, f2, f3, f4, f5⟩
/-- any operator -/
theorem binary_C {N T sz C a b k : Nat} {x : Int32} {c : ms} (hk : isB k) (X : Xc c (T + 2) sz C) (hz : sz + 1 < 40000) (ha : a ≤ 64) (hb : b ≤ 64) (hA : c.1 238 T = nI a) (hB : c.1 238 (T + 1) = nI b) : ((bAny k = true ∨ a = b) → ∃ c', fn_Checker_binary_Ch N (nI (kap k)) x c = some ((), c') ∧ Xc c' (T + 1) (sz + 1) (C + bCost k a b) ∧ c'.1 238 = upd (c.1 238) T (nI (bMade k a)) ∧ c'.2 336 = vp_updL (c.2 336) sz (crw (nI (kap k)) (nI a)) ∧ XE c c') ∧ (¬ (bAny k = true ∨ a = b) → ∃ c', fn_Checker_binary_Ch N (nI (kap k)) x c = some ((), c') ∧ c'.1 242 0 = nI 30 ∧ c'.1 243 0 = x ∧ XE c c') := by
  rcases hk with rfl | rfl | rfl | rfl | rfl | rfl | rfl | rfl | rfl | rfl | rfl | rfl | rfl | rfl | rfl | rfl
  · have := binary_C38 (N := N) (x := x) X hz ha hb hA hB
    exact ⟨fun z => this.1 (z.elim (fun y => absurd y (by decide)) id), fun z => this.2 (fun y => z (Or.inr y))⟩
  · have := binary_C42 (N := N) (x := x) X hz ha hb hA hB
    exact ⟨fun z => this.1 (z.elim (fun y => absurd y (by decide)) id), fun z => this.2 (fun y => z (Or.inr y))⟩
  · have := binary_C43 (N := N) (x := x) X hz ha hb hA hB
    exact ⟨fun z => this.1 (z.elim (fun y => absurd y (by decide)) id), fun z => this.2 (fun y => z (Or.inr y))⟩
  · have := binary_C45 (N := N) (x := x) X hz ha hb hA hB
    exact ⟨fun z => this.1 (z.elim (fun y => absurd y (by decide)) id), fun z => this.2 (fun y => z (Or.inr y))⟩
  · have := binary_C60 (N := N) (x := x) X hz ha hb hA hB
    exact ⟨fun z => this.1 (z.elim (fun y => absurd y (by decide)) id), fun z => this.2 (fun y => z (Or.inr y))⟩
  · have := binary_C62 (N := N) (x := x) X hz ha hb hA hB
    exact ⟨fun z => this.1 (z.elim (fun y => absurd y (by decide)) id), fun z => this.2 (fun y => z (Or.inr y))⟩
  · have := binary_C94 (N := N) (x := x) X hz ha hb hA hB
    exact ⟨fun z => this.1 (z.elim (fun y => absurd y (by decide)) id), fun z => this.2 (fun y => z (Or.inr y))⟩
  · have := binary_C124 (N := N) (x := x) X hz ha hb hA hB
    exact ⟨fun z => this.1 (z.elim (fun y => absurd y (by decide)) id), fun z => this.2 (fun y => z (Or.inr y))⟩
  · exact ⟨fun _ => binary_C256 X hz ha hb hA hB, fun z => absurd (Or.inl rfl) z⟩
  · exact ⟨fun _ => binary_C257 X hz ha hb hA hB, fun z => absurd (Or.inl rfl) z⟩
  · have := binary_C258 (N := N) (x := x) X hz ha hb hA hB
    exact ⟨fun z => this.1 (z.elim (fun y => absurd y (by decide)) id), fun z => this.2 (fun y => z (Or.inr y))⟩
  · have := binary_C259 (N := N) (x := x) X hz ha hb hA hB
    exact ⟨fun z => this.1 (z.elim (fun y => absurd y (by decide)) id), fun z => this.2 (fun y => z (Or.inr y))⟩
  · have := binary_C260 (N := N) (x := x) X hz ha hb hA hB
    exact ⟨fun z => this.1 (z.elim (fun y => absurd y (by decide)) id), fun z => this.2 (fun y => z (Or.inr y))⟩
  · have := binary_C261 (N := N) (x := x) X hz ha hb hA hB
    exact ⟨fun z => this.1 (z.elim (fun y => absurd y (by decide)) id), fun z => this.2 (fun y => z (Or.inr y))⟩
  · exact ⟨fun _ => binary_C262 X hz ha hb hA hB, fun z => absurd (Or.inl rfl) z⟩
  · exact ⟨fun _ => binary_C263 X hz ha hb hA hB, fun z => absurd (Or.inl rfl) z⟩
theorem index_C {N T sz C a b : Nat} {c : ms} (X : Xc c (T + 2) sz C) (hz : sz + 1 < 40000) (ha : a ≤ 64) (hb : b ≤ 64) (hA : c.1 238 T = nI a) (hB : c.1 238 (T + 1) = nI b) : ∃ c', fn_Checker_index_Ch N c = some ((), c') ∧ Xc c' (T + 1) (sz + 1) (C + max b a) ∧ c'.1 238 = upd (c.1 238) T (nI 1) ∧ c'.2 336 = vp_updL (c.2 336) sz (crw 91 (nI (max b a))) ∧ XE c c' := by
  have hT := X.2.2.2.1
  obtain ⟨c1, a1, a2, a3, a4, a5⟩ := pop_C (N := N) X
  obtain ⟨c2, b1, b2, b3, b4, b5⟩ := pop_C (N := N) a2
  rw [hB] at a1
  rw [a3, hA] at b1
  unfold fn_Checker_index_Ch
  rw [off_on X, obind, if_pos (show nI 0 = 0 from rfl), a1, obind]
  dsimp only
  rw [b1, obind]
  dsimp only
  rw [max_C b a hb ha]
  obtain ⟨c3, d1, d2, d3, d4, d5⟩ := spend_C (N := N) (n := max b a) b2 (by omega)
  obtain ⟨c4, f1, f2, f3, f4, f5⟩ := push_C (N := N) (w := 1) d2 (by omega)
  obtain ⟨c5, g1, g2, g3, g4, g5⟩ := emit_C (N := N) (op := 91) (arg := nI (max b a)) f2 hz
  rw [d1, obind]
  dsimp only
  rw [f1, obind]
  dsimp only
  rw [g1, obind]
  exact ⟨c5, rfl, g2, by rw [g3, f3, d3, b3, a3]; rfl, by rw [g4, f4, d4, b4, a4], (((a5.trans b5).trans d5).trans f5).trans g5⟩
theorem choose_C {N T sz C w a b : Nat} {x : Int32} {c : ms} (X : Xc c (T + 3) sz C) (hz : sz + 1 < 40000) (hw : w ≤ 64) (ha : a ≤ 64) (hb : b ≤ 64) (hW : c.1 238 T = nI w) (hA : c.1 238 (T + 1) = nI a) (hB : c.1 238 (T + 2) = nI b) : (a = b → ∃ c', fn_Checker_choose_Ch N x c = some ((), c') ∧ Xc c' (T + 1) (sz + 1) (C + max w a) ∧ c'.1 238 = upd (c.1 238) T (nI a) ∧ c'.2 336 = vp_updL (c.2 336) sz (crw 512 (nI a)) ∧ XE c c') ∧ (a ≠ b → ∃ c', fn_Checker_choose_Ch N x c = some ((), c') ∧ c'.1 242 0 = nI 30 ∧ c'.1 243 0 = x ∧ XE c c') := by
  have hT := X.2.2.2.1
  obtain ⟨c1, a1, a2, a3, a4, a5⟩ := pop_C (N := N) X
  obtain ⟨c2, b1, b2, b3, b4, b5⟩ := pop_C (N := N) a2
  obtain ⟨c3, d1, d2, d3, d4, d5⟩ := pop_C (N := N) b2
  rw [hB] at a1
  rw [a3, hA] at b1
  rw [b3, a3, hW] at d1
  unfold fn_Checker_choose_Ch
  rw [off_on X, obind, if_pos (show nI 0 = 0 from rfl), a1, obind]
  dsimp only
  rw [b1, obind]
  dsimp only
  constructor
  · intro k
    rw [if_pos (by rw [k]), d1, obind]
    dsimp only
    rw [max_C w a hw ha]
    obtain ⟨c4, f1, f2, f3, f4, f5⟩ := spend_C (N := N) (n := max w a) d2 (by omega)
    obtain ⟨c5, g1, g2, g3, g4, g5⟩ := push_C (N := N) (w := nI a) f2 (by omega)
    obtain ⟨c6, i1, i2, i3, i4, i5⟩ := emit_C (N := N) (op := 512) (arg := nI a) g2 hz
    rw [f1, obind]
    dsimp only
    rw [g1, obind]
    dsimp only
    rw [i1, obind]
    exact ⟨c6, rfl, i2, by rw [i3, g3, f3, d3, b3, a3], by rw [i4, g4, f4, d4, b4, a4], ((((a5.trans b5).trans d5).trans f5).trans g5).trans i5⟩
  · intro k
    obtain ⟨c4, f1, f2, f3, f4⟩ := refuse_C (N := N) (w := 30) (x := x) b2
    rw [if_neg (fun z => k ((nI_eq (by omega) (by omega)).mp z)), show (30 : Int32) = nI 30 from rfl, f1, obind]
    exact ⟨c4, rfl, f2, f3, (a5.trans b5).trans f4⟩
/-- sums in braces: capped -/
theorem join_C {N T sz C a b : Nat} {c : ms} (X : Xc c (T + 2) sz C) (hz : sz + 1 < 40000) (hb : b ≤ 64) (hA : c.1 238 T = nI (cap28 a)) (hB : c.1 238 (T + 1) = nI b) : ∃ c', fn_Checker_join_Ch N c = some ((), c') ∧ Xc c' (T + 1) (sz + 1) C ∧ c'.1 238 = upd (c.1 238) T (nI (cap28 (a + b))) ∧ c'.2 336 = vp_updL (c.2 336) sz (crw 44 (nI b)) ∧ XE c c' := by
  have hT := X.2.2.2.1
  obtain ⟨c1, a1, a2, a3, a4, a5⟩ := pop_C (N := N) X
  obtain ⟨c2, b1, b2, b3, b4, b5⟩ := pop_C (N := N) a2
  rw [hB] at a1
  rw [a3, hA] at b1
  unfold fn_Checker_join_Ch
  rw [off_on X, obind, if_pos (show nI 0 = 0 from rfl), a1, obind]
  dsimp only
  rw [b1, obind]
  dsimp only
  have k : cap28 a ≤ 268435456 := by unfold cap28; omega
  rw [capped_C (by omega) k, cap28_add _ _ (by omega), obind]
  dsimp only
  obtain ⟨c4, f1, f2, f3, f4, f5⟩ := push_C (N := N) (w := nI (cap28 (a + b))) b2 (by omega)
  obtain ⟨c5, g1, g2, g3, g4, g5⟩ := emit_C (N := N) (op := 44) (arg := nI b) f2 hz
  rw [f1, obind]
  dsimp only
  rw [g1, obind]
  exact ⟨c5, rfl, g2, by rw [g3, f3, b3, a3], by rw [g4, f4, b4, a4], ((a5.trans b5).trans f5).trans g5⟩
theorem braces_C {N T sz C a : Nat} {x : Int32} {c : ms} (X : Xc c (T + 1) sz C) (hA : c.1 238 T = nI (cap28 a)) : (a ≤ 64 → ∃ c', fn_Checker_braces_Ch N x c = some ((), c') ∧ Xc c' (T + 1) sz C ∧ c'.1 238 = upd (c.1 238) T (nI a) ∧ c'.2 336 = c.2 336 ∧ XE c c') ∧ (64 < a → ∃ c', fn_Checker_braces_Ch N x c = some ((), c') ∧ c'.1 242 0 = nI 30 ∧ c'.1 243 0 = x ∧ XE c c') := by
  have hT := X.2.2.2.1
  obtain ⟨c1, a1, a2, a3, a4, a5⟩ := pop_C (N := N) X
  rw [hA] at a1
  unfold fn_Checker_braces_Ch bk_Checker_braces_Ch_26
  rw [off_on X, obind, if_pos (show nI 0 = 0 from rfl), a1, obind]
  dsimp only
  constructor
  · intro k
    have e : cap28 a = a := by unfold cap28; omega
    rw [e]
    obtain ⟨c4, f1, f2, f3, f4, f5⟩ := push_C (N := N) (w := nI a) a2 (by omega)
    rw [if_pos (show nI a ≤ 64 from nI_le (b := 64) k (by decide)), f1, obind]
    exact ⟨c4, rfl, f2, by rw [f3, a3], by rw [f4, a4], a5.trans f5⟩
  · intro k
    have e : 64 < cap28 a ∧ cap28 a ≤ 268435456 := by unfold cap28; omega
    obtain ⟨c4, f1, f2, f3, f4⟩ := refuse_C (N := N) (w := 30) (x := x) a2
    rw [if_neg (show ¬ nI (cap28 a) ≤ 64 from nI_ge (a := 64) e.1 (by omega)), show (30 : Int32) = nI 30 from rfl, f1, obind]
    dsimp only
    unfold fn_Checker_push_Ch
    have t4 : c4.1 239 0 = nI T := by
      have := f4
      have : c4.1 239 0 = c1.1 239 0 := by
        unfold fn_Checker_refuse_Ch at f1
        rw [a2.1, if_pos (show nI 0 = 0 from rfl)] at f1
        cases f1; rfl
      rw [this]; exact a2.2.2.1
    simp (disch := omega) only [t4, lit_nI, gdF, gdG, gdH, nltT, nltF, nleT, nleF, neqT, neqF, nm1F, nm1F', m1lt, m1gt, m1le, m1ge, nI_clamp, nI_add, nI_sub, obind, if_true, if_false, reduceIte, ite_true, ite_false]
    exact ⟨_, rfl, f2, f3, ((a5.trans f4).upI (by decide)).upI (by decide)⟩
theorem repeat_C {N T sz C w n : Nat} {x : Int32} {c : ms} (X : Xc c (T + 1) sz C) (hz : sz + 1 < 40000) (hw : 1 ≤ w ∧ w ≤ 64) (hn : n < 65536) (hA : c.1 238 T = nI w) : ((n ≠ 0 ∧ n * w ≤ 64) → ∃ c', fn_Checker_repeat_Ch N (nI n) x c = some ((), c') ∧ Xc c' (T + 1) (sz + 1) C ∧ c'.1 238 = upd (c.1 238) T (nI (n * w)) ∧ c'.2 336 = vp_updL (c.2 336) sz (crw 379 (nI (n * 256 + w))) ∧ XE c c') ∧ (¬ (n ≠ 0 ∧ n * w ≤ 64) → ∃ c', fn_Checker_repeat_Ch N (nI n) x c = some ((), c') ∧ c'.1 242 0 = nI 30 ∧ c'.1 243 0 = x ∧ XE c c') := by
  have hT := X.2.2.2.1
  obtain ⟨c1, a1, a2, a3, a4, a5⟩ := pop_C (N := N) X
  rw [hA] at a1
  have b0 : w * n ≤ 64 * 65536 := Nat.mul_le_mul hw.2 (by omega)
  unfold fn_Checker_repeat_Ch bk_Checker_repeat_Ch_31
  rw [off_on X, obind, if_pos (show nI 0 = 0 from rfl), a1, obind]
  dsimp only
  rw [nI_mul]
  constructor
  · intro k
    have k1 : 1 ≤ w * n := Nat.mul_pos (by omega) (by omega)
    rw [Nat.mul_comm w n] at k1 b0 ⊢
    obtain ⟨c4, f1, f2, f3, f4, f5⟩ := push_C (N := N) (w := nI (n * w)) a2 (by omega)
    obtain ⟨c5, g1, g2, g3, g4, g5⟩ := emit_C (N := N) (op := 379) (arg := nI (n * 256 + w)) f2 hz
    rw [if_neg (show ¬ nI (n * w) < 1 from nI_nlt (b := 1) k1 (by omega)), if_pos (show nI (n * w) ≤ 64 from nI_le (b := 64) k.2 (by decide)), f1, obind, shl8 hn (by omega)]
    dsimp only
    rw [g1, obind]
    exact ⟨c5, rfl, g2, by rw [g3, f3, a3], by rw [g4, f4, a4], (a5.trans f5).trans g5⟩
  · intro k
    obtain ⟨c4, f1, f2, f3, f4⟩ := refuse_C (N := N) (w := 30) (x := x) a2
    rw [show (30 : Int32) = nI 30 from rfl, f1, obind]
    rw [Nat.mul_comm w n] at b0 ⊢
    by_cases z : n = 0
    · rw [z, Nat.zero_mul, if_pos (show nI 0 < 1 by decide)]
      exact ⟨c4, rfl, f2, f3, a5.trans f4⟩
    · have k1 : 1 ≤ n * w := Nat.mul_pos (by omega) (by omega)
      rw [if_neg (show ¬ nI (n * w) < 1 from nI_nlt (b := 1) k1 (by omega)), if_neg (show ¬ nI (n * w) ≤ 64 from nI_ge (a := 64) (by omega) (by omega))]
      exact ⟨c4, rfl, f2, f3, a5.trans f4⟩
