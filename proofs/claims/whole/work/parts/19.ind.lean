/-! The induction over the script: for any relation between class and reference that every call keeps. -/
theorem nI_m6 {L k : Nat} (hL : L < 2 ^ 30) (hk : k < 2 ^ 30) : (Int32.ofNat L - 6 < nI k) ↔ L < k + 6 := by
  have e : (Int32.ofNat L - 6).toInt = (L : Int) - 6 := by
    show (nI L - 6).toInt = _
    rw [Int32.toInt_sub, nI_toInt (by omega), show (6 : Int32).toInt = 6 from by decide]
    rw [Int.bmod_eq_of_le] <;> omega
  rw [Int32.lt_iff_toInt_lt, e, nI_toInt (by omega)]; omega
theorem law_ind (N : Nat) (R : Nat → ms → ms → Prop) (hskip : ∀ (i : Nat) (sc sm : ms), i < 512 → R i sc sm → R (i + 1) sc sm)
    (hfeed : ∀ (i : Nat) (sc sm : ms) (o : Nat → Int64) (v1 v2 v3 v4 v5 : Int32), i < 512 → R i sc sm → ∃ (k : Int32) (sc2 : ms) (o2 : Nat → Int64) (b : Int32) (sm2 : ms), hp_feed N v1 v2 v3 v4 v5 sc o = some (k, sc2, o2) ∧ fn_M_feed N v1 v2 v3 v4 v5 sm = some (b, sm2) ∧ sm2.1 0 0 = k ∧ (k = 0 → o2 0 = Int32.toInt64 b) ∧ R (i + 1) sc2 sm2)
    (hend : ∀ (i : Nat) (sc sm : ms) (o : Nat → Int64) (v1 : Int32), i < 512 → R i sc sm → ∃ (k : Int32) (sc2 : ms) (o2 : Nat → Int64) (sm2 : ms), hp_end N v1 sc o = some (k, sc2, o2) ∧ fn_M_end N v1 sm = some ((), sm2) ∧ sm2.1 0 0 = k ∧ R (i + 1) sc2 sm2)
    (hread : ∀ (i : Nat) (sc sm : ms), i < 512 → R i sc sm → ∃ (r : Int32) (sc2 sm2 : ms), fn_C_read_C N sc = some (r, sc2) ∧ fn_M_read_I N sm = some (r, sm2) ∧ gl sm2 ≤ 300000 ∧ R (i + 1) sc2 sm2)
    (hfault : ∀ (i : Nat) (sc sm : ms), i < 512 → R i sc sm → ∃ (r : Int32) (sc2 sm2 : ms), fn_C_fault_C N sc = some (r, sc2) ∧ fn_M_fault N sm = some (r, sm2) ∧ R (i + 1) sc2 sm2)
    (hcount : ∀ (i : Nat) (sc sm : ms) (o : Nat → Int64) (v1 : Int32), i < 512 → R i sc sm → ∃ (k : Int32) (sc2 : ms) (o2 : Nat → Int64) (b : Int32) (sm2 : ms), hp_count N v1 sc o = some (k, sc2, o2) ∧ fn_M_count N v1 sm = some (b, sm2) ∧ sm2.1 0 0 = k ∧ (k = 0 → o2 0 = Int32.toInt64 b) ∧ R (i + 1) sc2 sm2)
    (hfind : ∀ (i : Nat) (sc sm : ms) (o : Nat → Int64), i < 512 → R i sc sm → ∃ (k : Int32) (sc2 : ms) (o2 : Nat → Int64) (b : Int32) (sm2 : ms), hp_find N sc o = some (k, sc2, o2) ∧ fn_M_find N sm = some (b, sm2) ∧ sm2.1 0 0 = k ∧ (k = 0 → o2 0 = Int32.toInt64 b) ∧ R (i + 1) sc2 sm2)
    (hsignal : ∀ (i : Nat) (sc sm : ms) (o : Nat → Int64) (v1 v2 : Int32), i < 512 → R i sc sm → ∃ (k : Int32) (sc2 : ms) (o2 : Nat → Int64) (b : Int32) (sm2 : ms), hp_signal N v1 v2 sc o = some (k, sc2, o2) ∧ fn_M_signal N v1 v2 sm = some (b, sm2) ∧ sm2.1 0 0 = k ∧ (k = 0 → o2 0 = Int32.toInt64 b) ∧ R (i + 1) sc2 sm2)
    (hreset : ∀ (i : Nat) (sc sm : ms) (o : Nat → Int64), i < 512 → R i sc sm → ∃ (k : Int32) (sc2 : ms) (o2 : Nat → Int64) (sm2 : ms), hp_reset N sc o = some (k, sc2, o2) ∧ fn_M_reset N sm = some ((), sm2) ∧ sm2.1 0 0 = k ∧ R (i + 1) sc2 sm2)
    (hset : ∀ (i : Nat) (sc sm : ms) (o : Nat → Int64) (v1 v2 : Int32), i < 512 → R i sc sm → ∃ (k : Int32) (sc2 : ms) (o2 : Nat → Int64) (sm2 : ms), hp_set N v1 v2 sc o = some (k, sc2, o2) ∧ fn_M_set N v1 v2 sm = some ((), sm2) ∧ sm2.1 0 0 = k ∧ R (i + 1) sc2 sm2)
    (hstep : ∀ (i : Nat) (sc sm : ms) (o : Nat → Int64), i < 512 → R i sc sm → ∃ (k : Int32) (sc2 : ms) (o2 : Nat → Int64) (b : Int32) (sm2 : ms), hp_step N sc o = some (k, sc2, o2) ∧ fn_M_step N sm = some (b, sm2) ∧ sm2.1 0 0 = k ∧ (k = 0 → o2 0 = Int32.toInt64 b) ∧ R (i + 1) sc2 sm2)
    (hvalue : ∀ (i : Nat) (sc sm : ms) (o : Nat → Int64) (v1 : Int32), i < 512 → R i sc sm → ∃ (k : Int32) (sc2 : ms) (o2 : Nat → Int64) (b : Int64) (sm2 : ms), hp_value N v1 sc o = some (k, sc2, o2) ∧ fn_M_value N v1 sm = some (b, sm2) ∧ sm2.1 0 0 = k ∧ (k = 0 → o2 0 = b) ∧ R (i + 1) sc2 sm2)
    (hfailing : ∀ (i : Nat) (sc sm : ms) (o : Nat → Int64), i < 512 → R i sc sm → ∃ (k : Int32) (sc2 : ms) (o2 : Nat → Int64) (b : Int32) (sm2 : ms), hp_failing N sc o = some (k, sc2, o2) ∧ fn_M_failing N sm = some (b, sm2) ∧ sm2.1 0 0 = k ∧ (k = 0 → o2 0 = Int32.toInt64 b) ∧ R (i + 1) sc2 sm2)
    (xs : Nat → Int32) (L : Nat) (hL : L ≤ 3072) : ∀ (n i : Nat) (sc sm : ms) (o : Nat → Int64), R i sc sm → i ≤ 512 → 512 < n + i → lw1_loop N xs L n (nI (6 * i)) sc sm o = some 1 := by
  intro n
  induction n with
  | zero => intro i sc sm o hR h1 h2; omega
  | succ n ih =>
    intro i sc sm o hR h1 h2
    show lw1_body N xs L (lw1_loop N xs L n) (nI (6 * i)) sc sm o = some 1
    unfold lw1_body
    by_cases c : L < 6 * i + 6
    · rw [if_pos ((nI_m6 (by omega) (by omega)).mpr c)]
    rw [if_neg (fun q => c ((nI_m6 (by omega) (by omega)).mp q))]
    have hi : i < 512 := by omega
    have g : ∀ j : Nat, j < 6 → ¬ (nI (6 * i + j) < 0 ∨ L ≤ (nI (6 * i + j)).toNatClampNeg) := fun j hj => nI_in (by omega) (by omega)
    have e1 : nI (6 * i) + 1 = nI (6 * i + 1) := nI_add _ 1
    have e2 : nI (6 * i) + 2 = nI (6 * i + 2) := nI_add _ 2
    have e3 : nI (6 * i) + 3 = nI (6 * i + 3) := nI_add _ 3
    have e4 : nI (6 * i) + 4 = nI (6 * i + 4) := nI_add _ 4
    have e5 : nI (6 * i) + 5 = nI (6 * i + 5) := nI_add _ 5
    have e6 : nI (6 * i) + 6 = nI (6 * (i + 1)) := nI_add _ 6
    rw [if_neg (show ¬ (nI (6 * i) < 0 ∨ L ≤ (nI (6 * i)).toNatClampNeg) from g 0 (by decide))]
    have go : ∀ (sc2 sm2 : ms) (o2 : Nat → Int64), R (i + 1) sc2 sm2 → lw1_loop N xs L n (nI (6 * (i + 1))) sc2 sm2 o2 = some 1 := fun sc2 sm2 o2 hR2 => ih (i + 1) sc2 sm2 o2 hR2 (by omega) (by omega)
    by_cases c0 : (xs (Int32.toNatClampNeg (nI (6 * i)))) &&& 15 = 0
    · rw [if_pos c0]
      rw [e1, e2, e3, e4, e5]
      rw [if_neg (g 1 (by decide)), if_neg (g 2 (by decide)), if_neg (g 3 (by decide)), if_neg (g 4 (by decide)), if_neg (g 5 (by decide))]
      obtain ⟨k, sc2, o2, b, sm2, a1, a2, a3, a4, hR2⟩ := hfeed i sc sm o (xs (Int32.toNatClampNeg (nI (6 * i + 1)))) (xs (Int32.toNatClampNeg (nI (6 * i + 2)))) (xs (Int32.toNatClampNeg (nI (6 * i + 3)))) (xs (Int32.toNatClampNeg (nI (6 * i + 4)))) (xs (Int32.toNatClampNeg (nI (6 * i + 5)))) hi hR
      rw [ex_bind a1]
      dsimp only
      rw [if_neg (g 1 (by decide)), if_neg (g 2 (by decide)), if_neg (g 3 (by decide)), if_neg (g 4 (by decide)), if_neg (g 5 (by decide))]
      rw [ex_bind a2]
      dsimp only
      rw [show fn_M_thrown N sm2 = some (sm2.1 0 0, sm2) from rfl, ex_bind rfl]
      dsimp only
      rw [if_pos a3, e6]
      by_cases z : k = 0
      · rw [if_pos z, if_pos ((lg_cmp_eq _ _).mpr (a4 z))]; exact go _ _ _ hR2
      · rw [if_neg z]; exact go _ _ _ hR2
    rw [if_neg c0]
    by_cases c1 : (xs (Int32.toNatClampNeg (nI (6 * i)))) &&& 15 = 1
    · rw [if_pos c1]
      rw [e1]
      rw [if_neg (g 1 (by decide))]
      obtain ⟨k, sc2, o2, sm2, a1, a2, a3, hR2⟩ := hend i sc sm o (xs (Int32.toNatClampNeg (nI (6 * i + 1)))) hi hR
      rw [ex_bind a1]
      dsimp only
      rw [if_neg (g 1 (by decide))]
      rw [ex_bind a2]
      dsimp only
      rw [show fn_M_thrown N sm2 = some (sm2.1 0 0, sm2) from rfl, ex_bind rfl]
      dsimp only
      rw [if_pos a3, e6]
      exact go _ _ _ hR2
    rw [if_neg c1]
    by_cases c2 : (xs (Int32.toNatClampNeg (nI (6 * i)))) &&& 15 = 2
    · rw [if_pos c2]
      obtain ⟨r, sc2, sm2, a1, a2, a3, hR2⟩ := hread i sc sm hi hR
      rw [ex_bind a1]
      dsimp only
      rw [ex_bind a2]
      dsimp only
      rw [if_neg (Nat.not_lt.mpr a3)]
      rw [if_pos rfl, e6]
      exact go _ _ _ hR2
    rw [if_neg c2]
    by_cases c3 : (xs (Int32.toNatClampNeg (nI (6 * i)))) &&& 15 = 3
    · rw [if_pos c3]
      obtain ⟨r, sc2, sm2, a1, a2, hR2⟩ := hfault i sc sm hi hR
      rw [ex_bind a1]
      dsimp only
      rw [ex_bind a2]
      dsimp only
      rw [if_pos rfl, e6]
      exact go _ _ _ hR2
    rw [if_neg c3]
    by_cases c4 : (xs (Int32.toNatClampNeg (nI (6 * i)))) &&& 15 = 4
    · rw [if_pos c4]
      rw [e1]
      rw [if_neg (g 1 (by decide))]
      obtain ⟨k, sc2, o2, b, sm2, a1, a2, a3, a4, hR2⟩ := hcount i sc sm o (xs (Int32.toNatClampNeg (nI (6 * i + 1)))) hi hR
      rw [ex_bind a1]
      dsimp only
      rw [if_neg (g 1 (by decide))]
      rw [ex_bind a2]
      dsimp only
      rw [show fn_M_thrown N sm2 = some (sm2.1 0 0, sm2) from rfl, ex_bind rfl]
      dsimp only
      rw [if_pos a3, e6]
      by_cases z : k = 0
      · rw [if_pos z, if_pos ((lg_cmp_eq _ _).mpr (a4 z))]; exact go _ _ _ hR2
      · rw [if_neg z]; exact go _ _ _ hR2
    rw [if_neg c4]
    by_cases c5 : (xs (Int32.toNatClampNeg (nI (6 * i)))) &&& 15 = 5
    · rw [if_pos c5]
      obtain ⟨k, sc2, o2, b, sm2, a1, a2, a3, a4, hR2⟩ := hfind i sc sm o  hi hR
      rw [ex_bind a1]
      dsimp only
      rw [ex_bind a2]
      dsimp only
      rw [show fn_M_thrown N sm2 = some (sm2.1 0 0, sm2) from rfl, ex_bind rfl]
      dsimp only
      rw [if_pos a3, e6]
      by_cases z : k = 0
      · rw [if_pos z, if_pos ((lg_cmp_eq _ _).mpr (a4 z))]; exact go _ _ _ hR2
      · rw [if_neg z]; exact go _ _ _ hR2
    rw [if_neg c5]
    by_cases c6 : (xs (Int32.toNatClampNeg (nI (6 * i)))) &&& 15 = 6
    · rw [if_pos c6]
      rw [e1, e2]
      rw [if_neg (g 1 (by decide)), if_neg (g 2 (by decide))]
      obtain ⟨k, sc2, o2, b, sm2, a1, a2, a3, a4, hR2⟩ := hsignal i sc sm o (xs (Int32.toNatClampNeg (nI (6 * i + 1)))) (xs (Int32.toNatClampNeg (nI (6 * i + 2)))) hi hR
      rw [ex_bind a1]
      dsimp only
      rw [if_neg (g 1 (by decide)), if_neg (g 2 (by decide))]
      rw [ex_bind a2]
      dsimp only
      rw [show fn_M_thrown N sm2 = some (sm2.1 0 0, sm2) from rfl, ex_bind rfl]
      dsimp only
      rw [if_pos a3, e6]
      by_cases z : k = 0
      · rw [if_pos z, if_pos ((lg_cmp_eq _ _).mpr (a4 z))]; exact go _ _ _ hR2
      · rw [if_neg z]; exact go _ _ _ hR2
    rw [if_neg c6]
    by_cases c7 : (xs (Int32.toNatClampNeg (nI (6 * i)))) &&& 15 = 7
    · rw [if_pos c7]
      obtain ⟨k, sc2, o2, sm2, a1, a2, a3, hR2⟩ := hreset i sc sm o  hi hR
      rw [ex_bind a1]
      dsimp only
      rw [ex_bind a2]
      dsimp only
      rw [show fn_M_thrown N sm2 = some (sm2.1 0 0, sm2) from rfl, ex_bind rfl]
      dsimp only
      rw [if_pos a3, e6]
      exact go _ _ _ hR2
    rw [if_neg c7]
    by_cases c8 : (xs (Int32.toNatClampNeg (nI (6 * i)))) &&& 15 = 8
    · rw [if_pos c8]
      rw [e1, e2]
      rw [if_neg (g 1 (by decide)), if_neg (g 2 (by decide))]
      obtain ⟨k, sc2, o2, sm2, a1, a2, a3, hR2⟩ := hset i sc sm o (xs (Int32.toNatClampNeg (nI (6 * i + 1)))) (xs (Int32.toNatClampNeg (nI (6 * i + 2)))) hi hR
      rw [ex_bind a1]
      dsimp only
      rw [if_neg (g 1 (by decide)), if_neg (g 2 (by decide))]
      rw [ex_bind a2]
      dsimp only
      rw [show fn_M_thrown N sm2 = some (sm2.1 0 0, sm2) from rfl, ex_bind rfl]
      dsimp only
      rw [if_pos a3, e6]
      exact go _ _ _ hR2
    rw [if_neg c8]
    by_cases c9 : (xs (Int32.toNatClampNeg (nI (6 * i)))) &&& 15 = 9
    · rw [if_pos c9]
      obtain ⟨k, sc2, o2, b, sm2, a1, a2, a3, a4, hR2⟩ := hstep i sc sm o  hi hR
      rw [ex_bind a1]
      dsimp only
      rw [ex_bind a2]
      dsimp only
      rw [show fn_M_thrown N sm2 = some (sm2.1 0 0, sm2) from rfl, ex_bind rfl]
      dsimp only
      rw [if_pos a3, e6]
      by_cases z : k = 0
      · rw [if_pos z, if_pos ((lg_cmp_eq _ _).mpr (a4 z))]; exact go _ _ _ hR2
      · rw [if_neg z]; exact go _ _ _ hR2
    rw [if_neg c9]
    by_cases c10 : (xs (Int32.toNatClampNeg (nI (6 * i)))) &&& 15 = 10
    · rw [if_pos c10]
      rw [e1]
      rw [if_neg (g 1 (by decide))]
      obtain ⟨k, sc2, o2, b, sm2, a1, a2, a3, a4, hR2⟩ := hvalue i sc sm o (xs (Int32.toNatClampNeg (nI (6 * i + 1)))) hi hR
      rw [ex_bind a1]
      dsimp only
      rw [if_neg (g 1 (by decide))]
      rw [ex_bind a2]
      dsimp only
      rw [show fn_M_thrown N sm2 = some (sm2.1 0 0, sm2) from rfl, ex_bind rfl]
      dsimp only
      rw [if_pos a3, e6]
      by_cases z : k = 0
      · rw [if_pos z, if_pos ((lg_cmp_eq _ _).mpr (a4 z))]; exact go _ _ _ hR2
      · rw [if_neg z]; exact go _ _ _ hR2
    rw [if_neg c10]
    by_cases c11 : (xs (Int32.toNatClampNeg (nI (6 * i)))) &&& 15 = 11
    · rw [if_pos c11]
      obtain ⟨k, sc2, o2, b, sm2, a1, a2, a3, a4, hR2⟩ := hfailing i sc sm o  hi hR
      rw [ex_bind a1]
      dsimp only
      rw [ex_bind a2]
      dsimp only
      rw [show fn_M_thrown N sm2 = some (sm2.1 0 0, sm2) from rfl, ex_bind rfl]
      dsimp only
      rw [if_pos a3, e6]
      by_cases z : k = 0
      · rw [if_pos z, if_pos ((lg_cmp_eq _ _).mpr (a4 z))]; exact go _ _ _ hR2
      · rw [if_neg z]; exact go _ _ _ hR2
    rw [if_neg c11]
    rw [e6]
    exact go _ _ _ (hskip i sc sm hi hR)
