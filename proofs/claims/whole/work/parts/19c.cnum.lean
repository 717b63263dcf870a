/-! Tokens of the class are laid; numbers of the class. -/
theorem nI_inN {i N : Nat} (h : i < N) (h2 : i < 2 ^ 31) : ¬ (nI i < 0 ∨ N ≤ i) := fun q => q.elim (nI_pos h2) (by omega)
theorem enc_C {k p x : Nat} (hp : p < 2 ^ 20) (hx : x < 2 ^ 20) : ((lN k : Int64) <<< ((Int32.toInt64 40) &&& 63) ||| (lN p : Int64) <<< ((Int32.toInt64 20) &&& 63)) ||| lN x = lN (k * 2 ^ 40 + p * 2 ^ 20 + x) := by
  rw [show (40 : Int32) = nI 40 from rfl, show (20 : Int32) = nI 20 from rfl, lN_shl (by decide), lN_shl (by decide), lN_or, lN_or]
  congr 1
  have e1 : k * 2 ^ 40 ||| p * 2 ^ 20 = k * 2 ^ 40 + p * 2 ^ 20 := by
    rw [← Nat.shiftLeft_eq k 40, ← Nat.shiftLeft_add_eq_or_of_lt (show p * 2 ^ 20 < 2 ^ 40 by omega)]
  have e2 : k * 2 ^ 40 + p * 2 ^ 20 = (k * 2 ^ 20 + p) * 2 ^ 20 := by omega
  rw [e1, e2, ← Nat.shiftLeft_eq (k * 2 ^ 20 + p) 20, ← Nat.shiftLeft_add_eq_or_of_lt hx]
theorem add_C {N T k p x : Nat} {v3 : Int32} {s : ms} (h : s.1 212 0 = nI T) (hT : T < 65537) (hk : k < 1024) (hp : p < 2 ^ 20) (hx : x < 2 ^ 20) (h3 : v3 + 1 = nI x) : fn_Tokens_add_Tk N (nI k) (nI p) v3 s = some ((), upI (upJ s 211 (vp_updL (s.2 211) T (lN (k * 2 ^ 40 + p * 2 ^ 20 + x)))) 212 (fun _ => nI (T + 1))) := by
  unfold fn_Tokens_add_Tk
  rw [h, if_pos (show nI T < (65537 : Int32) from nI_lt (b := 65537) hT (by decide)), if_neg (nI_in hT (by decide)), nI_clamp (by omega), nI_1, h3, nI_l (by omega), nI_l (by omega), nI_l (by omega), enc_C hp hx]
theorem cdig_iff (c : Nat) : (cdig c = true) ↔ cdv c < 10 := by
  unfold cdig cdv
  simp only [decide_eq_true_eq]
  constructor
  · intro h; rw [if_pos h]; omega
  · intro h
    by_cases z : 48 ≤ c ∧ c ≤ 57
    · exact z
    · rw [if_neg z] at h
      by_cases z2 : 97 ≤ c ∧ c ≤ 102
      · rw [if_pos z2] at h; omega
      · rw [if_neg z2] at h
        by_cases z3 : 65 ≤ c ∧ c ≤ 70
        · rw [if_pos z3] at h; omega
        · rw [if_neg z3] at h; omega
theorem cdv_dig {c : Nat} (h : cdig c = true) : cdv c = c - 48 ∧ 48 ≤ c ∧ c ≤ 57 := by
  simp only [cdig, decide_eq_true_eq] at h
  exact ⟨by unfold cdv; rw [if_pos h], h⟩
theorem digitOf_C {N c : Nat} {s : ms} (hc : c < 257) : fn_Scanner_digitOf N (kch c) s = some (nI (cdv c), s) := by
  have key : ∀ c : Fin 257, (if b01 (cdig c.1) = 0 then (if kch c.1 < 97 then (if kch c.1 < 65 then (99 : Int32) else if 70 < kch c.1 then 99 else (kch c.1 - 65) + 10) else if 102 < kch c.1 then (if kch c.1 < 65 then (99 : Int32) else if 70 < kch c.1 then 99 else (kch c.1 - 65) + 10) else (kch c.1 - 97) + 10) else kch c.1 - 48) = nI (cdv c.1) := by decide +kernel
  have k := key ⟨c, hc⟩
  dsimp only at k
  unfold fn_Scanner_digitOf bk_Scanner_digitOf_32
  rw [isDigit_C hc]
  show (if b01 (cdig c) = 0 then _ else _) = _
  rw [← k]
  clear key k
  repeat' (first | rfl | split)
theorem dec_C {N n to lim : Nat} {ch : Nat → Nat} {s : ms} (h : Txt s n ch) (hto : to ≤ n) (hl : lim ≤ 65535) : ∀ (f m i A v : Nat), i + f = to → f < m → (v = A ∧ A ≤ lim + 1 ∨ v = lim + 1 ∧ lim + 1 ≤ A) → hd_Scanner_decimal_Sc_6 N m (nI to) (nI lim) (nI v) (nI i) s = some (if alld ch 10 f i = true ∧ dval ch 10 f i A ≤ lim then nI (dval ch 10 f i A) else -1, s) := by
  have hn := h.2.1
  intro f
  induction f with
  | zero =>
    intro m i A v e hm hv
    obtain ⟨m, rfl⟩ : ∃ m', m = m' + 1 := ⟨m - 1, by omega⟩
    show bd_Scanner_decimal_Sc_6 N (hd_Scanner_decimal_Sc_6 N m) (nI to) (nI lim) (nI v) (nI i) s = some (if true = true ∧ A ≤ lim then nI A else -1, s)
    unfold bd_Scanner_decimal_Sc_6
    rw [if_pos (nI_le (show to ≤ i by omega) (by omega))]
    by_cases c : A ≤ lim
    · obtain rfl : v = A := by omega
      rw [if_pos (nI_le c (by omega)), if_pos ⟨rfl, c⟩]
    · rw [if_neg (nI_ge (show lim < v by omega) (by omega)), if_neg (fun q => c q.2)]
  | succ f ih =>
    intro m i A v e hm hv
    obtain ⟨m, rfl⟩ : ∃ m', m = m' + 1 := ⟨m - 1, by omega⟩
    have hi : i < n := by omega
    have lt := h.lt i
    show bd_Scanner_decimal_Sc_6 N (hd_Scanner_decimal_Sc_6 N m) (nI to) (nI lim) (nI v) (nI i) s = some (if (decide (cdv (ch i) < 10) && alld ch 10 f (i + 1)) = true ∧ dval ch 10 f (i + 1) (A * 10 + cdv (ch i)) ≤ lim then nI (dval ch 10 f (i + 1) (A * 10 + cdv (ch i))) else -1, s)
    unfold bd_Scanner_decimal_Sc_6
    have dl := cdv_lt (ch i)
    have i9 : (nI (cdv (ch i)) ≤ (9 : Int32)) ↔ cdv (ch i) ≤ 9 := nI_leI (b := 9) (by omega) (by decide)
    rw [if_neg (nI_ge (show i < to by omega) (by omega)), byteAt_C h (by omega), ex_bind rfl]
    dsimp only
    rw [digitOf_C lt, ex_bind rfl]
    dsimp only
    by_cases g : cdv (ch i) < 10
    · rw [if_pos (i9.mpr (by omega)), nI_1, nI_1, decide_eq_true g, Bool.true_and]
      have ex : 10 * nI v + nI (cdv (ch i)) = nI (10 * v + cdv (ch i)) := by
        rw [show (10 : Int32) = nI 10 from rfl, show nI 10 * nI v = nI (10 * v) from (Int32.ofNat_mul 10 v).symm, nI_add]
      rw [ex]
      by_cases c : 10 * v + cdv (ch i) < lim + 1
      · rw [if_pos (nI_lt c (by omega))]
        exact ih m (i + 1) _ _ (by omega) (by omega) (by left; omega)
      · rw [if_neg (nI_nlt (by omega) (by omega))]
        exact ih m (i + 1) _ _ (by omega) (by omega) (by right; omega)
    · rw [if_neg (fun z => g (by have := i9.mp z; omega)), decide_eq_false g, if_neg (fun q => by cases q.1)]
theorem decimal_C {N n fr to lim : Nat} {ch : Nat → Nat} {s : ms} (h : Txt s n ch) (hN : n < N) (h1 : fr ≤ to) (hto : to ≤ n) (hl : lim ≤ 65535) : fn_Scanner_decimal_Sc N (nI fr) (nI to) (nI lim) s = some (if alld ch 10 (to - fr) fr = true ∧ dval ch 10 (to - fr) fr 0 ≤ lim then nI (dval ch 10 (to - fr) fr 0) else -1, s) :=
  dec_C h hto hl (to - fr) N fr 0 0 (by omega) (by omega) (by left; omega)
theorem alld10 {ch : Nat → Nat} : ∀ f k, (alld ch 10 f k = true) ↔ ∀ j, k ≤ j → j < k + f → cdig (ch j) = true
  | 0, k => ⟨fun _ j h1 h2 => by omega, fun _ => rfl⟩
  | f + 1, k => by
    simp only [alld, Bool.and_eq_true, decide_eq_true_eq]
    rw [alld10 f (k + 1), ← cdig_iff]
    constructor
    · intro h j h1 h2
      by_cases z : j = k
      · rw [z]; exact h.1
      · exact h.2 j (by omega) (by omega)
    · intro h
      exact ⟨h k (Nat.le_refl k) (by omega), fun j h1 h2 => h j (by omega) (by omega)⟩
