/-! Characters: codes 0 .. 255, and 256 behind the end. -/
def cdig (c : Nat) : Bool := decide (48 ≤ c ∧ c ≤ 57)
def clet (c : Nat) : Bool := decide (97 ≤ c ∧ c ≤ 122 ∨ 65 ≤ c ∧ c ≤ 90 ∨ c = 95)
def cinn (c : Nat) : Bool := clet c || cdig c || decide (c = 36)
/-- as the reference reads it, as the class reads it -/
def mch (c : Nat) : Int32 := if c = 256 then -1 else nI c
def kch (c : Nat) : Int32 := if c < 128 then nI c else if c = 256 then -1 else nI c - 256
def b01 (b : Bool) : Int32 := if b then 1 else 0
/-- the reference's source: n characters -/
def Src (s : ms) (n : Nat) (ch : Nat → Nat) : Prop := s.1 2 0 = nI n ∧ n ≤ 65536 ∧ (∀ k, k < n → ch k < 256 ∧ (s.1 90 k) &&& 255 = nI (ch k)) ∧ ∀ k, n ≤ k → ch k = 256
theorem Src.lt {s : ms} {n : Nat} {ch : Nat → Nat} (h : Src s n ch) (k : Nat) : ch k < 257 := by
  by_cases c : k < n
  · exact Nat.lt_succ_of_lt (h.2.2.1 k c).1
  · rw [h.2.2.2 k (by omega)]; decide
theorem Src.end {s : ms} {n : Nat} {ch : Nat → Nat} (h : Src s n ch) {k : Nat} (hk : ch k = 256) : n ≤ k := by
  by_cases c : k < n
  · exact absurd hk (Nat.ne_of_lt (h.2.2.1 k c).1)
  · omega
theorem Src.mono {s t : ms} {n : Nat} {ch : Nat → Nat} (h : Src s n ch) (h1 : t.1 2 = s.1 2) (h2 : t.1 90 = s.1 90) : Src t n ch := by
  unfold Src at *; rw [h1, h2]; exact h
theorem at_M {N n k : Nat} {s : ms} {ch : Nat → Nat} (h : Src s n ch) (hk : k < 2 ^ 31) : fn_M_at N (nI k) s = some (mch (ch k), s) := by
  obtain ⟨h1, h2, h3, h4⟩ := h
  unfold fn_M_at
  rw [h1]
  by_cases c : k < n
  · rw [if_neg (nI_ge c (by omega)), if_neg (nI_in (show k < 65536 by omega) (by decide)), nI_clamp hk, (h3 k c).2]
    unfold mch
    rw [if_neg (Nat.ne_of_lt (h3 k c).1)]
  · rw [if_pos (nI_le (by omega) hk), h4 k (by omega)]
    rfl
theorem all257 {P : Nat → Prop} [DecidablePred P] (h : (∀ c : Fin 257, P c.1) = True) (c : Nat) (hc : c < 257) : P c := (of_eq_true h) ⟨c, hc⟩
theorem isDigit_M {N c : Nat} {s : ms} (hc : c < 257) : fn_M_isDigit N (mch c) s = some (b01 (cdig c), s) := by
  have key : ∀ c : Fin 257, (mch c.1 < 48 → cdig c.1 = false) ∧ (57 < mch c.1 → cdig c.1 = false) ∧ (¬ mch c.1 < 48 → ¬ 57 < mch c.1 → cdig c.1 = true) := by decide +kernel
  obtain ⟨k1, k2, k3⟩ := key ⟨c, hc⟩
  unfold fn_M_isDigit
  by_cases h1 : mch c < 48
  · rw [if_pos h1, k1 h1]; rfl
  · rw [if_neg h1]
    by_cases h2 : 57 < mch c
    · rw [if_pos h2, k2 h2]; rfl
    · rw [if_neg h2, k3 h1 h2]; rfl
theorem isLetter_M {N c : Nat} {s : ms} (hc : c < 257) : fn_M_isLetter N (mch c) s = some (b01 (clet c), s) := by
  have key : ∀ c : Fin 257, (if mch c.1 < 97 then (if mch c.1 < 65 then (if mch c.1 = 95 then (1 : Int32) else 0) else if mch c.1 ≤ 90 then 1 else (if mch c.1 = 95 then (1 : Int32) else 0)) else if mch c.1 ≤ 122 then 1 else (if mch c.1 < 65 then (if mch c.1 = 95 then (1 : Int32) else 0) else if mch c.1 ≤ 90 then 1 else (if mch c.1 = 95 then (1 : Int32) else 0))) = b01 (clet c.1) := by decide +kernel
  have k := key ⟨c, hc⟩
  dsimp only at k
  rw [← k]
  unfold fn_M_isLetter bk_M_isLetter_12 bk_M_isLetter_24
  clear key k
  repeat' (first | rfl | split)
theorem isIn_M {N c : Nat} {s : ms} (hc : c < 257) : fn_M_isIn N (mch c) s = some (b01 (cinn c), s) := by
  unfold fn_M_isIn
  rw [isLetter_M hc]
  show (if b01 (clet c) = 0 then _ else _) = _
  unfold cinn
  cases h1 : clet c
  · show ((fn_M_isDigit N (mch c) s).bind _) = _
    rw [isDigit_M hc]
    show (if b01 (cdig c) = 0 then _ else _) = _
    cases h2 : cdig c
    · have k : (mch c = 36) ↔ (c = 36) := by
        have key : ∀ c : Fin 257, (mch c.1 = 36) ↔ (c.1 = 36) := by decide +kernel
        exact key ⟨c, hc⟩
      by_cases h3 : c = 36
      · show (if mch c = 36 then _ else _) = _
        rw [if_pos (k.mpr h3), h3]; rfl
      · show (if mch c = 36 then _ else _) = _
        rw [if_neg (fun q => h3 (k.mp q))]; simp [h3, b01]
    · rfl
  · rfl
