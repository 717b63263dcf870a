/-! The class's text: the same characters. -/
def Txt (s : ms) (n : Nat) (ch : Nat → Nat) : Prop := s.1 222 0 = nI n ∧ n ≤ 65536 ∧ (∀ k, k < n → ch k < 256 ∧ s.1 307 k = kch (ch k)) ∧ ∀ k, n ≤ k → ch k = 256
theorem Txt.lt {s : ms} {n : Nat} {ch : Nat → Nat} (h : Txt s n ch) (k : Nat) : ch k < 257 := by
  by_cases c : k < n
  · exact Nat.lt_succ_of_lt (h.2.2.1 k c).1
  · rw [h.2.2.2 k (by omega)]; decide
theorem Txt.mono {s t : ms} {n : Nat} {ch : Nat → Nat} (h : Txt s n ch) (h1 : t.1 222 = s.1 222) (h2 : t.1 307 = s.1 307) : Txt t n ch := by
  unfold Txt at *; rw [h1, h2]; exact h
theorem byteAt_C {N n k : Nat} {s : ms} {ch : Nat → Nat} (h : Txt s n ch) (hk : k < 2 ^ 31) : fn_Scanner_byteAt_Sc N (nI k) s = some (kch (ch k), s) := by
  obtain ⟨h1, h2, h3, h4⟩ := h
  unfold fn_Scanner_byteAt_Sc
  rw [h1, if_neg (nI_pos hk)]
  by_cases c : k < n
  · rw [if_neg (nI_ge c (by omega)), if_neg (nI_in (show k < 65536 by omega) (by decide)), nI_clamp hk, (h3 k c).2]
  · rw [if_pos (nI_le (by omega) hk), h4 k (by omega)]
    rfl
theorem kch_eq : ∀ c : Fin 257, ∀ d : Fin 128, kch c.1 = nI d.1 ↔ c.1 = d.1 := by decide +kernel
theorem kq {c : Nat} (hc : c < 257) (d : Nat) (hd : d < 128) : (kch c = nI d) = (c = d) := propext (kch_eq ⟨c, hc⟩ ⟨d, hd⟩)
theorem isDigit_C {N c : Nat} {s : ms} (hc : c < 257) : fn_C_isDigit N (kch c) s = some (b01 (cdig c), s) := by
  have key : ∀ c : Fin 257, (kch c.1 < 48 → cdig c.1 = false) ∧ (57 < kch c.1 → cdig c.1 = false) ∧ (¬ kch c.1 < 48 → ¬ 57 < kch c.1 → cdig c.1 = true) := by decide +kernel
  obtain ⟨k1, k2, k3⟩ := key ⟨c, hc⟩
  unfold fn_C_isDigit
  by_cases h1 : kch c < 48
  · rw [if_pos h1, k1 h1]; rfl
  · rw [if_neg h1]
    by_cases h2 : 57 < kch c
    · rw [if_pos h2, k2 h2]; rfl
    · rw [if_neg h2, k3 h1 h2]; rfl
theorem beginsWord_C {N c : Nat} {s : ms} (hc : c < 257) : fn_C_beginsWord N (kch c) s = some (b01 (clet c), s) := by
  have key : ∀ c : Fin 257, (if kch c.1 < 97 then (if kch c.1 < 65 then (if kch c.1 = 95 then (1 : Int32) else 0) else if kch c.1 ≤ 90 then 1 else (if kch c.1 = 95 then (1 : Int32) else 0)) else if kch c.1 ≤ 122 then 1 else (if kch c.1 < 65 then (if kch c.1 = 95 then (1 : Int32) else 0) else if kch c.1 ≤ 90 then 1 else (if kch c.1 = 95 then (1 : Int32) else 0))) = b01 (clet c.1) := by decide +kernel
  have k := key ⟨c, hc⟩
  dsimp only at k
  rw [← k]
  unfold fn_C_beginsWord bk_C_beginsWord_12 bk_C_beginsWord_24
  clear key k
  repeat' (first | rfl | split)
theorem continuesWord_C {N c : Nat} {s : ms} (hc : c < 257) : fn_C_continuesWord N (kch c) s = some (b01 (cinn c), s) := by
  unfold fn_C_continuesWord
  rw [beginsWord_C hc]
  show (if b01 (clet c) = 0 then _ else _) = _
  unfold cinn
  cases h1 : clet c
  · show ((fn_C_isDigit N (kch c) s).bind _) = _
    rw [isDigit_C hc]
    show (if b01 (cdig c) = 0 then _ else _) = _
    cases h2 : cdig c
    · have k : (kch c = 36) = (c = 36) := kq hc 36 (by decide)
      by_cases h3 : c = 36
      · show (if kch c = 36 then _ else _) = _
        rw [if_pos (k.mpr h3), h3]; rfl
      · show (if kch c = 36 then _ else _) = _
        rw [if_neg (fun q => h3 (k.mp q))]; simp [h3, b01]
    · rfl
  · rfl
