/-! Blanks and comments, as the class passes over them: one at a time. -/
theorem txt_at {s : ms} {n k : Nat} {ch : Nat → Nat} (h : Txt s n ch) (hk : k < n) : s.1 307 k = kch (ch k) := (h.2.2.1 k hk).2
theorem cskip58 {N n : Nat} {ch : Nat → Nat} {s : ms} (h : Txt s n ch) : ∀ (m k f : Nat), k ≤ n → n ≤ k + f → f < m → hd_Scanner_skipped_Sc_58 N m (nI k) s = some (nI (ff (peol ch) f k), s) := by
  intro m
  induction m with
  | zero => intro k f h1 h2 h3; omega
  | succ m ih =>
    intro k f h1 h2 h3
    have hn := h.2.1
    show bd_Scanner_skipped_Sc_58 N (hd_Scanner_skipped_Sc_58 N m) (nI k) s = _
    unfold bd_Scanner_skipped_Sc_58
    rw [h.1]
    by_cases c : k < n
    · rw [if_neg (nI_ge c (by omega)), if_neg (nI_in (show k < 65536 by omega) (by decide)), nI_clamp (by omega), txt_at h c]
      obtain ⟨f, rfl⟩ : ∃ f', f = f' + 1 := ⟨f - 1, by omega⟩
      have lt := (h.2.2.1 k c).1
      have q : (kch (ch k) = (10 : Int32)) = (ch k = 10) := kq (by omega) 10 (by decide)
      show _ = some (nI (if peol ch k then k else _), s)
      by_cases e : ch k = 10
      · rw [if_pos (q.mpr e), if_pos (by simp [peol, e])]
      · rw [if_neg (fun z => e (q.mp z)), if_neg (by simp [peol, e]; omega), nI_1]
        exact ih (k + 1) f (by omega) (by omega) (by omega)
    · rw [if_pos (nI_le (by omega) (by omega))]
      have e : ch k = 256 := h.2.2.2 k (by omega)
      have : ff (peol ch) f k = k := ff_only _ (Nat.le_refl k) (by omega) (fun j h1 h2 => by omega) (by simp [peol, e])
      rw [this]
theorem cskip103 {N n : Nat} {ch : Nat → Nat} {s : ms} (h : Txt s n ch) : ∀ (m k f : Nat), k ≤ n → n ≤ k + f → f < m → hd_Scanner_skipped_Sc_103 N m (nI k) s = some (if ff (pcom ch) f k < n then nI (ff (pcom ch) f k + 2) else -1, s) := by
  intro m
  induction m with
  | zero => intro k f h1 h2 h3; omega
  | succ m ih =>
    intro k f h1 h2 h3
    have hn := h.2.1
    show bd_Scanner_skipped_Sc_103 N (hd_Scanner_skipped_Sc_103 N m) (nI k) s = _
    unfold bd_Scanner_skipped_Sc_103
    rw [h.1, nI_1]
    by_cases c : k + 1 < n
    · have lt := (h.2.2.1 k (by omega)).1
      have lt1 := (h.2.2.1 (k + 1) c).1
      have q : (kch (ch k) = (42 : Int32)) = (ch k = 42) := kq (by omega) 42 (by decide)
      have q1 : (kch (ch (k + 1)) = (47 : Int32)) = (ch (k + 1) = 47) := kq (by omega) 47 (by decide)
      rw [if_neg (nI_ge c (by omega)), if_neg (nI_in (show k < 65536 by omega) (by decide)), nI_clamp (by omega), txt_at h (by omega), if_neg (nI_in (show k + 1 < 65536 by omega) (by decide)), nI_clamp (by omega), txt_at h c]
      obtain ⟨f, rfl⟩ : ∃ f', f = f' + 1 := ⟨f - 1, by omega⟩
      have ef : ff (pcom ch) (f + 1) k = if pcom ch k then k else ff (pcom ch) f (k + 1) := rfl
      rw [ef]
      by_cases e : ch k = 42
      · rw [if_pos (q.mpr e)]
        by_cases e1 : ch (k + 1) = 47
        · have : pcom ch k = true := by simp [pcom, e, e1]
          rw [if_pos (q1.mpr e1), if_pos this, if_pos (by omega), show (2 : Int32) = nI 2 from rfl, nI_add]
        · have : pcom ch k = false := by simp [pcom, e, e1]
          rw [if_neg (fun z => e1 (q1.mp z)), this]
          exact ih (k + 1) f (by omega) (by omega) (by omega)
      · have : pcom ch k = false := by simp [pcom, e]; omega
        rw [if_neg (fun z => e (q.mp z)), this]
        exact ih (k + 1) f (by omega) (by omega) (by omega)
    · rw [if_pos (nI_le (by omega) (by omega))]
      have e : ch n = 256 := h.2.2.2 n (Nat.le_refl n)
      have : ff (pcom ch) f k = n := by
        refine ff_only _ h1 (by omega) (fun j j1 j2 => ?_) (by simp [pcom, e])
        have : j + 1 = n := by omega
        have lt := (h.2.2.1 j j2).1
        simp only [pcom, this, e, decide_eq_false_iff_not]
        omega
      rw [this, if_neg (Nat.lt_irrefl n)]
/-- behind what begins at k: a blank, a comment, or nothing -/
def skip1 (ch : Nat → Nat) (n k : Nat) : Int32 := if cblank (ch k) then nI (k + 1) else if ch k = 47 ∧ ch (k + 1) = 47 then nI (ff (peol ch) n k) else if ch k = 47 ∧ ch (k + 1) = 42 then (if ff (pcom ch) n (k + 2) < n then nI (ff (pcom ch) n (k + 2) + 2) else -1) else nI k
theorem skipped_C {N n k : Nat} {ch : Nat → Nat} {s : ms} (h : Txt s n ch) (hN : n < N) (hk : k < n) : fn_Scanner_skipped_Sc N (nI k) s = some (skip1 ch n k, s) := by
  have hn := h.2.1
  have lt := h.lt k
  have lt1 := h.lt (k + 1)
  have q9 : (kch (ch k) = (9 : Int32)) = (ch k = 9) := kq lt 9 (by decide)
  have q10 : (kch (ch k) = (10 : Int32)) = (ch k = 10) := kq lt 10 (by decide)
  have q13 : (kch (ch k) = (13 : Int32)) = (ch k = 13) := kq lt 13 (by decide)
  have q32 : (kch (ch k) = (32 : Int32)) = (ch k = 32) := kq lt 32 (by decide)
  have q47 : (kch (ch k) = (47 : Int32)) = (ch k = 47) := kq lt 47 (by decide)
  have p47 : (kch (ch (k + 1)) = (47 : Int32)) = (ch (k + 1) = 47) := kq lt1 47 (by decide)
  have p42 : (kch (ch (k + 1)) = (42 : Int32)) = (ch (k + 1) = 42) := kq lt1 42 (by decide)
  unfold fn_Scanner_skipped_Sc skip1
  rw [byteAt_C h (by omega), ex_bind rfl]
  dsimp only
  rw [nI_1]
  by_cases e9 : ch k = 9
  · rw [if_pos (q9.mpr e9), if_pos (by rw [e9]; decide)]
  rw [if_neg (fun z => e9 (q9.mp z))]
  by_cases e10 : ch k = 10
  · rw [if_pos (q10.mpr e10), if_pos (by rw [e10]; decide)]
  rw [if_neg (fun z => e10 (q10.mp z))]
  by_cases e13 : ch k = 13
  · rw [if_pos (q13.mpr e13), if_pos (by rw [e13]; decide)]
  rw [if_neg (fun z => e13 (q13.mp z))]
  by_cases e32 : ch k = 32
  · rw [if_pos (q32.mpr e32), if_pos (by rw [e32]; decide)]
  rw [if_neg (fun z => e32 (q32.mp z)), if_neg (show ¬ cblank (ch k) = true by simp [cblank, e9, e10, e13, e32])]
  by_cases e47 : ch k = 47
  · rw [if_pos (q47.mpr e47), byteAt_C h (by omega), ex_bind rfl]
    dsimp only
    rw [show (2 : Int32) = nI 2 from rfl, nI_add]
    by_cases f47 : ch (k + 1) = 47
    · have kn1 : k + 1 < n := by
        by_cases c : k + 1 < n
        · exact c
        · have := h.2.2.2 (k + 1) (by omega); omega
      rw [if_pos (p47.mpr f47), if_pos ⟨e47, f47⟩, cskip58 h N (k + 2) n (by omega) (by omega) hN]
      have a := ff_ge (peol ch) n (k + 2)
      have e256 : ch n = 256 := h.2.2.2 n (Nat.le_refl n)
      have p : peol ch (ff (peol ch) n (k + 2)) = true ∧ ff (peol ch) n (k + 2) ≤ n := by
        by_cases z : ff (peol ch) n (k + 2) ≤ n
        · exact ⟨ff_yes _ _ _ (by omega), z⟩
        · have := ff_no (peol ch) n (k + 2) n (by omega) (by omega)
          simp [peol, e256] at this
      have : ff (peol ch) n k = ff (peol ch) n (k + 2) := by
        refine ff_only _ (by omega) (by omega) (fun j j1 j2 => ?_) p.1
        by_cases z1 : j = k
        · rw [z1]; simp [peol, e47]
        · by_cases z2 : j = k + 1
          · rw [z2]; simp [peol, f47]
          · exact ff_no (peol ch) n (k + 2) j (by omega) j2
      rw [this]
    · rw [if_neg (fun z => f47 (p47.mp z)), if_neg (fun z => f47 z.2), byteAt_C h (by omega), ex_bind rfl]
      dsimp only
      by_cases f42 : ch (k + 1) = 42
      · have kn1 : k + 1 < n := by
          by_cases c : k + 1 < n
          · exact c
          · have := h.2.2.2 (k + 1) (by omega); omega
        rw [if_pos (p42.mpr f42), if_pos ⟨e47, f42⟩, cskip103 h N (k + 2) n (by omega) (by omega) hN]
      · rw [if_neg (fun z => f42 (p42.mp z)), if_neg (fun z => f42 z.2)]
  · rw [if_neg (fun z => e47 (q47.mp z)), if_neg (fun z => e47 z.1), if_neg (fun z => e47 z.1)]
