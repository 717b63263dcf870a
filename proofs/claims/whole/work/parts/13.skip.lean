/-! The first place where something holds; blanks and comments. -/
/-- the first place from k on, at most f further, where p holds (else k + f) -/
def ff (p : Nat → Bool) : Nat → Nat → Nat
  | 0, k => k
  | f + 1, k => if p k then k else ff p f (k + 1)
theorem ff_ge (p : Nat → Bool) : ∀ f k, k ≤ ff p f k
  | 0, k => Nat.le_refl k
  | f + 1, k => by
    unfold ff
    split
    · exact Nat.le_refl k
    · exact Nat.le_trans (Nat.le_succ k) (ff_ge p f (k + 1))
theorem ff_le (p : Nat → Bool) : ∀ f k, ff p f k ≤ k + f
  | 0, k => Nat.le_refl k
  | f + 1, k => by
    unfold ff
    split
    · omega
    · have := ff_le p f (k + 1); omega
theorem ff_no (p : Nat → Bool) : ∀ f k j, k ≤ j → j < ff p f k → p j = false
  | 0, k, j, h1, h2 => by unfold ff at h2; omega
  | f + 1, k, j, h1, h2 => by
    unfold ff at h2
    split at h2
    · omega
    · rename_i h
      by_cases e : k = j
      · subst e; simpa using h
      · exact ff_no p f (k + 1) j (by omega) h2
theorem ff_yes (p : Nat → Bool) : ∀ f k, ff p f k < k + f → p (ff p f k) = true
  | 0, k, h => by unfold ff at h; omega
  | f + 1, k, h => by
    unfold ff at h ⊢
    split
    · assumption
    · rename_i h2
      rw [if_neg h2] at h
      exact ff_yes p f (k + 1) (by omega)
/-- more steps change nothing, once it is found -/
theorem ff_more (p : Nat → Bool) : ∀ f g k, p (ff p f k) = true → f ≤ g → ff p g k = ff p f k
  | 0, g, k, h, _ => by
    unfold ff at h
    cases g with
    | zero => rfl
    | succ g => show (if p k then k else _) = k; rw [if_pos h]
  | f + 1, g, k, h, hg => by
    obtain ⟨g, rfl⟩ : ∃ g', g = g' + 1 := ⟨g - 1, by omega⟩
    unfold ff at h ⊢
    by_cases c : p k = true
    · rw [if_pos c, if_pos c]
    · rw [if_neg c] at h ⊢
      rw [if_neg c]
      exact ff_more p f g (k + 1) h (by omega)
/-- what a place of that kind is: the only one -/
theorem ff_only (p : Nat → Bool) {f k r : Nat} (h1 : k ≤ r) (h2 : r ≤ k + f) (h3 : ∀ j, k ≤ j → j < r → p j = false) (h4 : p r = true) : ff p f k = r := by
  have a := ff_ge p f k
  rcases Nat.lt_trichotomy (ff p f k) r with c | c | c
  · have := ff_yes p f k (by omega)
    rw [h3 _ a c] at this; cases this
  · exact c
  · have := ff_no p f k r h1 c
    rw [h4] at this; cases this
def cblank (c : Nat) : Bool := decide (c = 9 ∨ c = 10 ∨ c = 13 ∨ c = 32)
/-- the end of a line, the end of a comment -/
def peol (ch : Nat → Nat) (j : Nat) : Bool := decide (ch j = 256 ∨ ch j = 10)
def pcom (ch : Nat → Nat) (j : Nat) : Bool := decide (ch j = 256 ∨ ch j = 42 ∧ ch (j + 1) = 47)
/-- behind blanks and comments: the place, and whether no comment is open there -/
def sk (ch : Nat → Nat) (n : Nat) : Nat → Nat → Nat × Bool
  | 0, k => (k, true)
  | f + 1, k => if cblank (ch k) then sk ch n f (k + 1) else if ch k = 47 ∧ ch (k + 1) = 47 then sk ch n f (ff (peol ch) n k) else if ch k = 47 ∧ ch (k + 1) = 42 then (if ff (pcom ch) n (k + 2) < n then sk ch n f (ff (pcom ch) n (k + 2) + 2) else (k, false)) else (k, true)
theorem mch_eq {c d : Nat} (hc : c < 257) (hd : d < 256) : mch c = nI d ↔ c = d := by
  unfold mch
  by_cases h : c = 256
  · rw [if_pos h]
    constructor
    · intro q
      have := congrArg Int32.toInt q
      rw [nI_toInt (by omega)] at this
      have e : (-1 : Int32).toInt = -1 := by decide
      rw [e] at this; omega
    · intro q; omega
  · rw [if_neg h, nI_eq (by omega) (by omega)]
theorem skip56_M {N n : Nat} {ch : Nat → Nat} {k2 : Int32 → ms → Option (Int32 × ms)} {s : ms} (h : Src s n ch) : ∀ (m k f : Nat), k ≤ n → n ≤ k + f → f < m → hd_M_skip_56 N k2 m (nI k) s = k2 (nI (ff (peol ch) f k)) s := by
  intro m
  induction m with
  | zero => intro k f h1 h2 h3; omega
  | succ m ih =>
    intro k f h1 h2 h3
    have hn := h.2.1
    show bd_M_skip_56 N k2 (hd_M_skip_56 N k2 m) (nI k) s = _
    unfold bd_M_skip_56
    rw [h.1]
    by_cases c : k < n
    · rw [if_neg (nI_ge c (by omega)), at_M h (by omega)]
      show (if mch (ch k) = 10 then _ else _) = _
      obtain ⟨f, rfl⟩ : ∃ f', f = f' + 1 := ⟨f - 1, by omega⟩
      have lt := (h.2.2.1 k c).1
      by_cases e : ch k = 10
      · rw [if_pos (((show mch _ = (10 : Int32) ↔ _ = 10 from mch_eq (d := 10) (by omega) (by decide))).mpr e)]
        have : peol ch k = true := by simp [peol, e]
        show _ = k2 (nI (if peol ch k then k else _)) s
        rw [if_pos this]
      · rw [if_neg (fun q => e (((show mch _ = (10 : Int32) ↔ _ = 10 from mch_eq (d := 10) (by omega) (by decide))).mp q)), nI_1]
        have : peol ch k = false := by simp [peol, e]; omega
        show _ = k2 (nI (if peol ch k then k else _)) s
        rw [this]
        exact ih (k + 1) f (by omega) (by omega) (by omega)
    · rw [if_pos (nI_le (by omega) (by omega))]
      have e : ch k = 256 := h.2.2.2 k (by omega)
      have : ff (peol ch) f k = k := ff_only _ (Nat.le_refl k) (by omega) (fun j h1 h2 => by omega) (by simp [peol, e])
      rw [this]
theorem skip103_M {N n x : Nat} {ch : Nat → Nat} {k2 : Int32 → ms → Option (Int32 × ms)} {s : ms} (h : Src s n ch) : ∀ (m k f : Nat), k ≤ n → n ≤ k + f → f < m → hd_M_skip_103 N k2 m (nI x) (nI k) s = bk_M_skip_142 N k2 (nI x) (nI (ff (pcom ch) f k)) s := by
  intro m
  induction m with
  | zero => intro k f h1 h2 h3; omega
  | succ m ih =>
    intro k f h1 h2 h3
    have hn := h.2.1
    show bd_M_skip_103 N k2 (hd_M_skip_103 N k2 m) (nI x) (nI k) s = _
    unfold bd_M_skip_103
    rw [h.1]
    by_cases c : k < n
    · rw [if_neg (nI_ge c (by omega)), at_M h (by omega)]
      show (if mch (ch k) = 42 then _ else _) = _
      obtain ⟨f, rfl⟩ : ∃ f', f = f' + 1 := ⟨f - 1, by omega⟩
      have lt := (h.2.2.1 k c).1
      have lt1 := h.lt (k + 1)
      show _ = bk_M_skip_142 N k2 (nI x) (nI (if pcom ch k then k else _)) s
      by_cases e : ch k = 42
      · rw [if_pos (((show mch _ = (42 : Int32) ↔ _ = 42 from mch_eq (d := 42) (by omega) (by decide))).mpr e), nI_1, at_M h (by omega)]
        show (if mch (ch (k + 1)) = 47 then _ else _) = _
        by_cases e2 : ch (k + 1) = 47
        · rw [if_pos (((show mch _ = (47 : Int32) ↔ _ = 47 from mch_eq (d := 47) (by omega) (by decide))).mpr e2)]
          have : pcom ch k = true := by simp [pcom, e, e2]
          rw [if_pos this]
        · rw [if_neg (fun q => e2 (((show mch _ = (47 : Int32) ↔ _ = 47 from mch_eq (d := 47) (by omega) (by decide))).mp q))]
          have : pcom ch k = false := by simp [pcom, e, e2]
          rw [this]
          exact ih (k + 1) f (by omega) (by omega) (by omega)
      · rw [if_neg (fun q => e (((show mch _ = (42 : Int32) ↔ _ = 42 from mch_eq (d := 42) (by omega) (by decide))).mp q)), nI_1]
        have : pcom ch k = false := by simp [pcom, e]; omega
        rw [this]
        exact ih (k + 1) f (by omega) (by omega) (by omega)
    · rw [if_pos (nI_le (by omega) (by omega))]
      have e : ch k = 256 := h.2.2.2 k (by omega)
      have : ff (pcom ch) f k = k := ff_only _ (Nat.le_refl k) (by omega) (fun j h1 h2 => by omega) (by simp [pcom, e])
      rw [this]
theorem ff_in {s : ms} {n k : Nat} {ch : Nat → Nat} (h : Src s n ch) (p : Nat → Bool) (hp : ∀ j, ch j = 256 → p j = true) (hk : k ≤ n) : k ≤ ff p n k ∧ ff p n k ≤ n ∧ p (ff p n k) = true := by
  have a := ff_ge p n k
  have e : ch n = 256 := h.2.2.2 n (Nat.le_refl n)
  by_cases c : ff p n k ≤ n
  · refine ⟨a, c, ?_⟩
    by_cases c2 : ff p n k < k + n
    · exact ff_yes p n k c2
    · have : ff p n k = n := by omega
      rw [this]; exact hp n e
  · have := ff_no p n k n hk (by omega)
    rw [hp n e] at this; cases this
def skr (r : Nat × Bool) : Int32 := if r.2 then nI r.1 else -1 - nI r.1
theorem skip_M {N n : Nat} {ch : Nat → Nat} {s : ms} (h : Src s n ch) (hN : n < N) : ∀ (m k f : Nat), k ≤ n → n < k + m → n < k + f → hd_M_skip_2 N m (nI k) s = some (skr (sk ch n f k), s) := by
  intro m
  induction m with
  | zero => intro k f h1 h2 h3; omega
  | succ m ih =>
    intro k f h1 h2 h3
    have hn := h.2.1
    obtain ⟨f, rfl⟩ : ∃ f', f = f' + 1 := ⟨f - 1, by omega⟩
    have lt := h.lt k
    have lt1 := h.lt (k + 1)
    have q9 := (show mch _ = (9 : Int32) ↔ _ = 9 from mch_eq (d := 9) lt (by decide))
    have q10 := (show mch _ = (10 : Int32) ↔ _ = 10 from mch_eq (d := 10) lt (by decide))
    have q13 := (show mch _ = (13 : Int32) ↔ _ = 13 from mch_eq (d := 13) lt (by decide))
    have q32 := (show mch _ = (32 : Int32) ↔ _ = 32 from mch_eq (d := 32) lt (by decide))
    have q47 := (show mch _ = (47 : Int32) ↔ _ = 47 from mch_eq (d := 47) lt (by decide))
    have p47 := (show mch _ = (47 : Int32) ↔ _ = 47 from mch_eq (d := 47) lt1 (by decide))
    have p42 := (show mch _ = (42 : Int32) ↔ _ = 42 from mch_eq (d := 42) lt1 (by decide))
    have hb : cblank (ch k) = true → k < n := fun q => by
      have : ch k ≠ 256 := fun z => by rw [z] at q; revert q; decide
      by_cases c : k < n
      · exact c
      · exact absurd (h.2.2.2 k (by omega)) this
    show bd_M_skip_2 N (hd_M_skip_2 N m) (nI k) s = _
    unfold bd_M_skip_2
    rw [at_M h (by omega)]
    show (if mch (ch k) = 9 then _ else _) = some (skr (if cblank (ch k) then _ else _), s)
    by_cases e9 : ch k = 9
    · have b : cblank (ch k) = true := by rw [e9]; decide
      rw [if_pos (q9.mpr e9), if_pos b, nI_1]
      exact ih (k + 1) f (by have := hb b; omega) (by omega) (by omega)
    rw [if_neg (fun q => e9 (q9.mp q))]
    by_cases e10 : ch k = 10
    · have b : cblank (ch k) = true := by rw [e10]; decide
      rw [if_pos (q10.mpr e10), if_pos b, nI_1]
      exact ih (k + 1) f (by have := hb b; omega) (by omega) (by omega)
    rw [if_neg (fun q => e10 (q10.mp q))]
    by_cases e13 : ch k = 13
    · have b : cblank (ch k) = true := by rw [e13]; decide
      rw [if_pos (q13.mpr e13), if_pos b, nI_1]
      exact ih (k + 1) f (by have := hb b; omega) (by omega) (by omega)
    rw [if_neg (fun q => e13 (q13.mp q))]
    by_cases e32 : ch k = 32
    · have b : cblank (ch k) = true := by rw [e32]; decide
      rw [if_pos (q32.mpr e32), if_pos b, nI_1]
      exact ih (k + 1) f (by have := hb b; omega) (by omega) (by omega)
    rw [if_neg (fun q => e32 (q32.mp q))]
    have nb : ¬ cblank (ch k) = true := by simp [cblank, e9, e10, e13, e32]
    rw [if_neg nb]
    unfold bk_M_skip_80
    by_cases e47 : ch k = 47
    · have kn : k < n := by
        by_cases c : k < n
        · exact c
        · have := h.2.2.2 k (by omega); omega
      rw [if_pos (q47.mpr e47), nI_1, at_M h (by omega)]
      show (if mch (ch (k + 1)) = 47 then _ else _) = _
      by_cases f47 : ch (k + 1) = 47
      · rw [if_pos (p47.mpr f47), if_pos ⟨e47, f47⟩, skip56_M h N k n (by omega) (by omega) hN]
        obtain ⟨a1, a2, a3⟩ := ff_in h (peol ch) (fun j q => by simp [peol, q]) (show k ≤ n by omega)
        have gt : k < ff (peol ch) n k := by
          by_cases c : k < ff (peol ch) n k
          · exact c
          · have e : ff (peol ch) n k = k := by omega
            rw [e] at a3
            simp [peol, e47] at a3
        exact ih _ f a2 (by omega) (by omega)
      rw [if_neg (fun q => f47 (p47.mp q)), if_neg (show ¬ (ch k = 47 ∧ ch (k + 1) = 47) from fun q => f47 q.2)]
      dsimp only
      rw [if_pos (q47.mpr e47)]
      rw [at_M h (by omega)]
      show (if mch (ch (k + 1)) = 42 then _ else _) = _
      by_cases f42 : ch (k + 1) = 42
      · have kn1 : k + 1 < n := by
          by_cases c : k + 1 < n
          · exact c
          · have := h.2.2.2 (k + 1) (by omega); omega
        rw [if_pos (p42.mpr f42), if_pos (show ch k = 47 ∧ ch (k + 1) = 42 from ⟨e47, f42⟩), show (2 : Int32) = nI 2 from rfl, nI_add, skip103_M h N (k + 2) n (by omega) (by omega) hN]
        obtain ⟨a1, a2, a3⟩ := ff_in h (pcom ch) (fun j q => by simp [pcom, q]) (show k + 2 ≤ n by omega)
        unfold bk_M_skip_142
        rw [h.1]
        by_cases c : ff (pcom ch) n (k + 2) < n
        · rw [if_pos (nI_lt c (by omega)), if_pos c, show (2 : Int32) = nI 2 from rfl, nI_add]
          have e2 : ch (ff (pcom ch) n (k + 2) + 1) = 47 := by
            simp only [pcom, decide_eq_true_eq] at a3
            rcases a3 with a3 | a3
            · have := (h.2.2.1 _ c).1; omega
            · exact a3.2
          have : ff (pcom ch) n (k + 2) + 1 < n := by
            by_cases c9 : ff (pcom ch) n (k + 2) + 1 < n
            · exact c9
            · have := h.2.2.2 _ (Nat.le_of_not_lt c9); omega
          exact ih _ f (by omega) (by omega) (by omega)
        · rw [if_neg (nI_nlt (by omega) (by omega)), if_neg c]
          rfl
      · rw [if_neg (fun q => f42 (p42.mp q)), if_neg (show ¬ (ch k = 47 ∧ ch (k + 1) = 42) from fun q => f42 q.2)]
        rfl
    · rw [if_neg (fun q => e47 (q47.mp q))]
      dsimp only
      rw [if_neg (fun q => e47 (q47.mp q)), if_neg (show ¬ (ch k = 47 ∧ ch (k + 1) = 47) from fun q => e47 q.1), if_neg (show ¬ (ch k = 47 ∧ ch (k + 1) = 42) from fun q => e47 q.1)]
      rfl
