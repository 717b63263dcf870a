/-! The reference in designs: names. -/
abbrev DE (s s' : ms) : Prop := Eb [8, 9, 10, 12, 13, 14, 15, 16, 17, 18, 19, 20, 21, 23, 24, 25, 26, 27, 28, 29, 30, 31, 32, 33, 34, 35, 36, 37, 38, 39, 40, 41, 42, 44, 49, 50, 51, 52, 53, 87, 91, 92] [22, 43, 45, 46, 47, 48] s s'
theorem SE2.toDE {s s' : ms} (h : SE2 s s') : DE s s' := h.mono (by decide) (by decide)
theorem SE.toDE {s s' : ms} (h : SE s s') : DE s s' := h.mono (by decide) (by decide)
/-- what the reference finds in its tokens -/
def SD (tk pl vl wi wd : Nat → Nat) (nt N : Nat) (s0 : ms) : Prop :=
  (∀ i, i < nt → s0.1 4 i = nI (tk i) ∧ s0.1 5 i = nI (pl i)) ∧ (∀ i, 13000 ≤ i → s0.1 4 i = 0) ∧
  (∀ s', DE s0 s' → ∀ i, i < nt → tk i = 401 ∨ tk i = 402 → ∃ g, fn_M_numberOf N (nI i) s' = some (lN (vl i), upI s' 87 g)) ∧
  (∀ s', DE s0 s' → ∀ i, i < nt → tk i = 402 → fn_M_widthOfNumber N (nI i) s' = some (nI (wi i), s')) ∧
  (∀ s', DE s0 s' → ∀ a b, a < nt → b < nt → tk a = 400 → tk b = 400 → fn_M_sameToken N (nI a) (nI b) s' = some (b01 (decide (wd a = wd b)), s')) ∧
  (∀ i, (tk i = 401 → vl i < 65536) ∧ (tk i = 402 → vl i < 2 ^ wi i ∧ 1 ≤ wi i ∧ wi i ≤ 64))
def oI (o : Option Nat) : Int32 := match o with | none => -1 | some d => nI d
theorem oI_neg {o : Option Nat} (h : ∀ d, o = some d → d < 2 ^ 31) : oI o < 0 ↔ o = none := by
  cases o with
  | none => exact ⟨fun _ => rfl, fun _ => (by decide)⟩
  | some d => exact ⟨fun z => absurd z (nI_pos (h d rfl)), fun z => (by cases z)⟩
theorem oI_nn {o : Option Nat} (h : ∀ d, o = some d → d < 2 ^ 31) : 0 ≤ oI o ↔ o ≠ none := by
  cases o with
  | none => exact ⟨fun z => absurd z (by decide), fun z => absurd rfl z⟩
  | some d => exact ⟨fun _ z => (by cases z), fun _ => nI_le (a := 0) (Nat.zero_le _) (h d rfl)⟩
section MNAM
variable {tk pl vl wi wd : Nat → Nat} {nt N : Nat} {s0 s : ms}
theorem b01_dec0 {p : Prop} [Decidable p] : (b01 (decide p) = 0) ↔ ¬ p := by
  by_cases h : p
  · simp [h, b01]
  · simp [h, b01]
theorem signalNamed_M {g : Nat → Nat} {t e : Nat} (hS : SD tk pl vl wi wd nt N s0) (h : DE s0 s) (ht : t < nt) (k4 : tk t = 400) (he : e ≤ 11000) : ∀ (j k n : Nat), k + j = e → j < n → (∀ d, k ≤ d → d < e → s.1 19 d = nI (g d) ∧ g d < nt ∧ tk (g d) = 400) → hd_M_signalNamed_3 N n (nI t) (nI e) (nI k) s = some (oI (fnd (fun d => decide (wd (g d) = wd t)) j k), s) := by
  intro j
  induction j with
  | zero =>
    intro k n hk hn hg
    obtain ⟨n, rfl⟩ : ∃ n', n = n' + 1 := ⟨n - 1, by omega⟩
    show bd_M_signalNamed_3 N (hd_M_signalNamed_3 N n) (nI t) (nI e) (nI k) s = _
    unfold bd_M_signalNamed_3
    rw [if_pos (nI_le (by omega) (by omega))]
    rfl
  | succ j ih =>
    intro k n hk hn hg
    obtain ⟨n, rfl⟩ : ∃ n', n = n' + 1 := ⟨n - 1, by omega⟩
    show bd_M_signalNamed_3 N (hd_M_signalNamed_3 N n) (nI t) (nI e) (nI k) s = _
    unfold bd_M_signalNamed_3
    obtain ⟨g1, g2, g3⟩ := hg k (Nat.le_refl _) (by omega)
    rw [if_neg (nI_ge (by omega) (by omega)), if_neg (nI_in (show k < 11000 by omega) (by decide)), nI_clamp (by omega), g1, hS.2.2.2.2.1 s h (g k) t g2 ht g3 k4, obind]
    dsimp only
    unfold fnd
    by_cases c : wd (g k) = wd t
    · rw [if_neg (fun z => (b01_dec0.mp z) c), if_pos (decide_eq_true c)]
      rfl
    · rw [if_pos (b01_dec0.mpr c), if_neg (fun z => c (of_decide_eq_true z)), nI_1]
      exact ih (k + 1) n (by omega) (by omega) (fun d d1 d2 => hg d (by omega) d2)
theorem moduleNamed_M {g : Nat → Nat} {t e : Nat} (hS : SD tk pl vl wi wd nt N s0) (h : DE s0 s) (ht : t < nt) (k4 : tk t = 400) (he : e ≤ 3600) : ∀ (j k n : Nat), k + j = e → j < n → (∀ d, k ≤ d → d < e → s.1 13 d = nI (g d) ∧ g d < nt ∧ tk (g d) = 400) → hd_M_moduleNamed_2 N n (nI t) (nI e) (nI k) s = some (oI (fnd (fun d => decide (wd (g d) = wd t)) j k), s) := by
  intro j
  induction j with
  | zero =>
    intro k n hk hn hg
    obtain ⟨n, rfl⟩ : ∃ n', n = n' + 1 := ⟨n - 1, by omega⟩
    show bd_M_moduleNamed_2 N (hd_M_moduleNamed_2 N n) (nI t) (nI e) (nI k) s = _
    unfold bd_M_moduleNamed_2
    rw [if_pos (nI_le (by omega) (by omega))]
    rfl
  | succ j ih =>
    intro k n hk hn hg
    obtain ⟨n, rfl⟩ : ∃ n', n = n' + 1 := ⟨n - 1, by omega⟩
    show bd_M_moduleNamed_2 N (hd_M_moduleNamed_2 N n) (nI t) (nI e) (nI k) s = _
    unfold bd_M_moduleNamed_2
    obtain ⟨g1, g2, g3⟩ := hg k (Nat.le_refl _) (by omega)
    rw [if_neg (nI_ge (by omega) (by omega)), if_neg (nI_in (show k < 3600 by omega) (by decide)), nI_clamp (by omega), g1, hS.2.2.2.2.1 s h (g k) t g2 ht g3 k4, obind]
    dsimp only
    unfold fnd
    by_cases c : wd (g k) = wd t
    · rw [if_neg (fun z => (b01_dec0.mp z) c), if_pos (decide_eq_true c)]
      rfl
    · rw [if_pos (b01_dec0.mpr c), if_neg (fun z => c (of_decide_eq_true z)), nI_1]
      exact ih (k + 1) n (by omega) (by omega) (fun d d1 d2 => hg d (by omega) d2)
/-- with one that is found all others are passed over -/
theorem instN1 {t : Int32} {e : Nat} (h27 : s.1 27 0 = nI e) (he : e ≤ 11000) : ∀ (j k n : Nat), k + j = e → j < n → hd_M_isInstanceName_12 N n t 1 (nI k) s = some (1, s) := by
  intro j
  induction j with
  | zero =>
    intro k n hk hn
    obtain ⟨n, rfl⟩ : ∃ n', n = n' + 1 := ⟨n - 1, by omega⟩
    show bd_M_isInstanceName_12 N (hd_M_isInstanceName_12 N n) t 1 (nI k) s = _
    unfold bd_M_isInstanceName_12
    rw [h27, if_pos (nI_le (by omega) (by omega)), if_neg (by decide)]
  | succ j ih =>
    intro k n hk hn
    obtain ⟨n, rfl⟩ : ∃ n', n = n' + 1 := ⟨n - 1, by omega⟩
    show bd_M_isInstanceName_12 N (hd_M_isInstanceName_12 N n) t 1 (nI k) s = _
    unfold bd_M_isInstanceName_12 bk_M_isInstanceName_38
    rw [h27, if_neg (nI_ge (by omega) (by omega)), if_neg (show ¬ (1 : Int32) = 0 by decide), nI_1]
    exact ih (k + 1) n (by omega) (by omega)
theorem instN_M {g : Nat → Nat} {t e : Nat} (hS : SD tk pl vl wi wd nt N s0) (h : DE s0 s) (ht : t < nt) (k4 : tk t = 400) (h27 : s.1 27 0 = nI e) (he : e ≤ 11000) : ∀ (j k n : Nat), k + j = e → j < n → (∀ d, k ≤ d → d < e → s.1 29 d = nI (g d) ∧ g d < nt ∧ tk (g d) = 400) → hd_M_isInstanceName_12 N n (nI t) 0 (nI k) s = some (b01 (fnd (fun d => decide (wd (g d) = wd t)) j k).isSome, s) := by
  intro j
  induction j with
  | zero =>
    intro k n hk hn hg
    obtain ⟨n, rfl⟩ : ∃ n', n = n' + 1 := ⟨n - 1, by omega⟩
    show bd_M_isInstanceName_12 N (hd_M_isInstanceName_12 N n) (nI t) 0 (nI k) s = _
    unfold bd_M_isInstanceName_12
    rw [h27, if_pos (nI_le (by omega) (by omega)), if_neg (by decide)]
    rfl
  | succ j ih =>
    intro k n hk hn hg
    obtain ⟨n, rfl⟩ : ∃ n', n = n' + 1 := ⟨n - 1, by omega⟩
    show bd_M_isInstanceName_12 N (hd_M_isInstanceName_12 N n) (nI t) 0 (nI k) s = _
    unfold bd_M_isInstanceName_12 bk_M_isInstanceName_38
    obtain ⟨g1, g2, g3⟩ := hg k (Nat.le_refl _) (by omega)
    rw [h27, if_neg (nI_ge (by omega) (by omega)), if_pos rfl, if_neg (nI_in (show k < 11000 by omega) (by decide)), nI_clamp (by omega), g1, hS.2.2.2.2.1 s h (g k) t g2 ht g3 k4, obind]
    dsimp only
    unfold fnd
    by_cases c : wd (g k) = wd t
    · rw [if_neg (fun z => (b01_dec0.mp z) c), if_pos (decide_eq_true c), nI_1]
      exact instN1 h27 he j (k + 1) n (by omega) (by omega)
    · rw [if_pos (b01_dec0.mpr c), if_neg (fun z => c (of_decide_eq_true z)), nI_1]
      exact ih (k + 1) n (by omega) (by omega) (fun d d1 d2 => hg d (by omega) d2)
theorem linkOf_M {g : Nat → Nat} {p e : Nat} (hp : p < 20000) (he : e ≤ 11000) : ∀ (j k n : Nat), k + j = e → j < n → (∀ d, k ≤ d → d < e → s.1 32 d = nI (g d) ∧ g d < 20000) → hd_M_linkOf_8 N n (nI e) (nI p) (nI k) s = some (oI (fnd (fun d => decide (g d = p)) j k), s) := by
  intro j
  induction j with
  | zero =>
    intro k n hk hn hg
    obtain ⟨n, rfl⟩ : ∃ n', n = n' + 1 := ⟨n - 1, by omega⟩
    show bd_M_linkOf_8 N (hd_M_linkOf_8 N n) (nI e) (nI p) (nI k) s = _
    unfold bd_M_linkOf_8
    rw [if_pos (nI_le (by omega) (by omega))]
    rfl
  | succ j ih =>
    intro k n hk hn hg
    obtain ⟨n, rfl⟩ : ∃ n', n = n' + 1 := ⟨n - 1, by omega⟩
    show bd_M_linkOf_8 N (hd_M_linkOf_8 N n) (nI e) (nI p) (nI k) s = _
    unfold bd_M_linkOf_8
    obtain ⟨g1, g2⟩ := hg k (Nat.le_refl _) (by omega)
    rw [if_neg (nI_ge (by omega) (by omega)), if_neg (nI_in (show k < 11000 by omega) (by decide)), nI_clamp (by omega), g1]
    unfold fnd
    by_cases c : g k = p
    · rw [if_pos (by rw [c]), if_pos (decide_eq_true c)]
      rfl
    · rw [if_neg (fun z => c ((nI_eq (by omega) (by omega)).mp z)), if_neg (fun z => c (of_decide_eq_true z)), nI_1]
      exact ih (k + 1) n (by omega) (by omega) (fun d d1 d2 => hg d (by omega) d2)
end MNAM
