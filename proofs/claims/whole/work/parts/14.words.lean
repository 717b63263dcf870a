/-! Key words. -/
theorem nI_sub {a b : Nat} (h : b ≤ a) : nI a - nI b = nI (a - b) := by
  have e : nI a = nI (a - b) + nI b := by rw [nI_add]; congr 1; omega
  rw [e]; exact Int32.add_sub_cancel _ _
def wdN (j : Nat) : Nat := (dc_wd j).toNatClampNeg
theorem wdN_is : ∀ j : Nat, j < 113 → dc_wd j = nI (wdN j) ∧ wdN j < 256 := by decide +kernel
/-- the word at st, from its j-th letter on, f letters, is what stands there -/
def wm (ch : Nat → Nat) (fr to st : Nat) : Nat → Nat → Bool
  | 0, _ => true
  | f + 1, j => decide (fr + j < to ∧ ch (fr + j) = wdN (st + j)) && wm ch fr to st f (j + 1)
def kwt : List (Nat × Nat) := [(0, 6), (7, 9), (17, 5), (23, 6), (30, 4), (35, 3), (39, 6), (46, 6), (53, 7), (61, 5), (67, 5), (73, 3), (77, 2), (80, 4), (85, 4), (90, 7), (98, 7), (106, 6)]
def wk (ch : Nat → Nat) (fr to : Nat) : List (Nat × Nat) → Nat → Nat
  | [], _ => 400
  | e :: l, i => if wm ch fr to e.1 e.2 0 && decide (e.2 = to - fr) then 300 + i else wk ch fr to l (i + 1)
def kwgood (st len : Nat) : Bool := decide (st + len < 113) && (List.range len).all (fun i => decide (wdN (st + i) ≠ 32)) && decide (wdN (st + len) = 32)
def kwch : List (Nat × Nat) → Nat → Bool
  | [], st => decide (st = 113)
  | e :: l, st => decide (e.1 = st) && kwgood e.1 e.2 && kwch l (e.1 + e.2 + 1)
theorem kwch_t : kwch kwt 0 = true := by decide +kernel
theorem wk19_M {N n fr to st len w : Nat} {ch : Nat → Nat} {k5 : Int32 → Int32 → Int32 → Int32 → ms → Option (Int32 × ms)} {s : ms} (h : Src s n ch) (h1 : fr ≤ to) (h2 : to ≤ n) (hg : kwgood st len = true) (hw : w < 1000) : ∀ (f m j : Nat) (b : Bool), j + f = len → f < m → hd_M_wordKind_19 N k5 m (nI fr) (nI to) (nI st) (nI w) (nI j) (b01 b) s = if (b && wm ch fr to st f j && decide (len = to - fr)) = true then some (nI (300 + w), s) else k5 (nI fr) (nI to) (nI (st + len + 1)) (nI (w + 1)) s := by
  have hn := h.2.1
  simp only [kwgood, Bool.and_eq_true, decide_eq_true_eq, List.all_eq_true, List.mem_range] at hg
  obtain ⟨⟨g1, g2⟩, g3⟩ := hg
  intro f
  induction f with
  | zero =>
    intro m j b e hm
    obtain ⟨m, rfl⟩ : ∃ m', m = m' + 1 := ⟨m - 1, by omega⟩
    obtain rfl : j = len := by omega
    show bd_M_wordKind_19 N k5 (hd_M_wordKind_19 N k5 m) (nI fr) (nI to) (nI st) (nI w) (nI j) (b01 b) s = _
    unfold bd_M_wordKind_19 bk_M_wordKind_97
    rw [nI_add, if_neg (nI_in (show st + j < 113 from g1) (by decide)), nI_clamp (by omega), (wdN_is _ g1).1, g3, if_pos (show nI 32 = (32 : Int32) from rfl), nI_1, nI_1, nI_sub h1, show (300 : Int32) = nI 300 from rfl, nI_add]
    cases b
    · rfl
    · show (if (1 : Int32) = 0 then _ else _) = _
      rw [if_neg (by decide)]
      by_cases c : j = to - fr
      · rw [if_pos (by rw [c]), if_pos (by simp [wm, ← c])]
      · rw [if_neg (fun q => c ((nI_eq (by omega) (by omega)).mp q)), if_neg (by simp [c])]
  | succ f ih =>
    intro m j b e hm
    obtain ⟨m, rfl⟩ : ∃ m', m = m' + 1 := ⟨m - 1, by omega⟩
    have hj : st + j < 113 := by omega
    obtain ⟨w1, w2⟩ := wdN_is _ hj
    have ne : ¬ nI (wdN (st + j)) = (32 : Int32) := fun q => g2 j (by omega) ((nI_eq (by omega) (by decide)).mp (show nI (wdN (st + j)) = nI 32 from q))
    have lt := h.lt (fr + j)
    show bd_M_wordKind_19 N k5 (hd_M_wordKind_19 N k5 m) (nI fr) (nI to) (nI st) (nI w) (nI j) (b01 b) s = _
    unfold bd_M_wordKind_19
    rw [nI_add, if_neg (nI_in hj (by decide)), nI_clamp (by omega), w1, if_neg ne, nI_1, nI_add]
    cases b
    · rw [if_pos (show b01 false = 0 from rfl)]
      exact (ih m (j + 1) false (by omega) (by omega)).trans (by simp)
    · rw [if_neg (show ¬ b01 true = 0 by decide)]
      by_cases c : fr + j < to
      · rw [if_neg (nI_ge c (by omega)), at_M h (by omega)]
        show (if _ ∨ _ then none else if mch (ch (fr + j)) = nI (wdN (st + j)) then _ else _) = _
        rw [if_neg (show ¬ (nI (st + j) < 0 ∨ 113 ≤ st + j) from fun q => q.elim (nI_pos (by omega)) (by omega))]
        have q := mch_eq lt w2
        by_cases c2 : ch (fr + j) = wdN (st + j)
        · rw [if_pos (q.mpr c2)]
          refine (ih m (j + 1) true (by omega) (by omega)).trans ?_
          simp [wm, c, c2]
        · rw [if_neg (fun z => c2 (q.mp z))]
          refine (ih m (j + 1) false (by omega) (by omega)).trans ?_
          simp [wm, c, c2]
      · rw [if_pos (nI_le (by omega) (by omega))]
        refine (ih m (j + 1) false (by omega) (by omega)).trans ?_
        simp [wm, c]
theorem wk5_M {N n fr to : Nat} {ch : Nat → Nat} {s : ms} (h : Src s n ch) (h1 : fr ≤ to) (h2 : to ≤ n) (hN : 113 < N) : ∀ (l : List (Nat × Nat)) (st i m : Nat), kwch l st = true → l.length < m → i + l.length < 1000 → hd_M_wordKind_5 N m (nI fr) (nI to) (nI st) (nI i) s = some (nI (wk ch fr to l i), s) := by
  intro l
  induction l with
  | nil =>
    intro st i m hc hm hi
    obtain ⟨m, rfl⟩ : ∃ m', m = m' + 1 := ⟨m - 1, by omega⟩
    have hc : st = 113 := by simpa [kwch] using hc
    subst hc
    show bd_M_wordKind_5 N _ (nI fr) (nI to) (nI 113) (nI i) s = _
    unfold bd_M_wordKind_5
    rw [if_pos (by decide)]
    rfl
  | cons e l ih =>
    intro st i m hc hm hi
    obtain ⟨m, rfl⟩ : ∃ m', m = m' + 1 := ⟨m - 1, by omega⟩
    simp only [kwch, Bool.and_eq_true, decide_eq_true_eq] at hc
    obtain ⟨⟨rfl, hg⟩, hc⟩ := hc
    have g1 : e.1 + e.2 < 113 := by
      have := hg
      simp only [kwgood, Bool.and_eq_true, decide_eq_true_eq] at this
      exact this.1.1
    simp only [List.length_cons] at hm hi
    show bd_M_wordKind_5 N (hd_M_wordKind_5 N m) (nI fr) (nI to) (nI e.1) (nI i) s = _
    unfold bd_M_wordKind_5
    rw [if_neg (show ¬ (113 : Int32) ≤ nI e.1 from nI_ge (b := 113) (by omega) (by decide))]
    refine (wk19_M h h1 h2 hg (by omega) e.2 N 0 true (by omega) (by omega)).trans ?_
    show _ = some (nI (if (wm ch fr to e.1 e.2 0 && decide (e.2 = to - fr)) = true then 300 + i else wk ch fr to l (i + 1)), s)
    by_cases c : (wm ch fr to e.1 e.2 0 && decide (e.2 = to - fr)) = true
    · rw [if_pos (by simpa using c), if_pos c]
    · rw [if_neg (by simpa using c), if_neg c]
      exact ih _ _ _ hc (by omega) (by omega)
theorem wordKind_M {N n fr to : Nat} {ch : Nat → Nat} {s : ms} (h : Src s n ch) (h1 : fr ≤ to) (h2 : to ≤ n) (hN : 113 < N) : fn_M_wordKind N (nI fr) (nI to) s = some (nI (wk ch fr to kwt 0), s) := wk5_M h h1 h2 hN kwt 0 0 N kwch_t (by simp [kwt]; omega) (by decide)
