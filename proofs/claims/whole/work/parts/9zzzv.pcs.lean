/-! Pieces: alwayses and asserts of the instances. -/
/-- an always of an instance: next values -/
def apl (A : ds) (L : Nat → ly) (V : Nat → Int64) (i a : Nat) (X : Nat → Int64) : Nat → Int64 := fun x => if (L i).2.1 ≤ x ∧ x < (L i).2.1 + (A.1 33 a - A.1 34 a) then A.2.2 a (ev A L V i) (ev A L X i) (A.1 34 a + (x - (L i).2.1)) else X x
def apls (A : ds) (L : Nat → ly) (V : Nat → Int64) (i : Nat) : List Nat → (Nat → Int64) → Nat → Int64
  | [], X => X
  | a :: l, X => apls A L V i l (apl A L V i a X)
/-- the alwayses of instances i, i + 1 .. -/
def alw (A : ds) (m : Nat) : List Nat := rng (A.1 24 m) (A.1 24 (m + 1) - A.1 24 m)
def asr (A : ds) (m : Nat) : List Nat := rng (A.1 23 m) (A.1 23 (m + 1) - A.1 23 m)
def nxI (A : ds) (L : Nat → ly) (V : Nat → Int64) : Nat → Nat → (Nat → Int64) → Nat → Int64
  | 0, _, X => X
  | k + 1, i, X => nxI A L V k (i + 1) (apls A L V i (alw A (L i).1) X)
/-- asserts that do not hold -/
def fcn (A : ds) (L : Nat → ly) (V : Nat → Int64) (i : Nat) : List Nat → Nat
  | [] => 0
  | a :: l => (if xval (ev A L V i) (A.2.1 2 a) = 0 then 1 else 0) + fcn A L V i l
def fcI (A : ds) (L : Nat → ly) (V : Nat → Int64) : Nat → Nat → Nat
  | 0, _ => 0
  | k + 1, i => fcn A L V i (asr A (L i).1) + fcI A L V k (i + 1)
theorem rng_cons (a n : Nat) : rng a (n + 1) = a :: rng (a + 1) n := by
  unfold rng
  rw [List.range_succ_eq_map, List.map_cons, List.map_map]
  congr 1
  apply List.map_congr_left
  intro i _
  show a + (i + 1) = a + 1 + i
  omega
theorem flt_cons {f g : Nat → Nat} {x a n : Nat} : flt f g x a (n + 1) = if f a = x then g a :: flt f g x (a + 1) n else flt f g x (a + 1) n := by
  unfold flt
  rw [rng_cons, List.filter_cons]
  by_cases z : f a = x
  · rw [if_pos (decide_eq_true z), if_pos z, List.map_cons]
  · rw [if_neg (by rw [decide_eq_false z]; decide), if_neg z]
theorem rng_mem {a n y : Nat} (h1 : a ≤ y) (h2 : y < a + n) : y ∈ rng a n := by
  unfold rng
  exact List.mem_map.mpr ⟨y - a, List.mem_range.mpr (by omega), by omega⟩
theorem flt_mem {f g : Nat → Nat} {x a n p : Nat} (h1 : a ≤ p) (h2 : p < a + n) (h3 : f p = x) : g p ∈ flt f g x a n := by
  unfold flt
  exact List.mem_map.mpr ⟨p, List.mem_filter.mpr ⟨rng_mem h1 h2, decide_eq_true h3⟩, rfl⟩
theorem mem_flt {f g : Nat → Nat} {x a n y : Nat} (h : y ∈ flt f g x a n) : ∃ p, a ≤ p ∧ p < a + n ∧ f p = x ∧ g p = y := by
  unfold flt at h
  obtain ⟨p, p1, p2⟩ := List.mem_map.mp h
  obtain ⟨p3, p4⟩ := List.mem_filter.mp p1
  exact ⟨p, (mem_rng p3).1, (mem_rng p3).2, of_decide_eq_true p4, p2⟩
section PCS
variable {A : ds} {L : Nat → ly} {n ns m : Nat} {V X X' : Nat → Int64}
theorem Mv.m345 (h : Mv A) : ∀ {k i : Nat}, i ≤ k → k ≤ A.1 46 0 → A.1 23 i ≤ A.1 23 k ∧ A.1 24 i ≤ A.1 24 k ∧ A.1 25 i ≤ A.1 25 k
  | 0, i, h1, _ => by obtain rfl : i = 0 := by omega
                      exact ⟨Nat.le_refl _, Nat.le_refl _, Nat.le_refl _⟩
  | k + 1, i, h1, h2 => by
    by_cases z : i = k + 1
    · subst z; exact ⟨Nat.le_refl _, Nat.le_refl _, Nat.le_refl _⟩
    · have a := Mv.m345 h (k := k) (i := i) (by omega) (by omega)
      obtain ⟨⟨-, -, b3, b4, b5⟩, -⟩ := h.2.1 k (by omega)
      omega
theorem JB.p345 (h : JB A) (hm : m < A.1 46 0) : A.1 23 m ≤ A.1 23 (m + 1) ∧ A.1 23 (m + 1) ≤ A.1 43 0 ∧ A.1 24 m ≤ A.1 24 (m + 1) ∧ A.1 24 (m + 1) ≤ A.1 44 0 ∧ A.1 25 m ≤ A.1 25 (m + 1) ∧ A.1 25 (m + 1) ≤ A.1 45 0 := by
  have hM := h.1.1.2.2.2.2.2.2
  have a := hM.m345 (i := m) (k := m + 1) (by omega) (by omega)
  have b := hM.m345 (i := m + 1) (k := A.1 46 0) (by omega) (by omega)
  rw [h.2.2.2.1, h.2.2.2.2.1, h.2.2.2.2.2] at b
  omega
/-- an assert is its module's -/
theorem JB.ast (h : JB A) {a : Nat} (hm : m < A.1 46 0) (h1 : A.1 23 m ≤ a) (h2 : a < A.1 23 (m + 1)) : A.1 19 a = m ∧ a < A.1 43 0 := by
  have r := h.p345 hm
  have hM := h.1.1.2.2.2.2.2.2
  have ha : a < A.1 43 0 := by omega
  obtain ⟨a1, a2, a3, -⟩ := h.1.1.2.2.2.1 a ha
  refine ⟨?_, ha⟩
  by_cases z : A.1 19 a < m
  · unfold en at a3
    rw [if_pos (by omega)] at a3
    have := (hM.m345 (i := A.1 19 a + 1) (k := m) (by omega) (by omega)).1
    omega
  · by_cases y : m < A.1 19 a
    · have := (hM.m345 (i := m + 1) (k := A.1 19 a) (by omega) a1).1
      omega
    · omega
theorem JB.alws (h : JB A) {a : Nat} (hm : m < A.1 46 0) (h1 : A.1 24 m ≤ a) (h2 : a < A.1 24 (m + 1)) : A.1 32 a = m ∧ a < A.1 44 0 := by
  have r := h.p345 hm
  have hM := h.1.1.2.2.2.2.2.2
  have ha : a < A.1 44 0 := by omega
  obtain ⟨a1, a2, a3, -⟩ := h.1.1.2.2.2.2.1 a ha
  refine ⟨?_, ha⟩
  by_cases z : A.1 32 a < m
  · unfold en at a3
    rw [if_pos (by omega)] at a3
    have := (hM.m345 (i := A.1 32 a + 1) (k := m) (by omega) (by omega)).2.1
    omega
  · by_cases y : m < A.1 32 a
    · have := (hM.m345 (i := m + 1) (k := A.1 32 a) (by omega) a1).2.1
      omega
    · omega
/-- what is known of an always -/
theorem JB.alwf (h : JB A) {a : Nat} (hm : m < A.1 46 0) (h1 : A.1 24 m ≤ a) (h2 : a < A.1 24 (m + 1)) : a < A.1 44 0 ∧ A.1 34 a = A.1 21 m ∧ A.1 33 a ≤ A.1 21 (m + 1) ∧ A.1 33 a - A.1 34 a ≤ own A m := by
  obtain ⟨e, ha⟩ := h.alws hm h1 h2
  obtain ⟨a1, a2, a3, a4, a5, a6, -⟩ := h.1.1.2.2.2.2.1 a ha
  rw [e] at a4 a5
  unfold en at a5
  rw [if_pos hm] at a5
  have r := h.r21 hm
  exact ⟨ha, a4, a5, by omega⟩
theorem apl_id (hJ : JB A) {i a : Nat} (hm : (L i).1 < A.1 46 0) (h1 : A.1 24 (L i).1 ≤ a) (h2 : a < A.1 24 ((L i).1 + 1)) (h0 : A.1 17 a = 0) : apl A L V i a X = X := by
  funext x
  obtain ⟨ha, a4, a5, a6⟩ := hJ.alwf hm h1 h2
  obtain ⟨-, -, -, -, -, -, -, a8, -⟩ := hJ.1.1.2.2.2.2.1 a ha
  unfold apl
  split
  · rename_i z
    rw [a8.1 h0]
    unfold ev
    congr 1
    omega
  · rfl
/-- those that do nothing do not count -/
theorem apls_flt (hJ : JB A) {i : Nat} (hm : (L i).1 < A.1 46 0) : ∀ (k a : Nat) (X : Nat → Int64), A.1 24 (L i).1 ≤ a → a + k ≤ A.1 24 ((L i).1 + 1) → apls A L V i (flt (A.1 17) (fun a => a) 1 a k) X = apls A L V i (rng a k) X
  | 0, _, _, _, _ => rfl
  | k + 1, a, X, h1, h2 => by
    rw [flt_cons, rng_cons]
    have ha := (hJ.alwf hm h1 (show a < _ by omega)).1
    by_cases z : A.1 17 a = 1
    · rw [if_pos z]
      show apls A L V i _ (apl A L V i a X) = apls A L V i _ (apl A L V i a X)
      exact apls_flt hJ hm k (a + 1) _ (by omega) (by omega)
    · rw [if_neg z]
      show _ = apls A L V i _ (apl A L V i a X)
      obtain ⟨-, -, -, -, -, -, a7, -⟩ := hJ.1.1.2.2.2.2.1 a ha
      rw [apl_id hJ hm h1 (by omega) (by omega)]
      exact apls_flt hJ hm k (a + 1) _ (by omega) (by omega)
/-- the class's pieces of a module -/
theorem JB.pcs (hJ : JB A) (hm : m < A.1 46 0) : flt (A.1 15) (A.1 16) 1 (A.1 25 m) (A.1 25 (m + 1) - A.1 25 m) = asr A m ∧ flt (A.1 15) (A.1 16) 0 (A.1 25 m) (A.1 25 (m + 1) - A.1 25 m) = flt (A.1 17) (fun a => a) 1 (A.1 24 m) (A.1 24 (m + 1) - A.1 24 m) := by
  have := hJ.1.1.2.2.2.2.2.1 m (by omega)
  unfold en at this
  rw [if_pos hm, if_pos hm, if_pos hm] at this
  exact this
end PCS
