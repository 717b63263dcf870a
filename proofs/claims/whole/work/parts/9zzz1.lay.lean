/-! Circuits: where everything stands. -/
def own (A : ds) (m : Nat) : Nat := A.1 21 (m + 1) - A.1 21 m
def itn (A : ds) (m : Nat) : Nat := A.1 22 (m + 1) - A.1 22 m
def ofI (A : ds) (m j : Nat) : Nat := sumF (fun e => A.1 30 (A.1 10 e) + 1) j (A.1 22 m)
def ofS (A : ds) (m j : Nat) : Nat := sumF (fun e => A.1 29 (A.1 10 e)) j (A.1 22 m)
abbrev ly : Type := Nat × Nat × Nat × Nat
/-- the r-th of what is within a module: its module, where its names begin, in what it is, its item -/
def sub (A : ds) : Nat → Nat → Nat → ly
  | 0, m, _ => (m, 0, 0, 0)
  | f + 1, m, r => if r = 0 then (m, 0, 0, 0) else match fnd (fun j => decide (r ≤ ofI A m (j + 1))) (itn A m) 0 with
    | none => (m, 0, 0, 0)
    | some j => if r = ofI A m j + 1 then (A.1 10 (A.1 22 m + j), own A m + ofS A m j, 0, A.1 22 m + j) else ((sub A f (A.1 10 (A.1 22 m + j)) (r - (ofI A m j + 1))).1, own A m + ofS A m j + (sub A f (A.1 10 (A.1 22 m + j)) (r - (ofI A m j + 1))).2.1, (sub A f (A.1 10 (A.1 22 m + j)) (r - (ofI A m j + 1))).2.2.1 + (ofI A m j + 1), (sub A f (A.1 10 (A.1 22 m + j)) (r - (ofI A m j + 1))).2.2.2)
section LAY
variable {A : ds} {m : Nat}
theorem sumF_add1 (f : Nat → Nat) : ∀ (n a : Nat), sumF (fun e => f e + 1) n a = sumF f n a + n
  | 0, a => rfl
  | n + 1, a => by
    unfold sumF
    rw [sumF_add1 f n (a + 1)]
    omega
theorem ofI_succ {j : Nat} : ofI A m (j + 1) = ofI A m j + (A.1 30 (A.1 10 (A.1 22 m + j)) + 1) := sumF_last
theorem ofS_succ {j : Nat} : ofS A m (j + 1) = ofS A m j + A.1 29 (A.1 10 (A.1 22 m + j)) := sumF_last
theorem ofI_mono {j : Nat} : ∀ {k : Nat}, j ≤ k → ofI A m j ≤ ofI A m k
  | 0, h => by have : j = 0 := by omega
               subst this; exact Nat.le_refl _
  | k + 1, h => by
    by_cases z : j = k + 1
    · subst z; exact Nat.le_refl _
    · rw [ofI_succ]
      have := ofI_mono (j := j) (k := k) (by omega)
      omega
theorem ofS_mono {j : Nat} : ∀ {k : Nat}, j ≤ k → ofS A m j ≤ ofS A m k
  | 0, h => by have : j = 0 := by omega
               subst this; exact Nat.le_refl _
  | k + 1, h => by
    by_cases z : j = k + 1
    · subst z; exact Nat.le_refl _
    · rw [ofS_succ]
      have := ofS_mono (j := j) (k := k) (by omega)
      omega
theorem ofI_lt {j k : Nat} (h : j < k) : ofI A m j + (A.1 30 (A.1 10 (A.1 22 m + j)) + 1) ≤ ofI A m k := by
  rw [← ofI_succ]
  exact ofI_mono h
theorem Mv.m22 (h : Mv A) : ∀ {k m : Nat}, m ≤ k → k ≤ A.1 46 0 → A.1 22 m ≤ A.1 22 k ∧ A.1 21 m ≤ A.1 21 k
  | 0, m, h1, h2 => by have : m = 0 := by omega
                       subst this; exact ⟨Nat.le_refl _, Nat.le_refl _⟩
  | k + 1, m, h1, h2 => by
    by_cases z : m = k + 1
    · subst z; exact ⟨Nat.le_refl _, Nat.le_refl _⟩
    · have a := Mv.m22 h (k := k) (m := m) (by omega) (by omega)
      have b := (h.2.1 k (by omega)).1
      exact ⟨by have := b.2.1; omega, by have := b.1; omega⟩
/-- an item of a module -/
theorem JB.item (h : JB A) {j : Nat} (hm : m < A.1 46 0) (hj : j < itn A m) : A.1 9 (A.1 22 m + j) = m ∧ A.1 10 (A.1 22 m + j) < m ∧ A.1 22 m + j < A.1 41 0 := by
  obtain ⟨⟨⟨-, hI, -, -, -, -, hM⟩, -⟩, b1, b2, -⟩ := h
  unfold itn at hj
  have l1 := (hM.m22 (m := m + 1) (k := A.1 46 0) (by omega) (Nat.le_refl _)).1
  have hi : A.1 22 m + j < A.1 41 0 := by omega
  obtain ⟨a1, a2, a3, a4, -⟩ := hI _ hi
  have e9 : A.1 9 (A.1 22 m + j) = m := by
    by_cases z : A.1 9 (A.1 22 m + j) < m
    · unfold en at a4
      rw [if_pos (by omega)] at a4
      have := (hM.m22 (m := A.1 9 (A.1 22 m + j) + 1) (k := m) (by omega) (by omega)).1
      omega
    · by_cases y : m < A.1 9 (A.1 22 m + j)
      · have := (hM.m22 (m := m + 1) (k := A.1 9 (A.1 22 m + j)) (by omega) a1).1
        omega
      · omega
  exact ⟨e9, by omega, hi⟩
theorem JB.sums (h : JB A) (hm : m < A.1 46 0) : ofI A m (itn A m) = A.1 30 m ∧ own A m + ofS A m (itn A m) = A.1 29 m := by
  have := h.1.1.2.2.2.2.2.2.2.1 m hm
  unfold ofI ofS own itn
  rw [sumF_add1]
  obtain ⟨-, q1, q2, -⟩ := this
  unfold sumI at q1 q2
  omega
theorem sub_blk {f j r : Nat} (hj : j < itn A m) (hr : r ≤ A.1 30 (A.1 10 (A.1 22 m + j))) : sub A (f + 1) m (ofI A m j + 1 + r) = if r = 0 then (A.1 10 (A.1 22 m + j), own A m + ofS A m j, 0, A.1 22 m + j) else ((sub A f (A.1 10 (A.1 22 m + j)) r).1, own A m + ofS A m j + (sub A f (A.1 10 (A.1 22 m + j)) r).2.1, (sub A f (A.1 10 (A.1 22 m + j)) r).2.2.1 + (ofI A m j + 1), (sub A f (A.1 10 (A.1 22 m + j)) r).2.2.2) := by
  have e : fnd (fun k => decide (ofI A m j + 1 + r ≤ ofI A m (k + 1))) (itn A m) 0 = some j := by
    match er : fnd (fun k => decide (ofI A m j + 1 + r ≤ ofI A m (k + 1))) (itn A m) 0 with
    | none =>
      have := of_decide_eq_false (fnd_none er j (Nat.zero_le _) (by omega))
      rw [ofI_succ] at this
      omega
    | some k =>
      obtain ⟨k1, k2, k3, k4⟩ := fnd_some er
      have k3 := of_decide_eq_true k3
      by_cases z : k < j
      · have := ofI_mono (A := A) (m := m) (j := k + 1) (k := j) (by omega)
        omega
      · by_cases y : j < k
        · have := of_decide_eq_false (k4 j (Nat.zero_le _) y)
          rw [ofI_succ] at this
          omega
        · have : k = j := by omega
          rw [this]
  show (if ofI A m j + 1 + r = 0 then _ else _) = _
  rw [if_neg (by omega), e]
  dsimp only
  by_cases z : r = 0
  · rw [if_pos z, if_pos (by omega)]
  · rw [if_neg z, if_neg (by omega), show ofI A m j + 1 + r - (ofI A m j + 1) = r by omega]
theorem sub_0 {f : Nat} : sub A f m 0 = (m, 0, 0, 0) := by
  cases f with
  | zero => rfl
  | succ f => rfl
/-- where the r-th is -/
theorem blk_of {r : Nat} : ∀ {n : Nat}, 0 < r → r ≤ ofI A m n → ∃ j r', j < n ∧ r = ofI A m j + 1 + r' ∧ r' ≤ A.1 30 (A.1 10 (A.1 22 m + j))
  | 0, h0, h => by
    have : ofI A m 0 = 0 := rfl
    omega
  | n + 1, h0, h => by
    by_cases z : r ≤ ofI A m n
    · obtain ⟨j, r', h1, h2, h3⟩ := blk_of (n := n) h0 z
      exact ⟨j, r', by omega, h2, h3⟩
    · rw [ofI_succ] at h
      exact ⟨n, r - (ofI A m n + 1), by omega, by omega, by omega⟩
def LayP (A : ds) (f m : Nat) : Prop := ∀ r, r ≤ A.1 30 m →
  (sub A f m r).1 ≤ m ∧ r + A.1 30 (sub A f m r).1 ≤ A.1 30 m ∧ (sub A f m r).2.1 + A.1 29 (sub A f m r).1 ≤ A.1 29 m ∧
  (∀ j, j < itn A (sub A f m r).1 → sub A f m (r + 1 + ofI A (sub A f m r).1 j) = (A.1 10 (A.1 22 (sub A f m r).1 + j), (sub A f m r).2.1 + own A (sub A f m r).1 + ofS A (sub A f m r).1 j, r, A.1 22 (sub A f m r).1 + j)) ∧
  (0 < r → (sub A f m r).2.2.1 < r ∧ ∃ j, j < itn A (sub A f m (sub A f m r).2.2.1).1 ∧ r = (sub A f m r).2.2.1 + 1 + ofI A (sub A f m (sub A f m r).2.2.1).1 j ∧ (sub A f m r).2.2.2 = A.1 22 (sub A f m (sub A f m r).2.2.1).1 + j) ∧
  (r < A.1 30 m → (sub A f m (r + 1)).2.1 = (sub A f m r).2.1 + own A (sub A f m r).1) ∧ (r = A.1 30 m → (sub A f m r).2.1 + own A (sub A f m r).1 = A.1 29 m)
theorem lay_P (h : JB A) : ∀ (f m : Nat), m < f → m < A.1 46 0 → LayP A f m := by
  intro f
  induction f with
  | zero => intro m h1; omega
  | succ f ih =>
    intro m hf hm r hr
    obtain ⟨s1, s2⟩ := h.sums hm
    by_cases z : r = 0
    · subst z
      rw [sub_0]
      dsimp only
      refine ⟨Nat.le_refl _, by omega, by omega, fun j hj => ?_, fun y => absurd y (Nat.lt_irrefl _), fun y => ?_, fun y => ?_⟩
      · have := sub_blk (A := A) (m := m) (f := f) (r := 0) hj (Nat.zero_le _)
        rw [if_pos rfl] at this
        rw [show 0 + 1 + ofI A m j = ofI A m j + 1 + 0 by omega, this, Nat.zero_add]
      · have n0 : 0 < itn A m := by
          by_cases q : itn A m = 0
          · rw [q] at s1
            have : ofI A m 0 = 0 := rfl
            omega
          · omega
        have := sub_blk (A := A) (m := m) (f := f) (r := 0) n0 (Nat.zero_le _)
        rw [if_pos rfl, show ofI A m 0 = 0 from rfl] at this
        rw [show 0 + 1 = 0 + 1 + 0 from rfl, this]
        show own A m + ofS A m 0 = 0 + own A m
        rw [show ofS A m 0 = 0 from rfl]
        omega
      · have n0 : itn A m = 0 := by
          by_cases q : itn A m = 0
          · exact q
          · have := ofI_lt (A := A) (m := m) (j := 0) (k := itn A m) (by omega)
            omega
        rw [n0] at s2
        have : ofS A m 0 = 0 := rfl
        omega
    · obtain ⟨j, r', h1, h2, h3⟩ := blk_of (A := A) (m := m) (r := r) (n := itn A m) (by omega) (by omega)
      obtain ⟨i1, i2, i3⟩ := h.item hm h1
      have hP := ih (A.1 10 (A.1 22 m + j)) (by omega) (by omega)
      have hr' := hP r' h3
      have b1 := ofI_lt (A := A) (m := m) h1
      have b2 : ofS A m j + A.1 29 (A.1 10 (A.1 22 m + j)) ≤ ofS A m (itn A m) := by
        rw [← ofS_succ]
        exact ofS_mono h1
      -- whatever is in this block is shifted
      have sh : ∀ x, x ≤ A.1 30 (A.1 10 (A.1 22 m + j)) → (sub A (f + 1) m (ofI A m j + 1 + x)).1 = (sub A f (A.1 10 (A.1 22 m + j)) x).1 ∧ (sub A (f + 1) m (ofI A m j + 1 + x)).2.1 = own A m + ofS A m j + (sub A f (A.1 10 (A.1 22 m + j)) x).2.1 := fun x hx => by
        rw [sub_blk h1 hx]
        by_cases y : x = 0
        · subst y
          rw [if_pos rfl, sub_0]
          exact ⟨rfl, rfl⟩
        · rw [if_neg y]
          exact ⟨rfl, rfl⟩
      subst h2
      obtain ⟨e1, e2⟩ := sh r' h3
      obtain ⟨p1, p2, p3, p4, p5, p6, p7⟩ := hr'
      rw [e1, e2]
      refine ⟨by omega, by omega, by omega, fun k hk => ?_, fun _ => ?_, fun y => ?_, fun y => ?_⟩
      · have hk2 := p4 k hk
        have l := ofI_lt (A := A) (m := (sub A f (A.1 10 (A.1 22 m + j)) r').1) hk
        have s3 := h.sums (m := (sub A f (A.1 10 (A.1 22 m + j)) r').1) (by omega)
        rw [show ofI A m j + 1 + r' + 1 + ofI A (sub A f (A.1 10 (A.1 22 m + j)) r').1 k = ofI A m j + 1 + (r' + 1 + ofI A (sub A f (A.1 10 (A.1 22 m + j)) r').1 k) by omega, sub_blk h1 (by omega), if_neg (by omega), hk2]
        refine Prod.ext rfl (Prod.ext ?_ (Prod.ext ?_ rfl))
        · show own A m + ofS A m j + ((sub A f (A.1 10 (A.1 22 m + j)) r').2.1 + own A (sub A f (A.1 10 (A.1 22 m + j)) r').1 + ofS A (sub A f (A.1 10 (A.1 22 m + j)) r').1 k) = own A m + ofS A m j + (sub A f (A.1 10 (A.1 22 m + j)) r').2.1 + own A (sub A f (A.1 10 (A.1 22 m + j)) r').1 + ofS A (sub A f (A.1 10 (A.1 22 m + j)) r').1 k
          omega
        · show r' + (ofI A m j + 1) = ofI A m j + 1 + r'
          omega
      · by_cases y : r' = 0
        · subst y
          have := sub_blk (A := A) (m := m) (f := f) (r := 0) h1 (Nat.zero_le _)
          rw [if_pos rfl] at this
          rw [this]
          dsimp only
          rw [sub_0]
          exact ⟨by omega, j, h1, by show ofI A m j + 1 + 0 = 0 + 1 + ofI A m j; omega, rfl⟩
        · have q := sub_blk (A := A) (m := m) (f := f) (r := r') h1 h3
          rw [if_neg y] at q
          rw [q]
          dsimp only
          obtain ⟨q1, k, q2, q3, q4⟩ := p5 (by omega)
          obtain ⟨e3, -⟩ := sh (sub A f (A.1 10 (A.1 22 m + j)) r').2.2.1 (by omega)
          rw [show (sub A f (A.1 10 (A.1 22 m + j)) r').2.2.1 + (ofI A m j + 1) = ofI A m j + 1 + (sub A f (A.1 10 (A.1 22 m + j)) r').2.2.1 by omega, e3]
          exact ⟨by omega, k, q2, by omega, q4⟩
      · by_cases x : r' = A.1 30 (A.1 10 (A.1 22 m + j))
        · -- the next block begins
          have p7 := p7 x
          have j1 : j + 1 < itn A m := by
            by_cases w : j + 1 < itn A m
            · exact w
            · have : j + 1 = itn A m := by omega
              rw [← this, ofI_succ] at s1
              omega
          have q := sub_blk (A := A) (m := m) (f := f) (r := 0) j1 (Nat.zero_le _)
          rw [if_pos rfl, ofI_succ] at q
          rw [show ofI A m j + 1 + r' + 1 = ofI A m j + (A.1 30 (A.1 10 (A.1 22 m + j)) + 1) + 1 + 0 by omega, q]
          show own A m + ofS A m (j + 1) = _
          rw [ofS_succ]
          omega
        · rw [show ofI A m j + 1 + r' + 1 = ofI A m j + 1 + (r' + 1) by omega, (sh (r' + 1) (by omega)).2, p6 (by omega)]
          omega
      · have x : r' = A.1 30 (A.1 10 (A.1 22 m + j)) := by omega
        have p7 := p7 x
        have j1 : j + 1 = itn A m := by
          by_cases w : j + 1 < itn A m
          · have := ofI_lt (A := A) (m := m) w
            rw [ofI_succ] at this
            omega
          · omega
        rw [← j1, ofS_succ] at s2
        omega
end LAY
